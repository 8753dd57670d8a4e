/-! ===== helpers for the refinements ===== -/
theorem tv_bind {α β : Type} {o : Option α} {f : α → Option β} {b : β} (h : o.bind f = some b) : ∃ a, o = some a ∧ f a = some b := by
  cases o with
  | none => cases h
  | some a => exact ⟨a, rfl, h⟩
noncomputable def tv_fu : Nat := Classical.choose (⟨6000, rfl⟩ : ∃ n : Nat, n = 6000)
theorem tv_fu_eq : tv_fu = 6000 := Classical.choose_spec (⟨6000, rfl⟩ : ∃ n : Nat, n = 6000)
theorem tv_nz {x : Int32} (h : ¬ ¬ (x = 0 ∨ x = 1)) : narrow .boolean (.int x) = .int x := by
  rcases Decidable.not_not.mp h with h | h <;> subst h <;> rfl
theorem tv_nzf {x : Int32} (h : ¬ ¬ (x = 0 ∨ x = 1)) : fits .boolean (.int x) = true := by
  rcases Decidable.not_not.mp h with h | h <;> subst h <;> rfl
def tv_le : List Value → List Value → Prop
  | [], _ => True
  | v :: t, w :: t' => (v = .null ∨ v = w) ∧ tv_le t t'
  | _ :: _, [] => False
theorem tv_le_get : ∀ (L2 L : List Value), tv_le L2 L → ∀ (i : Nat) (v : Value), L2[i]? = some v → v ≠ .null → L[i]? = some v
  | [], L, _, i, v, h, _ => by simp at h
  | a :: t, b :: t', hl, i, v, h, hv => by
    cases i with
    | zero =>
      simp only [List.getElem?_cons_zero, Option.some.injEq] at h ⊢
      rcases hl.1 with e | e
      · exact absurd (h.symm.trans e) hv
      · rw [← e]; exact h
    | succ i =>
      simp only [List.getElem?_cons_succ] at h ⊢
      exact tv_le_get t t' hl.2 i v h hv
  | _ :: _, [], hl, _, _, _, _ => hl.elim
section TVH
variable {g : tv_G} {l : Launch} {y : MethodName} {cc : ByteArray} {nL : Nat} {ret : Option FieldType} {d kc ks pc : Nat} {L st : List Value} {h : tv_Hp} {r : Option Value} {h' : tv_Hp}
variable {y1 : MethodName} {cc1 : ByteArray} {nL1 : Nat} {ret1 : Option FieldType} {d1 idx n i ci : Nat} {L1 stk fs : List Value} {h1 : tv_Hp} {x : Int32} {z : Int64}
theorem ev_weak (L2 : List Value) (hw : tv_le L2 L) (k : tv_E g l y cc nL ret d kc ks pc L2 st h r h') : tv_E g l y cc nL ret d kc ks pc L st h r h' := by
  intro p e R s m args below meth c Q H locs cells slots ls C hP hz hS hl h1 h2 K
  exact k p e R s m args below meth c Q H locs cells slots ls C hP hz hS ⟨hl.1, hl.2.1, fun i v q1 q2 => hl.2.2 i v (tv_le_get L2 L hw i v q1 q2) q2⟩ h1 h2 K
theorem ev_heq {h2 : tv_Hp} (hh : h = h2) (k : tv_E g l y cc nL ret d kc ks pc L st h2 r h') : tv_E g l y cc nL ret d kc ks pc L st h r h' := by
  subst hh
  exact k
def tv_okV (own : String) (idx : Nat) (y1 : MethodName) (cc1 : ByteArray) (nL1 : Nat) (ret1 : Option FieldType) (n ci : Nat) : Prop := tv_okm own idx y1 cc1 nL1 ret1 n ∧ (Cond.instanceMethod y1 ∈ lw_tbl ∧ Cond.selects y1.cls y1 y1 ∈ lw_tbl) ∧ ∃ (T : u_T) (N : Nat), vwCl[ci]? = some (y1.cls, T, N)
def tv_okS (own : String) (idx : Nat) (y1 : MethodName) (cc1 : ByteArray) (nL1 : Nat) (ret1 : Option FieldType) (n : Nat) : Prop := tv_okm own idx y1 cc1 nL1 ret1 n ∧ Cond.static y1 ∈ lw_tbl
theorem tv_z2 {E : Nat → Nat → Prop} (h : E (0 + kc) (0 + ks)) : E kc ks := by
  rw [Nat.zero_add, Nat.zero_add] at h
  exact h
theorem ev_callVi (q : Nat) (As rest : List Value) (hd : decode cc pc = .ok (.invokevirtual idx, 3)) (hq : pc + 3 = q) (ho : tv_okV y.cls idx y1 cc1 nL1 ret1 n ci) (hst : stk = As.reverse ++ .ref i :: rest) (hn : As.length = n) (hroom : (rest.map fun v => v.category).sum ≤ 8) (hi : i < 1000) (hc : h[i]? = some (.inr (.inr (ci, fs)))) (hL1 : tv_in nL1 (.ref i :: As) = L1) (hlen : (tv_ex (.ref i :: As)).length ≤ nL1) (hdd : d1 + 1 ≤ d)
    (M : tv_E g l y1 cc1 nL1 ret1 d1 0 0 0 L1 [] h (some (.int x)) h1) (k : tv_E g l y cc nL ret d kc ks q L (.int x :: rest) h1 r h') : tv_E g l y cc nL ret d kc ks pc L stk h r h' := by
  obtain ⟨o1, o2, T, N, o3⟩ := ho
  exact tv_z2 (E := fun a b => tv_E g l y cc nL ret d a b pc L stk h r h') (ev_callVg q As rest hd hq o1 o2 hst hn hroom ci fs T N o3 hi hc hL1 hlen hdd M k (fun v hv => by cases hv; rfl))
theorem ev_callSi (q : Nat) (As rest : List Value) (hd : decode cc pc = .ok (.invokestatic idx, 3)) (hq : pc + 3 = q) (ho : tv_okS y.cls idx y1 cc1 nL1 ret1 n) (hst : stk = As.reverse ++ rest) (hn : As.length = n) (hroom : (rest.map fun v => v.category).sum ≤ 8) (hL1 : tv_in nL1 As = L1) (hlen : (tv_ex As).length ≤ nL1) (hdd : d1 + 1 ≤ d)
    (M : tv_E g l y1 cc1 nL1 ret1 d1 0 0 0 L1 [] h (some (.int x)) h1) (k : tv_E g l y cc nL ret d kc ks q L (.int x :: rest) h1 r h') : tv_E g l y cc nL ret d kc ks pc L stk h r h' :=
  tv_z2 (E := fun a b => tv_E g l y cc nL ret d a b pc L stk h r h') (ev_callSg q As rest hd hq ho.1 ho.2 hst hn hroom hL1 hlen hdd M k (fun v hv => by cases hv; rfl))
theorem ev_callVl (q : Nat) (As rest : List Value) (hd : decode cc pc = .ok (.invokevirtual idx, 3)) (hq : pc + 3 = q) (ho : tv_okV y.cls idx y1 cc1 nL1 ret1 n ci) (hst : stk = As.reverse ++ .ref i :: rest) (hn : As.length = n) (hroom : (rest.map fun v => v.category).sum ≤ 8) (hi : i < 1000) (hc : h[i]? = some (.inr (.inr (ci, fs)))) (hL1 : tv_in nL1 (.ref i :: As) = L1) (hlen : (tv_ex (.ref i :: As)).length ≤ nL1) (hdd : d1 + 1 ≤ d)
    (M : tv_E g l y1 cc1 nL1 ret1 d1 0 0 0 L1 [] h (some (.long z)) h1) (k : tv_E g l y cc nL ret d kc ks q L (.long z :: rest) h1 r h') : tv_E g l y cc nL ret d kc ks pc L stk h r h' := by
  obtain ⟨o1, o2, T, N, o3⟩ := ho
  exact tv_z2 (E := fun a b => tv_E g l y cc nL ret d a b pc L stk h r h') (ev_callVg q As rest hd hq o1 o2 hst hn hroom ci fs T N o3 hi hc hL1 hlen hdd M k (fun v hv => by cases hv; rfl))
theorem ev_callSl (q : Nat) (As rest : List Value) (hd : decode cc pc = .ok (.invokestatic idx, 3)) (hq : pc + 3 = q) (ho : tv_okS y.cls idx y1 cc1 nL1 ret1 n) (hst : stk = As.reverse ++ rest) (hn : As.length = n) (hroom : (rest.map fun v => v.category).sum ≤ 8) (hL1 : tv_in nL1 As = L1) (hlen : (tv_ex As).length ≤ nL1) (hdd : d1 + 1 ≤ d)
    (M : tv_E g l y1 cc1 nL1 ret1 d1 0 0 0 L1 [] h (some (.long z)) h1) (k : tv_E g l y cc nL ret d kc ks q L (.long z :: rest) h1 r h') : tv_E g l y cc nL ret d kc ks pc L stk h r h' :=
  tv_z2 (E := fun a b => tv_E g l y cc nL ret d a b pc L stk h r h') (ev_callSg q As rest hd hq ho.1 ho.2 hst hn hroom hL1 hlen hdd M k (fun v hv => by cases hv; rfl))
theorem ev_callVv (q : Nat) (As rest : List Value) (hd : decode cc pc = .ok (.invokevirtual idx, 3)) (hq : pc + 3 = q) (ho : tv_okV y.cls idx y1 cc1 nL1 ret1 n ci) (hst : stk = As.reverse ++ .ref i :: rest) (hn : As.length = n) (hroom : (rest.map fun v => v.category).sum ≤ 8) (hi : i < 1000) (hc : h[i]? = some (.inr (.inr (ci, fs)))) (hL1 : tv_in nL1 (.ref i :: As) = L1) (hlen : (tv_ex (.ref i :: As)).length ≤ nL1) (hdd : d1 + 1 ≤ d)
    (M : tv_E g l y1 cc1 nL1 ret1 d1 0 0 0 L1 [] h none h1) (k : tv_E g l y cc nL ret d kc ks q L (rest) h1 r h') : tv_E g l y cc nL ret d kc ks pc L stk h r h' := by
  obtain ⟨o1, o2, T, N, o3⟩ := ho
  exact tv_z2 (E := fun a b => tv_E g l y cc nL ret d a b pc L stk h r h') (ev_callVg q As rest hd hq o1 o2 hst hn hroom ci fs T N o3 hi hc hL1 hlen hdd M k (fun v hv => by cases hv))
theorem ev_callSv (q : Nat) (As rest : List Value) (hd : decode cc pc = .ok (.invokestatic idx, 3)) (hq : pc + 3 = q) (ho : tv_okS y.cls idx y1 cc1 nL1 ret1 n) (hst : stk = As.reverse ++ rest) (hn : As.length = n) (hroom : (rest.map fun v => v.category).sum ≤ 8) (hL1 : tv_in nL1 As = L1) (hlen : (tv_ex As).length ≤ nL1) (hdd : d1 + 1 ≤ d)
    (M : tv_E g l y1 cc1 nL1 ret1 d1 0 0 0 L1 [] h none h1) (k : tv_E g l y cc nL ret d kc ks q L (rest) h1 r h') : tv_E g l y cc nL ret d kc ks pc L stk h r h' :=
  tv_z2 (E := fun a b => tv_E g l y cc nL ret d a b pc L stk h r h') (ev_callSg q As rest hd hq ho.1 ho.2 hst hn hroom hL1 hlen hdd M k (fun v hv => by cases hv))
end TVH
theorem kI_m1 : Int32.ofInt (-1) = (-1) := by decide
theorem kI_0 : Int32.ofInt 0 = 0 := by decide
theorem kI_1 : Int32.ofInt 1 = 1 := by decide
theorem kI_2 : Int32.ofInt 2 = 2 := by decide
theorem kI_3 : Int32.ofInt 3 = 3 := by decide
theorem kI_4 : Int32.ofInt 4 = 4 := by decide
theorem kI_5 : Int32.ofInt 5 = 5 := by decide
theorem kB_m100 : (Int8.ofInt (-100)).toInt32 = (-100) := by decide
theorem kB_m20 : (Int8.ofInt (-20)).toInt32 = (-20) := by decide
theorem kB_m9 : (Int8.ofInt (-9)).toInt32 = (-9) := by decide
theorem kB_m5 : (Int8.ofInt (-5)).toInt32 = (-5) := by decide
theorem kB_m4 : (Int8.ofInt (-4)).toInt32 = (-4) := by decide
theorem kB_m3 : (Int8.ofInt (-3)).toInt32 = (-3) := by decide
theorem kB_m2 : (Int8.ofInt (-2)).toInt32 = (-2) := by decide
theorem kB_6 : (Int8.ofInt 6).toInt32 = 6 := by decide
theorem kB_7 : (Int8.ofInt 7).toInt32 = 7 := by decide
theorem kB_8 : (Int8.ofInt 8).toInt32 = 8 := by decide
theorem kB_9 : (Int8.ofInt 9).toInt32 = 9 := by decide
theorem kB_10 : (Int8.ofInt 10).toInt32 = 10 := by decide
theorem kB_11 : (Int8.ofInt 11).toInt32 = 11 := by decide
theorem kB_12 : (Int8.ofInt 12).toInt32 = 12 := by decide
theorem kB_13 : (Int8.ofInt 13).toInt32 = 13 := by decide
theorem kB_15 : (Int8.ofInt 15).toInt32 = 15 := by decide
theorem kB_17 : (Int8.ofInt 17).toInt32 = 17 := by decide
theorem kB_18 : (Int8.ofInt 18).toInt32 = 18 := by decide
theorem kB_20 : (Int8.ofInt 20).toInt32 = 20 := by decide
theorem kB_25 : (Int8.ofInt 25).toInt32 = 25 := by decide
theorem kB_31 : (Int8.ofInt 31).toInt32 = 31 := by decide
theorem kB_32 : (Int8.ofInt 32).toInt32 = 32 := by decide
theorem kB_40 : (Int8.ofInt 40).toInt32 = 40 := by decide
theorem kB_48 : (Int8.ofInt 48).toInt32 = 48 := by decide
theorem kB_50 : (Int8.ofInt 50).toInt32 = 50 := by decide
theorem kB_62 : (Int8.ofInt 62).toInt32 = 62 := by decide
theorem kB_99 : (Int8.ofInt 99).toInt32 = 99 := by decide
theorem kB_100 : (Int8.ofInt 100).toInt32 = 100 := by decide
theorem kB_126 : (Int8.ofInt 126).toInt32 = 126 := by decide
theorem kS_170 : (Int16.ofInt 170).toInt32 = 170 := by decide
theorem kS_910 : (Int16.ofInt 910).toInt32 = 910 := by decide
theorem kS_980 : (Int16.ofInt 980).toInt32 = 980 := by decide
theorem kS_996 : (Int16.ofInt 996).toInt32 = 996 := by decide
theorem kS_997 : (Int16.ofInt 997).toInt32 = 997 := by decide
theorem kS_1000 : (Int16.ofInt 1000).toInt32 = 1000 := by decide
theorem kS_1100 : (Int16.ofInt 1100).toInt32 = 1100 := by decide
theorem kS_4400 : (Int16.ofInt 4400).toInt32 = 4400 := by decide
theorem kA_m1 (x : Int32) : x + Int32.ofInt (-1) = x + (-1) := by rw [show Int32.ofInt (-1) = (-1) from by decide]
theorem kA_1 (x : Int32) : x + Int32.ofInt 1 = x + 1 := by rw [show Int32.ofInt 1 = 1 from by decide]
theorem kA_5 (x : Int32) : x + Int32.ofInt 5 = x + 5 := by rw [show Int32.ofInt 5 = 5 from by decide]
theorem kN_20 : Int32.ofNat 20 = 20 := by decide
theorem kN_100 : Int32.ofNat 100 = 100 := by decide
theorem tv_out5 {x : Int32} (h0 : ¬ x = 0) (h1 : ¬ x = 1) (h2 : ¬ x = 2) (h3 : ¬ x = 3) (h4 : ¬ x = 4) : x.toInt < 0 ∨ 4 < x.toInt := by
  have key : ∀ (c : Int32), ¬ x = c → x.toInt ≠ c.toInt := fun c hc z => hc (Int32.toInt_inj.mp z)
  have k0 := key 0 h0
  rw [show (((0 : Int32)).toInt) = 0 from by decide] at k0
  have k1 := key 1 h1
  rw [show (((1 : Int32)).toInt) = 1 from by decide] at k1
  have k2 := key 2 h2
  rw [show (((2 : Int32)).toInt) = 2 from by decide] at k2
  have k3 := key 3 h3
  rw [show (((3 : Int32)).toInt) = 3 from by decide] at k3
  have k4 := key 4 h4
  rw [show (((4 : Int32)).toInt) = 4 from by decide] at k4
  omega
theorem tv_out7 {x : Int32} (h0 : ¬ x = 0) (h1 : ¬ x = 1) (h2 : ¬ x = 2) (h3 : ¬ x = 3) (h4 : ¬ x = 4) (h5 : ¬ x = 5) (h6 : ¬ x = 6) : x.toInt < 0 ∨ 6 < x.toInt := by
  have key : ∀ (c : Int32), ¬ x = c → x.toInt ≠ c.toInt := fun c hc z => hc (Int32.toInt_inj.mp z)
  have k0 := key 0 h0
  rw [show (((0 : Int32)).toInt) = 0 from by decide] at k0
  have k1 := key 1 h1
  rw [show (((1 : Int32)).toInt) = 1 from by decide] at k1
  have k2 := key 2 h2
  rw [show (((2 : Int32)).toInt) = 2 from by decide] at k2
  have k3 := key 3 h3
  rw [show (((3 : Int32)).toInt) = 3 from by decide] at k3
  have k4 := key 4 h4
  rw [show (((4 : Int32)).toInt) = 4 from by decide] at k4
  have k5 := key 5 h5
  rw [show (((5 : Int32)).toInt) = 5 from by decide] at k5
  have k6 := key 6 h6
  rw [show (((6 : Int32)).toInt) = 6 from by decide] at k6
  omega
theorem tv_out27 {x : Int32} (h0 : ¬ x = 0) (h1 : ¬ x = 1) (h2 : ¬ x = 2) (h3 : ¬ x = 3) (h4 : ¬ x = 4) (h5 : ¬ x = 5) (h6 : ¬ x = 6) (h7 : ¬ x = 7) (h8 : ¬ x = 8) (h9 : ¬ x = 9) (h10 : ¬ x = 10) (h11 : ¬ x = 11) (h12 : ¬ x = 12) (h13 : ¬ x = 13) (h14 : ¬ x = 14) (h15 : ¬ x = 15) (h16 : ¬ x = 16) (h17 : ¬ x = 17) (h18 : ¬ x = 18) (h19 : ¬ x = 19) (h20 : ¬ x = 20) (h21 : ¬ x = 21) (h22 : ¬ x = 22) (h23 : ¬ x = 23) (h24 : ¬ x = 24) (h25 : ¬ x = 25) (h26 : ¬ x = 26) : x.toInt < 0 ∨ 26 < x.toInt := by
  have key : ∀ (c : Int32), ¬ x = c → x.toInt ≠ c.toInt := fun c hc z => hc (Int32.toInt_inj.mp z)
  have k0 := key 0 h0
  rw [show (((0 : Int32)).toInt) = 0 from by decide] at k0
  have k1 := key 1 h1
  rw [show (((1 : Int32)).toInt) = 1 from by decide] at k1
  have k2 := key 2 h2
  rw [show (((2 : Int32)).toInt) = 2 from by decide] at k2
  have k3 := key 3 h3
  rw [show (((3 : Int32)).toInt) = 3 from by decide] at k3
  have k4 := key 4 h4
  rw [show (((4 : Int32)).toInt) = 4 from by decide] at k4
  have k5 := key 5 h5
  rw [show (((5 : Int32)).toInt) = 5 from by decide] at k5
  have k6 := key 6 h6
  rw [show (((6 : Int32)).toInt) = 6 from by decide] at k6
  have k7 := key 7 h7
  rw [show (((7 : Int32)).toInt) = 7 from by decide] at k7
  have k8 := key 8 h8
  rw [show (((8 : Int32)).toInt) = 8 from by decide] at k8
  have k9 := key 9 h9
  rw [show (((9 : Int32)).toInt) = 9 from by decide] at k9
  have k10 := key 10 h10
  rw [show (((10 : Int32)).toInt) = 10 from by decide] at k10
  have k11 := key 11 h11
  rw [show (((11 : Int32)).toInt) = 11 from by decide] at k11
  have k12 := key 12 h12
  rw [show (((12 : Int32)).toInt) = 12 from by decide] at k12
  have k13 := key 13 h13
  rw [show (((13 : Int32)).toInt) = 13 from by decide] at k13
  have k14 := key 14 h14
  rw [show (((14 : Int32)).toInt) = 14 from by decide] at k14
  have k15 := key 15 h15
  rw [show (((15 : Int32)).toInt) = 15 from by decide] at k15
  have k16 := key 16 h16
  rw [show (((16 : Int32)).toInt) = 16 from by decide] at k16
  have k17 := key 17 h17
  rw [show (((17 : Int32)).toInt) = 17 from by decide] at k17
  have k18 := key 18 h18
  rw [show (((18 : Int32)).toInt) = 18 from by decide] at k18
  have k19 := key 19 h19
  rw [show (((19 : Int32)).toInt) = 19 from by decide] at k19
  have k20 := key 20 h20
  rw [show (((20 : Int32)).toInt) = 20 from by decide] at k20
  have k21 := key 21 h21
  rw [show (((21 : Int32)).toInt) = 21 from by decide] at k21
  have k22 := key 22 h22
  rw [show (((22 : Int32)).toInt) = 22 from by decide] at k22
  have k23 := key 23 h23
  rw [show (((23 : Int32)).toInt) = 23 from by decide] at k23
  have k24 := key 24 h24
  rw [show (((24 : Int32)).toInt) = 24 from by decide] at k24
  have k25 := key 25 h25
  rw [show (((25 : Int32)).toInt) = 25 from by decide] at k25
  have k26 := key 26 h26
  rw [show (((26 : Int32)).toInt) = 26 from by decide] at k26
  omega
theorem tv_lk2 {x : Int32} (h0 : ¬ x = 0) (h1 : ¬ x = 1) : Op.lookupswitch.offset (#[((0 : Int), (26 : Int)), (1, 33)] : Array (Int × Int)).toList 40 x.toInt = 40 := by
  have key : ∀ (c : Int32), ¬ x = c → x.toInt ≠ c.toInt := fun c hc z => hc (Int32.toInt_inj.mp z)
  have k0 := key 0 h0
  have k1 := key 1 h1
  rw [show ((0 : Int32).toInt) = 0 from by decide] at k0
  rw [show ((1 : Int32).toInt) = 1 from by decide] at k1
  simp [Op.lookupswitch.offset]
  omega
theorem in_X0 : ∀ w ∈ u_ws RX0 TX0 2, w ∈ lw_tbl := by decide +kernel
theorem in_X1 : ∀ w ∈ u_ws RX1 TX1 4, w ∈ lw_tbl := by decide +kernel
theorem in_X2 : ∀ w ∈ u_ws RX2 TX2 3, w ∈ lw_tbl := by decide +kernel
theorem in_X3 : ∀ w ∈ u_ws RX3 TX3 3, w ∈ lw_tbl := by decide +kernel
theorem in_X4 : ∀ w ∈ u_ws RX4 TX4 2, w ∈ lw_tbl := by decide +kernel
theorem in_X5 : ∀ w ∈ u_ws RX5 TX5 12, w ∈ lw_tbl := by decide +kernel
theorem in_X6 : ∀ w ∈ u_ws RX6 TX6 9, w ∈ lw_tbl := by decide +kernel
theorem in_X7 : ∀ w ∈ u_ws RX7 TX7 3, w ∈ lw_tbl := by decide +kernel
theorem in_X8 : ∀ w ∈ u_ws RX8 TX8 6, w ∈ lw_tbl := by decide +kernel
theorem okf_X0_15 : tv_okf RX0 15 0 1 false (.int) := ⟨RX0, TX0, 2, tyX0, rfl, (Nat.le_of_ble_eq_true rfl), in_X0, (List.mem_of_getElem? (i := 67) (by decide +kernel)), rfl, tyX0_ok, nmX0, rfl, rfl⟩
theorem okf_X0_9 : tv_okf RX0 9 0 0 true (.array .int) := ⟨RX0, TX0, 2, tyX0, rfl, (Nat.le_of_ble_eq_true rfl), in_X0, (List.mem_of_getElem? (i := 66) (by decide +kernel)), rfl, tyX0_ok, nmX0, rfl, rfl⟩
theorem okf_X1_15 : tv_okf RX1 15 1 2 true (.array .int) := ⟨RX1, TX1, 4, tyX1, rfl, (Nat.le_of_ble_eq_true rfl), in_X1, (List.mem_of_getElem? (i := 162) (by decide +kernel)), rfl, tyX1_ok, nmX1, rfl, rfl⟩
theorem okf_X1_18 : tv_okf RX1 18 1 3 true (.array .int) := ⟨RX1, TX1, 4, tyX1, rfl, (Nat.le_of_ble_eq_true rfl), in_X1, (List.mem_of_getElem? (i := 163) (by decide +kernel)), rfl, tyX1_ok, nmX1, rfl, rfl⟩
theorem okf_X1_21 : tv_okf RX1 21 1 0 false (.int) := ⟨RX1, TX1, 4, tyX1, rfl, (Nat.le_of_ble_eq_true rfl), in_X1, (List.mem_of_getElem? (i := 159) (by decide +kernel)), rfl, tyX1_ok, nmX1, rfl, rfl⟩
theorem okf_X1_9 : tv_okf RX1 9 1 1 true (.array .int) := ⟨RX1, TX1, 4, tyX1, rfl, (Nat.le_of_ble_eq_true rfl), in_X1, (List.mem_of_getElem? (i := 161) (by decide +kernel)), rfl, tyX1_ok, nmX1, rfl, rfl⟩
theorem okf_X2_21 : tv_okf RX2 21 2 0 false (.boolean) := ⟨RX2, TX2, 3, tyX2, rfl, (Nat.le_of_ble_eq_true rfl), in_X2, (List.mem_of_getElem? (i := 90) (by decide +kernel)), rfl, tyX2_ok, nmX2, rfl, rfl⟩
theorem okf_X2_25 : tv_okf RX2 25 2 1 false (.int) := ⟨RX2, TX2, 3, tyX2, rfl, (Nat.le_of_ble_eq_true rfl), in_X2, (List.mem_of_getElem? (i := 92) (by decide +kernel)), rfl, tyX2_ok, nmX2, rfl, rfl⟩
theorem okf_X2_9 : tv_okf RX2 9 2 2 true (.array .int) := ⟨RX2, TX2, 3, tyX2, rfl, (Nat.le_of_ble_eq_true rfl), in_X2, (List.mem_of_getElem? (i := 95) (by decide +kernel)), rfl, tyX2_ok, nmX2, rfl, rfl⟩
theorem okf_X3_11 : tv_okf RX3 11 3 0 true (.array (.object "TermOffice$State")) := ⟨RX3, TX3, 3, tyX3, rfl, (Nat.le_of_ble_eq_true rfl), in_X3, (List.mem_of_getElem? (i := 236) (by decide +kernel)), rfl, tyX3_ok, nmX3, rfl, rfl⟩
theorem okf_X3_18 : tv_okf RX3 18 3 2 false (.int) := ⟨RX3, TX3, 3, tyX3, rfl, (Nat.le_of_ble_eq_true rfl), in_X3, (List.mem_of_getElem? (i := 239) (by decide +kernel)), rfl, tyX3_ok, nmX3, rfl, rfl⟩
theorem okf_X3_26 : tv_okf RX3 26 3 1 false (.int) := ⟨RX3, TX3, 3, tyX3, rfl, (Nat.le_of_ble_eq_true rfl), in_X3, (List.mem_of_getElem? (i := 237) (by decide +kernel)), rfl, tyX3_ok, nmX3, rfl, rfl⟩
theorem okf_X4_15 : tv_okf RX4 15 4 0 false (.int) := ⟨RX4, TX4, 2, tyX4, rfl, (Nat.le_of_ble_eq_true rfl), in_X4, (List.mem_of_getElem? (i := 109) (by decide +kernel)), rfl, tyX4_ok, nmX4, rfl, rfl⟩
theorem okf_X4_9 : tv_okf RX4 9 4 1 true (.array .int) := ⟨RX4, TX4, 2, tyX4, rfl, (Nat.le_of_ble_eq_true rfl), in_X4, (List.mem_of_getElem? (i := 112) (by decide +kernel)), rfl, tyX4_ok, nmX4, rfl, rfl⟩
theorem okf_X5_139 : tv_okf RX5 139 4 0 false (.int) := ⟨RX4, TX4, 2, tyX4, rfl, (Nat.le_of_ble_eq_true rfl), in_X4, (List.mem_of_getElem? (i := 111) (by decide +kernel)), rfl, tyX4_ok, nmX4, rfl, rfl⟩
theorem okf_X5_15 : tv_okf RX5 15 5 3 true (.array .int) := ⟨RX5, TX5, 12, tyX5, rfl, (Nat.le_of_ble_eq_true rfl), in_X5, (List.mem_of_getElem? (i := 184) (by decide +kernel)), rfl, tyX5_ok, nmX5, rfl, rfl⟩
theorem okf_X5_158 : tv_okf RX5 158 2 1 false (.int) := ⟨RX2, TX2, 3, tyX2, rfl, (Nat.le_of_ble_eq_true rfl), in_X2, (List.mem_of_getElem? (i := 94) (by decide +kernel)), rfl, tyX2_ok, nmX2, rfl, rfl⟩
theorem okf_X5_18 : tv_okf RX5 18 5 6 false (.int) := ⟨RX5, TX5, 12, tyX5, rfl, (Nat.le_of_ble_eq_true rfl), in_X5, (List.mem_of_getElem? (i := 190) (by decide +kernel)), rfl, tyX5_ok, nmX5, rfl, rfl⟩
theorem okf_X5_22 : tv_okf RX5 22 5 7 false (.int) := ⟨RX5, TX5, 12, tyX5, rfl, (Nat.le_of_ble_eq_true rfl), in_X5, (List.mem_of_getElem? (i := 192) (by decide +kernel)), rfl, tyX5_ok, nmX5, rfl, rfl⟩
theorem okf_X5_28 : tv_okf RX5 28 5 8 true (.object "TermOffice$Election") := ⟨RX5, TX5, 12, tyX5, rfl, (Nat.le_of_ble_eq_true rfl), in_X5, (List.mem_of_getElem? (i := 194) (by decide +kernel)), rfl, tyX5_ok, nmX5, rfl, rfl⟩
theorem okf_X5_35 : tv_okf RX5 35 5 9 true (.object "TermOffice$Race") := ⟨RX5, TX5, 12, tyX5, rfl, (Nat.le_of_ble_eq_true rfl), in_X5, (List.mem_of_getElem? (i := 196) (by decide +kernel)), rfl, tyX5_ok, nmX5, rfl, rfl⟩
theorem okf_X5_42 : tv_okf RX5 42 5 10 true (.object "TermOffice$TermBook") := ⟨RX5, TX5, 12, tyX5, rfl, (Nat.le_of_ble_eq_true rfl), in_X5, (List.mem_of_getElem? (i := 198) (by decide +kernel)), rfl, tyX5_ok, nmX5, rfl, rfl⟩
theorem okf_X5_49 : tv_okf RX5 49 5 11 true (.object "TermOffice$Chronicle") := ⟨RX5, TX5, 12, tyX5, rfl, (Nat.le_of_ble_eq_true rfl), in_X5, (List.mem_of_getElem? (i := 200) (by decide +kernel)), rfl, tyX5_ok, nmX5, rfl, rfl⟩
theorem okf_X5_62 : tv_okf RX5 62 5 1 false (.int) := ⟨RX5, TX5, 12, tyX5, rfl, (Nat.le_of_ble_eq_true rfl), in_X5, (List.mem_of_getElem? (i := 180) (by decide +kernel)), rfl, tyX5_ok, nmX5, rfl, rfl⟩
theorem okf_X5_65 : tv_okf RX5 65 5 2 false (.int) := ⟨RX5, TX5, 12, tyX5, rfl, (Nat.le_of_ble_eq_true rfl), in_X5, (List.mem_of_getElem? (i := 182) (by decide +kernel)), rfl, tyX5_ok, nmX5, rfl, rfl⟩
theorem okf_X5_68 : tv_okf RX5 68 5 4 false (.int) := ⟨RX5, TX5, 12, tyX5, rfl, (Nat.le_of_ble_eq_true rfl), in_X5, (List.mem_of_getElem? (i := 186) (by decide +kernel)), rfl, tyX5_ok, nmX5, rfl, rfl⟩
theorem okf_X5_71 : tv_okf RX5 71 5 5 false (.int) := ⟨RX5, TX5, 12, tyX5, rfl, (Nat.le_of_ble_eq_true rfl), in_X5, (List.mem_of_getElem? (i := 188) (by decide +kernel)), rfl, tyX5_ok, nmX5, rfl, rfl⟩
theorem okf_X5_9 : tv_okf RX5 9 5 0 true (.array .int) := ⟨RX5, TX5, 12, tyX5, rfl, (Nat.le_of_ble_eq_true rfl), in_X5, (List.mem_of_getElem? (i := 178) (by decide +kernel)), rfl, tyX5_ok, nmX5, rfl, rfl⟩
theorem okf_X6_15 : tv_okf RX6 15 6 2 true (.array .int) := ⟨RX6, TX6, 9, tyX6, rfl, (Nat.le_of_ble_eq_true rfl), in_X6, (List.mem_of_getElem? (i := 127) (by decide +kernel)), rfl, tyX6_ok, nmX6, rfl, rfl⟩
theorem okf_X6_18 : tv_okf RX6 18 6 3 true (.array .int) := ⟨RX6, TX6, 9, tyX6, rfl, (Nat.le_of_ble_eq_true rfl), in_X6, (List.mem_of_getElem? (i := 128) (by decide +kernel)), rfl, tyX6_ok, nmX6, rfl, rfl⟩
theorem okf_X6_21 : tv_okf RX6 21 6 4 true (.array .int) := ⟨RX6, TX6, 9, tyX6, rfl, (Nat.le_of_ble_eq_true rfl), in_X6, (List.mem_of_getElem? (i := 129) (by decide +kernel)), rfl, tyX6_ok, nmX6, rfl, rfl⟩
theorem okf_X6_24 : tv_okf RX6 24 6 5 true (.array .int) := ⟨RX6, TX6, 9, tyX6, rfl, (Nat.le_of_ble_eq_true rfl), in_X6, (List.mem_of_getElem? (i := 130) (by decide +kernel)), rfl, tyX6_ok, nmX6, rfl, rfl⟩
theorem okf_X6_27 : tv_okf RX6 27 6 6 true (.array .int) := ⟨RX6, TX6, 9, tyX6, rfl, (Nat.le_of_ble_eq_true rfl), in_X6, (List.mem_of_getElem? (i := 131) (by decide +kernel)), rfl, tyX6_ok, nmX6, rfl, rfl⟩
theorem okf_X6_30 : tv_okf RX6 30 6 7 true (.array .int) := ⟨RX6, TX6, 9, tyX6, rfl, (Nat.le_of_ble_eq_true rfl), in_X6, (List.mem_of_getElem? (i := 132) (by decide +kernel)), rfl, tyX6_ok, nmX6, rfl, rfl⟩
theorem okf_X6_33 : tv_okf RX6 33 6 8 true (.array .int) := ⟨RX6, TX6, 9, tyX6, rfl, (Nat.le_of_ble_eq_true rfl), in_X6, (List.mem_of_getElem? (i := 133) (by decide +kernel)), rfl, tyX6_ok, nmX6, rfl, rfl⟩
theorem okf_X6_36 : tv_okf RX6 36 6 0 false (.int) := ⟨RX6, TX6, 9, tyX6, rfl, (Nat.le_of_ble_eq_true rfl), in_X6, (List.mem_of_getElem? (i := 124) (by decide +kernel)), rfl, tyX6_ok, nmX6, rfl, rfl⟩
theorem okf_X6_9 : tv_okf RX6 9 6 1 true (.array .int) := ⟨RX6, TX6, 9, tyX6, rfl, (Nat.le_of_ble_eq_true rfl), in_X6, (List.mem_of_getElem? (i := 126) (by decide +kernel)), rfl, tyX6_ok, nmX6, rfl, rfl⟩
theorem okf_X7_10 : tv_okf RX7 10 7 0 true (.object "TermOffice$BallotText") := ⟨RX7, TX7, 3, tyX7, rfl, (Nat.le_of_ble_eq_true rfl), in_X7, (List.mem_of_getElem? (i := 247) (by decide +kernel)), rfl, tyX7_ok, nmX7, rfl, rfl⟩
theorem okf_X7_100 : tv_okf RX7 100 6 0 false (.int) := ⟨RX6, TX6, 9, tyX6, rfl, (Nat.le_of_ble_eq_true rfl), in_X6, (List.mem_of_getElem? (i := 125) (by decide +kernel)), rfl, tyX6_ok, nmX6, rfl, rfl⟩
theorem okf_X7_105 : tv_okf RX7 105 2 1 false (.int) := ⟨RX2, TX2, 3, tyX2, rfl, (Nat.le_of_ble_eq_true rfl), in_X2, (List.mem_of_getElem? (i := 93) (by decide +kernel)), rfl, tyX2_ok, nmX2, rfl, rfl⟩
theorem okf_X7_127 : tv_okf RX7 127 0 1 false (.int) := ⟨RX0, TX0, 2, tyX0, rfl, (Nat.le_of_ble_eq_true rfl), in_X0, (List.mem_of_getElem? (i := 68) (by decide +kernel)), rfl, tyX0_ok, nmX0, rfl, rfl⟩
theorem okf_X7_137 : tv_okf RX7 137 5 9 true (.object "TermOffice$Race") := ⟨RX5, TX5, 12, tyX5, rfl, (Nat.le_of_ble_eq_true rfl), in_X5, (List.mem_of_getElem? (i := 197) (by decide +kernel)), rfl, tyX5_ok, nmX5, rfl, rfl⟩
theorem okf_X7_141 : tv_okf RX7 141 4 0 false (.int) := ⟨RX4, TX4, 2, tyX4, rfl, (Nat.le_of_ble_eq_true rfl), in_X4, (List.mem_of_getElem? (i := 110) (by decide +kernel)), rfl, tyX4_ok, nmX4, rfl, rfl⟩
theorem okf_X7_153 : tv_okf RX7 153 5 7 false (.int) := ⟨RX5, TX5, 12, tyX5, rfl, (Nat.le_of_ble_eq_true rfl), in_X5, (List.mem_of_getElem? (i := 193) (by decide +kernel)), rfl, tyX5_ok, nmX5, rfl, rfl⟩
theorem okf_X7_162 : tv_okf RX7 162 5 5 false (.int) := ⟨RX5, TX5, 12, tyX5, rfl, (Nat.le_of_ble_eq_true rfl), in_X5, (List.mem_of_getElem? (i := 189) (by decide +kernel)), rfl, tyX5_ok, nmX5, rfl, rfl⟩
theorem okf_X7_175 : tv_okf RX7 175 5 3 true (.array .int) := ⟨RX5, TX5, 12, tyX5, rfl, (Nat.le_of_ble_eq_true rfl), in_X5, (List.mem_of_getElem? (i := 185) (by decide +kernel)), rfl, tyX5_ok, nmX5, rfl, rfl⟩
theorem okf_X7_19 : tv_okf RX7 19 7 1 true (.object "TermOffice$State") := ⟨RX7, TX7, 3, tyX7, rfl, (Nat.le_of_ble_eq_true rfl), in_X7, (List.mem_of_getElem? (i := 248) (by decide +kernel)), rfl, tyX7_ok, nmX7, rfl, rfl⟩
theorem okf_X7_194 : tv_okf RX7 194 5 11 true (.object "TermOffice$Chronicle") := ⟨RX5, TX5, 12, tyX5, rfl, (Nat.le_of_ble_eq_true rfl), in_X5, (List.mem_of_getElem? (i := 201) (by decide +kernel)), rfl, tyX5_ok, nmX5, rfl, rfl⟩
theorem okf_X7_198 : tv_okf RX7 198 1 0 false (.int) := ⟨RX1, TX1, 4, tyX1, rfl, (Nat.le_of_ble_eq_true rfl), in_X1, (List.mem_of_getElem? (i := 160) (by decide +kernel)), rfl, tyX1_ok, nmX1, rfl, rfl⟩
theorem okf_X7_205 : tv_okf RX7 205 3 1 false (.int) := ⟨RX3, TX3, 3, tyX3, rfl, (Nat.le_of_ble_eq_true rfl), in_X3, (List.mem_of_getElem? (i := 238) (by decide +kernel)), rfl, tyX3_ok, nmX3, rfl, rfl⟩
theorem okf_X7_26 : tv_okf RX7 26 7 2 true (.object "TermOffice$History") := ⟨RX7, TX7, 3, tyX7, rfl, (Nat.le_of_ble_eq_true rfl), in_X7, (List.mem_of_getElem? (i := 249) (by decide +kernel)), rfl, tyX7_ok, nmX7, rfl, rfl⟩
theorem okf_X7_41 : tv_okf RX7 41 5 0 true (.array .int) := ⟨RX5, TX5, 12, tyX5, rfl, (Nat.le_of_ble_eq_true rfl), in_X5, (List.mem_of_getElem? (i := 179) (by decide +kernel)), rfl, tyX5_ok, nmX5, rfl, rfl⟩
theorem okf_X7_47 : tv_okf RX7 47 5 2 false (.int) := ⟨RX5, TX5, 12, tyX5, rfl, (Nat.le_of_ble_eq_true rfl), in_X5, (List.mem_of_getElem? (i := 183) (by decide +kernel)), rfl, tyX5_ok, nmX5, rfl, rfl⟩
theorem okf_X7_66 : tv_okf RX7 66 5 4 false (.int) := ⟨RX5, TX5, 12, tyX5, rfl, (Nat.le_of_ble_eq_true rfl), in_X5, (List.mem_of_getElem? (i := 187) (by decide +kernel)), rfl, tyX5_ok, nmX5, rfl, rfl⟩
theorem okf_X7_76 : tv_okf RX7 76 5 1 false (.int) := ⟨RX5, TX5, 12, tyX5, rfl, (Nat.le_of_ble_eq_true rfl), in_X5, (List.mem_of_getElem? (i := 181) (by decide +kernel)), rfl, tyX5_ok, nmX5, rfl, rfl⟩
theorem okf_X7_83 : tv_okf RX7 83 5 8 true (.object "TermOffice$Election") := ⟨RX5, TX5, 12, tyX5, rfl, (Nat.le_of_ble_eq_true rfl), in_X5, (List.mem_of_getElem? (i := 195) (by decide +kernel)), rfl, tyX5_ok, nmX5, rfl, rfl⟩
theorem okf_X7_87 : tv_okf RX7 87 2 0 false (.boolean) := ⟨RX2, TX2, 3, tyX2, rfl, (Nat.le_of_ble_eq_true rfl), in_X2, (List.mem_of_getElem? (i := 91) (by decide +kernel)), rfl, tyX2_ok, nmX2, rfl, rfl⟩
theorem okf_X7_93 : tv_okf RX7 93 5 6 false (.int) := ⟨RX5, TX5, 12, tyX5, rfl, (Nat.le_of_ble_eq_true rfl), in_X5, (List.mem_of_getElem? (i := 191) (by decide +kernel)), rfl, tyX5_ok, nmX5, rfl, rfl⟩
theorem okf_X7_96 : tv_okf RX7 96 5 10 true (.object "TermOffice$TermBook") := ⟨RX5, TX5, 12, tyX5, rfl, (Nat.le_of_ble_eq_true rfl), in_X5, (List.mem_of_getElem? (i := 199) (by decide +kernel)), rfl, tyX5_ok, nmX5, rfl, rfl⟩
theorem okf_X8_104 : tv_okf RX8 104 8 5 false (.int) := ⟨RX8, TX8, 6, tyX8, rfl, (Nat.le_of_ble_eq_true rfl), in_X8, (List.mem_of_getElem? (i := 660) (by decide +kernel)), rfl, tyX8_ok, nmX8, rfl, rfl⟩
theorem okf_X8_13 : tv_okf RX8 13 8 1 true (.array .int) := ⟨RX8, TX8, 6, tyX8, rfl, (Nat.le_of_ble_eq_true rfl), in_X8, (List.mem_of_getElem? (i := 656) (by decide +kernel)), rfl, tyX8_ok, nmX8, rfl, rfl⟩
theorem okf_X8_16 : tv_okf RX8 16 8 3 true (.array .int) := ⟨RX8, TX8, 6, tyX8, rfl, (Nat.le_of_ble_eq_true rfl), in_X8, (List.mem_of_getElem? (i := 658) (by decide +kernel)), rfl, tyX8_ok, nmX8, rfl, rfl⟩
theorem okf_X8_19 : tv_okf RX8 19 8 2 false (.int) := ⟨RX8, TX8, 6, tyX8, rfl, (Nat.le_of_ble_eq_true rfl), in_X8, (List.mem_of_getElem? (i := 657) (by decide +kernel)), rfl, tyX8_ok, nmX8, rfl, rfl⟩
theorem okf_X8_7 : tv_okf RX8 7 8 0 true (.array .int) := ⟨RX8, TX8, 6, tyX8, rfl, (Nat.le_of_ble_eq_true rfl), in_X8, (List.mem_of_getElem? (i := 655) (by decide +kernel)), rfl, tyX8_ok, nmX8, rfl, rfl⟩
theorem okf_X8_95 : tv_okf RX8 95 8 4 false (.int) := ⟨RX8, TX8, 6, tyX8, rfl, (Nat.le_of_ble_eq_true rfl), in_X8, (List.mem_of_getElem? (i := 659) (by decide +kernel)), rfl, tyX8_ok, nmX8, rfl, rfl⟩
theorem okV_L_102 : tv_okV RL 102 yX8_time cX8_time 1 (some .int) 0 8 := ⟨⟨Or.inl (List.mem_of_getElem? (i := 879) (by decide +kernel)), (List.mem_of_getElem? (i := 49) (by decide +kernel)), (List.mem_of_getElem? (i := 882) (by decide +kernel)), by decide +kernel, ⟨by decide +kernel, by decide +kernel, by decide +kernel⟩, (Nat.le_of_ble_eq_true rfl)⟩, ⟨(List.mem_of_getElem? (i := 880) (by decide +kernel)), (List.mem_of_getElem? (i := 881) (by decide +kernel))⟩, TX8, 6, rfl⟩
theorem okV_L_103 : tv_okV RL 103 yX7_events cX7_events 1 (some .int) 0 7 := ⟨⟨Or.inl (List.mem_of_getElem? (i := 608) (by decide +kernel)), (List.mem_of_getElem? (i := 39) (by decide +kernel)), (List.mem_of_getElem? (i := 611) (by decide +kernel)), by decide +kernel, ⟨by decide +kernel, by decide +kernel, by decide +kernel⟩, (Nat.le_of_ble_eq_true rfl)⟩, ⟨(List.mem_of_getElem? (i := 609) (by decide +kernel)), (List.mem_of_getElem? (i := 610) (by decide +kernel))⟩, TX7, 3, rfl⟩
theorem okV_L_106 : tv_okV RL 106 yX8_events cX8_events 1 (some .int) 0 8 := ⟨⟨Or.inl (List.mem_of_getElem? (i := 883) (by decide +kernel)), (List.mem_of_getElem? (i := 49) (by decide +kernel)), (List.mem_of_getElem? (i := 886) (by decide +kernel)), by decide +kernel, ⟨by decide +kernel, by decide +kernel, by decide +kernel⟩, (Nat.le_of_ble_eq_true rfl)⟩, ⟨(List.mem_of_getElem? (i := 884) (by decide +kernel)), (List.mem_of_getElem? (i := 885) (by decide +kernel))⟩, TX8, 6, rfl⟩
theorem okV_L_107 : tv_okV RL 107 yX7_event cX7_event 3 (some .int) 2 7 := ⟨⟨Or.inl (List.mem_of_getElem? (i := 612) (by decide +kernel)), (List.mem_of_getElem? (i := 39) (by decide +kernel)), (List.mem_of_getElem? (i := 615) (by decide +kernel)), by decide +kernel, ⟨by decide +kernel, by decide +kernel, by decide +kernel⟩, (Nat.le_of_ble_eq_true rfl)⟩, ⟨(List.mem_of_getElem? (i := 613) (by decide +kernel)), (List.mem_of_getElem? (i := 614) (by decide +kernel))⟩, TX7, 3, rfl⟩
theorem okV_L_110 : tv_okV RL 110 yX8_event cX8_event 3 (some .int) 2 8 := ⟨⟨Or.inl (List.mem_of_getElem? (i := 887) (by decide +kernel)), (List.mem_of_getElem? (i := 49) (by decide +kernel)), (List.mem_of_getElem? (i := 890) (by decide +kernel)), by decide +kernel, ⟨by decide +kernel, by decide +kernel, by decide +kernel⟩, (Nat.le_of_ble_eq_true rfl)⟩, ⟨(List.mem_of_getElem? (i := 888) (by decide +kernel)), (List.mem_of_getElem? (i := 889) (by decide +kernel))⟩, TX8, 6, rfl⟩
theorem okV_L_111 : tv_okV RL 111 yX7_type cX7_type 2 (some .int) 1 7 := ⟨⟨Or.inl (List.mem_of_getElem? (i := 620) (by decide +kernel)), (List.mem_of_getElem? (i := 39) (by decide +kernel)), (List.mem_of_getElem? (i := 623) (by decide +kernel)), by decide +kernel, ⟨by decide +kernel, by decide +kernel, by decide +kernel⟩, (Nat.le_of_ble_eq_true rfl)⟩, ⟨(List.mem_of_getElem? (i := 621) (by decide +kernel)), (List.mem_of_getElem? (i := 622) (by decide +kernel))⟩, TX7, 3, rfl⟩
theorem okV_L_114 : tv_okV RL 114 yX8_type cX8_type 2 (some .int) 1 8 := ⟨⟨Or.inl (List.mem_of_getElem? (i := 891) (by decide +kernel)), (List.mem_of_getElem? (i := 49) (by decide +kernel)), (List.mem_of_getElem? (i := 894) (by decide +kernel)), by decide +kernel, ⟨by decide +kernel, by decide +kernel, by decide +kernel⟩, (Nat.le_of_ble_eq_true rfl)⟩, ⟨(List.mem_of_getElem? (i := 892) (by decide +kernel)), (List.mem_of_getElem? (i := 893) (by decide +kernel))⟩, TX8, 6, rfl⟩
theorem okV_L_115 : tv_okV RL 115 yX7_clear cX7_clear 2 (some .int) 0 7 := ⟨⟨Or.inl (List.mem_of_getElem? (i := 628) (by decide +kernel)), (List.mem_of_getElem? (i := 39) (by decide +kernel)), (List.mem_of_getElem? (i := 631) (by decide +kernel)), by decide +kernel, ⟨by decide +kernel, by decide +kernel, by decide +kernel⟩, (Nat.le_of_ble_eq_true rfl)⟩, ⟨(List.mem_of_getElem? (i := 629) (by decide +kernel)), (List.mem_of_getElem? (i := 630) (by decide +kernel))⟩, TX7, 3, rfl⟩
theorem okV_L_118 : tv_okV RL 118 yX8_clear cX8_clear 2 (some .int) 0 8 := ⟨⟨Or.inl (List.mem_of_getElem? (i := 895) (by decide +kernel)), (List.mem_of_getElem? (i := 49) (by decide +kernel)), (List.mem_of_getElem? (i := 898) (by decide +kernel)), by decide +kernel, ⟨by decide +kernel, by decide +kernel, by decide +kernel⟩, (Nat.le_of_ble_eq_true rfl)⟩, ⟨(List.mem_of_getElem? (i := 896) (by decide +kernel)), (List.mem_of_getElem? (i := 897) (by decide +kernel))⟩, TX8, 6, rfl⟩
theorem okV_L_119 : tv_okV RL 119 yX7_undo cX7_undo 1 (some .int) 0 7 := ⟨⟨Or.inl (List.mem_of_getElem? (i := 632) (by decide +kernel)), (List.mem_of_getElem? (i := 39) (by decide +kernel)), (List.mem_of_getElem? (i := 635) (by decide +kernel)), by decide +kernel, ⟨by decide +kernel, by decide +kernel, by decide +kernel⟩, (Nat.le_of_ble_eq_true rfl)⟩, ⟨(List.mem_of_getElem? (i := 633) (by decide +kernel)), (List.mem_of_getElem? (i := 634) (by decide +kernel))⟩, TX7, 3, rfl⟩
theorem okV_L_122 : tv_okV RL 122 yX8_undo cX8_undo 2 (some .int) 0 8 := ⟨⟨Or.inl (List.mem_of_getElem? (i := 899) (by decide +kernel)), (List.mem_of_getElem? (i := 49) (by decide +kernel)), (List.mem_of_getElem? (i := 902) (by decide +kernel)), by decide +kernel, ⟨by decide +kernel, by decide +kernel, by decide +kernel⟩, (Nat.le_of_ble_eq_true rfl)⟩, ⟨(List.mem_of_getElem? (i := 900) (by decide +kernel)), (List.mem_of_getElem? (i := 901) (by decide +kernel))⟩, TX8, 6, rfl⟩
theorem okV_L_123 : tv_okV RL 123 yX7_fingerprint cX7_fingerprint 5 (some .long) 0 7 := ⟨⟨Or.inl (List.mem_of_getElem? (i := 640) (by decide +kernel)), (List.mem_of_getElem? (i := 39) (by decide +kernel)), (List.mem_of_getElem? (i := 643) (by decide +kernel)), by decide +kernel, ⟨by decide +kernel, by decide +kernel, by decide +kernel⟩, (Nat.le_of_ble_eq_true rfl)⟩, ⟨(List.mem_of_getElem? (i := 641) (by decide +kernel)), (List.mem_of_getElem? (i := 642) (by decide +kernel))⟩, TX7, 3, rfl⟩
theorem okV_L_127 : tv_okV RL 127 yX8_fingerprint cX8_fingerprint 5 (some .long) 0 8 := ⟨⟨Or.inl (List.mem_of_getElem? (i := 903) (by decide +kernel)), (List.mem_of_getElem? (i := 49) (by decide +kernel)), (List.mem_of_getElem? (i := 906) (by decide +kernel)), by decide +kernel, ⟨by decide +kernel, by decide +kernel, by decide +kernel⟩, (Nat.le_of_ble_eq_true rfl)⟩, ⟨(List.mem_of_getElem? (i := 904) (by decide +kernel)), (List.mem_of_getElem? (i := 905) (by decide +kernel))⟩, TX8, 6, rfl⟩
theorem okV_L_13 : tv_okV RL 13 yX7_set cX7_set 4 (some .int) 2 7 := ⟨⟨Or.inl (List.mem_of_getElem? (i := 257) (by decide +kernel)), (List.mem_of_getElem? (i := 39) (by decide +kernel)), (List.mem_of_getElem? (i := 260) (by decide +kernel)), by decide +kernel, ⟨by decide +kernel, by decide +kernel, by decide +kernel⟩, (Nat.le_of_ble_eq_true rfl)⟩, ⟨(List.mem_of_getElem? (i := 258) (by decide +kernel)), (List.mem_of_getElem? (i := 259) (by decide +kernel))⟩, TX7, 3, rfl⟩
theorem okV_L_17 : tv_okV RL 17 yX8_set cX8_set 4 (some .int) 2 8 := ⟨⟨Or.inl (List.mem_of_getElem? (i := 674) (by decide +kernel)), (List.mem_of_getElem? (i := 49) (by decide +kernel)), (List.mem_of_getElem? (i := 677) (by decide +kernel)), by decide +kernel, ⟨by decide +kernel, by decide +kernel, by decide +kernel⟩, (Nat.le_of_ble_eq_true rfl)⟩, ⟨(List.mem_of_getElem? (i := 675) (by decide +kernel)), (List.mem_of_getElem? (i := 676) (by decide +kernel))⟩, TX8, 6, rfl⟩
theorem okV_L_18 : tv_okV RL 18 yX7_join cX7_join 3 (some .int) 1 7 := ⟨⟨Or.inl (List.mem_of_getElem? (i := 354) (by decide +kernel)), (List.mem_of_getElem? (i := 39) (by decide +kernel)), (List.mem_of_getElem? (i := 357) (by decide +kernel)), by decide +kernel, ⟨by decide +kernel, by decide +kernel, by decide +kernel⟩, (Nat.le_of_ble_eq_true rfl)⟩, ⟨(List.mem_of_getElem? (i := 355) (by decide +kernel)), (List.mem_of_getElem? (i := 356) (by decide +kernel))⟩, TX7, 3, rfl⟩
theorem okV_L_22 : tv_okV RL 22 yX8_join cX8_join 4 (some .int) 1 8 := ⟨⟨Or.inl (List.mem_of_getElem? (i := 738) (by decide +kernel)), (List.mem_of_getElem? (i := 49) (by decide +kernel)), (List.mem_of_getElem? (i := 741) (by decide +kernel)), by decide +kernel, ⟨by decide +kernel, by decide +kernel, by decide +kernel⟩, (Nat.le_of_ble_eq_true rfl)⟩, ⟨(List.mem_of_getElem? (i := 739) (by decide +kernel)), (List.mem_of_getElem? (i := 740) (by decide +kernel))⟩, TX8, 6, rfl⟩
theorem okV_L_23 : tv_okV RL 23 yX7_setPresent cX7_setPresent 4 (some .int) 2 7 := ⟨⟨Or.inl (List.mem_of_getElem? (i := 362) (by decide +kernel)), (List.mem_of_getElem? (i := 39) (by decide +kernel)), (List.mem_of_getElem? (i := 365) (by decide +kernel)), by decide +kernel, ⟨by decide +kernel, by decide +kernel, by decide +kernel⟩, (Nat.le_of_ble_eq_true rfl)⟩, ⟨(List.mem_of_getElem? (i := 363) (by decide +kernel)), (List.mem_of_getElem? (i := 364) (by decide +kernel))⟩, TX7, 3, rfl⟩
theorem okV_L_27 : tv_okV RL 27 yX8_setPresent cX8_setPresent 4 (some .int) 2 8 := ⟨⟨Or.inl (List.mem_of_getElem? (i := 742) (by decide +kernel)), (List.mem_of_getElem? (i := 49) (by decide +kernel)), (List.mem_of_getElem? (i := 745) (by decide +kernel)), by decide +kernel, ⟨by decide +kernel, by decide +kernel, by decide +kernel⟩, (Nat.le_of_ble_eq_true rfl)⟩, ⟨(List.mem_of_getElem? (i := 743) (by decide +kernel)), (List.mem_of_getElem? (i := 744) (by decide +kernel))⟩, TX8, 6, rfl⟩
theorem okV_L_28 : tv_okV RL 28 yX7_pass cX7_pass 2 (some .int) 1 7 := ⟨⟨Or.inl (List.mem_of_getElem? (i := 389) (by decide +kernel)), (List.mem_of_getElem? (i := 39) (by decide +kernel)), (List.mem_of_getElem? (i := 392) (by decide +kernel)), by decide +kernel, ⟨by decide +kernel, by decide +kernel, by decide +kernel⟩, (Nat.le_of_ble_eq_true rfl)⟩, ⟨(List.mem_of_getElem? (i := 390) (by decide +kernel)), (List.mem_of_getElem? (i := 391) (by decide +kernel))⟩, TX7, 3, rfl⟩
theorem okV_L_31 : tv_okV RL 31 yX8_pass cX8_pass 3 (some .int) 1 8 := ⟨⟨Or.inl (List.mem_of_getElem? (i := 758) (by decide +kernel)), (List.mem_of_getElem? (i := 49) (by decide +kernel)), (List.mem_of_getElem? (i := 761) (by decide +kernel)), by decide +kernel, ⟨by decide +kernel, by decide +kernel, by decide +kernel⟩, (Nat.le_of_ble_eq_true rfl)⟩, ⟨(List.mem_of_getElem? (i := 759) (by decide +kernel)), (List.mem_of_getElem? (i := 760) (by decide +kernel))⟩, TX8, 6, rfl⟩
theorem okV_L_32 : tv_okV RL 32 yX7_open cX7_open 1 (some .int) 0 7 := ⟨⟨Or.inl (List.mem_of_getElem? (i := 402) (by decide +kernel)), (List.mem_of_getElem? (i := 39) (by decide +kernel)), (List.mem_of_getElem? (i := 405) (by decide +kernel)), by decide +kernel, ⟨by decide +kernel, by decide +kernel, by decide +kernel⟩, (Nat.le_of_ble_eq_true rfl)⟩, ⟨(List.mem_of_getElem? (i := 403) (by decide +kernel)), (List.mem_of_getElem? (i := 404) (by decide +kernel))⟩, TX7, 3, rfl⟩
theorem okV_L_36 : tv_okV RL 36 yX8_open cX8_open 1 (some .int) 0 8 := ⟨⟨Or.inl (List.mem_of_getElem? (i := 763) (by decide +kernel)), (List.mem_of_getElem? (i := 49) (by decide +kernel)), (List.mem_of_getElem? (i := 766) (by decide +kernel)), by decide +kernel, ⟨by decide +kernel, by decide +kernel, by decide +kernel⟩, (Nat.le_of_ble_eq_true rfl)⟩, ⟨(List.mem_of_getElem? (i := 764) (by decide +kernel)), (List.mem_of_getElem? (i := 765) (by decide +kernel))⟩, TX8, 6, rfl⟩
theorem okV_L_37 : tv_okV RL 37 yX7_nominate cX7_nominate 2 (some .int) 1 7 := ⟨⟨Or.inl (List.mem_of_getElem? (i := 406) (by decide +kernel)), (List.mem_of_getElem? (i := 39) (by decide +kernel)), (List.mem_of_getElem? (i := 409) (by decide +kernel)), by decide +kernel, ⟨by decide +kernel, by decide +kernel, by decide +kernel⟩, (Nat.le_of_ble_eq_true rfl)⟩, ⟨(List.mem_of_getElem? (i := 407) (by decide +kernel)), (List.mem_of_getElem? (i := 408) (by decide +kernel))⟩, TX7, 3, rfl⟩
theorem okV_L_40 : tv_okV RL 40 yX8_nominate cX8_nominate 2 (some .int) 1 8 := ⟨⟨Or.inl (List.mem_of_getElem? (i := 767) (by decide +kernel)), (List.mem_of_getElem? (i := 49) (by decide +kernel)), (List.mem_of_getElem? (i := 770) (by decide +kernel)), by decide +kernel, ⟨by decide +kernel, by decide +kernel, by decide +kernel⟩, (Nat.le_of_ble_eq_true rfl)⟩, ⟨(List.mem_of_getElem? (i := 768) (by decide +kernel)), (List.mem_of_getElem? (i := 769) (by decide +kernel))⟩, TX8, 6, rfl⟩
theorem okV_L_41 : tv_okV RL 41 yX7_cast cX7_cast 3 (some .int) 1 7 := ⟨⟨Or.inl (List.mem_of_getElem? (i := 421) (by decide +kernel)), (List.mem_of_getElem? (i := 39) (by decide +kernel)), (List.mem_of_getElem? (i := 424) (by decide +kernel)), by decide +kernel, ⟨by decide +kernel, by decide +kernel, by decide +kernel⟩, (Nat.le_of_ble_eq_true rfl)⟩, ⟨(List.mem_of_getElem? (i := 422) (by decide +kernel)), (List.mem_of_getElem? (i := 423) (by decide +kernel))⟩, TX7, 3, rfl⟩
theorem okV_L_44 : tv_okV RL 44 yX8_cast cX8_cast 4 (some .int) 1 8 := ⟨⟨Or.inl (List.mem_of_getElem? (i := 779) (by decide +kernel)), (List.mem_of_getElem? (i := 49) (by decide +kernel)), (List.mem_of_getElem? (i := 782) (by decide +kernel)), by decide +kernel, ⟨by decide +kernel, by decide +kernel, by decide +kernel⟩, (Nat.le_of_ble_eq_true rfl)⟩, ⟨(List.mem_of_getElem? (i := 780) (by decide +kernel)), (List.mem_of_getElem? (i := 781) (by decide +kernel))⟩, TX8, 6, rfl⟩
theorem okV_L_45 : tv_okV RL 45 yX7_close cX7_close 1 (some .int) 0 7 := ⟨⟨Or.inl (List.mem_of_getElem? (i := 447) (by decide +kernel)), (List.mem_of_getElem? (i := 39) (by decide +kernel)), (List.mem_of_getElem? (i := 450) (by decide +kernel)), by decide +kernel, ⟨by decide +kernel, by decide +kernel, by decide +kernel⟩, (Nat.le_of_ble_eq_true rfl)⟩, ⟨(List.mem_of_getElem? (i := 448) (by decide +kernel)), (List.mem_of_getElem? (i := 449) (by decide +kernel))⟩, TX7, 3, rfl⟩
theorem okV_L_48 : tv_okV RL 48 yX8_close cX8_close 4 (some .int) 0 8 := ⟨⟨Or.inl (List.mem_of_getElem? (i := 791) (by decide +kernel)), (List.mem_of_getElem? (i := 49) (by decide +kernel)), (List.mem_of_getElem? (i := 794) (by decide +kernel)), by decide +kernel, ⟨by decide +kernel, by decide +kernel, by decide +kernel⟩, (Nat.le_of_ble_eq_true rfl)⟩, ⟨(List.mem_of_getElem? (i := 792) (by decide +kernel)), (List.mem_of_getElem? (i := 793) (by decide +kernel))⟩, TX8, 6, rfl⟩
theorem okV_L_49 : tv_okV RL 49 yX7_rounds cX7_rounds 1 (some .int) 0 7 := ⟨⟨Or.inl (List.mem_of_getElem? (i := 508) (by decide +kernel)), (List.mem_of_getElem? (i := 39) (by decide +kernel)), (List.mem_of_getElem? (i := 511) (by decide +kernel)), by decide +kernel, ⟨by decide +kernel, by decide +kernel, by decide +kernel⟩, (Nat.le_of_ble_eq_true rfl)⟩, ⟨(List.mem_of_getElem? (i := 509) (by decide +kernel)), (List.mem_of_getElem? (i := 510) (by decide +kernel))⟩, TX7, 3, rfl⟩
theorem okV_L_52 : tv_okV RL 52 yX8_rounds cX8_rounds 1 (some .int) 0 8 := ⟨⟨Or.inl (List.mem_of_getElem? (i := 819) (by decide +kernel)), (List.mem_of_getElem? (i := 49) (by decide +kernel)), (List.mem_of_getElem? (i := 822) (by decide +kernel)), by decide +kernel, ⟨by decide +kernel, by decide +kernel, by decide +kernel⟩, (Nat.le_of_ble_eq_true rfl)⟩, ⟨(List.mem_of_getElem? (i := 820) (by decide +kernel)), (List.mem_of_getElem? (i := 821) (by decide +kernel))⟩, TX8, 6, rfl⟩
theorem okV_L_53 : tv_okV RL 53 yX7_tally cX7_tally 3 (some .int) 2 7 := ⟨⟨Or.inl (List.mem_of_getElem? (i := 512) (by decide +kernel)), (List.mem_of_getElem? (i := 39) (by decide +kernel)), (List.mem_of_getElem? (i := 515) (by decide +kernel)), by decide +kernel, ⟨by decide +kernel, by decide +kernel, by decide +kernel⟩, (Nat.le_of_ble_eq_true rfl)⟩, ⟨(List.mem_of_getElem? (i := 513) (by decide +kernel)), (List.mem_of_getElem? (i := 514) (by decide +kernel))⟩, TX7, 3, rfl⟩
theorem okV_L_56 : tv_okV RL 56 yX8_tally cX8_tally 3 (some .int) 2 8 := ⟨⟨Or.inl (List.mem_of_getElem? (i := 823) (by decide +kernel)), (List.mem_of_getElem? (i := 49) (by decide +kernel)), (List.mem_of_getElem? (i := 826) (by decide +kernel)), by decide +kernel, ⟨by decide +kernel, by decide +kernel, by decide +kernel⟩, (Nat.le_of_ble_eq_true rfl)⟩, ⟨(List.mem_of_getElem? (i := 824) (by decide +kernel)), (List.mem_of_getElem? (i := 825) (by decide +kernel))⟩, TX8, 6, rfl⟩
theorem okV_L_57 : tv_okV RL 57 yX7_ballot cX7_ballot 3 (some .int) 2 7 := ⟨⟨Or.inl (List.mem_of_getElem? (i := 517) (by decide +kernel)), (List.mem_of_getElem? (i := 39) (by decide +kernel)), (List.mem_of_getElem? (i := 520) (by decide +kernel)), by decide +kernel, ⟨by decide +kernel, by decide +kernel, by decide +kernel⟩, (Nat.le_of_ble_eq_true rfl)⟩, ⟨(List.mem_of_getElem? (i := 518) (by decide +kernel)), (List.mem_of_getElem? (i := 519) (by decide +kernel))⟩, TX7, 3, rfl⟩
theorem okV_L_60 : tv_okV RL 60 yX8_ballot cX8_ballot 3 (some .int) 2 8 := ⟨⟨Or.inl (List.mem_of_getElem? (i := 827) (by decide +kernel)), (List.mem_of_getElem? (i := 49) (by decide +kernel)), (List.mem_of_getElem? (i := 830) (by decide +kernel)), by decide +kernel, ⟨by decide +kernel, by decide +kernel, by decide +kernel⟩, (Nat.le_of_ble_eq_true rfl)⟩, ⟨(List.mem_of_getElem? (i := 828) (by decide +kernel)), (List.mem_of_getElem? (i := 829) (by decide +kernel))⟩, TX8, 6, rfl⟩
theorem okV_L_61 : tv_okV RL 61 yX7_office cX7_office 1 (some .int) 0 7 := ⟨⟨Or.inl (List.mem_of_getElem? (i := 522) (by decide +kernel)), (List.mem_of_getElem? (i := 39) (by decide +kernel)), (List.mem_of_getElem? (i := 525) (by decide +kernel)), by decide +kernel, ⟨by decide +kernel, by decide +kernel, by decide +kernel⟩, (Nat.le_of_ble_eq_true rfl)⟩, ⟨(List.mem_of_getElem? (i := 523) (by decide +kernel)), (List.mem_of_getElem? (i := 524) (by decide +kernel))⟩, TX7, 3, rfl⟩
theorem okV_L_64 : tv_okV RL 64 yX8_office cX8_office 1 (some .int) 0 8 := ⟨⟨Or.inl (List.mem_of_getElem? (i := 831) (by decide +kernel)), (List.mem_of_getElem? (i := 49) (by decide +kernel)), (List.mem_of_getElem? (i := 834) (by decide +kernel)), by decide +kernel, ⟨by decide +kernel, by decide +kernel, by decide +kernel⟩, (Nat.le_of_ble_eq_true rfl)⟩, ⟨(List.mem_of_getElem? (i := 832) (by decide +kernel)), (List.mem_of_getElem? (i := 833) (by decide +kernel))⟩, TX8, 6, rfl⟩
theorem okV_L_65 : tv_okV RL 65 yX7_holder cX7_holder 1 (some .int) 0 7 := ⟨⟨Or.inl (List.mem_of_getElem? (i := 526) (by decide +kernel)), (List.mem_of_getElem? (i := 39) (by decide +kernel)), (List.mem_of_getElem? (i := 529) (by decide +kernel)), by decide +kernel, ⟨by decide +kernel, by decide +kernel, by decide +kernel⟩, (Nat.le_of_ble_eq_true rfl)⟩, ⟨(List.mem_of_getElem? (i := 527) (by decide +kernel)), (List.mem_of_getElem? (i := 528) (by decide +kernel))⟩, TX7, 3, rfl⟩
theorem okV_L_68 : tv_okV RL 68 yX8_holder cX8_holder 1 (some .int) 0 8 := ⟨⟨Or.inl (List.mem_of_getElem? (i := 835) (by decide +kernel)), (List.mem_of_getElem? (i := 49) (by decide +kernel)), (List.mem_of_getElem? (i := 838) (by decide +kernel)), by decide +kernel, ⟨by decide +kernel, by decide +kernel, by decide +kernel⟩, (Nat.le_of_ble_eq_true rfl)⟩, ⟨(List.mem_of_getElem? (i := 836) (by decide +kernel)), (List.mem_of_getElem? (i := 837) (by decide +kernel))⟩, TX8, 6, rfl⟩
theorem okV_L_69 : tv_okV RL 69 yX7_deed cX7_deed 3 (some .int) 1 7 := ⟨⟨Or.inl (List.mem_of_getElem? (i := 530) (by decide +kernel)), (List.mem_of_getElem? (i := 39) (by decide +kernel)), (List.mem_of_getElem? (i := 533) (by decide +kernel)), by decide +kernel, ⟨by decide +kernel, by decide +kernel, by decide +kernel⟩, (Nat.le_of_ble_eq_true rfl)⟩, ⟨(List.mem_of_getElem? (i := 531) (by decide +kernel)), (List.mem_of_getElem? (i := 532) (by decide +kernel))⟩, TX7, 3, rfl⟩
theorem okV_L_73 : tv_okV RL 73 yX8_deed cX8_deed 3 (some .int) 1 8 := ⟨⟨Or.inl (List.mem_of_getElem? (i := 839) (by decide +kernel)), (List.mem_of_getElem? (i := 49) (by decide +kernel)), (List.mem_of_getElem? (i := 842) (by decide +kernel)), by decide +kernel, ⟨by decide +kernel, by decide +kernel, by decide +kernel⟩, (Nat.le_of_ble_eq_true rfl)⟩, ⟨(List.mem_of_getElem? (i := 840) (by decide +kernel)), (List.mem_of_getElem? (i := 841) (by decide +kernel))⟩, TX8, 6, rfl⟩
theorem okV_L_74 : tv_okV RL 74 yX7_sign cX7_sign 3 (some .int) 2 7 := ⟨⟨Or.inl (List.mem_of_getElem? (i := 542) (by decide +kernel)), (List.mem_of_getElem? (i := 39) (by decide +kernel)), (List.mem_of_getElem? (i := 545) (by decide +kernel)), by decide +kernel, ⟨by decide +kernel, by decide +kernel, by decide +kernel⟩, (Nat.le_of_ble_eq_true rfl)⟩, ⟨(List.mem_of_getElem? (i := 543) (by decide +kernel)), (List.mem_of_getElem? (i := 544) (by decide +kernel))⟩, TX7, 3, rfl⟩
theorem okV_L_77 : tv_okV RL 77 yX8_sign cX8_sign 3 (some .int) 2 8 := ⟨⟨Or.inl (List.mem_of_getElem? (i := 843) (by decide +kernel)), (List.mem_of_getElem? (i := 49) (by decide +kernel)), (List.mem_of_getElem? (i := 846) (by decide +kernel)), by decide +kernel, ⟨by decide +kernel, by decide +kernel, by decide +kernel⟩, (Nat.le_of_ble_eq_true rfl)⟩, ⟨(List.mem_of_getElem? (i := 844) (by decide +kernel)), (List.mem_of_getElem? (i := 845) (by decide +kernel))⟩, TX8, 6, rfl⟩
theorem okV_L_78 : tv_okV RL 78 yX7_grade cX7_grade 5 (some .int) 4 7 := ⟨⟨Or.inl (List.mem_of_getElem? (i := 547) (by decide +kernel)), (List.mem_of_getElem? (i := 39) (by decide +kernel)), (List.mem_of_getElem? (i := 550) (by decide +kernel)), by decide +kernel, ⟨by decide +kernel, by decide +kernel, by decide +kernel⟩, (Nat.le_of_ble_eq_true rfl)⟩, ⟨(List.mem_of_getElem? (i := 548) (by decide +kernel)), (List.mem_of_getElem? (i := 549) (by decide +kernel))⟩, TX7, 3, rfl⟩
theorem okV_L_82 : tv_okV RL 82 yX8_grade cX8_grade 6 (some .int) 4 8 := ⟨⟨Or.inl (List.mem_of_getElem? (i := 847) (by decide +kernel)), (List.mem_of_getElem? (i := 49) (by decide +kernel)), (List.mem_of_getElem? (i := 850) (by decide +kernel)), by decide +kernel, ⟨by decide +kernel, by decide +kernel, by decide +kernel⟩, (Nat.le_of_ble_eq_true rfl)⟩, ⟨(List.mem_of_getElem? (i := 848) (by decide +kernel)), (List.mem_of_getElem? (i := 849) (by decide +kernel))⟩, TX8, 6, rfl⟩
theorem okV_L_83 : tv_okV RL 83 yX7_term cX7_term 3 (some .int) 2 7 := ⟨⟨Or.inl (List.mem_of_getElem? (i := 576) (by decide +kernel)), (List.mem_of_getElem? (i := 39) (by decide +kernel)), (List.mem_of_getElem? (i := 579) (by decide +kernel)), by decide +kernel, ⟨by decide +kernel, by decide +kernel, by decide +kernel⟩, (Nat.le_of_ble_eq_true rfl)⟩, ⟨(List.mem_of_getElem? (i := 577) (by decide +kernel)), (List.mem_of_getElem? (i := 578) (by decide +kernel))⟩, TX7, 3, rfl⟩
theorem okV_L_86 : tv_okV RL 86 yX8_term cX8_term 3 (some .int) 2 8 := ⟨⟨Or.inl (List.mem_of_getElem? (i := 855) (by decide +kernel)), (List.mem_of_getElem? (i := 49) (by decide +kernel)), (List.mem_of_getElem? (i := 858) (by decide +kernel)), by decide +kernel, ⟨by decide +kernel, by decide +kernel, by decide +kernel⟩, (Nat.le_of_ble_eq_true rfl)⟩, ⟨(List.mem_of_getElem? (i := 856) (by decide +kernel)), (List.mem_of_getElem? (i := 857) (by decide +kernel))⟩, TX8, 6, rfl⟩
theorem okV_L_87 : tv_okV RL 87 yX7_points cX7_points 3 (some .int) 2 7 := ⟨⟨Or.inl (List.mem_of_getElem? (i := 585) (by decide +kernel)), (List.mem_of_getElem? (i := 39) (by decide +kernel)), (List.mem_of_getElem? (i := 588) (by decide +kernel)), by decide +kernel, ⟨by decide +kernel, by decide +kernel, by decide +kernel⟩, (Nat.le_of_ble_eq_true rfl)⟩, ⟨(List.mem_of_getElem? (i := 586) (by decide +kernel)), (List.mem_of_getElem? (i := 587) (by decide +kernel))⟩, TX7, 3, rfl⟩
theorem okV_L_90 : tv_okV RL 90 yX8_points cX8_points 3 (some .int) 2 8 := ⟨⟨Or.inl (List.mem_of_getElem? (i := 863) (by decide +kernel)), (List.mem_of_getElem? (i := 49) (by decide +kernel)), (List.mem_of_getElem? (i := 866) (by decide +kernel)), by decide +kernel, ⟨by decide +kernel, by decide +kernel, by decide +kernel⟩, (Nat.le_of_ble_eq_true rfl)⟩, ⟨(List.mem_of_getElem? (i := 864) (by decide +kernel)), (List.mem_of_getElem? (i := 865) (by decide +kernel))⟩, TX8, 6, rfl⟩
theorem okV_L_91 : tv_okV RL 91 yX7_terms cX7_terms 1 (some .int) 0 7 := ⟨⟨Or.inl (List.mem_of_getElem? (i := 590) (by decide +kernel)), (List.mem_of_getElem? (i := 39) (by decide +kernel)), (List.mem_of_getElem? (i := 593) (by decide +kernel)), by decide +kernel, ⟨by decide +kernel, by decide +kernel, by decide +kernel⟩, (Nat.le_of_ble_eq_true rfl)⟩, ⟨(List.mem_of_getElem? (i := 591) (by decide +kernel)), (List.mem_of_getElem? (i := 592) (by decide +kernel))⟩, TX7, 3, rfl⟩
theorem okV_L_94 : tv_okV RL 94 yX8_terms cX8_terms 1 (some .int) 0 8 := ⟨⟨Or.inl (List.mem_of_getElem? (i := 867) (by decide +kernel)), (List.mem_of_getElem? (i := 49) (by decide +kernel)), (List.mem_of_getElem? (i := 870) (by decide +kernel)), by decide +kernel, ⟨by decide +kernel, by decide +kernel, by decide +kernel⟩, (Nat.le_of_ble_eq_true rfl)⟩, ⟨(List.mem_of_getElem? (i := 868) (by decide +kernel)), (List.mem_of_getElem? (i := 869) (by decide +kernel))⟩, TX8, 6, rfl⟩
theorem okV_L_95 : tv_okV RL 95 yX7_member cX7_member 3 (some .int) 2 7 := ⟨⟨Or.inl (List.mem_of_getElem? (i := 594) (by decide +kernel)), (List.mem_of_getElem? (i := 39) (by decide +kernel)), (List.mem_of_getElem? (i := 597) (by decide +kernel)), by decide +kernel, ⟨by decide +kernel, by decide +kernel, by decide +kernel⟩, (Nat.le_of_ble_eq_true rfl)⟩, ⟨(List.mem_of_getElem? (i := 595) (by decide +kernel)), (List.mem_of_getElem? (i := 596) (by decide +kernel))⟩, TX7, 3, rfl⟩
theorem okV_L_98 : tv_okV RL 98 yX8_member cX8_member 3 (some .int) 2 8 := ⟨⟨Or.inl (List.mem_of_getElem? (i := 871) (by decide +kernel)), (List.mem_of_getElem? (i := 49) (by decide +kernel)), (List.mem_of_getElem? (i := 874) (by decide +kernel)), by decide +kernel, ⟨by decide +kernel, by decide +kernel, by decide +kernel⟩, (Nat.le_of_ble_eq_true rfl)⟩, ⟨(List.mem_of_getElem? (i := 872) (by decide +kernel)), (List.mem_of_getElem? (i := 873) (by decide +kernel))⟩, TX8, 6, rfl⟩
theorem okV_L_99 : tv_okV RL 99 yX7_time cX7_time 1 (some .int) 0 7 := ⟨⟨Or.inl (List.mem_of_getElem? (i := 604) (by decide +kernel)), (List.mem_of_getElem? (i := 39) (by decide +kernel)), (List.mem_of_getElem? (i := 607) (by decide +kernel)), by decide +kernel, ⟨by decide +kernel, by decide +kernel, by decide +kernel⟩, (Nat.le_of_ble_eq_true rfl)⟩, ⟨(List.mem_of_getElem? (i := 605) (by decide +kernel)), (List.mem_of_getElem? (i := 606) (by decide +kernel))⟩, TX7, 3, rfl⟩
theorem okV_X2_35 : tv_okV RX2 35 yX0_choice cX0_choice 3 (some .int) 1 0 := ⟨⟨Or.inl (List.mem_of_getElem? (i := 435) (by decide +kernel)), (List.mem_of_getElem? (i := 40) (by decide +kernel)), (List.mem_of_getElem? (i := 438) (by decide +kernel)), by decide +kernel, ⟨by decide +kernel, by decide +kernel, by decide +kernel⟩, (Nat.le_of_ble_eq_true rfl)⟩, ⟨(List.mem_of_getElem? (i := 436) (by decide +kernel)), (List.mem_of_getElem? (i := 437) (by decide +kernel))⟩, TX0, 2, rfl⟩
theorem okV_X2_41 : tv_okV RX2 41 yX2_choice cX2_choice 3 (some .int) 2 2 := ⟨⟨Or.inl (List.mem_of_getElem? (i := 443) (by decide +kernel)), (List.mem_of_getElem? (i := 42) (by decide +kernel)), (List.mem_of_getElem? (i := 446) (by decide +kernel)), by decide +kernel, ⟨by decide +kernel, by decide +kernel, by decide +kernel⟩, (Nat.le_of_ble_eq_true rfl)⟩, ⟨(List.mem_of_getElem? (i := 444) (by decide +kernel)), (List.mem_of_getElem? (i := 445) (by decide +kernel))⟩, TX2, 3, rfl⟩
theorem okV_X2_47 : tv_okV RX2 47 yX2_strike cX2_strike 7 none 2 2 := ⟨⟨Or.inl (List.mem_of_getElem? (i := 385) (by decide +kernel)), (List.mem_of_getElem? (i := 42) (by decide +kernel)), (List.mem_of_getElem? (i := 388) (by decide +kernel)), by decide +kernel, ⟨by decide +kernel, by decide +kernel, by decide +kernel⟩, (Nat.le_of_ble_eq_true rfl)⟩, ⟨(List.mem_of_getElem? (i := 387) (by decide +kernel)), (List.mem_of_getElem? (i := 3) (by decide +kernel))⟩, TX2, 3, rfl⟩
theorem okV_X3_22 : tv_okV RX3 22 yX5_copy cX5_copy 2 none 1 5 := ⟨⟨Or.inl (List.mem_of_getElem? (i := 269) (by decide +kernel)), (List.mem_of_getElem? (i := 41) (by decide +kernel)), (List.mem_of_getElem? (i := 272) (by decide +kernel)), by decide +kernel, ⟨by decide +kernel, by decide +kernel, by decide +kernel⟩, (Nat.le_of_ble_eq_true rfl)⟩, ⟨(List.mem_of_getElem? (i := 270) (by decide +kernel)), (List.mem_of_getElem? (i := 271) (by decide +kernel))⟩, TX5, 12, rfl⟩
theorem okV_X4_29 : tv_okV RX4 29 yX2_firstAmong cX2_firstAmong 5 (some .int) 2 2 := ⟨⟨Or.inl (List.mem_of_getElem? (i := 469) (by decide +kernel)), (List.mem_of_getElem? (i := 42) (by decide +kernel)), (List.mem_of_getElem? (i := 472) (by decide +kernel)), by decide +kernel, ⟨by decide +kernel, by decide +kernel, by decide +kernel⟩, (Nat.le_of_ble_eq_true rfl)⟩, ⟨(List.mem_of_getElem? (i := 470) (by decide +kernel)), (List.mem_of_getElem? (i := 471) (by decide +kernel))⟩, TX2, 3, rfl⟩
theorem okV_X4_41 : tv_okV RX4 41 yX4_countAll cX4_countAll 5 (some .int) 2 4 := ⟨⟨Or.inl (List.mem_of_getElem? (i := 479) (by decide +kernel)), (List.mem_of_getElem? (i := 44) (by decide +kernel)), (List.mem_of_getElem? (i := 482) (by decide +kernel)), by decide +kernel, ⟨by decide +kernel, by decide +kernel, by decide +kernel⟩, (Nat.le_of_ble_eq_true rfl)⟩, ⟨(List.mem_of_getElem? (i := 481) (by decide +kernel)), (List.mem_of_getElem? (i := 6) (by decide +kernel))⟩, TX4, 2, rfl⟩
theorem okV_X4_44 : tv_okV RX4 44 yX4_votesFor cX4_votesFor 3 (some .int) 2 4 := ⟨⟨Or.inl (List.mem_of_getElem? (i := 483) (by decide +kernel)), (List.mem_of_getElem? (i := 44) (by decide +kernel)), (List.mem_of_getElem? (i := 486) (by decide +kernel)), by decide +kernel, ⟨by decide +kernel, by decide +kernel, by decide +kernel⟩, (Nat.le_of_ble_eq_true rfl)⟩, ⟨(List.mem_of_getElem? (i := 484) (by decide +kernel)), (List.mem_of_getElem? (i := 485) (by decide +kernel))⟩, TX4, 2, rfl⟩
theorem okV_X5_102 : tv_okV RX5 102 yX5_appointCaretaker cX5_appointCaretaker 2 none 1 5 := ⟨⟨Or.inl (List.mem_of_getElem? (i := 331) (by decide +kernel)), (List.mem_of_getElem? (i := 41) (by decide +kernel)), (List.mem_of_getElem? (i := 334) (by decide +kernel)), by decide +kernel, ⟨by decide +kernel, by decide +kernel, by decide +kernel⟩, (Nat.le_of_ble_eq_true rfl)⟩, ⟨(List.mem_of_getElem? (i := 333) (by decide +kernel)), (List.mem_of_getElem? (i := 1) (by decide +kernel))⟩, TX5, 12, rfl⟩
theorem okV_X5_105 : tv_okV RX5 105 yX6_latestPlannedEnd cX6_latestPlannedEnd 1 (some .int) 0 6 := ⟨⟨Or.inl (List.mem_of_getElem? (i := 398) (by decide +kernel)), (List.mem_of_getElem? (i := 45) (by decide +kernel)), (List.mem_of_getElem? (i := 401) (by decide +kernel)), by decide +kernel, ⟨by decide +kernel, by decide +kernel, by decide +kernel⟩, (Nat.le_of_ble_eq_true rfl)⟩, ⟨(List.mem_of_getElem? (i := 399) (by decide +kernel)), (List.mem_of_getElem? (i := 400) (by decide +kernel))⟩, TX6, 9, rfl⟩
theorem okV_X5_114 : tv_okV RX5 114 yX5_countSignatures cX5_countSignatures 1 (some .int) 0 5 := ⟨⟨Or.inl (List.mem_of_getElem? (i := 303) (by decide +kernel)), (List.mem_of_getElem? (i := 41) (by decide +kernel)), (List.mem_of_getElem? (i := 306) (by decide +kernel)), by decide +kernel, ⟨by decide +kernel, by decide +kernel, by decide +kernel⟩, (Nat.le_of_ble_eq_true rfl)⟩, ⟨(List.mem_of_getElem? (i := 304) (by decide +kernel)), (List.mem_of_getElem? (i := 305) (by decide +kernel))⟩, TX5, 12, rfl⟩
theorem okV_X5_117 : tv_okV RX5 117 yX6_begin cX6_begin 6 none 4 6 := ⟨⟨Or.inl (List.mem_of_getElem? (i := 504) (by decide +kernel)), (List.mem_of_getElem? (i := 45) (by decide +kernel)), (List.mem_of_getElem? (i := 507) (by decide +kernel)), by decide +kernel, ⟨by decide +kernel, by decide +kernel, by decide +kernel⟩, (Nat.le_of_ble_eq_true rfl)⟩, ⟨(List.mem_of_getElem? (i := 505) (by decide +kernel)), (List.mem_of_getElem? (i := 506) (by decide +kernel))⟩, TX6, 9, rfl⟩
theorem okV_X5_121 : tv_okV RX5 121 yX1_tell cX1_tell 5 none 3 1 := ⟨⟨Or.inl (List.mem_of_getElem? (i := 327) (by decide +kernel)), (List.mem_of_getElem? (i := 46) (by decide +kernel)), (List.mem_of_getElem? (i := 330) (by decide +kernel)), by decide +kernel, ⟨by decide +kernel, by decide +kernel, by decide +kernel⟩, (Nat.le_of_ble_eq_true rfl)⟩, ⟨(List.mem_of_getElem? (i := 328) (by decide +kernel)), (List.mem_of_getElem? (i := 329) (by decide +kernel))⟩, TX1, 4, rfl⟩
theorem okV_X5_125 : tv_okV RX5 125 yX6_finishLatest cX6_finishLatest 3 none 2 6 := ⟨⟨Or.inl (List.mem_of_getElem? (i := 320) (by decide +kernel)), (List.mem_of_getElem? (i := 45) (by decide +kernel)), (List.mem_of_getElem? (i := 323) (by decide +kernel)), by decide +kernel, ⟨by decide +kernel, by decide +kernel, by decide +kernel⟩, (Nat.le_of_ble_eq_true rfl)⟩, ⟨(List.mem_of_getElem? (i := 321) (by decide +kernel)), (List.mem_of_getElem? (i := 322) (by decide +kernel))⟩, TX6, 9, rfl⟩
theorem okV_X5_129 : tv_okV RX5 129 yX5_bestCaretaker cX5_bestCaretaker 8 (some .int) 1 5 := ⟨⟨Or.inl (List.mem_of_getElem? (i := 335) (by decide +kernel)), (List.mem_of_getElem? (i := 41) (by decide +kernel)), (List.mem_of_getElem? (i := 338) (by decide +kernel)), by decide +kernel, ⟨by decide +kernel, by decide +kernel, by decide +kernel⟩, (Nat.le_of_ble_eq_true rfl)⟩, ⟨(List.mem_of_getElem? (i := 337) (by decide +kernel)), (List.mem_of_getElem? (i := 2) (by decide +kernel))⟩, TX5, 12, rfl⟩
theorem okV_X5_132 : tv_okV RX5 132 yX6_reputation cX6_reputation 6 (some .int) 2 6 := ⟨⟨Or.inl (List.mem_of_getElem? (i := 342) (by decide +kernel)), (List.mem_of_getElem? (i := 45) (by decide +kernel)), (List.mem_of_getElem? (i := 345) (by decide +kernel)), by decide +kernel, ⟨by decide +kernel, by decide +kernel, by decide +kernel⟩, (Nat.le_of_ble_eq_true rfl)⟩, ⟨(List.mem_of_getElem? (i := 343) (by decide +kernel)), (List.mem_of_getElem? (i := 344) (by decide +kernel))⟩, TX6, 9, rfl⟩
theorem okV_X5_136 : tv_okV RX5 136 yX6_countLed cX6_countLed 4 (some .int) 1 6 := ⟨⟨Or.inl (List.mem_of_getElem? (i := 350) (by decide +kernel)), (List.mem_of_getElem? (i := 45) (by decide +kernel)), (List.mem_of_getElem? (i := 353) (by decide +kernel)), by decide +kernel, ⟨by decide +kernel, by decide +kernel, by decide +kernel⟩, (Nat.le_of_ble_eq_true rfl)⟩, ⟨(List.mem_of_getElem? (i := 351) (by decide +kernel)), (List.mem_of_getElem? (i := 352) (by decide +kernel))⟩, TX6, 9, rfl⟩
theorem okV_X5_142 : tv_okV RX5 142 yX5_hasQuorum cX5_hasQuorum 1 (some .boolean) 0 5 := ⟨⟨Or.inl (List.mem_of_getElem? (i := 455) (by decide +kernel)), (List.mem_of_getElem? (i := 41) (by decide +kernel)), (List.mem_of_getElem? (i := 458) (by decide +kernel)), by decide +kernel, ⟨by decide +kernel, by decide +kernel, by decide +kernel⟩, (Nat.le_of_ble_eq_true rfl)⟩, ⟨(List.mem_of_getElem? (i := 457) (by decide +kernel)), (List.mem_of_getElem? (i := 4) (by decide +kernel))⟩, TX5, 12, rfl⟩
theorem okV_X5_146 : tv_okV RX5 146 yX5_holdRounds cX5_holdRounds 4 (some .int) 0 5 := ⟨⟨Or.inl (List.mem_of_getElem? (i := 460) (by decide +kernel)), (List.mem_of_getElem? (i := 41) (by decide +kernel)), (List.mem_of_getElem? (i := 463) (by decide +kernel)), by decide +kernel, ⟨by decide +kernel, by decide +kernel, by decide +kernel⟩, (Nat.le_of_ble_eq_true rfl)⟩, ⟨(List.mem_of_getElem? (i := 462) (by decide +kernel)), (List.mem_of_getElem? (i := 5) (by decide +kernel))⟩, TX5, 12, rfl⟩
theorem okV_X5_149 : tv_okV RX5 149 yX2_finish cX2_finish 1 none 0 2 := ⟨⟨Or.inl (List.mem_of_getElem? (i := 496) (by decide +kernel)), (List.mem_of_getElem? (i := 42) (by decide +kernel)), (List.mem_of_getElem? (i := 499) (by decide +kernel)), by decide +kernel, ⟨by decide +kernel, by decide +kernel, by decide +kernel⟩, (Nat.le_of_ble_eq_true rfl)⟩, ⟨(List.mem_of_getElem? (i := 497) (by decide +kernel)), (List.mem_of_getElem? (i := 498) (by decide +kernel))⟩, TX2, 3, rfl⟩
theorem okV_X5_152 : tv_okV RX5 152 yX5_beginTerm cX5_beginTerm 2 none 1 5 := ⟨⟨Or.inl (List.mem_of_getElem? (i := 500) (by decide +kernel)), (List.mem_of_getElem? (i := 41) (by decide +kernel)), (List.mem_of_getElem? (i := 503) (by decide +kernel)), by decide +kernel, ⟨by decide +kernel, by decide +kernel, by decide +kernel⟩, (Nat.le_of_ble_eq_true rfl)⟩, ⟨(List.mem_of_getElem? (i := 502) (by decide +kernel)), (List.mem_of_getElem? (i := 9) (by decide +kernel))⟩, TX5, 12, rfl⟩
theorem okV_X5_155 : tv_okV RX5 155 yX2_countBallots cX2_countBallots 3 (some .int) 0 2 := ⟨⟨Or.inl (List.mem_of_getElem? (i := 459) (by decide +kernel)), (List.mem_of_getElem? (i := 42) (by decide +kernel)), (List.mem_of_getElem? (i := 442) (by decide +kernel)), by decide +kernel, ⟨by decide +kernel, by decide +kernel, by decide +kernel⟩, (Nat.le_of_ble_eq_true rfl)⟩, ⟨(List.mem_of_getElem? (i := 440) (by decide +kernel)), (List.mem_of_getElem? (i := 441) (by decide +kernel))⟩, TX2, 3, rfl⟩
theorem okV_X5_161 : tv_okV RX5 161 yX4_count cX4_count 7 none 3 4 := ⟨⟨Or.inl (List.mem_of_getElem? (i := 464) (by decide +kernel)), (List.mem_of_getElem? (i := 44) (by decide +kernel)), (List.mem_of_getElem? (i := 467) (by decide +kernel)), by decide +kernel, ⟨by decide +kernel, by decide +kernel, by decide +kernel⟩, (Nat.le_of_ble_eq_true rfl)⟩, ⟨(List.mem_of_getElem? (i := 465) (by decide +kernel)), (List.mem_of_getElem? (i := 466) (by decide +kernel))⟩, TX4, 2, rfl⟩
theorem okV_X5_165 : tv_okV RX5 165 yX4_winner cX4_winner 6 (some .int) 2 4 := ⟨⟨Or.inl (List.mem_of_getElem? (i := 474) (by decide +kernel)), (List.mem_of_getElem? (i := 44) (by decide +kernel)), (List.mem_of_getElem? (i := 477) (by decide +kernel)), by decide +kernel, ⟨by decide +kernel, by decide +kernel, by decide +kernel⟩, (Nat.le_of_ble_eq_true rfl)⟩, ⟨(List.mem_of_getElem? (i := 475) (by decide +kernel)), (List.mem_of_getElem? (i := 476) (by decide +kernel))⟩, TX4, 2, rfl⟩
theorem okV_X5_168 : tv_okV RX5 168 yX5_weakest cX5_weakest 5 (some .int) 2 5 := ⟨⟨Or.inl (List.mem_of_getElem? (i := 487) (by decide +kernel)), (List.mem_of_getElem? (i := 41) (by decide +kernel)), (List.mem_of_getElem? (i := 490) (by decide +kernel)), by decide +kernel, ⟨by decide +kernel, by decide +kernel, by decide +kernel⟩, (Nat.le_of_ble_eq_true rfl)⟩, ⟨(List.mem_of_getElem? (i := 489) (by decide +kernel)), (List.mem_of_getElem? (i := 7) (by decide +kernel))⟩, TX5, 12, rfl⟩
theorem okV_X5_171 : tv_okV RX5 171 yX5_leavesRather cX5_leavesRather 6 (some .boolean) 3 5 := ⟨⟨Or.inl (List.mem_of_getElem? (i := 491) (by decide +kernel)), (List.mem_of_getElem? (i := 41) (by decide +kernel)), (List.mem_of_getElem? (i := 494) (by decide +kernel)), by decide +kernel, ⟨by decide +kernel, by decide +kernel, by decide +kernel⟩, (Nat.le_of_ble_eq_true rfl)⟩, ⟨(List.mem_of_getElem? (i := 493) (by decide +kernel)), (List.mem_of_getElem? (i := 8) (by decide +kernel))⟩, TX5, 12, rfl⟩
theorem okV_X5_175 : tv_okV RX5 175 yX4_votesFor cX4_votesFor 3 (some .int) 2 4 := ⟨⟨Or.inl (List.mem_of_getElem? (i := 495) (by decide +kernel)), (List.mem_of_getElem? (i := 44) (by decide +kernel)), (List.mem_of_getElem? (i := 486) (by decide +kernel)), by decide +kernel, ⟨by decide +kernel, by decide +kernel, by decide +kernel⟩, (Nat.le_of_ble_eq_true rfl)⟩, ⟨(List.mem_of_getElem? (i := 484) (by decide +kernel)), (List.mem_of_getElem? (i := 485) (by decide +kernel))⟩, TX4, 2, rfl⟩
theorem okV_X5_178 : tv_okV RX5 178 yX5_isPresent cX5_isPresent 2 (some .boolean) 1 5 := ⟨⟨Or.inl (List.mem_of_getElem? (i := 415) (by decide +kernel)), (List.mem_of_getElem? (i := 41) (by decide +kernel)), (List.mem_of_getElem? (i := 373) (by decide +kernel)), by decide +kernel, ⟨by decide +kernel, by decide +kernel, by decide +kernel⟩, (Nat.le_of_ble_eq_true rfl)⟩, ⟨(List.mem_of_getElem? (i := 371) (by decide +kernel)), (List.mem_of_getElem? (i := 372) (by decide +kernel))⟩, TX5, 12, rfl⟩
theorem okV_X5_182 : tv_okV RX5 182 yX6_countLedInARow cX6_countLedInARow 4 (some .int) 1 6 := ⟨⟨Or.inl (List.mem_of_getElem? (i := 416) (by decide +kernel)), (List.mem_of_getElem? (i := 45) (by decide +kernel)), (List.mem_of_getElem? (i := 419) (by decide +kernel)), by decide +kernel, ⟨by decide +kernel, by decide +kernel, by decide +kernel⟩, (Nat.le_of_ble_eq_true rfl)⟩, ⟨(List.mem_of_getElem? (i := 417) (by decide +kernel)), (List.mem_of_getElem? (i := 418) (by decide +kernel))⟩, TX6, 9, rfl⟩
theorem okV_X5_189 : tv_okV RX5 189 yX5_canLead cX5_canLead 2 (some .boolean) 1 5 := ⟨⟨Or.inl (List.mem_of_getElem? (i := 603) (by decide +kernel)), (List.mem_of_getElem? (i := 41) (by decide +kernel)), (List.mem_of_getElem? (i := 414) (by decide +kernel)), by decide +kernel, ⟨by decide +kernel, by decide +kernel, by decide +kernel⟩, (Nat.le_of_ble_eq_true rfl)⟩, ⟨(List.mem_of_getElem? (i := 412) (by decide +kernel)), (List.mem_of_getElem? (i := 413) (by decide +kernel))⟩, TX5, 12, rfl⟩
theorem okV_X5_74 : tv_okV RX5 74 yX2_copy cX2_copy 2 none 1 2 := ⟨⟨Or.inl (List.mem_of_getElem? (i := 273) (by decide +kernel)), (List.mem_of_getElem? (i := 42) (by decide +kernel)), (List.mem_of_getElem? (i := 276) (by decide +kernel)), by decide +kernel, ⟨by decide +kernel, by decide +kernel, by decide +kernel⟩, (Nat.le_of_ble_eq_true rfl)⟩, ⟨(List.mem_of_getElem? (i := 274) (by decide +kernel)), (List.mem_of_getElem? (i := 275) (by decide +kernel))⟩, TX2, 3, rfl⟩
theorem okV_X5_78 : tv_okV RX5 78 yX4_copy cX4_copy 2 none 1 4 := ⟨⟨Or.inl (List.mem_of_getElem? (i := 278) (by decide +kernel)), (List.mem_of_getElem? (i := 44) (by decide +kernel)), (List.mem_of_getElem? (i := 281) (by decide +kernel)), by decide +kernel, ⟨by decide +kernel, by decide +kernel, by decide +kernel⟩, (Nat.le_of_ble_eq_true rfl)⟩, ⟨(List.mem_of_getElem? (i := 279) (by decide +kernel)), (List.mem_of_getElem? (i := 280) (by decide +kernel))⟩, TX4, 2, rfl⟩
theorem okV_X5_81 : tv_okV RX5 81 yX6_copy cX6_copy 2 none 1 6 := ⟨⟨Or.inl (List.mem_of_getElem? (i := 283) (by decide +kernel)), (List.mem_of_getElem? (i := 45) (by decide +kernel)), (List.mem_of_getElem? (i := 286) (by decide +kernel)), by decide +kernel, ⟨by decide +kernel, by decide +kernel, by decide +kernel⟩, (Nat.le_of_ble_eq_true rfl)⟩, ⟨(List.mem_of_getElem? (i := 284) (by decide +kernel)), (List.mem_of_getElem? (i := 285) (by decide +kernel))⟩, TX6, 9, rfl⟩
theorem okV_X5_84 : tv_okV RX5 84 yX1_copy cX1_copy 2 none 1 1 := ⟨⟨Or.inl (List.mem_of_getElem? (i := 291) (by decide +kernel)), (List.mem_of_getElem? (i := 46) (by decide +kernel)), (List.mem_of_getElem? (i := 294) (by decide +kernel)), by decide +kernel, ⟨by decide +kernel, by decide +kernel, by decide +kernel⟩, (Nat.le_of_ble_eq_true rfl)⟩, ⟨(List.mem_of_getElem? (i := 292) (by decide +kernel)), (List.mem_of_getElem? (i := 293) (by decide +kernel))⟩, TX1, 4, rfl⟩
theorem okV_X5_95 : tv_okV RX5 95 yX2_forget cX2_forget 3 none 1 2 := ⟨⟨Or.inl (List.mem_of_getElem? (i := 380) (by decide +kernel)), (List.mem_of_getElem? (i := 42) (by decide +kernel)), (List.mem_of_getElem? (i := 383) (by decide +kernel)), by decide +kernel, ⟨by decide +kernel, by decide +kernel, by decide +kernel⟩, (Nat.le_of_ble_eq_true rfl)⟩, ⟨(List.mem_of_getElem? (i := 381) (by decide +kernel)), (List.mem_of_getElem? (i := 382) (by decide +kernel))⟩, TX2, 3, rfl⟩
theorem okV_X5_99 : tv_okV RX5 99 yX5_endTerm cX5_endTerm 3 none 1 5 := ⟨⟨Or.inl (List.mem_of_getElem? (i := 316) (by decide +kernel)), (List.mem_of_getElem? (i := 41) (by decide +kernel)), (List.mem_of_getElem? (i := 319) (by decide +kernel)), by decide +kernel, ⟨by decide +kernel, by decide +kernel, by decide +kernel⟩, (Nat.le_of_ble_eq_true rfl)⟩, ⟨(List.mem_of_getElem? (i := 318) (by decide +kernel)), (List.mem_of_getElem? (i := 0) (by decide +kernel))⟩, TX5, 12, rfl⟩
theorem okV_X6_54 : tv_okV RX6 54 yX6_isOver cX6_isOver 2 (some .boolean) 1 6 := ⟨⟨Or.inl (List.mem_of_getElem? (i := 559) (by decide +kernel)), (List.mem_of_getElem? (i := 45) (by decide +kernel)), (List.mem_of_getElem? (i := 562) (by decide +kernel)), by decide +kernel, ⟨by decide +kernel, by decide +kernel, by decide +kernel⟩, (Nat.le_of_ble_eq_true rfl)⟩, ⟨(List.mem_of_getElem? (i := 560) (by decide +kernel)), (List.mem_of_getElem? (i := 561) (by decide +kernel))⟩, TX6, 9, rfl⟩
theorem okV_X6_62 : tv_okV RX6 62 yX6_givenPoints cX6_givenPoints 3 (some .int) 2 6 := ⟨⟨Or.inl (List.mem_of_getElem? (i := 572) (by decide +kernel)), (List.mem_of_getElem? (i := 45) (by decide +kernel)), (List.mem_of_getElem? (i := 575) (by decide +kernel)), by decide +kernel, ⟨by decide +kernel, by decide +kernel, by decide +kernel⟩, (Nat.le_of_ble_eq_true rfl)⟩, ⟨(List.mem_of_getElem? (i := 573) (by decide +kernel)), (List.mem_of_getElem? (i := 574) (by decide +kernel))⟩, TX6, 9, rfl⟩
theorem okV_X6_66 : tv_okV RX6 66 yX6_countGrades cX6_countGrades 4 (some .int) 1 6 := ⟨⟨Or.inl (List.mem_of_getElem? (i := 584) (by decide +kernel)), (List.mem_of_getElem? (i := 45) (by decide +kernel)), (List.mem_of_getElem? (i := 571) (by decide +kernel)), by decide +kernel, ⟨by decide +kernel, by decide +kernel, by decide +kernel⟩, (Nat.le_of_ble_eq_true rfl)⟩, ⟨(List.mem_of_getElem? (i := 569) (by decide +kernel)), (List.mem_of_getElem? (i := 570) (by decide +kernel))⟩, TX6, 9, rfl⟩
theorem okV_X6_70 : tv_okV RX6 70 yX6_score cX6_score 6 (some .int) 1 6 := ⟨⟨Or.inl (List.mem_of_getElem? (i := 346) (by decide +kernel)), (List.mem_of_getElem? (i := 45) (by decide +kernel)), (List.mem_of_getElem? (i := 349) (by decide +kernel)), by decide +kernel, ⟨by decide +kernel, by decide +kernel, by decide +kernel⟩, (Nat.le_of_ble_eq_true rfl)⟩, ⟨(List.mem_of_getElem? (i := 347) (by decide +kernel)), (List.mem_of_getElem? (i := 348) (by decide +kernel))⟩, TX6, 9, rfl⟩
theorem okV_X7_112 : tv_okV RX7 112 yX5_canLead cX5_canLead 2 (some .boolean) 1 5 := ⟨⟨Or.inl (List.mem_of_getElem? (i := 411) (by decide +kernel)), (List.mem_of_getElem? (i := 41) (by decide +kernel)), (List.mem_of_getElem? (i := 414) (by decide +kernel)), by decide +kernel, ⟨by decide +kernel, by decide +kernel, by decide +kernel⟩, (Nat.le_of_ble_eq_true rfl)⟩, ⟨(List.mem_of_getElem? (i := 412) (by decide +kernel)), (List.mem_of_getElem? (i := 413) (by decide +kernel))⟩, TX5, 12, rfl⟩
theorem okV_X7_120 : tv_okV RX7 120 yX0_errorPlace cX0_errorPlace 5 (some .int) 1 0 := ⟨⟨Or.inl (List.mem_of_getElem? (i := 425) (by decide +kernel)), (List.mem_of_getElem? (i := 40) (by decide +kernel)), (List.mem_of_getElem? (i := 428) (by decide +kernel)), by decide +kernel, ⟨by decide +kernel, by decide +kernel, by decide +kernel⟩, (Nat.le_of_ble_eq_true rfl)⟩, ⟨(List.mem_of_getElem? (i := 426) (by decide +kernel)), (List.mem_of_getElem? (i := 427) (by decide +kernel))⟩, TX0, 2, rfl⟩
theorem okV_X7_123 : tv_okV RX7 123 yX2_take cX2_take 4 none 2 2 := ⟨⟨Or.inl (List.mem_of_getElem? (i := 431) (by decide +kernel)), (List.mem_of_getElem? (i := 42) (by decide +kernel)), (List.mem_of_getElem? (i := 434) (by decide +kernel)), by decide +kernel, ⟨by decide +kernel, by decide +kernel, by decide +kernel⟩, (Nat.le_of_ble_eq_true rfl)⟩, ⟨(List.mem_of_getElem? (i := 432) (by decide +kernel)), (List.mem_of_getElem? (i := 433) (by decide +kernel))⟩, TX2, 3, rfl⟩
theorem okV_X7_130 : tv_okV RX7 130 yX2_countBallots cX2_countBallots 3 (some .int) 0 2 := ⟨⟨Or.inl (List.mem_of_getElem? (i := 439) (by decide +kernel)), (List.mem_of_getElem? (i := 42) (by decide +kernel)), (List.mem_of_getElem? (i := 442) (by decide +kernel)), by decide +kernel, ⟨by decide +kernel, by decide +kernel, by decide +kernel⟩, (Nat.le_of_ble_eq_true rfl)⟩, ⟨(List.mem_of_getElem? (i := 440) (by decide +kernel)), (List.mem_of_getElem? (i := 441) (by decide +kernel))⟩, TX2, 3, rfl⟩
theorem okV_X7_134 : tv_okV RX7 134 yX5_elect cX5_elect 2 (some .int) 0 5 := ⟨⟨Or.inl (List.mem_of_getElem? (i := 451) (by decide +kernel)), (List.mem_of_getElem? (i := 41) (by decide +kernel)), (List.mem_of_getElem? (i := 454) (by decide +kernel)), by decide +kernel, ⟨by decide +kernel, by decide +kernel, by decide +kernel⟩, (Nat.le_of_ble_eq_true rfl)⟩, ⟨(List.mem_of_getElem? (i := 452) (by decide +kernel)), (List.mem_of_getElem? (i := 453) (by decide +kernel))⟩, TX5, 12, rfl⟩
theorem okV_X7_146 : tv_okV RX7 146 yX4_votesFor cX4_votesFor 3 (some .int) 2 4 := ⟨⟨Or.inl (List.mem_of_getElem? (i := 516) (by decide +kernel)), (List.mem_of_getElem? (i := 44) (by decide +kernel)), (List.mem_of_getElem? (i := 486) (by decide +kernel)), by decide +kernel, ⟨by decide +kernel, by decide +kernel, by decide +kernel⟩, (Nat.le_of_ble_eq_true rfl)⟩, ⟨(List.mem_of_getElem? (i := 484) (by decide +kernel)), (List.mem_of_getElem? (i := 485) (by decide +kernel))⟩, TX4, 2, rfl⟩
theorem okV_X7_150 : tv_okV RX7 150 yX2_choice cX2_choice 3 (some .int) 2 2 := ⟨⟨Or.inl (List.mem_of_getElem? (i := 521) (by decide +kernel)), (List.mem_of_getElem? (i := 42) (by decide +kernel)), (List.mem_of_getElem? (i := 446) (by decide +kernel)), by decide +kernel, ⟨by decide +kernel, by decide +kernel, by decide +kernel⟩, (Nat.le_of_ble_eq_true rfl)⟩, ⟨(List.mem_of_getElem? (i := 444) (by decide +kernel)), (List.mem_of_getElem? (i := 445) (by decide +kernel))⟩, TX2, 3, rfl⟩
theorem okV_X7_156 : tv_okV RX7 156 yX6_latestDeeds cX6_latestDeeds 1 (some .int) 0 6 := ⟨⟨Or.inl (List.mem_of_getElem? (i := 534) (by decide +kernel)), (List.mem_of_getElem? (i := 45) (by decide +kernel)), (List.mem_of_getElem? (i := 537) (by decide +kernel)), by decide +kernel, ⟨by decide +kernel, by decide +kernel, by decide +kernel⟩, (Nat.le_of_ble_eq_true rfl)⟩, ⟨(List.mem_of_getElem? (i := 535) (by decide +kernel)), (List.mem_of_getElem? (i := 536) (by decide +kernel))⟩, TX6, 9, rfl⟩
theorem okV_X7_159 : tv_okV RX7 159 yX6_setLatestDeeds cX6_setLatestDeeds 2 none 1 6 := ⟨⟨Or.inl (List.mem_of_getElem? (i := 538) (by decide +kernel)), (List.mem_of_getElem? (i := 45) (by decide +kernel)), (List.mem_of_getElem? (i := 541) (by decide +kernel)), by decide +kernel, ⟨by decide +kernel, by decide +kernel, by decide +kernel⟩, (Nat.le_of_ble_eq_true rfl)⟩, ⟨(List.mem_of_getElem? (i := 539) (by decide +kernel)), (List.mem_of_getElem? (i := 540) (by decide +kernel))⟩, TX6, 9, rfl⟩
theorem okV_X7_165 : tv_okV RX7 165 yX5_countSignatures cX5_countSignatures 1 (some .int) 0 5 := ⟨⟨Or.inl (List.mem_of_getElem? (i := 546) (by decide +kernel)), (List.mem_of_getElem? (i := 41) (by decide +kernel)), (List.mem_of_getElem? (i := 306) (by decide +kernel)), by decide +kernel, ⟨by decide +kernel, by decide +kernel, by decide +kernel⟩, (Nat.le_of_ble_eq_true rfl)⟩, ⟨(List.mem_of_getElem? (i := 304) (by decide +kernel)), (List.mem_of_getElem? (i := 305) (by decide +kernel))⟩, TX5, 12, rfl⟩
theorem okV_X7_168 : tv_okV RX7 168 yX6_isTerm cX6_isTerm 2 (some .boolean) 1 6 := ⟨⟨Or.inl (List.mem_of_getElem? (i := 551) (by decide +kernel)), (List.mem_of_getElem? (i := 45) (by decide +kernel)), (List.mem_of_getElem? (i := 554) (by decide +kernel)), by decide +kernel, ⟨by decide +kernel, by decide +kernel, by decide +kernel⟩, (Nat.le_of_ble_eq_true rfl)⟩, ⟨(List.mem_of_getElem? (i := 552) (by decide +kernel)), (List.mem_of_getElem? (i := 553) (by decide +kernel))⟩, TX6, 9, rfl⟩
theorem okV_X7_171 : tv_okV RX7 171 yX6_mayGrade cX6_mayGrade 4 (some .boolean) 3 6 := ⟨⟨Or.inl (List.mem_of_getElem? (i := 555) (by decide +kernel)), (List.mem_of_getElem? (i := 45) (by decide +kernel)), (List.mem_of_getElem? (i := 558) (by decide +kernel)), by decide +kernel, ⟨by decide +kernel, by decide +kernel, by decide +kernel⟩, (Nat.le_of_ble_eq_true rfl)⟩, ⟨(List.mem_of_getElem? (i := 556) (by decide +kernel)), (List.mem_of_getElem? (i := 557) (by decide +kernel))⟩, TX6, 9, rfl⟩
theorem okV_X7_178 : tv_okV RX7 178 yX6_putGrade cX6_putGrade 4 none 3 6 := ⟨⟨Or.inl (List.mem_of_getElem? (i := 564) (by decide +kernel)), (List.mem_of_getElem? (i := 45) (by decide +kernel)), (List.mem_of_getElem? (i := 567) (by decide +kernel)), by decide +kernel, ⟨by decide +kernel, by decide +kernel, by decide +kernel⟩, (Nat.le_of_ble_eq_true rfl)⟩, ⟨(List.mem_of_getElem? (i := 565) (by decide +kernel)), (List.mem_of_getElem? (i := 566) (by decide +kernel))⟩, TX6, 9, rfl⟩
theorem okV_X7_182 : tv_okV RX7 182 yX6_countGrades cX6_countGrades 4 (some .int) 1 6 := ⟨⟨Or.inl (List.mem_of_getElem? (i := 568) (by decide +kernel)), (List.mem_of_getElem? (i := 45) (by decide +kernel)), (List.mem_of_getElem? (i := 571) (by decide +kernel)), by decide +kernel, ⟨by decide +kernel, by decide +kernel, by decide +kernel⟩, (Nat.le_of_ble_eq_true rfl)⟩, ⟨(List.mem_of_getElem? (i := 569) (by decide +kernel)), (List.mem_of_getElem? (i := 570) (by decide +kernel))⟩, TX6, 9, rfl⟩
theorem okV_X7_185 : tv_okV RX7 185 yX6_number cX6_number 3 (some .int) 2 6 := ⟨⟨Or.inl (List.mem_of_getElem? (i := 580) (by decide +kernel)), (List.mem_of_getElem? (i := 45) (by decide +kernel)), (List.mem_of_getElem? (i := 583) (by decide +kernel)), by decide +kernel, ⟨by decide +kernel, by decide +kernel, by decide +kernel⟩, (Nat.le_of_ble_eq_true rfl)⟩, ⟨(List.mem_of_getElem? (i := 581) (by decide +kernel)), (List.mem_of_getElem? (i := 582) (by decide +kernel))⟩, TX6, 9, rfl⟩
theorem okV_X7_188 : tv_okV RX7 188 yX6_givenPoints cX6_givenPoints 3 (some .int) 2 6 := ⟨⟨Or.inl (List.mem_of_getElem? (i := 589) (by decide +kernel)), (List.mem_of_getElem? (i := 45) (by decide +kernel)), (List.mem_of_getElem? (i := 575) (by decide +kernel)), by decide +kernel, ⟨by decide +kernel, by decide +kernel, by decide +kernel⟩, (Nat.le_of_ble_eq_true rfl)⟩, ⟨(List.mem_of_getElem? (i := 573) (by decide +kernel)), (List.mem_of_getElem? (i := 574) (by decide +kernel))⟩, TX6, 9, rfl⟩
theorem okV_X7_191 : tv_okV RX7 191 yX5_numberOf cX5_numberOf 3 (some .int) 2 5 := ⟨⟨Or.inl (List.mem_of_getElem? (i := 598) (by decide +kernel)), (List.mem_of_getElem? (i := 41) (by decide +kernel)), (List.mem_of_getElem? (i := 601) (by decide +kernel)), by decide +kernel, ⟨by decide +kernel, by decide +kernel, by decide +kernel⟩, (Nat.le_of_ble_eq_true rfl)⟩, ⟨(List.mem_of_getElem? (i := 599) (by decide +kernel)), (List.mem_of_getElem? (i := 600) (by decide +kernel))⟩, TX5, 12, rfl⟩
theorem okV_X7_201 : tv_okV RX7 201 yX1_number cX1_number 4 (some .int) 2 1 := ⟨⟨Or.inl (List.mem_of_getElem? (i := 616) (by decide +kernel)), (List.mem_of_getElem? (i := 46) (by decide +kernel)), (List.mem_of_getElem? (i := 619) (by decide +kernel)), by decide +kernel, ⟨by decide +kernel, by decide +kernel, by decide +kernel⟩, (Nat.le_of_ble_eq_true rfl)⟩, ⟨(List.mem_of_getElem? (i := 617) (by decide +kernel)), (List.mem_of_getElem? (i := 618) (by decide +kernel))⟩, TX1, 4, rfl⟩
theorem okV_X7_202 : tv_okV RX7 202 yX0_append cX0_append 2 (some .int) 1 0 := ⟨⟨Or.inl (List.mem_of_getElem? (i := 624) (by decide +kernel)), (List.mem_of_getElem? (i := 40) (by decide +kernel)), (List.mem_of_getElem? (i := 627) (by decide +kernel)), by decide +kernel, ⟨by decide +kernel, by decide +kernel, by decide +kernel⟩, (Nat.le_of_ble_eq_true rfl)⟩, ⟨(List.mem_of_getElem? (i := 625) (by decide +kernel)), (List.mem_of_getElem? (i := 626) (by decide +kernel))⟩, TX0, 2, rfl⟩
theorem okV_X7_206 : tv_okV RX7 206 yX3_restore cX3_restore 2 none 1 3 := ⟨⟨Or.inl (List.mem_of_getElem? (i := 636) (by decide +kernel)), (List.mem_of_getElem? (i := 48) (by decide +kernel)), (List.mem_of_getElem? (i := 639) (by decide +kernel)), by decide +kernel, ⟨by decide +kernel, by decide +kernel, by decide +kernel⟩, (Nat.le_of_ble_eq_true rfl)⟩, ⟨(List.mem_of_getElem? (i := 637) (by decide +kernel)), (List.mem_of_getElem? (i := 638) (by decide +kernel))⟩, TX3, 3, rfl⟩
theorem okV_X7_37 : tv_okV RX7 37 yX3_keep cX3_keep 2 none 1 3 := ⟨⟨Or.inl (List.mem_of_getElem? (i := 265) (by decide +kernel)), (List.mem_of_getElem? (i := 48) (by decide +kernel)), (List.mem_of_getElem? (i := 268) (by decide +kernel)), by decide +kernel, ⟨by decide +kernel, by decide +kernel, by decide +kernel⟩, (Nat.le_of_ble_eq_true rfl)⟩, ⟨(List.mem_of_getElem? (i := 266) (by decide +kernel)), (List.mem_of_getElem? (i := 267) (by decide +kernel))⟩, TX3, 3, rfl⟩
theorem okV_X7_44 : tv_okV RX7 44 yX5_lookAtPetition cX5_lookAtPetition 3 none 0 5 := ⟨⟨Or.inl (List.mem_of_getElem? (i := 299) (by decide +kernel)), (List.mem_of_getElem? (i := 41) (by decide +kernel)), (List.mem_of_getElem? (i := 302) (by decide +kernel)), by decide +kernel, ⟨by decide +kernel, by decide +kernel, by decide +kernel⟩, (Nat.le_of_ble_eq_true rfl)⟩, ⟨(List.mem_of_getElem? (i := 300) (by decide +kernel)), (List.mem_of_getElem? (i := 301) (by decide +kernel))⟩, TX5, 12, rfl⟩
theorem okV_X7_51 : tv_okV RX7 51 yX5_enrol cX5_enrol 3 (some .int) 1 5 := ⟨⟨Or.inl (List.mem_of_getElem? (i := 358) (by decide +kernel)), (List.mem_of_getElem? (i := 41) (by decide +kernel)), (List.mem_of_getElem? (i := 361) (by decide +kernel)), by decide +kernel, ⟨by decide +kernel, by decide +kernel, by decide +kernel⟩, (Nat.le_of_ble_eq_true rfl)⟩, ⟨(List.mem_of_getElem? (i := 359) (by decide +kernel)), (List.mem_of_getElem? (i := 360) (by decide +kernel))⟩, TX5, 12, rfl⟩
theorem okV_X7_55 : tv_okV RX7 55 yX5_isMember cX5_isMember 2 (some .boolean) 1 5 := ⟨⟨Or.inl (List.mem_of_getElem? (i := 366) (by decide +kernel)), (List.mem_of_getElem? (i := 41) (by decide +kernel)), (List.mem_of_getElem? (i := 369) (by decide +kernel)), by decide +kernel, ⟨by decide +kernel, by decide +kernel, by decide +kernel⟩, (Nat.le_of_ble_eq_true rfl)⟩, ⟨(List.mem_of_getElem? (i := 367) (by decide +kernel)), (List.mem_of_getElem? (i := 368) (by decide +kernel))⟩, TX5, 12, rfl⟩
theorem okV_X7_59 : tv_okV RX7 59 yX5_isPresent cX5_isPresent 2 (some .boolean) 1 5 := ⟨⟨Or.inl (List.mem_of_getElem? (i := 370) (by decide +kernel)), (List.mem_of_getElem? (i := 41) (by decide +kernel)), (List.mem_of_getElem? (i := 373) (by decide +kernel)), by decide +kernel, ⟨by decide +kernel, by decide +kernel, by decide +kernel⟩, (Nat.le_of_ble_eq_true rfl)⟩, ⟨(List.mem_of_getElem? (i := 371) (by decide +kernel)), (List.mem_of_getElem? (i := 372) (by decide +kernel))⟩, TX5, 12, rfl⟩
theorem okV_X7_72 : tv_okV RX7 72 yX5_leave cX5_leave 2 none 1 5 := ⟨⟨Or.inl (List.mem_of_getElem? (i := 376) (by decide +kernel)), (List.mem_of_getElem? (i := 41) (by decide +kernel)), (List.mem_of_getElem? (i := 379) (by decide +kernel)), by decide +kernel, ⟨by decide +kernel, by decide +kernel, by decide +kernel⟩, (Nat.le_of_ble_eq_true rfl)⟩, ⟨(List.mem_of_getElem? (i := 377) (by decide +kernel)), (List.mem_of_getElem? (i := 378) (by decide +kernel))⟩, TX5, 12, rfl⟩
theorem okV_X7_80 : tv_okV RX7 80 yX5_advance cX5_advance 3 none 1 5 := ⟨⟨Or.inl (List.mem_of_getElem? (i := 394) (by decide +kernel)), (List.mem_of_getElem? (i := 41) (by decide +kernel)), (List.mem_of_getElem? (i := 397) (by decide +kernel)), by decide +kernel, ⟨by decide +kernel, by decide +kernel, by decide +kernel⟩, (Nat.le_of_ble_eq_true rfl)⟩, ⟨(List.mem_of_getElem? (i := 395) (by decide +kernel)), (List.mem_of_getElem? (i := 396) (by decide +kernel))⟩, TX5, 12, rfl⟩
theorem okV_X8_101 : tv_okV RX8 101 yX8_ballots cX8_ballots 3 (some .int) 0 8 := ⟨⟨Or.inl (List.mem_of_getElem? (i := 787) (by decide +kernel)), (List.mem_of_getElem? (i := 49) (by decide +kernel)), (List.mem_of_getElem? (i := 790) (by decide +kernel)), by decide +kernel, ⟨by decide +kernel, by decide +kernel, by decide +kernel⟩, (Nat.le_of_ble_eq_true rfl)⟩, ⟨(List.mem_of_getElem? (i := 789) (by decide +kernel)), (List.mem_of_getElem? (i := 28) (by decide +kernel))⟩, TX8, 6, rfl⟩
theorem okV_X8_107 : tv_okV RX8 107 yX8_tallyAt cX8_tallyAt 3 (some .int) 2 8 := ⟨⟨Or.inl (List.mem_of_getElem? (i := 799) (by decide +kernel)), (List.mem_of_getElem? (i := 49) (by decide +kernel)), (List.mem_of_getElem? (i := 802) (by decide +kernel)), by decide +kernel, ⟨by decide +kernel, by decide +kernel, by decide +kernel⟩, (Nat.le_of_ble_eq_true rfl)⟩, ⟨(List.mem_of_getElem? (i := 801) (by decide +kernel)), (List.mem_of_getElem? (i := 30) (by decide +kernel))⟩, TX8, 6, rfl⟩
theorem okV_X8_110 : tv_okV RX8 110 yX8_firstOf cX8_firstOf 4 (some .int) 1 8 := ⟨⟨Or.inl (List.mem_of_getElem? (i := 803) (by decide +kernel)), (List.mem_of_getElem? (i := 49) (by decide +kernel)), (List.mem_of_getElem? (i := 806) (by decide +kernel)), by decide +kernel, ⟨by decide +kernel, by decide +kernel, by decide +kernel⟩, (Nat.le_of_ble_eq_true rfl)⟩, ⟨(List.mem_of_getElem? (i := 805) (by decide +kernel)), (List.mem_of_getElem? (i := 31) (by decide +kernel))⟩, TX8, 6, rfl⟩
theorem okV_X8_113 : tv_okV RX8 113 yX8_raceMany cX8_raceMany 3 (some .int) 0 8 := ⟨⟨Or.inl (List.mem_of_getElem? (i := 807) (by decide +kernel)), (List.mem_of_getElem? (i := 49) (by decide +kernel)), (List.mem_of_getElem? (i := 810) (by decide +kernel)), by decide +kernel, ⟨by decide +kernel, by decide +kernel, by decide +kernel⟩, (Nat.le_of_ble_eq_true rfl)⟩, ⟨(List.mem_of_getElem? (i := 809) (by decide +kernel)), (List.mem_of_getElem? (i := 32) (by decide +kernel))⟩, TX8, 6, rfl⟩
theorem okV_X8_116 : tv_okV RX8 116 yX8_isWeaker cX8_isWeaker 5 (some .boolean) 3 8 := ⟨⟨Or.inl (List.mem_of_getElem? (i := 811) (by decide +kernel)), (List.mem_of_getElem? (i := 49) (by decide +kernel)), (List.mem_of_getElem? (i := 814) (by decide +kernel)), by decide +kernel, ⟨by decide +kernel, by decide +kernel, by decide +kernel⟩, (Nat.le_of_ble_eq_true rfl)⟩, ⟨(List.mem_of_getElem? (i := 813) (by decide +kernel)), (List.mem_of_getElem? (i := 33) (by decide +kernel))⟩, TX8, 6, rfl⟩
theorem okV_X8_119 : tv_okV RX8 119 yX8_holdsRound cX8_holdsRound 5 (some .int) 1 8 := ⟨⟨Or.inl (List.mem_of_getElem? (i := 795) (by decide +kernel)), (List.mem_of_getElem? (i := 49) (by decide +kernel)), (List.mem_of_getElem? (i := 798) (by decide +kernel)), by decide +kernel, ⟨by decide +kernel, by decide +kernel, by decide +kernel⟩, (Nat.le_of_ble_eq_true rfl)⟩, ⟨(List.mem_of_getElem? (i := 797) (by decide +kernel)), (List.mem_of_getElem? (i := 29) (by decide +kernel))⟩, TX8, 6, rfl⟩
theorem okV_X8_122 : tv_okV RX8 122 yX8_begins cX8_begins 4 none 1 8 := ⟨⟨Or.inl (List.mem_of_getElem? (i := 815) (by decide +kernel)), (List.mem_of_getElem? (i := 49) (by decide +kernel)), (List.mem_of_getElem? (i := 818) (by decide +kernel)), by decide +kernel, ⟨by decide +kernel, by decide +kernel, by decide +kernel⟩, (Nat.le_of_ble_eq_true rfl)⟩, ⟨(List.mem_of_getElem? (i := 817) (by decide +kernel)), (List.mem_of_getElem? (i := 34) (by decide +kernel))⟩, TX8, 6, rfl⟩
theorem okV_X8_125 : tv_okV RX8 125 yX8_isTerm cX8_isTerm 2 (some .boolean) 1 8 := ⟨⟨Or.inl (List.mem_of_getElem? (i := 851) (by decide +kernel)), (List.mem_of_getElem? (i := 49) (by decide +kernel)), (List.mem_of_getElem? (i := 854) (by decide +kernel)), by decide +kernel, ⟨by decide +kernel, by decide +kernel, by decide +kernel⟩, (Nat.le_of_ble_eq_true rfl)⟩, ⟨(List.mem_of_getElem? (i := 853) (by decide +kernel)), (List.mem_of_getElem? (i := 35) (by decide +kernel))⟩, TX8, 6, rfl⟩
theorem okV_X8_128 : tv_okV RX8 128 yX8_toldOf cX8_toldOf 3 (some .int) 2 8 := ⟨⟨Or.inl (List.mem_of_getElem? (i := 859) (by decide +kernel)), (List.mem_of_getElem? (i := 49) (by decide +kernel)), (List.mem_of_getElem? (i := 862) (by decide +kernel)), by decide +kernel, ⟨by decide +kernel, by decide +kernel, by decide +kernel⟩, (Nat.le_of_ble_eq_true rfl)⟩, ⟨(List.mem_of_getElem? (i := 861) (by decide +kernel)), (List.mem_of_getElem? (i := 36) (by decide +kernel))⟩, TX8, 6, rfl⟩
theorem okV_X8_131 : tv_okV RX8 131 yX8_told cX8_told 3 (some .int) 2 8 := ⟨⟨Or.inl (List.mem_of_getElem? (i := 875) (by decide +kernel)), (List.mem_of_getElem? (i := 49) (by decide +kernel)), (List.mem_of_getElem? (i := 878) (by decide +kernel)), by decide +kernel, ⟨by decide +kernel, by decide +kernel, by decide +kernel⟩, (Nat.le_of_ble_eq_true rfl)⟩, ⟨(List.mem_of_getElem? (i := 877) (by decide +kernel)), (List.mem_of_getElem? (i := 37) (by decide +kernel))⟩, TX8, 6, rfl⟩
theorem okV_X8_34 : tv_okV RX8 34 yX8_grades cX8_grades 4 (some .int) 1 8 := ⟨⟨Or.inl (List.mem_of_getElem? (i := 730) (by decide +kernel)), (List.mem_of_getElem? (i := 49) (by decide +kernel)), (List.mem_of_getElem? (i := 733) (by decide +kernel)), by decide +kernel, ⟨by decide +kernel, by decide +kernel, by decide +kernel⟩, (Nat.le_of_ble_eq_true rfl)⟩, ⟨(List.mem_of_getElem? (i := 732) (by decide +kernel)), (List.mem_of_getElem? (i := 20) (by decide +kernel))⟩, TX8, 6, rfl⟩
theorem okV_X8_38 : tv_okV RX8 38 yX8_scoreOf cX8_scoreOf 5 (some .int) 1 8 := ⟨⟨Or.inl (List.mem_of_getElem? (i := 726) (by decide +kernel)), (List.mem_of_getElem? (i := 49) (by decide +kernel)), (List.mem_of_getElem? (i := 729) (by decide +kernel)), by decide +kernel, ⟨by decide +kernel, by decide +kernel, by decide +kernel⟩, (Nat.le_of_ble_eq_true rfl)⟩, ⟨(List.mem_of_getElem? (i := 728) (by decide +kernel)), (List.mem_of_getElem? (i := 19) (by decide +kernel))⟩, TX8, 6, rfl⟩
theorem okV_X8_41 : tv_okV RX8 41 yX8_isPresent cX8_isPresent 2 (some .boolean) 1 8 := ⟨⟨Or.inl (List.mem_of_getElem? (i := 703) (by decide +kernel)), (List.mem_of_getElem? (i := 49) (by decide +kernel)), (List.mem_of_getElem? (i := 706) (by decide +kernel)), by decide +kernel, ⟨by decide +kernel, by decide +kernel, by decide +kernel⟩, (Nat.le_of_ble_eq_true rfl)⟩, ⟨(List.mem_of_getElem? (i := 705) (by decide +kernel)), (List.mem_of_getElem? (i := 14) (by decide +kernel))⟩, TX8, 6, rfl⟩
theorem okV_X8_45 : tv_okV RX8 45 yX8_led cX8_led 4 (some .int) 1 8 := ⟨⟨Or.inl (List.mem_of_getElem? (i := 734) (by decide +kernel)), (List.mem_of_getElem? (i := 49) (by decide +kernel)), (List.mem_of_getElem? (i := 737) (by decide +kernel)), by decide +kernel, ⟨by decide +kernel, by decide +kernel, by decide +kernel⟩, (Nat.le_of_ble_eq_true rfl)⟩, ⟨(List.mem_of_getElem? (i := 736) (by decide +kernel)), (List.mem_of_getElem? (i := 21) (by decide +kernel))⟩, TX8, 6, rfl⟩
theorem okV_X8_48 : tv_okV RX8 48 yX8_reputation cX8_reputation 5 (some .int) 1 8 := ⟨⟨Or.inl (List.mem_of_getElem? (i := 722) (by decide +kernel)), (List.mem_of_getElem? (i := 49) (by decide +kernel)), (List.mem_of_getElem? (i := 725) (by decide +kernel)), by decide +kernel, ⟨by decide +kernel, by decide +kernel, by decide +kernel⟩, (Nat.le_of_ble_eq_true rfl)⟩, ⟨(List.mem_of_getElem? (i := 724) (by decide +kernel)), (List.mem_of_getElem? (i := 18) (by decide +kernel))⟩, TX8, 6, rfl⟩
theorem okV_X8_51 : tv_okV RX8 51 yX8_tells cX8_tells 4 none 2 8 := ⟨⟨Or.inl (List.mem_of_getElem? (i := 714) (by decide +kernel)), (List.mem_of_getElem? (i := 49) (by decide +kernel)), (List.mem_of_getElem? (i := 717) (by decide +kernel)), by decide +kernel, ⟨by decide +kernel, by decide +kernel, by decide +kernel⟩, (Nat.le_of_ble_eq_true rfl)⟩, ⟨(List.mem_of_getElem? (i := 716) (by decide +kernel)), (List.mem_of_getElem? (i := 16) (by decide +kernel))⟩, TX8, 6, rfl⟩
theorem okV_X8_55 : tv_okV RX8 55 yX8_appoints cX8_appoints 5 none 1 8 := ⟨⟨Or.inl (List.mem_of_getElem? (i := 718) (by decide +kernel)), (List.mem_of_getElem? (i := 49) (by decide +kernel)), (List.mem_of_getElem? (i := 721) (by decide +kernel)), by decide +kernel, ⟨by decide +kernel, by decide +kernel, by decide +kernel⟩, (Nat.le_of_ble_eq_true rfl)⟩, ⟨(List.mem_of_getElem? (i := 720) (by decide +kernel)), (List.mem_of_getElem? (i := 17) (by decide +kernel))⟩, TX8, 6, rfl⟩
theorem okV_X8_59 : tv_okV RX8 59 yX8_presentMany cX8_presentMany 3 (some .int) 0 8 := ⟨⟨Or.inl (List.mem_of_getElem? (i := 692) (by decide +kernel)), (List.mem_of_getElem? (i := 49) (by decide +kernel)), (List.mem_of_getElem? (i := 695) (by decide +kernel)), by decide +kernel, ⟨by decide +kernel, by decide +kernel, by decide +kernel⟩, (Nat.le_of_ble_eq_true rfl)⟩, ⟨(List.mem_of_getElem? (i := 694) (by decide +kernel)), (List.mem_of_getElem? (i := 12) (by decide +kernel))⟩, TX8, 6, rfl⟩
theorem okV_X8_63 : tv_okV RX8 63 yX8_signatures cX8_signatures 3 (some .int) 0 8 := ⟨⟨Or.inl (List.mem_of_getElem? (i := 699) (by decide +kernel)), (List.mem_of_getElem? (i := 49) (by decide +kernel)), (List.mem_of_getElem? (i := 702) (by decide +kernel)), by decide +kernel, ⟨by decide +kernel, by decide +kernel, by decide +kernel⟩, (Nat.le_of_ble_eq_true rfl)⟩, ⟨(List.mem_of_getElem? (i := 701) (by decide +kernel)), (List.mem_of_getElem? (i := 13) (by decide +kernel))⟩, TX8, 6, rfl⟩
theorem okV_X8_66 : tv_okV RX8 66 yX8_ends cX8_ends 5 none 1 8 := ⟨⟨Or.inl (List.mem_of_getElem? (i := 707) (by decide +kernel)), (List.mem_of_getElem? (i := 49) (by decide +kernel)), (List.mem_of_getElem? (i := 710) (by decide +kernel)), by decide +kernel, ⟨by decide +kernel, by decide +kernel, by decide +kernel⟩, (Nat.le_of_ble_eq_true rfl)⟩, ⟨(List.mem_of_getElem? (i := 709) (by decide +kernel)), (List.mem_of_getElem? (i := 15) (by decide +kernel))⟩, TX8, 6, rfl⟩
theorem okV_X8_73 : tv_okV RX8 73 yX8_act cX8_act 2 none 0 8 := ⟨⟨Or.inl (List.mem_of_getElem? (i := 684) (by decide +kernel)), (List.mem_of_getElem? (i := 49) (by decide +kernel)), (List.mem_of_getElem? (i := 687) (by decide +kernel)), by decide +kernel, ⟨by decide +kernel, by decide +kernel, by decide +kernel⟩, (Nat.le_of_ble_eq_true rfl)⟩, ⟨(List.mem_of_getElem? (i := 686) (by decide +kernel)), (List.mem_of_getElem? (i := 10) (by decide +kernel))⟩, TX8, 6, rfl⟩
theorem okV_X8_76 : tv_okV RX8 76 yX8_looks cX8_looks 3 none 0 8 := ⟨⟨Or.inl (List.mem_of_getElem? (i := 688) (by decide +kernel)), (List.mem_of_getElem? (i := 49) (by decide +kernel)), (List.mem_of_getElem? (i := 691) (by decide +kernel)), by decide +kernel, ⟨by decide +kernel, by decide +kernel, by decide +kernel⟩, (Nat.le_of_ble_eq_true rfl)⟩, ⟨(List.mem_of_getElem? (i := 690) (by decide +kernel)), (List.mem_of_getElem? (i := 11) (by decide +kernel))⟩, TX8, 6, rfl⟩
theorem okV_X8_79 : tv_okV RX8 79 yX8_strikes cX8_strikes 6 none 2 8 := ⟨⟨Or.inl (List.mem_of_getElem? (i := 754) (by decide +kernel)), (List.mem_of_getElem? (i := 49) (by decide +kernel)), (List.mem_of_getElem? (i := 757) (by decide +kernel)), by decide +kernel, ⟨by decide +kernel, by decide +kernel, by decide +kernel⟩, (Nat.le_of_ble_eq_true rfl)⟩, ⟨(List.mem_of_getElem? (i := 756) (by decide +kernel)), (List.mem_of_getElem? (i := 24) (by decide +kernel))⟩, TX8, 6, rfl⟩
theorem okV_X8_82 : tv_okV RX8 82 yX8_isMember cX8_isMember 2 (some .boolean) 1 8 := ⟨⟨Or.inl (List.mem_of_getElem? (i := 746) (by decide +kernel)), (List.mem_of_getElem? (i := 49) (by decide +kernel)), (List.mem_of_getElem? (i := 749) (by decide +kernel)), by decide +kernel, ⟨by decide +kernel, by decide +kernel, by decide +kernel⟩, (Nat.le_of_ble_eq_true rfl)⟩, ⟨(List.mem_of_getElem? (i := 748) (by decide +kernel)), (List.mem_of_getElem? (i := 22) (by decide +kernel))⟩, TX8, 6, rfl⟩
theorem okV_X8_85 : tv_okV RX8 85 yX8_leaves cX8_leaves 3 none 1 8 := ⟨⟨Or.inl (List.mem_of_getElem? (i := 750) (by decide +kernel)), (List.mem_of_getElem? (i := 49) (by decide +kernel)), (List.mem_of_getElem? (i := 753) (by decide +kernel)), by decide +kernel, ⟨by decide +kernel, by decide +kernel, by decide +kernel⟩, (Nat.le_of_ble_eq_true rfl)⟩, ⟨(List.mem_of_getElem? (i := 752) (by decide +kernel)), (List.mem_of_getElem? (i := 23) (by decide +kernel))⟩, TX8, 6, rfl⟩
theorem okV_X8_89 : tv_okV RX8 89 yX8_canLead cX8_canLead 4 (some .boolean) 1 8 := ⟨⟨Or.inl (List.mem_of_getElem? (i := 771) (by decide +kernel)), (List.mem_of_getElem? (i := 49) (by decide +kernel)), (List.mem_of_getElem? (i := 774) (by decide +kernel)), by decide +kernel, ⟨by decide +kernel, by decide +kernel, by decide +kernel⟩, (Nat.le_of_ble_eq_true rfl)⟩, ⟨(List.mem_of_getElem? (i := 773) (by decide +kernel)), (List.mem_of_getElem? (i := 25) (by decide +kernel))⟩, TX8, 6, rfl⟩
theorem okV_X8_92 : tv_okV RX8 92 yX8_candidates cX8_candidates 3 (some .int) 0 8 := ⟨⟨Or.inl (List.mem_of_getElem? (i := 775) (by decide +kernel)), (List.mem_of_getElem? (i := 49) (by decide +kernel)), (List.mem_of_getElem? (i := 778) (by decide +kernel)), by decide +kernel, ⟨by decide +kernel, by decide +kernel, by decide +kernel⟩, (Nat.le_of_ble_eq_true rfl)⟩, ⟨(List.mem_of_getElem? (i := 777) (by decide +kernel)), (List.mem_of_getElem? (i := 26) (by decide +kernel))⟩, TX8, 6, rfl⟩
theorem okV_X8_98 : tv_okV RX8 98 yX8_wrongAt cX8_wrongAt 4 (some .int) 0 8 := ⟨⟨Or.inl (List.mem_of_getElem? (i := 783) (by decide +kernel)), (List.mem_of_getElem? (i := 49) (by decide +kernel)), (List.mem_of_getElem? (i := 786) (by decide +kernel)), by decide +kernel, ⟨by decide +kernel, by decide +kernel, by decide +kernel⟩, (Nat.le_of_ble_eq_true rfl)⟩, ⟨(List.mem_of_getElem? (i := 785) (by decide +kernel)), (List.mem_of_getElem? (i := 27) (by decide +kernel))⟩, TX8, 6, rfl⟩
theorem okS_X0_19 : tv_okS RX0 19 yX7_has cX7_has 2 (some .boolean) 2 := ⟨⟨Or.inr ⟨"TermOffice", (List.mem_of_getElem? (i := 429) (by decide +kernel))⟩, (List.mem_of_getElem? (i := 39) (by decide +kernel)), (List.mem_of_getElem? (i := 341) (by decide +kernel)), by decide +kernel, ⟨by decide +kernel, by decide +kernel, by decide +kernel⟩, (Nat.le_of_ble_eq_true rfl)⟩, (List.mem_of_getElem? (i := 340) (by decide +kernel))⟩
theorem okS_X0_23 : tv_okS RX0 23 yX7_only cX7_only 1 (some .int) 1 := ⟨⟨Or.inr ⟨"TermOffice", (List.mem_of_getElem? (i := 430) (by decide +kernel))⟩, (List.mem_of_getElem? (i := 39) (by decide +kernel)), (List.mem_of_getElem? (i := 315) (by decide +kernel)), by decide +kernel, ⟨by decide +kernel, by decide +kernel, by decide +kernel⟩, (Nat.le_of_ble_eq_true rfl)⟩, (List.mem_of_getElem? (i := 314) (by decide +kernel))⟩
theorem okS_X2_15 : tv_okS RX2 15 yJ7_fill_53178 cJ7_fill_53178 4 none 2 := ⟨⟨Or.inl (List.mem_of_getElem? (i := 87) (by decide +kernel)), (List.mem_of_getElem? (i := 43) (by decide +kernel)), (List.mem_of_getElem? (i := 89) (by decide +kernel)), by decide +kernel, ⟨by decide +kernel, by decide +kernel, by decide +kernel⟩, (Nat.le_of_ble_eq_true rfl)⟩, (List.mem_of_getElem? (i := 88) (by decide +kernel))⟩
theorem okS_X2_44 : tv_okS RX2 44 yX7_only cX7_only 1 (some .int) 1 := ⟨⟨Or.inr ⟨"TermOffice", (List.mem_of_getElem? (i := 384) (by decide +kernel))⟩, (List.mem_of_getElem? (i := 39) (by decide +kernel)), (List.mem_of_getElem? (i := 315) (by decide +kernel)), by decide +kernel, ⟨by decide +kernel, by decide +kernel, by decide +kernel⟩, (Nat.le_of_ble_eq_true rfl)⟩, (List.mem_of_getElem? (i := 314) (by decide +kernel))⟩
theorem okS_X2_51 : tv_okS RX2 51 yX7_has cX7_has 2 (some .boolean) 2 := ⟨⟨Or.inr ⟨"TermOffice", (List.mem_of_getElem? (i := 473) (by decide +kernel))⟩, (List.mem_of_getElem? (i := 39) (by decide +kernel)), (List.mem_of_getElem? (i := 341) (by decide +kernel)), by decide +kernel, ⟨by decide +kernel, by decide +kernel, by decide +kernel⟩, (Nat.le_of_ble_eq_true rfl)⟩, (List.mem_of_getElem? (i := 340) (by decide +kernel))⟩
theorem okS_X4_25 : tv_okS RX4 25 yX7_has cX7_has 2 (some .boolean) 2 := ⟨⟨Or.inr ⟨"TermOffice", (List.mem_of_getElem? (i := 468) (by decide +kernel))⟩, (List.mem_of_getElem? (i := 39) (by decide +kernel)), (List.mem_of_getElem? (i := 341) (by decide +kernel)), by decide +kernel, ⟨by decide +kernel, by decide +kernel, by decide +kernel⟩, (Nat.le_of_ble_eq_true rfl)⟩, (List.mem_of_getElem? (i := 340) (by decide +kernel))⟩
theorem okS_X4_35 : tv_okS RX4 35 yJ6_bitCount_0f7a4 cJ6_bitCount_0f7a4 1 (some .int) 1 := ⟨⟨Or.inl (List.mem_of_getElem? (i := 478) (by decide +kernel)), (List.mem_of_getElem? (i := 51) (by decide +kernel)), (List.mem_of_getElem? (i := 309) (by decide +kernel)), by decide +kernel, ⟨by decide +kernel, by decide +kernel, by decide +kernel⟩, (Nat.le_of_ble_eq_true rfl)⟩, (List.mem_of_getElem? (i := 308) (by decide +kernel))⟩
theorem okS_X5_109 : tv_okS RX5 109 yJ6_bitCount_0f7a4 cJ6_bitCount_0f7a4 1 (some .int) 1 := ⟨⟨Or.inl (List.mem_of_getElem? (i := 307) (by decide +kernel)), (List.mem_of_getElem? (i := 51) (by decide +kernel)), (List.mem_of_getElem? (i := 309) (by decide +kernel)), by decide +kernel, ⟨by decide +kernel, by decide +kernel, by decide +kernel⟩, (Nat.le_of_ble_eq_true rfl)⟩, (List.mem_of_getElem? (i := 308) (by decide +kernel))⟩
theorem okS_X5_185 : tv_okS RX5 185 yX7_asNumber cX7_asNumber 1 (some .int) 1 := ⟨⟨Or.inr ⟨"TermOffice", (List.mem_of_getElem? (i := 602) (by decide +kernel))⟩, (List.mem_of_getElem? (i := 39) (by decide +kernel)), (List.mem_of_getElem? (i := 326) (by decide +kernel)), by decide +kernel, ⟨by decide +kernel, by decide +kernel, by decide +kernel⟩, (Nat.le_of_ble_eq_true rfl)⟩, (List.mem_of_getElem? (i := 325) (by decide +kernel))⟩
theorem okS_X5_87 : tv_okS RX5 87 yX7_has cX7_has 2 (some .boolean) 2 := ⟨⟨Or.inr ⟨"TermOffice", (List.mem_of_getElem? (i := 339) (by decide +kernel))⟩, (List.mem_of_getElem? (i := 39) (by decide +kernel)), (List.mem_of_getElem? (i := 341) (by decide +kernel)), by decide +kernel, ⟨by decide +kernel, by decide +kernel, by decide +kernel⟩, (Nat.le_of_ble_eq_true rfl)⟩, (List.mem_of_getElem? (i := 340) (by decide +kernel))⟩
theorem okS_X5_91 : tv_okS RX5 91 yX7_only cX7_only 1 (some .int) 1 := ⟨⟨Or.inr ⟨"TermOffice", (List.mem_of_getElem? (i := 313) (by decide +kernel))⟩, (List.mem_of_getElem? (i := 39) (by decide +kernel)), (List.mem_of_getElem? (i := 315) (by decide +kernel)), by decide +kernel, ⟨by decide +kernel, by decide +kernel, by decide +kernel⟩, (Nat.le_of_ble_eq_true rfl)⟩, (List.mem_of_getElem? (i := 314) (by decide +kernel))⟩
theorem okS_X6_40 : tv_okS RX6 40 yX6_copyRow cX6_copyRow 2 none 2 := ⟨⟨Or.inl (List.mem_of_getElem? (i := 287) (by decide +kernel)), (List.mem_of_getElem? (i := 45) (by decide +kernel)), (List.mem_of_getElem? (i := 289) (by decide +kernel)), by decide +kernel, ⟨by decide +kernel, by decide +kernel, by decide +kernel⟩, (Nat.le_of_ble_eq_true rfl)⟩, (List.mem_of_getElem? (i := 288) (by decide +kernel))⟩
theorem okS_X6_50 : tv_okS RX6 50 yX7_asNumber cX7_asNumber 1 (some .int) 1 := ⟨⟨Or.inr ⟨"TermOffice", (List.mem_of_getElem? (i := 324) (by decide +kernel))⟩, (List.mem_of_getElem? (i := 39) (by decide +kernel)), (List.mem_of_getElem? (i := 326) (by decide +kernel)), by decide +kernel, ⟨by decide +kernel, by decide +kernel, by decide +kernel⟩, (Nat.le_of_ble_eq_true rfl)⟩, (List.mem_of_getElem? (i := 325) (by decide +kernel))⟩
theorem okS_X6_58 : tv_okS RX6 58 yX7_has cX7_has 2 (some .boolean) 2 := ⟨⟨Or.inr ⟨"TermOffice", (List.mem_of_getElem? (i := 563) (by decide +kernel))⟩, (List.mem_of_getElem? (i := 39) (by decide +kernel)), (List.mem_of_getElem? (i := 341) (by decide +kernel)), by decide +kernel, ⟨by decide +kernel, by decide +kernel, by decide +kernel⟩, (Nat.le_of_ble_eq_true rfl)⟩, (List.mem_of_getElem? (i := 340) (by decide +kernel))⟩
theorem okS_X7_108 : tv_okS RX7 108 yX7_has cX7_has 2 (some .boolean) 2 := ⟨⟨Or.inl (List.mem_of_getElem? (i := 410) (by decide +kernel)), (List.mem_of_getElem? (i := 39) (by decide +kernel)), (List.mem_of_getElem? (i := 341) (by decide +kernel)), by decide +kernel, ⟨by decide +kernel, by decide +kernel, by decide +kernel⟩, (Nat.le_of_ble_eq_true rfl)⟩, (List.mem_of_getElem? (i := 340) (by decide +kernel))⟩
theorem okS_X7_115 : tv_okS RX7 115 yJ6_bitCount_0f7a4 cJ6_bitCount_0f7a4 1 (some .int) 1 := ⟨⟨Or.inl (List.mem_of_getElem? (i := 420) (by decide +kernel)), (List.mem_of_getElem? (i := 51) (by decide +kernel)), (List.mem_of_getElem? (i := 309) (by decide +kernel)), by decide +kernel, ⟨by decide +kernel, by decide +kernel, by decide +kernel⟩, (Nat.le_of_ble_eq_true rfl)⟩, (List.mem_of_getElem? (i := 308) (by decide +kernel))⟩
theorem okS_X7_211 : tv_okS RX7 211 yX7_mixed cX7_mixed 3 (some .long) 2 := ⟨⟨Or.inl (List.mem_of_getElem? (i := 645) (by decide +kernel)), (List.mem_of_getElem? (i := 39) (by decide +kernel)), (List.mem_of_getElem? (i := 647) (by decide +kernel)), by decide +kernel, ⟨by decide +kernel, by decide +kernel, by decide +kernel⟩, (Nat.le_of_ble_eq_true rfl)⟩, (List.mem_of_getElem? (i := 646) (by decide +kernel))⟩
theorem okS_X7_62 : tv_okS RX7 62 yX7_asNumber cX7_asNumber 1 (some .int) 1 := ⟨⟨Or.inl (List.mem_of_getElem? (i := 374) (by decide +kernel)), (List.mem_of_getElem? (i := 39) (by decide +kernel)), (List.mem_of_getElem? (i := 326) (by decide +kernel)), by decide +kernel, ⟨by decide +kernel, by decide +kernel, by decide +kernel⟩, (Nat.le_of_ble_eq_true rfl)⟩, (List.mem_of_getElem? (i := 325) (by decide +kernel))⟩
theorem okS_X7_69 : tv_okS RX7 69 yX7_only cX7_only 1 (some .int) 1 := ⟨⟨Or.inl (List.mem_of_getElem? (i := 375) (by decide +kernel)), (List.mem_of_getElem? (i := 39) (by decide +kernel)), (List.mem_of_getElem? (i := 315) (by decide +kernel)), by decide +kernel, ⟨by decide +kernel, by decide +kernel, by decide +kernel⟩, (Nat.le_of_ble_eq_true rfl)⟩, (List.mem_of_getElem? (i := 314) (by decide +kernel))⟩
theorem okS_X8_23 : tv_okS RX8 23 yX8_in cX8_in 3 (some .boolean) 3 := ⟨⟨Or.inl (List.mem_of_getElem? (i := 681) (by decide +kernel)), (List.mem_of_getElem? (i := 49) (by decide +kernel)), (List.mem_of_getElem? (i := 683) (by decide +kernel)), by decide +kernel, ⟨by decide +kernel, by decide +kernel, by decide +kernel⟩, (Nat.le_of_ble_eq_true rfl)⟩, (List.mem_of_getElem? (i := 682) (by decide +kernel))⟩
theorem okS_X8_27 : tv_okS RX8 27 yX8_at cX8_at 2 (some .int) 2 := ⟨⟨Or.inl (List.mem_of_getElem? (i := 696) (by decide +kernel)), (List.mem_of_getElem? (i := 49) (by decide +kernel)), (List.mem_of_getElem? (i := 698) (by decide +kernel)), by decide +kernel, ⟨by decide +kernel, by decide +kernel, by decide +kernel⟩, (Nat.le_of_ble_eq_true rfl)⟩, (List.mem_of_getElem? (i := 697) (by decide +kernel))⟩
theorem okS_X8_31 : tv_okS RX8 31 yX8_of cX8_of 2 (some .int) 2 := ⟨⟨Or.inl (List.mem_of_getElem? (i := 711) (by decide +kernel)), (List.mem_of_getElem? (i := 49) (by decide +kernel)), (List.mem_of_getElem? (i := 713) (by decide +kernel)), by decide +kernel, ⟨by decide +kernel, by decide +kernel, by decide +kernel⟩, (Nat.le_of_ble_eq_true rfl)⟩, (List.mem_of_getElem? (i := 712) (by decide +kernel))⟩
theorem okS_X8_69 : tv_okS RX8 69 yX8_isIn cX8_isIn 2 (some .boolean) 2 := ⟨⟨Or.inl (List.mem_of_getElem? (i := 678) (by decide +kernel)), (List.mem_of_getElem? (i := 49) (by decide +kernel)), (List.mem_of_getElem? (i := 680) (by decide +kernel)), by decide +kernel, ⟨by decide +kernel, by decide +kernel, by decide +kernel⟩, (Nat.le_of_ble_eq_true rfl)⟩, (List.mem_of_getElem? (i := 679) (by decide +kernel))⟩
theorem kc_X7_209 : Cond.constantLong RX7 209 83 ∈ lw_tbl := (List.mem_of_getElem? (i := 644) (by decide +kernel))
theorem kc_X7_215 : Cond.constantLong RX7 215 31 ∈ lw_tbl := (List.mem_of_getElem? (i := 648) (by decide +kernel))
theorem kc_X7_79 : Cond.constant RX7 79 1000000 ∈ lw_tbl := (List.mem_of_getElem? (i := 393) (by decide +kernel))
theorem kc_X8_134 : Cond.constantLong RX8 134 31 ∈ lw_tbl := (List.mem_of_getElem? (i := 907) (by decide +kernel))
theorem kc_X8_136 : Cond.constantLong RX8 136 2573 ∈ lw_tbl := (List.mem_of_getElem? (i := 908) (by decide +kernel))
theorem kc_X8_88 : Cond.constant RX8 88 1000000 ∈ lw_tbl := (List.mem_of_getElem? (i := 762) (by decide +kernel))
theorem wc_X1_25 : Cond.methodLink RX1 25 arraycopyName ∈ lw_tbl := (List.mem_of_getElem? (i := 295) (by decide +kernel))
theorem wc_X2_29 : Cond.methodLink RX2 29 arraycopyName ∈ lw_tbl := (List.mem_of_getElem? (i := 277) (by decide +kernel))
theorem wc_X3_29 : Cond.methodLink RX3 29 Lib.Math.min.name ∈ lw_tbl := (List.mem_of_getElem? (i := 296) (by decide +kernel))
theorem wc_X4_19 : Cond.methodLink RX4 19 arraycopyName ∈ lw_tbl := (List.mem_of_getElem? (i := 282) (by decide +kernel))
theorem wc_X5_56 : Cond.methodLink RX5 56 arraycopyName ∈ lw_tbl := (List.mem_of_getElem? (i := 175) (by decide +kernel))
theorem wc_X6_44 : Cond.methodLink RX6 44 arraycopyName ∈ lw_tbl := (List.mem_of_getElem? (i := 290) (by decide +kernel))
theorem wc_native : Cond.native arraycopyName ∈ lw_tbl := (List.mem_of_getElem? (i := 177) (by decide +kernel))
theorem wc_static : Cond.static arraycopyName ∈ lw_tbl := (List.mem_of_getElem? (i := 176) (by decide +kernel))
theorem wc_init : Cond.initialized "java/lang/System" ∈ lw_tbl := (List.mem_of_getElem? (i := 47) (by decide +kernel))
theorem wm_static : Cond.static Lib.Math.min.name ∈ lw_tbl := (List.mem_of_getElem? (i := 297) (by decide +kernel))
theorem wm_init : Cond.initialized "java/lang/Math" ∈ lw_tbl := (List.mem_of_getElem? (i := 50) (by decide +kernel))
theorem wm_code : Cond.code Lib.Math.min.name Lib.Math.min.code 2 (some .int) ∈ lw_tbl := (List.mem_of_getElem? (i := 298) (by decide +kernel))
/-! ===== the cells of both sides ===== -/
def tv_St (b : Nat) (si : Nat → Int32) (sa : Nat → Nat → Int32) : tv_Hp := [
  .inr (.inr (5, [.ref (b + 1), .int (si 0), .int (si 1), .ref (b + 2), .int (si 2), .int (si 3), .int (si 4), .int (si 5), .ref (b + 3), .ref (b + 5), .ref (b + 7), .ref (b + 16)])),
  .inl (6, sa 0), .inl (10, sa 1),
  .inr (.inr (2, [.int (si 6), .int (si 7), .ref (b + 4)])), .inl (100, sa 2),
  .inr (.inr (4, [.int (si 8), .ref (b + 6)])), .inl (100, sa 3),
  .inr (.inr (6, [.int (si 9), .ref (b + 8), .ref (b + 9), .ref (b + 10), .ref (b + 11), .ref (b + 12), .ref (b + 13), .ref (b + 14), .ref (b + 15)])),
  .inl (41, sa 4), .inl (41, sa 5), .inl (41, sa 6), .inl (41, sa 7), .inl (41, sa 8), .inl (41, sa 9), .inl (41, sa 10), .inl (410, sa 11),
  .inr (.inr (1, [.int (si 10), .ref (b + 17), .ref (b + 18), .ref (b + 19)])),
  .inl (20, sa 12), .inl (20, sa 13), .inl (20, sa 14)]
def tv_hst : Nat → Option Nat := fun i => if i < 5 then some (25 + 20 * i) else none
def HP (si : Nat → Int32) (sa : Nat → Nat → Int32) (hs : Nat → (Nat → Int32) × (Nat → Nat → Int32)) (tx : Nat → Int32) (tl hc hn : Int32) (v pa mt : Nat → Int32) (pm ty ra : Int32) : tv_Hp :=
  [.inr (.inr (7, [.ref 1, .ref 3, .ref 23])), .inr (.inr (0, [.ref 2, .int tl])), .inl (40, tx)] ++ (tv_St 3 si sa ++ ([.inr (.inr (3, [.ref 24, .int hc, .int hn])), .inr (.inl (5, tv_hst))] ++ (tv_St 25 (hs 0).1 (hs 0).2 ++ (tv_St 45 (hs 1).1 (hs 1).2 ++ (tv_St 65 (hs 2).1 (hs 2).2 ++ (tv_St 85 (hs 3).1 (hs 3).2 ++ (tv_St 105 (hs 4).1 (hs 4).2 ++
  [.inr (.inr (8, [.ref 126, .ref 127, .int pm, .ref 128, .int ty, .int ra])), .inl (1100, v), .inl (5500, pa), .inl (40, mt)])))))))
section TVHP
variable {si : Nat → Int32} {sa : Nat → Nat → Int32} {hs : Nat → (Nat → Int32) × (Nat → Nat → Int32)} {tx : Nat → Int32} {tl hc hn : Int32} {v pa mt : Nat → Int32} {pm ty ra : Int32} {dI : Nat → Int32} {dA : Nat → Nat → Int32}
set_option maxRecDepth 100000 in
theorem HPg_0 : (HP si sa hs tx tl hc hn v pa mt pm ty ra)[0]? = some (.inr (.inr (7, [.ref 1, .ref 3, .ref 23]))) := rfl
set_option maxRecDepth 100000 in
theorem HPg_1 : (HP si sa hs tx tl hc hn v pa mt pm ty ra)[1]? = some (.inr (.inr (0, [.ref 2, .int tl]))) := rfl
set_option maxRecDepth 100000 in
theorem HPg_10 : (HP si sa hs tx tl hc hn v pa mt pm ty ra)[10]? = some (.inr (.inr (6, [.int (si 9), .ref 11, .ref 12, .ref 13, .ref 14, .ref 15, .ref 16, .ref 17, .ref 18]))) := rfl
set_option maxRecDepth 100000 in
theorem HPg_11 : (HP si sa hs tx tl hc hn v pa mt pm ty ra)[11]? = some (.inl (41, (sa 4))) := rfl
set_option maxRecDepth 100000 in
theorem HPg_12 : (HP si sa hs tx tl hc hn v pa mt pm ty ra)[12]? = some (.inl (41, (sa 5))) := rfl
set_option maxRecDepth 100000 in
theorem HPg_125 : (HP si sa hs tx tl hc hn v pa mt pm ty ra)[125]? = some (.inr (.inr (8, [.ref 126, .ref 127, .int pm, .ref 128, .int ty, .int ra]))) := rfl
set_option maxRecDepth 100000 in
theorem HPg_126 : (HP si sa hs tx tl hc hn v pa mt pm ty ra)[126]? = some (.inl (1100, v)) := rfl
set_option maxRecDepth 100000 in
theorem HPg_127 : (HP si sa hs tx tl hc hn v pa mt pm ty ra)[127]? = some (.inl (5500, pa)) := rfl
set_option maxRecDepth 100000 in
theorem HPg_128 : (HP si sa hs tx tl hc hn v pa mt pm ty ra)[128]? = some (.inl (40, mt)) := rfl
set_option maxRecDepth 100000 in
theorem HPg_13 : (HP si sa hs tx tl hc hn v pa mt pm ty ra)[13]? = some (.inl (41, (sa 6))) := rfl
set_option maxRecDepth 100000 in
theorem HPg_14 : (HP si sa hs tx tl hc hn v pa mt pm ty ra)[14]? = some (.inl (41, (sa 7))) := rfl
set_option maxRecDepth 100000 in
theorem HPg_15 : (HP si sa hs tx tl hc hn v pa mt pm ty ra)[15]? = some (.inl (41, (sa 8))) := rfl
set_option maxRecDepth 100000 in
theorem HPg_16 : (HP si sa hs tx tl hc hn v pa mt pm ty ra)[16]? = some (.inl (41, (sa 9))) := rfl
set_option maxRecDepth 100000 in
theorem HPg_17 : (HP si sa hs tx tl hc hn v pa mt pm ty ra)[17]? = some (.inl (41, (sa 10))) := rfl
set_option maxRecDepth 100000 in
theorem HPg_18 : (HP si sa hs tx tl hc hn v pa mt pm ty ra)[18]? = some (.inl (410, (sa 11))) := rfl
set_option maxRecDepth 100000 in
theorem HPg_19 : (HP si sa hs tx tl hc hn v pa mt pm ty ra)[19]? = some (.inr (.inr (1, [.int (si 10), .ref 20, .ref 21, .ref 22]))) := rfl
set_option maxRecDepth 100000 in
theorem HPg_2 : (HP si sa hs tx tl hc hn v pa mt pm ty ra)[2]? = some (.inl (40, tx)) := rfl
set_option maxRecDepth 100000 in
theorem HPg_20 : (HP si sa hs tx tl hc hn v pa mt pm ty ra)[20]? = some (.inl (20, (sa 12))) := rfl
set_option maxRecDepth 100000 in
theorem HPg_21 : (HP si sa hs tx tl hc hn v pa mt pm ty ra)[21]? = some (.inl (20, (sa 13))) := rfl
set_option maxRecDepth 100000 in
theorem HPg_22 : (HP si sa hs tx tl hc hn v pa mt pm ty ra)[22]? = some (.inl (20, (sa 14))) := rfl
set_option maxRecDepth 100000 in
theorem HPg_23 : (HP si sa hs tx tl hc hn v pa mt pm ty ra)[23]? = some (.inr (.inr (3, [.ref 24, .int hc, .int hn]))) := rfl
set_option maxRecDepth 100000 in
theorem HPg_24 : (HP si sa hs tx tl hc hn v pa mt pm ty ra)[24]? = some (.inr (.inl (5, tv_hst))) := rfl
set_option maxRecDepth 100000 in
theorem HPg_3 : (HP si sa hs tx tl hc hn v pa mt pm ty ra)[3]? = some (.inr (.inr (5, [.ref 4, .int (si 0), .int (si 1), .ref 5, .int (si 2), .int (si 3), .int (si 4), .int (si 5), .ref 6, .ref 8, .ref 10, .ref 19]))) := rfl
set_option maxRecDepth 100000 in
theorem HPg_4 : (HP si sa hs tx tl hc hn v pa mt pm ty ra)[4]? = some (.inl (6, (sa 0))) := rfl
set_option maxRecDepth 100000 in
theorem HPg_5 : (HP si sa hs tx tl hc hn v pa mt pm ty ra)[5]? = some (.inl (10, (sa 1))) := rfl
set_option maxRecDepth 100000 in
theorem HPg_6 : (HP si sa hs tx tl hc hn v pa mt pm ty ra)[6]? = some (.inr (.inr (2, [.int (si 6), .int (si 7), .ref 7]))) := rfl
set_option maxRecDepth 100000 in
theorem HPg_7 : (HP si sa hs tx tl hc hn v pa mt pm ty ra)[7]? = some (.inl (100, (sa 2))) := rfl
set_option maxRecDepth 100000 in
theorem HPg_8 : (HP si sa hs tx tl hc hn v pa mt pm ty ra)[8]? = some (.inr (.inr (4, [.int (si 8), .ref 9]))) := rfl
set_option maxRecDepth 100000 in
theorem HPg_9 : (HP si sa hs tx tl hc hn v pa mt pm ty ra)[9]? = some (.inl (100, (sa 3))) := rfl
set_option maxRecDepth 100000 in
theorem HPf_0_0 : (HP si sa hs tx tl hc hn v pa mt pm ty ra)[25]? = some (.inr (.inr (5, [.ref 26, .int ((hs 0).1 0), .int ((hs 0).1 1), .ref 27, .int ((hs 0).1 2), .int ((hs 0).1 3), .int ((hs 0).1 4), .int ((hs 0).1 5), .ref 28, .ref 30, .ref 32, .ref 41]))) := rfl
set_option maxRecDepth 100000 in
theorem HPf_0_1 : (HP si sa hs tx tl hc hn v pa mt pm ty ra)[26]? = some (.inl (6, ((hs 0).2 0))) := rfl
set_option maxRecDepth 100000 in
theorem HPf_0_2 : (HP si sa hs tx tl hc hn v pa mt pm ty ra)[27]? = some (.inl (10, ((hs 0).2 1))) := rfl
set_option maxRecDepth 100000 in
theorem HPf_0_3 : (HP si sa hs tx tl hc hn v pa mt pm ty ra)[28]? = some (.inr (.inr (2, [.int ((hs 0).1 6), .int ((hs 0).1 7), .ref 29]))) := rfl
set_option maxRecDepth 100000 in
theorem HPf_0_4 : (HP si sa hs tx tl hc hn v pa mt pm ty ra)[29]? = some (.inl (100, ((hs 0).2 2))) := rfl
set_option maxRecDepth 100000 in
theorem HPf_0_5 : (HP si sa hs tx tl hc hn v pa mt pm ty ra)[30]? = some (.inr (.inr (4, [.int ((hs 0).1 8), .ref 31]))) := rfl
set_option maxRecDepth 100000 in
theorem HPf_0_6 : (HP si sa hs tx tl hc hn v pa mt pm ty ra)[31]? = some (.inl (100, ((hs 0).2 3))) := rfl
set_option maxRecDepth 100000 in
theorem HPf_0_7 : (HP si sa hs tx tl hc hn v pa mt pm ty ra)[32]? = some (.inr (.inr (6, [.int ((hs 0).1 9), .ref 33, .ref 34, .ref 35, .ref 36, .ref 37, .ref 38, .ref 39, .ref 40]))) := rfl
set_option maxRecDepth 100000 in
theorem HPf_0_8 : (HP si sa hs tx tl hc hn v pa mt pm ty ra)[33]? = some (.inl (41, ((hs 0).2 4))) := rfl
set_option maxRecDepth 100000 in
theorem HPf_0_9 : (HP si sa hs tx tl hc hn v pa mt pm ty ra)[34]? = some (.inl (41, ((hs 0).2 5))) := rfl
set_option maxRecDepth 100000 in
theorem HPf_0_10 : (HP si sa hs tx tl hc hn v pa mt pm ty ra)[35]? = some (.inl (41, ((hs 0).2 6))) := rfl
set_option maxRecDepth 100000 in
theorem HPf_0_11 : (HP si sa hs tx tl hc hn v pa mt pm ty ra)[36]? = some (.inl (41, ((hs 0).2 7))) := rfl
set_option maxRecDepth 100000 in
theorem HPf_0_12 : (HP si sa hs tx tl hc hn v pa mt pm ty ra)[37]? = some (.inl (41, ((hs 0).2 8))) := rfl
set_option maxRecDepth 100000 in
theorem HPf_0_13 : (HP si sa hs tx tl hc hn v pa mt pm ty ra)[38]? = some (.inl (41, ((hs 0).2 9))) := rfl
set_option maxRecDepth 100000 in
theorem HPf_0_14 : (HP si sa hs tx tl hc hn v pa mt pm ty ra)[39]? = some (.inl (41, ((hs 0).2 10))) := rfl
set_option maxRecDepth 100000 in
theorem HPf_0_15 : (HP si sa hs tx tl hc hn v pa mt pm ty ra)[40]? = some (.inl (410, ((hs 0).2 11))) := rfl
set_option maxRecDepth 100000 in
theorem HPf_0_16 : (HP si sa hs tx tl hc hn v pa mt pm ty ra)[41]? = some (.inr (.inr (1, [.int ((hs 0).1 10), .ref 42, .ref 43, .ref 44]))) := rfl
set_option maxRecDepth 100000 in
theorem HPf_0_17 : (HP si sa hs tx tl hc hn v pa mt pm ty ra)[42]? = some (.inl (20, ((hs 0).2 12))) := rfl
set_option maxRecDepth 100000 in
theorem HPf_0_18 : (HP si sa hs tx tl hc hn v pa mt pm ty ra)[43]? = some (.inl (20, ((hs 0).2 13))) := rfl
set_option maxRecDepth 100000 in
theorem HPf_0_19 : (HP si sa hs tx tl hc hn v pa mt pm ty ra)[44]? = some (.inl (20, ((hs 0).2 14))) := rfl
set_option maxRecDepth 100000 in
theorem HPf_1_0 : (HP si sa hs tx tl hc hn v pa mt pm ty ra)[45]? = some (.inr (.inr (5, [.ref 46, .int ((hs 1).1 0), .int ((hs 1).1 1), .ref 47, .int ((hs 1).1 2), .int ((hs 1).1 3), .int ((hs 1).1 4), .int ((hs 1).1 5), .ref 48, .ref 50, .ref 52, .ref 61]))) := rfl
set_option maxRecDepth 100000 in
theorem HPf_1_1 : (HP si sa hs tx tl hc hn v pa mt pm ty ra)[46]? = some (.inl (6, ((hs 1).2 0))) := rfl
set_option maxRecDepth 100000 in
theorem HPf_1_2 : (HP si sa hs tx tl hc hn v pa mt pm ty ra)[47]? = some (.inl (10, ((hs 1).2 1))) := rfl
set_option maxRecDepth 100000 in
theorem HPf_1_3 : (HP si sa hs tx tl hc hn v pa mt pm ty ra)[48]? = some (.inr (.inr (2, [.int ((hs 1).1 6), .int ((hs 1).1 7), .ref 49]))) := rfl
set_option maxRecDepth 100000 in
theorem HPf_1_4 : (HP si sa hs tx tl hc hn v pa mt pm ty ra)[49]? = some (.inl (100, ((hs 1).2 2))) := rfl
set_option maxRecDepth 100000 in
theorem HPf_1_5 : (HP si sa hs tx tl hc hn v pa mt pm ty ra)[50]? = some (.inr (.inr (4, [.int ((hs 1).1 8), .ref 51]))) := rfl
set_option maxRecDepth 100000 in
theorem HPf_1_6 : (HP si sa hs tx tl hc hn v pa mt pm ty ra)[51]? = some (.inl (100, ((hs 1).2 3))) := rfl
set_option maxRecDepth 100000 in
theorem HPf_1_7 : (HP si sa hs tx tl hc hn v pa mt pm ty ra)[52]? = some (.inr (.inr (6, [.int ((hs 1).1 9), .ref 53, .ref 54, .ref 55, .ref 56, .ref 57, .ref 58, .ref 59, .ref 60]))) := rfl
set_option maxRecDepth 100000 in
theorem HPf_1_8 : (HP si sa hs tx tl hc hn v pa mt pm ty ra)[53]? = some (.inl (41, ((hs 1).2 4))) := rfl
set_option maxRecDepth 100000 in
theorem HPf_1_9 : (HP si sa hs tx tl hc hn v pa mt pm ty ra)[54]? = some (.inl (41, ((hs 1).2 5))) := rfl
set_option maxRecDepth 100000 in
theorem HPf_1_10 : (HP si sa hs tx tl hc hn v pa mt pm ty ra)[55]? = some (.inl (41, ((hs 1).2 6))) := rfl
set_option maxRecDepth 100000 in
theorem HPf_1_11 : (HP si sa hs tx tl hc hn v pa mt pm ty ra)[56]? = some (.inl (41, ((hs 1).2 7))) := rfl
set_option maxRecDepth 100000 in
theorem HPf_1_12 : (HP si sa hs tx tl hc hn v pa mt pm ty ra)[57]? = some (.inl (41, ((hs 1).2 8))) := rfl
set_option maxRecDepth 100000 in
theorem HPf_1_13 : (HP si sa hs tx tl hc hn v pa mt pm ty ra)[58]? = some (.inl (41, ((hs 1).2 9))) := rfl
set_option maxRecDepth 100000 in
theorem HPf_1_14 : (HP si sa hs tx tl hc hn v pa mt pm ty ra)[59]? = some (.inl (41, ((hs 1).2 10))) := rfl
set_option maxRecDepth 100000 in
theorem HPf_1_15 : (HP si sa hs tx tl hc hn v pa mt pm ty ra)[60]? = some (.inl (410, ((hs 1).2 11))) := rfl
set_option maxRecDepth 100000 in
theorem HPf_1_16 : (HP si sa hs tx tl hc hn v pa mt pm ty ra)[61]? = some (.inr (.inr (1, [.int ((hs 1).1 10), .ref 62, .ref 63, .ref 64]))) := rfl
set_option maxRecDepth 100000 in
theorem HPf_1_17 : (HP si sa hs tx tl hc hn v pa mt pm ty ra)[62]? = some (.inl (20, ((hs 1).2 12))) := rfl
set_option maxRecDepth 100000 in
theorem HPf_1_18 : (HP si sa hs tx tl hc hn v pa mt pm ty ra)[63]? = some (.inl (20, ((hs 1).2 13))) := rfl
set_option maxRecDepth 100000 in
theorem HPf_1_19 : (HP si sa hs tx tl hc hn v pa mt pm ty ra)[64]? = some (.inl (20, ((hs 1).2 14))) := rfl
set_option maxRecDepth 100000 in
theorem HPf_2_0 : (HP si sa hs tx tl hc hn v pa mt pm ty ra)[65]? = some (.inr (.inr (5, [.ref 66, .int ((hs 2).1 0), .int ((hs 2).1 1), .ref 67, .int ((hs 2).1 2), .int ((hs 2).1 3), .int ((hs 2).1 4), .int ((hs 2).1 5), .ref 68, .ref 70, .ref 72, .ref 81]))) := rfl
set_option maxRecDepth 100000 in
theorem HPf_2_1 : (HP si sa hs tx tl hc hn v pa mt pm ty ra)[66]? = some (.inl (6, ((hs 2).2 0))) := rfl
set_option maxRecDepth 100000 in
theorem HPf_2_2 : (HP si sa hs tx tl hc hn v pa mt pm ty ra)[67]? = some (.inl (10, ((hs 2).2 1))) := rfl
set_option maxRecDepth 100000 in
theorem HPf_2_3 : (HP si sa hs tx tl hc hn v pa mt pm ty ra)[68]? = some (.inr (.inr (2, [.int ((hs 2).1 6), .int ((hs 2).1 7), .ref 69]))) := rfl
set_option maxRecDepth 100000 in
theorem HPf_2_4 : (HP si sa hs tx tl hc hn v pa mt pm ty ra)[69]? = some (.inl (100, ((hs 2).2 2))) := rfl
set_option maxRecDepth 100000 in
theorem HPf_2_5 : (HP si sa hs tx tl hc hn v pa mt pm ty ra)[70]? = some (.inr (.inr (4, [.int ((hs 2).1 8), .ref 71]))) := rfl
set_option maxRecDepth 100000 in
theorem HPf_2_6 : (HP si sa hs tx tl hc hn v pa mt pm ty ra)[71]? = some (.inl (100, ((hs 2).2 3))) := rfl
set_option maxRecDepth 100000 in
theorem HPf_2_7 : (HP si sa hs tx tl hc hn v pa mt pm ty ra)[72]? = some (.inr (.inr (6, [.int ((hs 2).1 9), .ref 73, .ref 74, .ref 75, .ref 76, .ref 77, .ref 78, .ref 79, .ref 80]))) := rfl
set_option maxRecDepth 100000 in
theorem HPf_2_8 : (HP si sa hs tx tl hc hn v pa mt pm ty ra)[73]? = some (.inl (41, ((hs 2).2 4))) := rfl
set_option maxRecDepth 100000 in
theorem HPf_2_9 : (HP si sa hs tx tl hc hn v pa mt pm ty ra)[74]? = some (.inl (41, ((hs 2).2 5))) := rfl
set_option maxRecDepth 100000 in
theorem HPf_2_10 : (HP si sa hs tx tl hc hn v pa mt pm ty ra)[75]? = some (.inl (41, ((hs 2).2 6))) := rfl
set_option maxRecDepth 100000 in
theorem HPf_2_11 : (HP si sa hs tx tl hc hn v pa mt pm ty ra)[76]? = some (.inl (41, ((hs 2).2 7))) := rfl
set_option maxRecDepth 100000 in
theorem HPf_2_12 : (HP si sa hs tx tl hc hn v pa mt pm ty ra)[77]? = some (.inl (41, ((hs 2).2 8))) := rfl
set_option maxRecDepth 100000 in
theorem HPf_2_13 : (HP si sa hs tx tl hc hn v pa mt pm ty ra)[78]? = some (.inl (41, ((hs 2).2 9))) := rfl
set_option maxRecDepth 100000 in
theorem HPf_2_14 : (HP si sa hs tx tl hc hn v pa mt pm ty ra)[79]? = some (.inl (41, ((hs 2).2 10))) := rfl
set_option maxRecDepth 100000 in
theorem HPf_2_15 : (HP si sa hs tx tl hc hn v pa mt pm ty ra)[80]? = some (.inl (410, ((hs 2).2 11))) := rfl
set_option maxRecDepth 100000 in
theorem HPf_2_16 : (HP si sa hs tx tl hc hn v pa mt pm ty ra)[81]? = some (.inr (.inr (1, [.int ((hs 2).1 10), .ref 82, .ref 83, .ref 84]))) := rfl
set_option maxRecDepth 100000 in
theorem HPf_2_17 : (HP si sa hs tx tl hc hn v pa mt pm ty ra)[82]? = some (.inl (20, ((hs 2).2 12))) := rfl
set_option maxRecDepth 100000 in
theorem HPf_2_18 : (HP si sa hs tx tl hc hn v pa mt pm ty ra)[83]? = some (.inl (20, ((hs 2).2 13))) := rfl
set_option maxRecDepth 100000 in
theorem HPf_2_19 : (HP si sa hs tx tl hc hn v pa mt pm ty ra)[84]? = some (.inl (20, ((hs 2).2 14))) := rfl
set_option maxRecDepth 100000 in
theorem HPf_3_15 : (HP si sa hs tx tl hc hn v pa mt pm ty ra)[100]? = some (.inl (410, ((hs 3).2 11))) := rfl
set_option maxRecDepth 100000 in
theorem HPf_3_16 : (HP si sa hs tx tl hc hn v pa mt pm ty ra)[101]? = some (.inr (.inr (1, [.int ((hs 3).1 10), .ref 102, .ref 103, .ref 104]))) := rfl
set_option maxRecDepth 100000 in
theorem HPf_3_17 : (HP si sa hs tx tl hc hn v pa mt pm ty ra)[102]? = some (.inl (20, ((hs 3).2 12))) := rfl
set_option maxRecDepth 100000 in
theorem HPf_3_18 : (HP si sa hs tx tl hc hn v pa mt pm ty ra)[103]? = some (.inl (20, ((hs 3).2 13))) := rfl
set_option maxRecDepth 100000 in
theorem HPf_3_19 : (HP si sa hs tx tl hc hn v pa mt pm ty ra)[104]? = some (.inl (20, ((hs 3).2 14))) := rfl
set_option maxRecDepth 100000 in
theorem HPf_3_0 : (HP si sa hs tx tl hc hn v pa mt pm ty ra)[85]? = some (.inr (.inr (5, [.ref 86, .int ((hs 3).1 0), .int ((hs 3).1 1), .ref 87, .int ((hs 3).1 2), .int ((hs 3).1 3), .int ((hs 3).1 4), .int ((hs 3).1 5), .ref 88, .ref 90, .ref 92, .ref 101]))) := rfl
set_option maxRecDepth 100000 in
theorem HPf_3_1 : (HP si sa hs tx tl hc hn v pa mt pm ty ra)[86]? = some (.inl (6, ((hs 3).2 0))) := rfl
set_option maxRecDepth 100000 in
theorem HPf_3_2 : (HP si sa hs tx tl hc hn v pa mt pm ty ra)[87]? = some (.inl (10, ((hs 3).2 1))) := rfl
set_option maxRecDepth 100000 in
theorem HPf_3_3 : (HP si sa hs tx tl hc hn v pa mt pm ty ra)[88]? = some (.inr (.inr (2, [.int ((hs 3).1 6), .int ((hs 3).1 7), .ref 89]))) := rfl
set_option maxRecDepth 100000 in
theorem HPf_3_4 : (HP si sa hs tx tl hc hn v pa mt pm ty ra)[89]? = some (.inl (100, ((hs 3).2 2))) := rfl
set_option maxRecDepth 100000 in
theorem HPf_3_5 : (HP si sa hs tx tl hc hn v pa mt pm ty ra)[90]? = some (.inr (.inr (4, [.int ((hs 3).1 8), .ref 91]))) := rfl
set_option maxRecDepth 100000 in
theorem HPf_3_6 : (HP si sa hs tx tl hc hn v pa mt pm ty ra)[91]? = some (.inl (100, ((hs 3).2 3))) := rfl
set_option maxRecDepth 100000 in
theorem HPf_3_7 : (HP si sa hs tx tl hc hn v pa mt pm ty ra)[92]? = some (.inr (.inr (6, [.int ((hs 3).1 9), .ref 93, .ref 94, .ref 95, .ref 96, .ref 97, .ref 98, .ref 99, .ref 100]))) := rfl
set_option maxRecDepth 100000 in
theorem HPf_3_8 : (HP si sa hs tx tl hc hn v pa mt pm ty ra)[93]? = some (.inl (41, ((hs 3).2 4))) := rfl
set_option maxRecDepth 100000 in
theorem HPf_3_9 : (HP si sa hs tx tl hc hn v pa mt pm ty ra)[94]? = some (.inl (41, ((hs 3).2 5))) := rfl
set_option maxRecDepth 100000 in
theorem HPf_3_10 : (HP si sa hs tx tl hc hn v pa mt pm ty ra)[95]? = some (.inl (41, ((hs 3).2 6))) := rfl
set_option maxRecDepth 100000 in
theorem HPf_3_11 : (HP si sa hs tx tl hc hn v pa mt pm ty ra)[96]? = some (.inl (41, ((hs 3).2 7))) := rfl
set_option maxRecDepth 100000 in
theorem HPf_3_12 : (HP si sa hs tx tl hc hn v pa mt pm ty ra)[97]? = some (.inl (41, ((hs 3).2 8))) := rfl
set_option maxRecDepth 100000 in
theorem HPf_3_13 : (HP si sa hs tx tl hc hn v pa mt pm ty ra)[98]? = some (.inl (41, ((hs 3).2 9))) := rfl
set_option maxRecDepth 100000 in
theorem HPf_3_14 : (HP si sa hs tx tl hc hn v pa mt pm ty ra)[99]? = some (.inl (41, ((hs 3).2 10))) := rfl
set_option maxRecDepth 100000 in
theorem HPf_4_0 : (HP si sa hs tx tl hc hn v pa mt pm ty ra)[105]? = some (.inr (.inr (5, [.ref 106, .int ((hs 4).1 0), .int ((hs 4).1 1), .ref 107, .int ((hs 4).1 2), .int ((hs 4).1 3), .int ((hs 4).1 4), .int ((hs 4).1 5), .ref 108, .ref 110, .ref 112, .ref 121]))) := rfl
set_option maxRecDepth 100000 in
theorem HPf_4_1 : (HP si sa hs tx tl hc hn v pa mt pm ty ra)[106]? = some (.inl (6, ((hs 4).2 0))) := rfl
set_option maxRecDepth 100000 in
theorem HPf_4_2 : (HP si sa hs tx tl hc hn v pa mt pm ty ra)[107]? = some (.inl (10, ((hs 4).2 1))) := rfl
set_option maxRecDepth 100000 in
theorem HPf_4_3 : (HP si sa hs tx tl hc hn v pa mt pm ty ra)[108]? = some (.inr (.inr (2, [.int ((hs 4).1 6), .int ((hs 4).1 7), .ref 109]))) := rfl
set_option maxRecDepth 100000 in
theorem HPf_4_4 : (HP si sa hs tx tl hc hn v pa mt pm ty ra)[109]? = some (.inl (100, ((hs 4).2 2))) := rfl
set_option maxRecDepth 100000 in
theorem HPf_4_5 : (HP si sa hs tx tl hc hn v pa mt pm ty ra)[110]? = some (.inr (.inr (4, [.int ((hs 4).1 8), .ref 111]))) := rfl
set_option maxRecDepth 100000 in
theorem HPf_4_6 : (HP si sa hs tx tl hc hn v pa mt pm ty ra)[111]? = some (.inl (100, ((hs 4).2 3))) := rfl
set_option maxRecDepth 100000 in
theorem HPf_4_7 : (HP si sa hs tx tl hc hn v pa mt pm ty ra)[112]? = some (.inr (.inr (6, [.int ((hs 4).1 9), .ref 113, .ref 114, .ref 115, .ref 116, .ref 117, .ref 118, .ref 119, .ref 120]))) := rfl
set_option maxRecDepth 100000 in
theorem HPf_4_8 : (HP si sa hs tx tl hc hn v pa mt pm ty ra)[113]? = some (.inl (41, ((hs 4).2 4))) := rfl
set_option maxRecDepth 100000 in
theorem HPf_4_9 : (HP si sa hs tx tl hc hn v pa mt pm ty ra)[114]? = some (.inl (41, ((hs 4).2 5))) := rfl
set_option maxRecDepth 100000 in
theorem HPf_4_10 : (HP si sa hs tx tl hc hn v pa mt pm ty ra)[115]? = some (.inl (41, ((hs 4).2 6))) := rfl
set_option maxRecDepth 100000 in
theorem HPf_4_11 : (HP si sa hs tx tl hc hn v pa mt pm ty ra)[116]? = some (.inl (41, ((hs 4).2 7))) := rfl
set_option maxRecDepth 100000 in
theorem HPf_4_12 : (HP si sa hs tx tl hc hn v pa mt pm ty ra)[117]? = some (.inl (41, ((hs 4).2 8))) := rfl
set_option maxRecDepth 100000 in
theorem HPf_4_13 : (HP si sa hs tx tl hc hn v pa mt pm ty ra)[118]? = some (.inl (41, ((hs 4).2 9))) := rfl
set_option maxRecDepth 100000 in
theorem HPf_4_14 : (HP si sa hs tx tl hc hn v pa mt pm ty ra)[119]? = some (.inl (41, ((hs 4).2 10))) := rfl
set_option maxRecDepth 100000 in
theorem HPf_4_15 : (HP si sa hs tx tl hc hn v pa mt pm ty ra)[120]? = some (.inl (410, ((hs 4).2 11))) := rfl
set_option maxRecDepth 100000 in
theorem HPf_4_16 : (HP si sa hs tx tl hc hn v pa mt pm ty ra)[121]? = some (.inr (.inr (1, [.int ((hs 4).1 10), .ref 122, .ref 123, .ref 124]))) := rfl
set_option maxRecDepth 100000 in
theorem HPf_4_17 : (HP si sa hs tx tl hc hn v pa mt pm ty ra)[122]? = some (.inl (20, ((hs 4).2 12))) := rfl
set_option maxRecDepth 100000 in
theorem HPf_4_18 : (HP si sa hs tx tl hc hn v pa mt pm ty ra)[123]? = some (.inl (20, ((hs 4).2 13))) := rfl
set_option maxRecDepth 100000 in
theorem HPf_4_19 : (HP si sa hs tx tl hc hn v pa mt pm ty ra)[124]? = some (.inl (20, ((hs 4).2 14))) := rfl
set_option maxRecDepth 100000 in
theorem HPt_0_0 : (HP si sa (va_up hs 0 (dI, dA)) tx tl hc hn v pa mt pm ty ra)[25]? = some (.inr (.inr (5, [.ref 26, .int (dI 0), .int (dI 1), .ref 27, .int (dI 2), .int (dI 3), .int (dI 4), .int (dI 5), .ref 28, .ref 30, .ref 32, .ref 41]))) := rfl
set_option maxRecDepth 100000 in
theorem HPt_0_1 : (HP si sa (va_up hs 0 (dI, dA)) tx tl hc hn v pa mt pm ty ra)[26]? = some (.inl (6, (dA 0))) := rfl
set_option maxRecDepth 100000 in
theorem HPt_0_2 : (HP si sa (va_up hs 0 (dI, dA)) tx tl hc hn v pa mt pm ty ra)[27]? = some (.inl (10, (dA 1))) := rfl
set_option maxRecDepth 100000 in
theorem HPt_0_3 : (HP si sa (va_up hs 0 (dI, dA)) tx tl hc hn v pa mt pm ty ra)[28]? = some (.inr (.inr (2, [.int (dI 6), .int (dI 7), .ref 29]))) := rfl
set_option maxRecDepth 100000 in
theorem HPt_0_4 : (HP si sa (va_up hs 0 (dI, dA)) tx tl hc hn v pa mt pm ty ra)[29]? = some (.inl (100, (dA 2))) := rfl
set_option maxRecDepth 100000 in
theorem HPt_0_5 : (HP si sa (va_up hs 0 (dI, dA)) tx tl hc hn v pa mt pm ty ra)[30]? = some (.inr (.inr (4, [.int (dI 8), .ref 31]))) := rfl
set_option maxRecDepth 100000 in
theorem HPt_0_6 : (HP si sa (va_up hs 0 (dI, dA)) tx tl hc hn v pa mt pm ty ra)[31]? = some (.inl (100, (dA 3))) := rfl
set_option maxRecDepth 100000 in
theorem HPt_0_7 : (HP si sa (va_up hs 0 (dI, dA)) tx tl hc hn v pa mt pm ty ra)[32]? = some (.inr (.inr (6, [.int (dI 9), .ref 33, .ref 34, .ref 35, .ref 36, .ref 37, .ref 38, .ref 39, .ref 40]))) := rfl
set_option maxRecDepth 100000 in
theorem HPt_0_8 : (HP si sa (va_up hs 0 (dI, dA)) tx tl hc hn v pa mt pm ty ra)[33]? = some (.inl (41, (dA 4))) := rfl
set_option maxRecDepth 100000 in
theorem HPt_0_9 : (HP si sa (va_up hs 0 (dI, dA)) tx tl hc hn v pa mt pm ty ra)[34]? = some (.inl (41, (dA 5))) := rfl
set_option maxRecDepth 100000 in
theorem HPt_0_10 : (HP si sa (va_up hs 0 (dI, dA)) tx tl hc hn v pa mt pm ty ra)[35]? = some (.inl (41, (dA 6))) := rfl
set_option maxRecDepth 100000 in
theorem HPt_0_11 : (HP si sa (va_up hs 0 (dI, dA)) tx tl hc hn v pa mt pm ty ra)[36]? = some (.inl (41, (dA 7))) := rfl
set_option maxRecDepth 100000 in
theorem HPt_0_12 : (HP si sa (va_up hs 0 (dI, dA)) tx tl hc hn v pa mt pm ty ra)[37]? = some (.inl (41, (dA 8))) := rfl
set_option maxRecDepth 100000 in
theorem HPt_0_13 : (HP si sa (va_up hs 0 (dI, dA)) tx tl hc hn v pa mt pm ty ra)[38]? = some (.inl (41, (dA 9))) := rfl
set_option maxRecDepth 100000 in
theorem HPt_0_14 : (HP si sa (va_up hs 0 (dI, dA)) tx tl hc hn v pa mt pm ty ra)[39]? = some (.inl (41, (dA 10))) := rfl
set_option maxRecDepth 100000 in
theorem HPt_0_15 : (HP si sa (va_up hs 0 (dI, dA)) tx tl hc hn v pa mt pm ty ra)[40]? = some (.inl (410, (dA 11))) := rfl
set_option maxRecDepth 100000 in
theorem HPt_0_16 : (HP si sa (va_up hs 0 (dI, dA)) tx tl hc hn v pa mt pm ty ra)[41]? = some (.inr (.inr (1, [.int (dI 10), .ref 42, .ref 43, .ref 44]))) := rfl
set_option maxRecDepth 100000 in
theorem HPt_0_17 : (HP si sa (va_up hs 0 (dI, dA)) tx tl hc hn v pa mt pm ty ra)[42]? = some (.inl (20, (dA 12))) := rfl
set_option maxRecDepth 100000 in
theorem HPt_0_18 : (HP si sa (va_up hs 0 (dI, dA)) tx tl hc hn v pa mt pm ty ra)[43]? = some (.inl (20, (dA 13))) := rfl
set_option maxRecDepth 100000 in
theorem HPt_0_19 : (HP si sa (va_up hs 0 (dI, dA)) tx tl hc hn v pa mt pm ty ra)[44]? = some (.inl (20, (dA 14))) := rfl
set_option maxRecDepth 100000 in
theorem HPt_1_0 : (HP si sa (va_up hs 1 (dI, dA)) tx tl hc hn v pa mt pm ty ra)[45]? = some (.inr (.inr (5, [.ref 46, .int (dI 0), .int (dI 1), .ref 47, .int (dI 2), .int (dI 3), .int (dI 4), .int (dI 5), .ref 48, .ref 50, .ref 52, .ref 61]))) := rfl
set_option maxRecDepth 100000 in
theorem HPt_1_1 : (HP si sa (va_up hs 1 (dI, dA)) tx tl hc hn v pa mt pm ty ra)[46]? = some (.inl (6, (dA 0))) := rfl
set_option maxRecDepth 100000 in
theorem HPt_1_2 : (HP si sa (va_up hs 1 (dI, dA)) tx tl hc hn v pa mt pm ty ra)[47]? = some (.inl (10, (dA 1))) := rfl
set_option maxRecDepth 100000 in
theorem HPt_1_3 : (HP si sa (va_up hs 1 (dI, dA)) tx tl hc hn v pa mt pm ty ra)[48]? = some (.inr (.inr (2, [.int (dI 6), .int (dI 7), .ref 49]))) := rfl
set_option maxRecDepth 100000 in
theorem HPt_1_4 : (HP si sa (va_up hs 1 (dI, dA)) tx tl hc hn v pa mt pm ty ra)[49]? = some (.inl (100, (dA 2))) := rfl
set_option maxRecDepth 100000 in
theorem HPt_1_5 : (HP si sa (va_up hs 1 (dI, dA)) tx tl hc hn v pa mt pm ty ra)[50]? = some (.inr (.inr (4, [.int (dI 8), .ref 51]))) := rfl
set_option maxRecDepth 100000 in
theorem HPt_1_6 : (HP si sa (va_up hs 1 (dI, dA)) tx tl hc hn v pa mt pm ty ra)[51]? = some (.inl (100, (dA 3))) := rfl
set_option maxRecDepth 100000 in
theorem HPt_1_7 : (HP si sa (va_up hs 1 (dI, dA)) tx tl hc hn v pa mt pm ty ra)[52]? = some (.inr (.inr (6, [.int (dI 9), .ref 53, .ref 54, .ref 55, .ref 56, .ref 57, .ref 58, .ref 59, .ref 60]))) := rfl
set_option maxRecDepth 100000 in
theorem HPt_1_8 : (HP si sa (va_up hs 1 (dI, dA)) tx tl hc hn v pa mt pm ty ra)[53]? = some (.inl (41, (dA 4))) := rfl
set_option maxRecDepth 100000 in
theorem HPt_1_9 : (HP si sa (va_up hs 1 (dI, dA)) tx tl hc hn v pa mt pm ty ra)[54]? = some (.inl (41, (dA 5))) := rfl
set_option maxRecDepth 100000 in
theorem HPt_1_10 : (HP si sa (va_up hs 1 (dI, dA)) tx tl hc hn v pa mt pm ty ra)[55]? = some (.inl (41, (dA 6))) := rfl
set_option maxRecDepth 100000 in
theorem HPt_1_11 : (HP si sa (va_up hs 1 (dI, dA)) tx tl hc hn v pa mt pm ty ra)[56]? = some (.inl (41, (dA 7))) := rfl
set_option maxRecDepth 100000 in
theorem HPt_1_12 : (HP si sa (va_up hs 1 (dI, dA)) tx tl hc hn v pa mt pm ty ra)[57]? = some (.inl (41, (dA 8))) := rfl
set_option maxRecDepth 100000 in
theorem HPt_1_13 : (HP si sa (va_up hs 1 (dI, dA)) tx tl hc hn v pa mt pm ty ra)[58]? = some (.inl (41, (dA 9))) := rfl
set_option maxRecDepth 100000 in
theorem HPt_1_14 : (HP si sa (va_up hs 1 (dI, dA)) tx tl hc hn v pa mt pm ty ra)[59]? = some (.inl (41, (dA 10))) := rfl
set_option maxRecDepth 100000 in
theorem HPt_1_15 : (HP si sa (va_up hs 1 (dI, dA)) tx tl hc hn v pa mt pm ty ra)[60]? = some (.inl (410, (dA 11))) := rfl
set_option maxRecDepth 100000 in
theorem HPt_1_16 : (HP si sa (va_up hs 1 (dI, dA)) tx tl hc hn v pa mt pm ty ra)[61]? = some (.inr (.inr (1, [.int (dI 10), .ref 62, .ref 63, .ref 64]))) := rfl
set_option maxRecDepth 100000 in
theorem HPt_1_17 : (HP si sa (va_up hs 1 (dI, dA)) tx tl hc hn v pa mt pm ty ra)[62]? = some (.inl (20, (dA 12))) := rfl
set_option maxRecDepth 100000 in
theorem HPt_1_18 : (HP si sa (va_up hs 1 (dI, dA)) tx tl hc hn v pa mt pm ty ra)[63]? = some (.inl (20, (dA 13))) := rfl
set_option maxRecDepth 100000 in
theorem HPt_1_19 : (HP si sa (va_up hs 1 (dI, dA)) tx tl hc hn v pa mt pm ty ra)[64]? = some (.inl (20, (dA 14))) := rfl
set_option maxRecDepth 100000 in
theorem HPt_2_0 : (HP si sa (va_up hs 2 (dI, dA)) tx tl hc hn v pa mt pm ty ra)[65]? = some (.inr (.inr (5, [.ref 66, .int (dI 0), .int (dI 1), .ref 67, .int (dI 2), .int (dI 3), .int (dI 4), .int (dI 5), .ref 68, .ref 70, .ref 72, .ref 81]))) := rfl
set_option maxRecDepth 100000 in
theorem HPt_2_1 : (HP si sa (va_up hs 2 (dI, dA)) tx tl hc hn v pa mt pm ty ra)[66]? = some (.inl (6, (dA 0))) := rfl
set_option maxRecDepth 100000 in
theorem HPt_2_2 : (HP si sa (va_up hs 2 (dI, dA)) tx tl hc hn v pa mt pm ty ra)[67]? = some (.inl (10, (dA 1))) := rfl
set_option maxRecDepth 100000 in
theorem HPt_2_3 : (HP si sa (va_up hs 2 (dI, dA)) tx tl hc hn v pa mt pm ty ra)[68]? = some (.inr (.inr (2, [.int (dI 6), .int (dI 7), .ref 69]))) := rfl
set_option maxRecDepth 100000 in
theorem HPt_2_4 : (HP si sa (va_up hs 2 (dI, dA)) tx tl hc hn v pa mt pm ty ra)[69]? = some (.inl (100, (dA 2))) := rfl
set_option maxRecDepth 100000 in
theorem HPt_2_5 : (HP si sa (va_up hs 2 (dI, dA)) tx tl hc hn v pa mt pm ty ra)[70]? = some (.inr (.inr (4, [.int (dI 8), .ref 71]))) := rfl
set_option maxRecDepth 100000 in
theorem HPt_2_6 : (HP si sa (va_up hs 2 (dI, dA)) tx tl hc hn v pa mt pm ty ra)[71]? = some (.inl (100, (dA 3))) := rfl
set_option maxRecDepth 100000 in
theorem HPt_2_7 : (HP si sa (va_up hs 2 (dI, dA)) tx tl hc hn v pa mt pm ty ra)[72]? = some (.inr (.inr (6, [.int (dI 9), .ref 73, .ref 74, .ref 75, .ref 76, .ref 77, .ref 78, .ref 79, .ref 80]))) := rfl
set_option maxRecDepth 100000 in
theorem HPt_2_8 : (HP si sa (va_up hs 2 (dI, dA)) tx tl hc hn v pa mt pm ty ra)[73]? = some (.inl (41, (dA 4))) := rfl
set_option maxRecDepth 100000 in
theorem HPt_2_9 : (HP si sa (va_up hs 2 (dI, dA)) tx tl hc hn v pa mt pm ty ra)[74]? = some (.inl (41, (dA 5))) := rfl
set_option maxRecDepth 100000 in
theorem HPt_2_10 : (HP si sa (va_up hs 2 (dI, dA)) tx tl hc hn v pa mt pm ty ra)[75]? = some (.inl (41, (dA 6))) := rfl
set_option maxRecDepth 100000 in
theorem HPt_2_11 : (HP si sa (va_up hs 2 (dI, dA)) tx tl hc hn v pa mt pm ty ra)[76]? = some (.inl (41, (dA 7))) := rfl
set_option maxRecDepth 100000 in
theorem HPt_2_12 : (HP si sa (va_up hs 2 (dI, dA)) tx tl hc hn v pa mt pm ty ra)[77]? = some (.inl (41, (dA 8))) := rfl
set_option maxRecDepth 100000 in
theorem HPt_2_13 : (HP si sa (va_up hs 2 (dI, dA)) tx tl hc hn v pa mt pm ty ra)[78]? = some (.inl (41, (dA 9))) := rfl
set_option maxRecDepth 100000 in
theorem HPt_2_14 : (HP si sa (va_up hs 2 (dI, dA)) tx tl hc hn v pa mt pm ty ra)[79]? = some (.inl (41, (dA 10))) := rfl
set_option maxRecDepth 100000 in
theorem HPt_2_15 : (HP si sa (va_up hs 2 (dI, dA)) tx tl hc hn v pa mt pm ty ra)[80]? = some (.inl (410, (dA 11))) := rfl
set_option maxRecDepth 100000 in
theorem HPt_2_16 : (HP si sa (va_up hs 2 (dI, dA)) tx tl hc hn v pa mt pm ty ra)[81]? = some (.inr (.inr (1, [.int (dI 10), .ref 82, .ref 83, .ref 84]))) := rfl
set_option maxRecDepth 100000 in
theorem HPt_2_17 : (HP si sa (va_up hs 2 (dI, dA)) tx tl hc hn v pa mt pm ty ra)[82]? = some (.inl (20, (dA 12))) := rfl
set_option maxRecDepth 100000 in
theorem HPt_2_18 : (HP si sa (va_up hs 2 (dI, dA)) tx tl hc hn v pa mt pm ty ra)[83]? = some (.inl (20, (dA 13))) := rfl
set_option maxRecDepth 100000 in
theorem HPt_2_19 : (HP si sa (va_up hs 2 (dI, dA)) tx tl hc hn v pa mt pm ty ra)[84]? = some (.inl (20, (dA 14))) := rfl
set_option maxRecDepth 100000 in
theorem HPt_3_15 : (HP si sa (va_up hs 3 (dI, dA)) tx tl hc hn v pa mt pm ty ra)[100]? = some (.inl (410, (dA 11))) := rfl
set_option maxRecDepth 100000 in
theorem HPt_3_16 : (HP si sa (va_up hs 3 (dI, dA)) tx tl hc hn v pa mt pm ty ra)[101]? = some (.inr (.inr (1, [.int (dI 10), .ref 102, .ref 103, .ref 104]))) := rfl
set_option maxRecDepth 100000 in
theorem HPt_3_17 : (HP si sa (va_up hs 3 (dI, dA)) tx tl hc hn v pa mt pm ty ra)[102]? = some (.inl (20, (dA 12))) := rfl
set_option maxRecDepth 100000 in
theorem HPt_3_18 : (HP si sa (va_up hs 3 (dI, dA)) tx tl hc hn v pa mt pm ty ra)[103]? = some (.inl (20, (dA 13))) := rfl
set_option maxRecDepth 100000 in
theorem HPt_3_19 : (HP si sa (va_up hs 3 (dI, dA)) tx tl hc hn v pa mt pm ty ra)[104]? = some (.inl (20, (dA 14))) := rfl
set_option maxRecDepth 100000 in
theorem HPt_3_0 : (HP si sa (va_up hs 3 (dI, dA)) tx tl hc hn v pa mt pm ty ra)[85]? = some (.inr (.inr (5, [.ref 86, .int (dI 0), .int (dI 1), .ref 87, .int (dI 2), .int (dI 3), .int (dI 4), .int (dI 5), .ref 88, .ref 90, .ref 92, .ref 101]))) := rfl
set_option maxRecDepth 100000 in
theorem HPt_3_1 : (HP si sa (va_up hs 3 (dI, dA)) tx tl hc hn v pa mt pm ty ra)[86]? = some (.inl (6, (dA 0))) := rfl
set_option maxRecDepth 100000 in
theorem HPt_3_2 : (HP si sa (va_up hs 3 (dI, dA)) tx tl hc hn v pa mt pm ty ra)[87]? = some (.inl (10, (dA 1))) := rfl
set_option maxRecDepth 100000 in
theorem HPt_3_3 : (HP si sa (va_up hs 3 (dI, dA)) tx tl hc hn v pa mt pm ty ra)[88]? = some (.inr (.inr (2, [.int (dI 6), .int (dI 7), .ref 89]))) := rfl
set_option maxRecDepth 100000 in
theorem HPt_3_4 : (HP si sa (va_up hs 3 (dI, dA)) tx tl hc hn v pa mt pm ty ra)[89]? = some (.inl (100, (dA 2))) := rfl
set_option maxRecDepth 100000 in
theorem HPt_3_5 : (HP si sa (va_up hs 3 (dI, dA)) tx tl hc hn v pa mt pm ty ra)[90]? = some (.inr (.inr (4, [.int (dI 8), .ref 91]))) := rfl
set_option maxRecDepth 100000 in
theorem HPt_3_6 : (HP si sa (va_up hs 3 (dI, dA)) tx tl hc hn v pa mt pm ty ra)[91]? = some (.inl (100, (dA 3))) := rfl
set_option maxRecDepth 100000 in
theorem HPt_3_7 : (HP si sa (va_up hs 3 (dI, dA)) tx tl hc hn v pa mt pm ty ra)[92]? = some (.inr (.inr (6, [.int (dI 9), .ref 93, .ref 94, .ref 95, .ref 96, .ref 97, .ref 98, .ref 99, .ref 100]))) := rfl
set_option maxRecDepth 100000 in
theorem HPt_3_8 : (HP si sa (va_up hs 3 (dI, dA)) tx tl hc hn v pa mt pm ty ra)[93]? = some (.inl (41, (dA 4))) := rfl
set_option maxRecDepth 100000 in
theorem HPt_3_9 : (HP si sa (va_up hs 3 (dI, dA)) tx tl hc hn v pa mt pm ty ra)[94]? = some (.inl (41, (dA 5))) := rfl
set_option maxRecDepth 100000 in
theorem HPt_3_10 : (HP si sa (va_up hs 3 (dI, dA)) tx tl hc hn v pa mt pm ty ra)[95]? = some (.inl (41, (dA 6))) := rfl
set_option maxRecDepth 100000 in
theorem HPt_3_11 : (HP si sa (va_up hs 3 (dI, dA)) tx tl hc hn v pa mt pm ty ra)[96]? = some (.inl (41, (dA 7))) := rfl
set_option maxRecDepth 100000 in
theorem HPt_3_12 : (HP si sa (va_up hs 3 (dI, dA)) tx tl hc hn v pa mt pm ty ra)[97]? = some (.inl (41, (dA 8))) := rfl
set_option maxRecDepth 100000 in
theorem HPt_3_13 : (HP si sa (va_up hs 3 (dI, dA)) tx tl hc hn v pa mt pm ty ra)[98]? = some (.inl (41, (dA 9))) := rfl
set_option maxRecDepth 100000 in
theorem HPt_3_14 : (HP si sa (va_up hs 3 (dI, dA)) tx tl hc hn v pa mt pm ty ra)[99]? = some (.inl (41, (dA 10))) := rfl
set_option maxRecDepth 100000 in
theorem HPt_4_0 : (HP si sa (va_up hs 4 (dI, dA)) tx tl hc hn v pa mt pm ty ra)[105]? = some (.inr (.inr (5, [.ref 106, .int (dI 0), .int (dI 1), .ref 107, .int (dI 2), .int (dI 3), .int (dI 4), .int (dI 5), .ref 108, .ref 110, .ref 112, .ref 121]))) := rfl
set_option maxRecDepth 100000 in
theorem HPt_4_1 : (HP si sa (va_up hs 4 (dI, dA)) tx tl hc hn v pa mt pm ty ra)[106]? = some (.inl (6, (dA 0))) := rfl
set_option maxRecDepth 100000 in
theorem HPt_4_2 : (HP si sa (va_up hs 4 (dI, dA)) tx tl hc hn v pa mt pm ty ra)[107]? = some (.inl (10, (dA 1))) := rfl
set_option maxRecDepth 100000 in
theorem HPt_4_3 : (HP si sa (va_up hs 4 (dI, dA)) tx tl hc hn v pa mt pm ty ra)[108]? = some (.inr (.inr (2, [.int (dI 6), .int (dI 7), .ref 109]))) := rfl
set_option maxRecDepth 100000 in
theorem HPt_4_4 : (HP si sa (va_up hs 4 (dI, dA)) tx tl hc hn v pa mt pm ty ra)[109]? = some (.inl (100, (dA 2))) := rfl
set_option maxRecDepth 100000 in
theorem HPt_4_5 : (HP si sa (va_up hs 4 (dI, dA)) tx tl hc hn v pa mt pm ty ra)[110]? = some (.inr (.inr (4, [.int (dI 8), .ref 111]))) := rfl
set_option maxRecDepth 100000 in
theorem HPt_4_6 : (HP si sa (va_up hs 4 (dI, dA)) tx tl hc hn v pa mt pm ty ra)[111]? = some (.inl (100, (dA 3))) := rfl
set_option maxRecDepth 100000 in
theorem HPt_4_7 : (HP si sa (va_up hs 4 (dI, dA)) tx tl hc hn v pa mt pm ty ra)[112]? = some (.inr (.inr (6, [.int (dI 9), .ref 113, .ref 114, .ref 115, .ref 116, .ref 117, .ref 118, .ref 119, .ref 120]))) := rfl
set_option maxRecDepth 100000 in
theorem HPt_4_8 : (HP si sa (va_up hs 4 (dI, dA)) tx tl hc hn v pa mt pm ty ra)[113]? = some (.inl (41, (dA 4))) := rfl
set_option maxRecDepth 100000 in
theorem HPt_4_9 : (HP si sa (va_up hs 4 (dI, dA)) tx tl hc hn v pa mt pm ty ra)[114]? = some (.inl (41, (dA 5))) := rfl
set_option maxRecDepth 100000 in
theorem HPt_4_10 : (HP si sa (va_up hs 4 (dI, dA)) tx tl hc hn v pa mt pm ty ra)[115]? = some (.inl (41, (dA 6))) := rfl
set_option maxRecDepth 100000 in
theorem HPt_4_11 : (HP si sa (va_up hs 4 (dI, dA)) tx tl hc hn v pa mt pm ty ra)[116]? = some (.inl (41, (dA 7))) := rfl
set_option maxRecDepth 100000 in
theorem HPt_4_12 : (HP si sa (va_up hs 4 (dI, dA)) tx tl hc hn v pa mt pm ty ra)[117]? = some (.inl (41, (dA 8))) := rfl
set_option maxRecDepth 100000 in
theorem HPt_4_13 : (HP si sa (va_up hs 4 (dI, dA)) tx tl hc hn v pa mt pm ty ra)[118]? = some (.inl (41, (dA 9))) := rfl
set_option maxRecDepth 100000 in
theorem HPt_4_14 : (HP si sa (va_up hs 4 (dI, dA)) tx tl hc hn v pa mt pm ty ra)[119]? = some (.inl (41, (dA 10))) := rfl
set_option maxRecDepth 100000 in
theorem HPt_4_15 : (HP si sa (va_up hs 4 (dI, dA)) tx tl hc hn v pa mt pm ty ra)[120]? = some (.inl (410, (dA 11))) := rfl
set_option maxRecDepth 100000 in
theorem HPt_4_16 : (HP si sa (va_up hs 4 (dI, dA)) tx tl hc hn v pa mt pm ty ra)[121]? = some (.inr (.inr (1, [.int (dI 10), .ref 122, .ref 123, .ref 124]))) := rfl
set_option maxRecDepth 100000 in
theorem HPt_4_17 : (HP si sa (va_up hs 4 (dI, dA)) tx tl hc hn v pa mt pm ty ra)[122]? = some (.inl (20, (dA 12))) := rfl
set_option maxRecDepth 100000 in
theorem HPt_4_18 : (HP si sa (va_up hs 4 (dI, dA)) tx tl hc hn v pa mt pm ty ra)[123]? = some (.inl (20, (dA 13))) := rfl
set_option maxRecDepth 100000 in
theorem HPt_4_19 : (HP si sa (va_up hs 4 (dI, dA)) tx tl hc hn v pa mt pm ty ra)[124]? = some (.inl (20, (dA 14))) := rfl
set_option maxRecDepth 100000 in
theorem HPs_1_1 {x : Int32} : (HP si sa hs tx tl hc hn v pa mt pm ty ra).set 1 (.inr (.inr (0, ([.ref 2, .int tl] : List Value).set 1 (.int x)))) = HP si sa hs tx x hc hn v pa mt pm ty ra := rfl
set_option maxRecDepth 100000 in
theorem HPs_10_0 {x : Int32} : (HP si sa hs tx tl hc hn v pa mt pm ty ra).set 10 (.inr (.inr (6, ([.int (si 9), .ref 11, .ref 12, .ref 13, .ref 14, .ref 15, .ref 16, .ref 17, .ref 18] : List Value).set 0 (.int x)))) = HP (upd si 9 x) sa hs tx tl hc hn v pa mt pm ty ra := rfl
set_option maxRecDepth 100000 in
theorem HPs_125_2 {x : Int32} : (HP si sa hs tx tl hc hn v pa mt pm ty ra).set 125 (.inr (.inr (8, ([.ref 126, .ref 127, .int pm, .ref 128, .int ty, .int ra] : List Value).set 2 (.int x)))) = HP si sa hs tx tl hc hn v pa mt x ty ra := rfl
set_option maxRecDepth 100000 in
theorem HPs_125_4 {x : Int32} : (HP si sa hs tx tl hc hn v pa mt pm ty ra).set 125 (.inr (.inr (8, ([.ref 126, .ref 127, .int pm, .ref 128, .int ty, .int ra] : List Value).set 4 (.int x)))) = HP si sa hs tx tl hc hn v pa mt pm x ra := rfl
set_option maxRecDepth 100000 in
theorem HPs_125_5 {x : Int32} : (HP si sa hs tx tl hc hn v pa mt pm ty ra).set 125 (.inr (.inr (8, ([.ref 126, .ref 127, .int pm, .ref 128, .int ty, .int ra] : List Value).set 5 (.int x)))) = HP si sa hs tx tl hc hn v pa mt pm ty x := rfl
set_option maxRecDepth 100000 in
theorem HPs_19_0 {x : Int32} : (HP si sa hs tx tl hc hn v pa mt pm ty ra).set 19 (.inr (.inr (1, ([.int (si 10), .ref 20, .ref 21, .ref 22] : List Value).set 0 (.int x)))) = HP (upd si 10 x) sa hs tx tl hc hn v pa mt pm ty ra := rfl
set_option maxRecDepth 100000 in
theorem HPs_23_1 {x : Int32} : (HP si sa hs tx tl hc hn v pa mt pm ty ra).set 23 (.inr (.inr (3, ([.ref 24, .int hc, .int hn] : List Value).set 1 (.int x)))) = HP si sa hs tx tl x hn v pa mt pm ty ra := rfl
set_option maxRecDepth 100000 in
theorem HPs_23_2 {x : Int32} : (HP si sa hs tx tl hc hn v pa mt pm ty ra).set 23 (.inr (.inr (3, ([.ref 24, .int hc, .int hn] : List Value).set 2 (.int x)))) = HP si sa hs tx tl hc x v pa mt pm ty ra := rfl
set_option maxRecDepth 100000 in
theorem HPs_3_1 {x : Int32} : (HP si sa hs tx tl hc hn v pa mt pm ty ra).set 3 (.inr (.inr (5, ([.ref 4, .int (si 0), .int (si 1), .ref 5, .int (si 2), .int (si 3), .int (si 4), .int (si 5), .ref 6, .ref 8, .ref 10, .ref 19] : List Value).set 1 (.int x)))) = HP (upd si 0 x) sa hs tx tl hc hn v pa mt pm ty ra := rfl
set_option maxRecDepth 100000 in
theorem HPs_3_2 {x : Int32} : (HP si sa hs tx tl hc hn v pa mt pm ty ra).set 3 (.inr (.inr (5, ([.ref 4, .int (si 0), .int (si 1), .ref 5, .int (si 2), .int (si 3), .int (si 4), .int (si 5), .ref 6, .ref 8, .ref 10, .ref 19] : List Value).set 2 (.int x)))) = HP (upd si 1 x) sa hs tx tl hc hn v pa mt pm ty ra := rfl
set_option maxRecDepth 100000 in
theorem HPs_3_4 {x : Int32} : (HP si sa hs tx tl hc hn v pa mt pm ty ra).set 3 (.inr (.inr (5, ([.ref 4, .int (si 0), .int (si 1), .ref 5, .int (si 2), .int (si 3), .int (si 4), .int (si 5), .ref 6, .ref 8, .ref 10, .ref 19] : List Value).set 4 (.int x)))) = HP (upd si 2 x) sa hs tx tl hc hn v pa mt pm ty ra := rfl
set_option maxRecDepth 100000 in
theorem HPs_3_5 {x : Int32} : (HP si sa hs tx tl hc hn v pa mt pm ty ra).set 3 (.inr (.inr (5, ([.ref 4, .int (si 0), .int (si 1), .ref 5, .int (si 2), .int (si 3), .int (si 4), .int (si 5), .ref 6, .ref 8, .ref 10, .ref 19] : List Value).set 5 (.int x)))) = HP (upd si 3 x) sa hs tx tl hc hn v pa mt pm ty ra := rfl
set_option maxRecDepth 100000 in
theorem HPs_3_6 {x : Int32} : (HP si sa hs tx tl hc hn v pa mt pm ty ra).set 3 (.inr (.inr (5, ([.ref 4, .int (si 0), .int (si 1), .ref 5, .int (si 2), .int (si 3), .int (si 4), .int (si 5), .ref 6, .ref 8, .ref 10, .ref 19] : List Value).set 6 (.int x)))) = HP (upd si 4 x) sa hs tx tl hc hn v pa mt pm ty ra := rfl
set_option maxRecDepth 100000 in
theorem HPs_3_7 {x : Int32} : (HP si sa hs tx tl hc hn v pa mt pm ty ra).set 3 (.inr (.inr (5, ([.ref 4, .int (si 0), .int (si 1), .ref 5, .int (si 2), .int (si 3), .int (si 4), .int (si 5), .ref 6, .ref 8, .ref 10, .ref 19] : List Value).set 7 (.int x)))) = HP (upd si 5 x) sa hs tx tl hc hn v pa mt pm ty ra := rfl
set_option maxRecDepth 100000 in
theorem HPs_6_0 {x : Int32} : (HP si sa hs tx tl hc hn v pa mt pm ty ra).set 6 (.inr (.inr (2, ([.int (si 6), .int (si 7), .ref 7] : List Value).set 0 (.int x)))) = HP (upd si 6 x) sa hs tx tl hc hn v pa mt pm ty ra := rfl
set_option maxRecDepth 100000 in
theorem HPs_6_1 {x : Int32} : (HP si sa hs tx tl hc hn v pa mt pm ty ra).set 6 (.inr (.inr (2, ([.int (si 6), .int (si 7), .ref 7] : List Value).set 1 (.int x)))) = HP (upd si 7 x) sa hs tx tl hc hn v pa mt pm ty ra := rfl
set_option maxRecDepth 100000 in
theorem HPs_8_0 {x : Int32} : (HP si sa hs tx tl hc hn v pa mt pm ty ra).set 8 (.inr (.inr (4, ([.int (si 8), .ref 9] : List Value).set 0 (.int x)))) = HP (upd si 8 x) sa hs tx tl hc hn v pa mt pm ty ra := rfl
set_option maxRecDepth 100000 in
theorem HPst_0_0_1 {x : Int32} : (HP si sa (va_up hs 0 (dI, dA)) tx tl hc hn v pa mt pm ty ra).set 25 (.inr (.inr (5, ([.ref 26, .int (dI 0), .int (dI 1), .ref 27, .int (dI 2), .int (dI 3), .int (dI 4), .int (dI 5), .ref 28, .ref 30, .ref 32, .ref 41] : List Value).set 1 (.int x)))) = HP si sa (va_up hs 0 ((upd dI 0 x), dA)) tx tl hc hn v pa mt pm ty ra := rfl
set_option maxRecDepth 100000 in
theorem HPst_0_0_2 {x : Int32} : (HP si sa (va_up hs 0 (dI, dA)) tx tl hc hn v pa mt pm ty ra).set 25 (.inr (.inr (5, ([.ref 26, .int (dI 0), .int (dI 1), .ref 27, .int (dI 2), .int (dI 3), .int (dI 4), .int (dI 5), .ref 28, .ref 30, .ref 32, .ref 41] : List Value).set 2 (.int x)))) = HP si sa (va_up hs 0 ((upd dI 1 x), dA)) tx tl hc hn v pa mt pm ty ra := rfl
set_option maxRecDepth 100000 in
theorem HPst_0_0_4 {x : Int32} : (HP si sa (va_up hs 0 (dI, dA)) tx tl hc hn v pa mt pm ty ra).set 25 (.inr (.inr (5, ([.ref 26, .int (dI 0), .int (dI 1), .ref 27, .int (dI 2), .int (dI 3), .int (dI 4), .int (dI 5), .ref 28, .ref 30, .ref 32, .ref 41] : List Value).set 4 (.int x)))) = HP si sa (va_up hs 0 ((upd dI 2 x), dA)) tx tl hc hn v pa mt pm ty ra := rfl
set_option maxRecDepth 100000 in
theorem HPst_0_0_5 {x : Int32} : (HP si sa (va_up hs 0 (dI, dA)) tx tl hc hn v pa mt pm ty ra).set 25 (.inr (.inr (5, ([.ref 26, .int (dI 0), .int (dI 1), .ref 27, .int (dI 2), .int (dI 3), .int (dI 4), .int (dI 5), .ref 28, .ref 30, .ref 32, .ref 41] : List Value).set 5 (.int x)))) = HP si sa (va_up hs 0 ((upd dI 3 x), dA)) tx tl hc hn v pa mt pm ty ra := rfl
set_option maxRecDepth 100000 in
theorem HPst_0_0_6 {x : Int32} : (HP si sa (va_up hs 0 (dI, dA)) tx tl hc hn v pa mt pm ty ra).set 25 (.inr (.inr (5, ([.ref 26, .int (dI 0), .int (dI 1), .ref 27, .int (dI 2), .int (dI 3), .int (dI 4), .int (dI 5), .ref 28, .ref 30, .ref 32, .ref 41] : List Value).set 6 (.int x)))) = HP si sa (va_up hs 0 ((upd dI 4 x), dA)) tx tl hc hn v pa mt pm ty ra := rfl
set_option maxRecDepth 100000 in
theorem HPst_0_0_7 {x : Int32} : (HP si sa (va_up hs 0 (dI, dA)) tx tl hc hn v pa mt pm ty ra).set 25 (.inr (.inr (5, ([.ref 26, .int (dI 0), .int (dI 1), .ref 27, .int (dI 2), .int (dI 3), .int (dI 4), .int (dI 5), .ref 28, .ref 30, .ref 32, .ref 41] : List Value).set 7 (.int x)))) = HP si sa (va_up hs 0 ((upd dI 5 x), dA)) tx tl hc hn v pa mt pm ty ra := rfl
set_option maxRecDepth 100000 in
theorem HPst_0_3_0 {x : Int32} : (HP si sa (va_up hs 0 (dI, dA)) tx tl hc hn v pa mt pm ty ra).set 28 (.inr (.inr (2, ([.int (dI 6), .int (dI 7), .ref 29] : List Value).set 0 (.int x)))) = HP si sa (va_up hs 0 ((upd dI 6 x), dA)) tx tl hc hn v pa mt pm ty ra := rfl
set_option maxRecDepth 100000 in
theorem HPst_0_3_1 {x : Int32} : (HP si sa (va_up hs 0 (dI, dA)) tx tl hc hn v pa mt pm ty ra).set 28 (.inr (.inr (2, ([.int (dI 6), .int (dI 7), .ref 29] : List Value).set 1 (.int x)))) = HP si sa (va_up hs 0 ((upd dI 7 x), dA)) tx tl hc hn v pa mt pm ty ra := rfl
set_option maxRecDepth 100000 in
theorem HPst_0_5_0 {x : Int32} : (HP si sa (va_up hs 0 (dI, dA)) tx tl hc hn v pa mt pm ty ra).set 30 (.inr (.inr (4, ([.int (dI 8), .ref 31] : List Value).set 0 (.int x)))) = HP si sa (va_up hs 0 ((upd dI 8 x), dA)) tx tl hc hn v pa mt pm ty ra := rfl
set_option maxRecDepth 100000 in
theorem HPst_0_7_0 {x : Int32} : (HP si sa (va_up hs 0 (dI, dA)) tx tl hc hn v pa mt pm ty ra).set 32 (.inr (.inr (6, ([.int (dI 9), .ref 33, .ref 34, .ref 35, .ref 36, .ref 37, .ref 38, .ref 39, .ref 40] : List Value).set 0 (.int x)))) = HP si sa (va_up hs 0 ((upd dI 9 x), dA)) tx tl hc hn v pa mt pm ty ra := rfl
set_option maxRecDepth 100000 in
theorem HPst_0_16_0 {x : Int32} : (HP si sa (va_up hs 0 (dI, dA)) tx tl hc hn v pa mt pm ty ra).set 41 (.inr (.inr (1, ([.int (dI 10), .ref 42, .ref 43, .ref 44] : List Value).set 0 (.int x)))) = HP si sa (va_up hs 0 ((upd dI 10 x), dA)) tx tl hc hn v pa mt pm ty ra := rfl
set_option maxRecDepth 100000 in
theorem HPst_1_0_1 {x : Int32} : (HP si sa (va_up hs 1 (dI, dA)) tx tl hc hn v pa mt pm ty ra).set 45 (.inr (.inr (5, ([.ref 46, .int (dI 0), .int (dI 1), .ref 47, .int (dI 2), .int (dI 3), .int (dI 4), .int (dI 5), .ref 48, .ref 50, .ref 52, .ref 61] : List Value).set 1 (.int x)))) = HP si sa (va_up hs 1 ((upd dI 0 x), dA)) tx tl hc hn v pa mt pm ty ra := rfl
set_option maxRecDepth 100000 in
theorem HPst_1_0_2 {x : Int32} : (HP si sa (va_up hs 1 (dI, dA)) tx tl hc hn v pa mt pm ty ra).set 45 (.inr (.inr (5, ([.ref 46, .int (dI 0), .int (dI 1), .ref 47, .int (dI 2), .int (dI 3), .int (dI 4), .int (dI 5), .ref 48, .ref 50, .ref 52, .ref 61] : List Value).set 2 (.int x)))) = HP si sa (va_up hs 1 ((upd dI 1 x), dA)) tx tl hc hn v pa mt pm ty ra := rfl
set_option maxRecDepth 100000 in
theorem HPst_1_0_4 {x : Int32} : (HP si sa (va_up hs 1 (dI, dA)) tx tl hc hn v pa mt pm ty ra).set 45 (.inr (.inr (5, ([.ref 46, .int (dI 0), .int (dI 1), .ref 47, .int (dI 2), .int (dI 3), .int (dI 4), .int (dI 5), .ref 48, .ref 50, .ref 52, .ref 61] : List Value).set 4 (.int x)))) = HP si sa (va_up hs 1 ((upd dI 2 x), dA)) tx tl hc hn v pa mt pm ty ra := rfl
set_option maxRecDepth 100000 in
theorem HPst_1_0_5 {x : Int32} : (HP si sa (va_up hs 1 (dI, dA)) tx tl hc hn v pa mt pm ty ra).set 45 (.inr (.inr (5, ([.ref 46, .int (dI 0), .int (dI 1), .ref 47, .int (dI 2), .int (dI 3), .int (dI 4), .int (dI 5), .ref 48, .ref 50, .ref 52, .ref 61] : List Value).set 5 (.int x)))) = HP si sa (va_up hs 1 ((upd dI 3 x), dA)) tx tl hc hn v pa mt pm ty ra := rfl
set_option maxRecDepth 100000 in
theorem HPst_1_0_6 {x : Int32} : (HP si sa (va_up hs 1 (dI, dA)) tx tl hc hn v pa mt pm ty ra).set 45 (.inr (.inr (5, ([.ref 46, .int (dI 0), .int (dI 1), .ref 47, .int (dI 2), .int (dI 3), .int (dI 4), .int (dI 5), .ref 48, .ref 50, .ref 52, .ref 61] : List Value).set 6 (.int x)))) = HP si sa (va_up hs 1 ((upd dI 4 x), dA)) tx tl hc hn v pa mt pm ty ra := rfl
set_option maxRecDepth 100000 in
theorem HPst_1_0_7 {x : Int32} : (HP si sa (va_up hs 1 (dI, dA)) tx tl hc hn v pa mt pm ty ra).set 45 (.inr (.inr (5, ([.ref 46, .int (dI 0), .int (dI 1), .ref 47, .int (dI 2), .int (dI 3), .int (dI 4), .int (dI 5), .ref 48, .ref 50, .ref 52, .ref 61] : List Value).set 7 (.int x)))) = HP si sa (va_up hs 1 ((upd dI 5 x), dA)) tx tl hc hn v pa mt pm ty ra := rfl
set_option maxRecDepth 100000 in
theorem HPst_1_3_0 {x : Int32} : (HP si sa (va_up hs 1 (dI, dA)) tx tl hc hn v pa mt pm ty ra).set 48 (.inr (.inr (2, ([.int (dI 6), .int (dI 7), .ref 49] : List Value).set 0 (.int x)))) = HP si sa (va_up hs 1 ((upd dI 6 x), dA)) tx tl hc hn v pa mt pm ty ra := rfl
set_option maxRecDepth 100000 in
theorem HPst_1_3_1 {x : Int32} : (HP si sa (va_up hs 1 (dI, dA)) tx tl hc hn v pa mt pm ty ra).set 48 (.inr (.inr (2, ([.int (dI 6), .int (dI 7), .ref 49] : List Value).set 1 (.int x)))) = HP si sa (va_up hs 1 ((upd dI 7 x), dA)) tx tl hc hn v pa mt pm ty ra := rfl
set_option maxRecDepth 100000 in
theorem HPst_1_5_0 {x : Int32} : (HP si sa (va_up hs 1 (dI, dA)) tx tl hc hn v pa mt pm ty ra).set 50 (.inr (.inr (4, ([.int (dI 8), .ref 51] : List Value).set 0 (.int x)))) = HP si sa (va_up hs 1 ((upd dI 8 x), dA)) tx tl hc hn v pa mt pm ty ra := rfl
set_option maxRecDepth 100000 in
theorem HPst_1_7_0 {x : Int32} : (HP si sa (va_up hs 1 (dI, dA)) tx tl hc hn v pa mt pm ty ra).set 52 (.inr (.inr (6, ([.int (dI 9), .ref 53, .ref 54, .ref 55, .ref 56, .ref 57, .ref 58, .ref 59, .ref 60] : List Value).set 0 (.int x)))) = HP si sa (va_up hs 1 ((upd dI 9 x), dA)) tx tl hc hn v pa mt pm ty ra := rfl
set_option maxRecDepth 100000 in
theorem HPst_1_16_0 {x : Int32} : (HP si sa (va_up hs 1 (dI, dA)) tx tl hc hn v pa mt pm ty ra).set 61 (.inr (.inr (1, ([.int (dI 10), .ref 62, .ref 63, .ref 64] : List Value).set 0 (.int x)))) = HP si sa (va_up hs 1 ((upd dI 10 x), dA)) tx tl hc hn v pa mt pm ty ra := rfl
set_option maxRecDepth 100000 in
theorem HPst_2_0_1 {x : Int32} : (HP si sa (va_up hs 2 (dI, dA)) tx tl hc hn v pa mt pm ty ra).set 65 (.inr (.inr (5, ([.ref 66, .int (dI 0), .int (dI 1), .ref 67, .int (dI 2), .int (dI 3), .int (dI 4), .int (dI 5), .ref 68, .ref 70, .ref 72, .ref 81] : List Value).set 1 (.int x)))) = HP si sa (va_up hs 2 ((upd dI 0 x), dA)) tx tl hc hn v pa mt pm ty ra := rfl
set_option maxRecDepth 100000 in
theorem HPst_2_0_2 {x : Int32} : (HP si sa (va_up hs 2 (dI, dA)) tx tl hc hn v pa mt pm ty ra).set 65 (.inr (.inr (5, ([.ref 66, .int (dI 0), .int (dI 1), .ref 67, .int (dI 2), .int (dI 3), .int (dI 4), .int (dI 5), .ref 68, .ref 70, .ref 72, .ref 81] : List Value).set 2 (.int x)))) = HP si sa (va_up hs 2 ((upd dI 1 x), dA)) tx tl hc hn v pa mt pm ty ra := rfl
set_option maxRecDepth 100000 in
theorem HPst_2_0_4 {x : Int32} : (HP si sa (va_up hs 2 (dI, dA)) tx tl hc hn v pa mt pm ty ra).set 65 (.inr (.inr (5, ([.ref 66, .int (dI 0), .int (dI 1), .ref 67, .int (dI 2), .int (dI 3), .int (dI 4), .int (dI 5), .ref 68, .ref 70, .ref 72, .ref 81] : List Value).set 4 (.int x)))) = HP si sa (va_up hs 2 ((upd dI 2 x), dA)) tx tl hc hn v pa mt pm ty ra := rfl
set_option maxRecDepth 100000 in
theorem HPst_2_0_5 {x : Int32} : (HP si sa (va_up hs 2 (dI, dA)) tx tl hc hn v pa mt pm ty ra).set 65 (.inr (.inr (5, ([.ref 66, .int (dI 0), .int (dI 1), .ref 67, .int (dI 2), .int (dI 3), .int (dI 4), .int (dI 5), .ref 68, .ref 70, .ref 72, .ref 81] : List Value).set 5 (.int x)))) = HP si sa (va_up hs 2 ((upd dI 3 x), dA)) tx tl hc hn v pa mt pm ty ra := rfl
set_option maxRecDepth 100000 in
theorem HPst_2_0_6 {x : Int32} : (HP si sa (va_up hs 2 (dI, dA)) tx tl hc hn v pa mt pm ty ra).set 65 (.inr (.inr (5, ([.ref 66, .int (dI 0), .int (dI 1), .ref 67, .int (dI 2), .int (dI 3), .int (dI 4), .int (dI 5), .ref 68, .ref 70, .ref 72, .ref 81] : List Value).set 6 (.int x)))) = HP si sa (va_up hs 2 ((upd dI 4 x), dA)) tx tl hc hn v pa mt pm ty ra := rfl
set_option maxRecDepth 100000 in
theorem HPst_2_0_7 {x : Int32} : (HP si sa (va_up hs 2 (dI, dA)) tx tl hc hn v pa mt pm ty ra).set 65 (.inr (.inr (5, ([.ref 66, .int (dI 0), .int (dI 1), .ref 67, .int (dI 2), .int (dI 3), .int (dI 4), .int (dI 5), .ref 68, .ref 70, .ref 72, .ref 81] : List Value).set 7 (.int x)))) = HP si sa (va_up hs 2 ((upd dI 5 x), dA)) tx tl hc hn v pa mt pm ty ra := rfl
set_option maxRecDepth 100000 in
theorem HPst_2_3_0 {x : Int32} : (HP si sa (va_up hs 2 (dI, dA)) tx tl hc hn v pa mt pm ty ra).set 68 (.inr (.inr (2, ([.int (dI 6), .int (dI 7), .ref 69] : List Value).set 0 (.int x)))) = HP si sa (va_up hs 2 ((upd dI 6 x), dA)) tx tl hc hn v pa mt pm ty ra := rfl
set_option maxRecDepth 100000 in
theorem HPst_2_3_1 {x : Int32} : (HP si sa (va_up hs 2 (dI, dA)) tx tl hc hn v pa mt pm ty ra).set 68 (.inr (.inr (2, ([.int (dI 6), .int (dI 7), .ref 69] : List Value).set 1 (.int x)))) = HP si sa (va_up hs 2 ((upd dI 7 x), dA)) tx tl hc hn v pa mt pm ty ra := rfl
set_option maxRecDepth 100000 in
theorem HPst_2_5_0 {x : Int32} : (HP si sa (va_up hs 2 (dI, dA)) tx tl hc hn v pa mt pm ty ra).set 70 (.inr (.inr (4, ([.int (dI 8), .ref 71] : List Value).set 0 (.int x)))) = HP si sa (va_up hs 2 ((upd dI 8 x), dA)) tx tl hc hn v pa mt pm ty ra := rfl
set_option maxRecDepth 100000 in
theorem HPst_2_7_0 {x : Int32} : (HP si sa (va_up hs 2 (dI, dA)) tx tl hc hn v pa mt pm ty ra).set 72 (.inr (.inr (6, ([.int (dI 9), .ref 73, .ref 74, .ref 75, .ref 76, .ref 77, .ref 78, .ref 79, .ref 80] : List Value).set 0 (.int x)))) = HP si sa (va_up hs 2 ((upd dI 9 x), dA)) tx tl hc hn v pa mt pm ty ra := rfl
set_option maxRecDepth 100000 in
theorem HPst_2_16_0 {x : Int32} : (HP si sa (va_up hs 2 (dI, dA)) tx tl hc hn v pa mt pm ty ra).set 81 (.inr (.inr (1, ([.int (dI 10), .ref 82, .ref 83, .ref 84] : List Value).set 0 (.int x)))) = HP si sa (va_up hs 2 ((upd dI 10 x), dA)) tx tl hc hn v pa mt pm ty ra := rfl
set_option maxRecDepth 100000 in
theorem HPst_3_16_0 {x : Int32} : (HP si sa (va_up hs 3 (dI, dA)) tx tl hc hn v pa mt pm ty ra).set 101 (.inr (.inr (1, ([.int (dI 10), .ref 102, .ref 103, .ref 104] : List Value).set 0 (.int x)))) = HP si sa (va_up hs 3 ((upd dI 10 x), dA)) tx tl hc hn v pa mt pm ty ra := rfl
set_option maxRecDepth 100000 in
theorem HPst_3_0_1 {x : Int32} : (HP si sa (va_up hs 3 (dI, dA)) tx tl hc hn v pa mt pm ty ra).set 85 (.inr (.inr (5, ([.ref 86, .int (dI 0), .int (dI 1), .ref 87, .int (dI 2), .int (dI 3), .int (dI 4), .int (dI 5), .ref 88, .ref 90, .ref 92, .ref 101] : List Value).set 1 (.int x)))) = HP si sa (va_up hs 3 ((upd dI 0 x), dA)) tx tl hc hn v pa mt pm ty ra := rfl
set_option maxRecDepth 100000 in
theorem HPst_3_0_2 {x : Int32} : (HP si sa (va_up hs 3 (dI, dA)) tx tl hc hn v pa mt pm ty ra).set 85 (.inr (.inr (5, ([.ref 86, .int (dI 0), .int (dI 1), .ref 87, .int (dI 2), .int (dI 3), .int (dI 4), .int (dI 5), .ref 88, .ref 90, .ref 92, .ref 101] : List Value).set 2 (.int x)))) = HP si sa (va_up hs 3 ((upd dI 1 x), dA)) tx tl hc hn v pa mt pm ty ra := rfl
set_option maxRecDepth 100000 in
theorem HPst_3_0_4 {x : Int32} : (HP si sa (va_up hs 3 (dI, dA)) tx tl hc hn v pa mt pm ty ra).set 85 (.inr (.inr (5, ([.ref 86, .int (dI 0), .int (dI 1), .ref 87, .int (dI 2), .int (dI 3), .int (dI 4), .int (dI 5), .ref 88, .ref 90, .ref 92, .ref 101] : List Value).set 4 (.int x)))) = HP si sa (va_up hs 3 ((upd dI 2 x), dA)) tx tl hc hn v pa mt pm ty ra := rfl
set_option maxRecDepth 100000 in
theorem HPst_3_0_5 {x : Int32} : (HP si sa (va_up hs 3 (dI, dA)) tx tl hc hn v pa mt pm ty ra).set 85 (.inr (.inr (5, ([.ref 86, .int (dI 0), .int (dI 1), .ref 87, .int (dI 2), .int (dI 3), .int (dI 4), .int (dI 5), .ref 88, .ref 90, .ref 92, .ref 101] : List Value).set 5 (.int x)))) = HP si sa (va_up hs 3 ((upd dI 3 x), dA)) tx tl hc hn v pa mt pm ty ra := rfl
set_option maxRecDepth 100000 in
theorem HPst_3_0_6 {x : Int32} : (HP si sa (va_up hs 3 (dI, dA)) tx tl hc hn v pa mt pm ty ra).set 85 (.inr (.inr (5, ([.ref 86, .int (dI 0), .int (dI 1), .ref 87, .int (dI 2), .int (dI 3), .int (dI 4), .int (dI 5), .ref 88, .ref 90, .ref 92, .ref 101] : List Value).set 6 (.int x)))) = HP si sa (va_up hs 3 ((upd dI 4 x), dA)) tx tl hc hn v pa mt pm ty ra := rfl
set_option maxRecDepth 100000 in
theorem HPst_3_0_7 {x : Int32} : (HP si sa (va_up hs 3 (dI, dA)) tx tl hc hn v pa mt pm ty ra).set 85 (.inr (.inr (5, ([.ref 86, .int (dI 0), .int (dI 1), .ref 87, .int (dI 2), .int (dI 3), .int (dI 4), .int (dI 5), .ref 88, .ref 90, .ref 92, .ref 101] : List Value).set 7 (.int x)))) = HP si sa (va_up hs 3 ((upd dI 5 x), dA)) tx tl hc hn v pa mt pm ty ra := rfl
set_option maxRecDepth 100000 in
theorem HPst_3_3_0 {x : Int32} : (HP si sa (va_up hs 3 (dI, dA)) tx tl hc hn v pa mt pm ty ra).set 88 (.inr (.inr (2, ([.int (dI 6), .int (dI 7), .ref 89] : List Value).set 0 (.int x)))) = HP si sa (va_up hs 3 ((upd dI 6 x), dA)) tx tl hc hn v pa mt pm ty ra := rfl
set_option maxRecDepth 100000 in
theorem HPst_3_3_1 {x : Int32} : (HP si sa (va_up hs 3 (dI, dA)) tx tl hc hn v pa mt pm ty ra).set 88 (.inr (.inr (2, ([.int (dI 6), .int (dI 7), .ref 89] : List Value).set 1 (.int x)))) = HP si sa (va_up hs 3 ((upd dI 7 x), dA)) tx tl hc hn v pa mt pm ty ra := rfl
set_option maxRecDepth 100000 in
theorem HPst_3_5_0 {x : Int32} : (HP si sa (va_up hs 3 (dI, dA)) tx tl hc hn v pa mt pm ty ra).set 90 (.inr (.inr (4, ([.int (dI 8), .ref 91] : List Value).set 0 (.int x)))) = HP si sa (va_up hs 3 ((upd dI 8 x), dA)) tx tl hc hn v pa mt pm ty ra := rfl
set_option maxRecDepth 100000 in
theorem HPst_3_7_0 {x : Int32} : (HP si sa (va_up hs 3 (dI, dA)) tx tl hc hn v pa mt pm ty ra).set 92 (.inr (.inr (6, ([.int (dI 9), .ref 93, .ref 94, .ref 95, .ref 96, .ref 97, .ref 98, .ref 99, .ref 100] : List Value).set 0 (.int x)))) = HP si sa (va_up hs 3 ((upd dI 9 x), dA)) tx tl hc hn v pa mt pm ty ra := rfl
set_option maxRecDepth 100000 in
theorem HPst_4_0_1 {x : Int32} : (HP si sa (va_up hs 4 (dI, dA)) tx tl hc hn v pa mt pm ty ra).set 105 (.inr (.inr (5, ([.ref 106, .int (dI 0), .int (dI 1), .ref 107, .int (dI 2), .int (dI 3), .int (dI 4), .int (dI 5), .ref 108, .ref 110, .ref 112, .ref 121] : List Value).set 1 (.int x)))) = HP si sa (va_up hs 4 ((upd dI 0 x), dA)) tx tl hc hn v pa mt pm ty ra := rfl
set_option maxRecDepth 100000 in
theorem HPst_4_0_2 {x : Int32} : (HP si sa (va_up hs 4 (dI, dA)) tx tl hc hn v pa mt pm ty ra).set 105 (.inr (.inr (5, ([.ref 106, .int (dI 0), .int (dI 1), .ref 107, .int (dI 2), .int (dI 3), .int (dI 4), .int (dI 5), .ref 108, .ref 110, .ref 112, .ref 121] : List Value).set 2 (.int x)))) = HP si sa (va_up hs 4 ((upd dI 1 x), dA)) tx tl hc hn v pa mt pm ty ra := rfl
set_option maxRecDepth 100000 in
theorem HPst_4_0_4 {x : Int32} : (HP si sa (va_up hs 4 (dI, dA)) tx tl hc hn v pa mt pm ty ra).set 105 (.inr (.inr (5, ([.ref 106, .int (dI 0), .int (dI 1), .ref 107, .int (dI 2), .int (dI 3), .int (dI 4), .int (dI 5), .ref 108, .ref 110, .ref 112, .ref 121] : List Value).set 4 (.int x)))) = HP si sa (va_up hs 4 ((upd dI 2 x), dA)) tx tl hc hn v pa mt pm ty ra := rfl
set_option maxRecDepth 100000 in
theorem HPst_4_0_5 {x : Int32} : (HP si sa (va_up hs 4 (dI, dA)) tx tl hc hn v pa mt pm ty ra).set 105 (.inr (.inr (5, ([.ref 106, .int (dI 0), .int (dI 1), .ref 107, .int (dI 2), .int (dI 3), .int (dI 4), .int (dI 5), .ref 108, .ref 110, .ref 112, .ref 121] : List Value).set 5 (.int x)))) = HP si sa (va_up hs 4 ((upd dI 3 x), dA)) tx tl hc hn v pa mt pm ty ra := rfl
set_option maxRecDepth 100000 in
theorem HPst_4_0_6 {x : Int32} : (HP si sa (va_up hs 4 (dI, dA)) tx tl hc hn v pa mt pm ty ra).set 105 (.inr (.inr (5, ([.ref 106, .int (dI 0), .int (dI 1), .ref 107, .int (dI 2), .int (dI 3), .int (dI 4), .int (dI 5), .ref 108, .ref 110, .ref 112, .ref 121] : List Value).set 6 (.int x)))) = HP si sa (va_up hs 4 ((upd dI 4 x), dA)) tx tl hc hn v pa mt pm ty ra := rfl
set_option maxRecDepth 100000 in
theorem HPst_4_0_7 {x : Int32} : (HP si sa (va_up hs 4 (dI, dA)) tx tl hc hn v pa mt pm ty ra).set 105 (.inr (.inr (5, ([.ref 106, .int (dI 0), .int (dI 1), .ref 107, .int (dI 2), .int (dI 3), .int (dI 4), .int (dI 5), .ref 108, .ref 110, .ref 112, .ref 121] : List Value).set 7 (.int x)))) = HP si sa (va_up hs 4 ((upd dI 5 x), dA)) tx tl hc hn v pa mt pm ty ra := rfl
set_option maxRecDepth 100000 in
theorem HPst_4_3_0 {x : Int32} : (HP si sa (va_up hs 4 (dI, dA)) tx tl hc hn v pa mt pm ty ra).set 108 (.inr (.inr (2, ([.int (dI 6), .int (dI 7), .ref 109] : List Value).set 0 (.int x)))) = HP si sa (va_up hs 4 ((upd dI 6 x), dA)) tx tl hc hn v pa mt pm ty ra := rfl
set_option maxRecDepth 100000 in
theorem HPst_4_3_1 {x : Int32} : (HP si sa (va_up hs 4 (dI, dA)) tx tl hc hn v pa mt pm ty ra).set 108 (.inr (.inr (2, ([.int (dI 6), .int (dI 7), .ref 109] : List Value).set 1 (.int x)))) = HP si sa (va_up hs 4 ((upd dI 7 x), dA)) tx tl hc hn v pa mt pm ty ra := rfl
set_option maxRecDepth 100000 in
theorem HPst_4_5_0 {x : Int32} : (HP si sa (va_up hs 4 (dI, dA)) tx tl hc hn v pa mt pm ty ra).set 110 (.inr (.inr (4, ([.int (dI 8), .ref 111] : List Value).set 0 (.int x)))) = HP si sa (va_up hs 4 ((upd dI 8 x), dA)) tx tl hc hn v pa mt pm ty ra := rfl
set_option maxRecDepth 100000 in
theorem HPst_4_7_0 {x : Int32} : (HP si sa (va_up hs 4 (dI, dA)) tx tl hc hn v pa mt pm ty ra).set 112 (.inr (.inr (6, ([.int (dI 9), .ref 113, .ref 114, .ref 115, .ref 116, .ref 117, .ref 118, .ref 119, .ref 120] : List Value).set 0 (.int x)))) = HP si sa (va_up hs 4 ((upd dI 9 x), dA)) tx tl hc hn v pa mt pm ty ra := rfl
set_option maxRecDepth 100000 in
theorem HPst_4_16_0 {x : Int32} : (HP si sa (va_up hs 4 (dI, dA)) tx tl hc hn v pa mt pm ty ra).set 121 (.inr (.inr (1, ([.int (dI 10), .ref 122, .ref 123, .ref 124] : List Value).set 0 (.int x)))) = HP si sa (va_up hs 4 ((upd dI 10 x), dA)) tx tl hc hn v pa mt pm ty ra := rfl
set_option maxRecDepth 100000 in
theorem HPa_11 {f : Nat → Int32} : (HP si sa hs tx tl hc hn v pa mt pm ty ra).set 11 (.inl (41, f)) = HP si (va_up sa 4 f) hs tx tl hc hn v pa mt pm ty ra := rfl
set_option maxRecDepth 100000 in
theorem HPa_12 {f : Nat → Int32} : (HP si sa hs tx tl hc hn v pa mt pm ty ra).set 12 (.inl (41, f)) = HP si (va_up sa 5 f) hs tx tl hc hn v pa mt pm ty ra := rfl
set_option maxRecDepth 100000 in
theorem HPa_126 {f : Nat → Int32} : (HP si sa hs tx tl hc hn v pa mt pm ty ra).set 126 (.inl (1100, f)) = HP si sa hs tx tl hc hn f pa mt pm ty ra := rfl
set_option maxRecDepth 100000 in
theorem HPa_127 {f : Nat → Int32} : (HP si sa hs tx tl hc hn v pa mt pm ty ra).set 127 (.inl (5500, f)) = HP si sa hs tx tl hc hn v f mt pm ty ra := rfl
set_option maxRecDepth 100000 in
theorem HPa_128 {f : Nat → Int32} : (HP si sa hs tx tl hc hn v pa mt pm ty ra).set 128 (.inl (40, f)) = HP si sa hs tx tl hc hn v pa f pm ty ra := rfl
set_option maxRecDepth 100000 in
theorem HPa_13 {f : Nat → Int32} : (HP si sa hs tx tl hc hn v pa mt pm ty ra).set 13 (.inl (41, f)) = HP si (va_up sa 6 f) hs tx tl hc hn v pa mt pm ty ra := rfl
set_option maxRecDepth 100000 in
theorem HPa_14 {f : Nat → Int32} : (HP si sa hs tx tl hc hn v pa mt pm ty ra).set 14 (.inl (41, f)) = HP si (va_up sa 7 f) hs tx tl hc hn v pa mt pm ty ra := rfl
set_option maxRecDepth 100000 in
theorem HPa_15 {f : Nat → Int32} : (HP si sa hs tx tl hc hn v pa mt pm ty ra).set 15 (.inl (41, f)) = HP si (va_up sa 8 f) hs tx tl hc hn v pa mt pm ty ra := rfl
set_option maxRecDepth 100000 in
theorem HPa_16 {f : Nat → Int32} : (HP si sa hs tx tl hc hn v pa mt pm ty ra).set 16 (.inl (41, f)) = HP si (va_up sa 9 f) hs tx tl hc hn v pa mt pm ty ra := rfl
set_option maxRecDepth 100000 in
theorem HPa_17 {f : Nat → Int32} : (HP si sa hs tx tl hc hn v pa mt pm ty ra).set 17 (.inl (41, f)) = HP si (va_up sa 10 f) hs tx tl hc hn v pa mt pm ty ra := rfl
set_option maxRecDepth 100000 in
theorem HPa_18 {f : Nat → Int32} : (HP si sa hs tx tl hc hn v pa mt pm ty ra).set 18 (.inl (410, f)) = HP si (va_up sa 11 f) hs tx tl hc hn v pa mt pm ty ra := rfl
set_option maxRecDepth 100000 in
theorem HPa_2 {f : Nat → Int32} : (HP si sa hs tx tl hc hn v pa mt pm ty ra).set 2 (.inl (40, f)) = HP si sa hs f tl hc hn v pa mt pm ty ra := rfl
set_option maxRecDepth 100000 in
theorem HPa_20 {f : Nat → Int32} : (HP si sa hs tx tl hc hn v pa mt pm ty ra).set 20 (.inl (20, f)) = HP si (va_up sa 12 f) hs tx tl hc hn v pa mt pm ty ra := rfl
set_option maxRecDepth 100000 in
theorem HPa_21 {f : Nat → Int32} : (HP si sa hs tx tl hc hn v pa mt pm ty ra).set 21 (.inl (20, f)) = HP si (va_up sa 13 f) hs tx tl hc hn v pa mt pm ty ra := rfl
set_option maxRecDepth 100000 in
theorem HPa_22 {f : Nat → Int32} : (HP si sa hs tx tl hc hn v pa mt pm ty ra).set 22 (.inl (20, f)) = HP si (va_up sa 14 f) hs tx tl hc hn v pa mt pm ty ra := rfl
set_option maxRecDepth 100000 in
theorem HPa_4 {f : Nat → Int32} : (HP si sa hs tx tl hc hn v pa mt pm ty ra).set 4 (.inl (6, f)) = HP si (va_up sa 0 f) hs tx tl hc hn v pa mt pm ty ra := rfl
set_option maxRecDepth 100000 in
theorem HPa_5 {f : Nat → Int32} : (HP si sa hs tx tl hc hn v pa mt pm ty ra).set 5 (.inl (10, f)) = HP si (va_up sa 1 f) hs tx tl hc hn v pa mt pm ty ra := rfl
set_option maxRecDepth 100000 in
theorem HPa_7 {f : Nat → Int32} : (HP si sa hs tx tl hc hn v pa mt pm ty ra).set 7 (.inl (100, f)) = HP si (va_up sa 2 f) hs tx tl hc hn v pa mt pm ty ra := rfl
set_option maxRecDepth 100000 in
theorem HPa_9 {f : Nat → Int32} : (HP si sa hs tx tl hc hn v pa mt pm ty ra).set 9 (.inl (100, f)) = HP si (va_up sa 3 f) hs tx tl hc hn v pa mt pm ty ra := rfl
set_option maxRecDepth 100000 in
theorem HPat_0_1 {f : Nat → Int32} : (HP si sa (va_up hs 0 (dI, dA)) tx tl hc hn v pa mt pm ty ra).set 26 (.inl (6, f)) = HP si sa (va_up hs 0 (dI, (va_up dA 0 f))) tx tl hc hn v pa mt pm ty ra := rfl
set_option maxRecDepth 100000 in
theorem HPat_0_2 {f : Nat → Int32} : (HP si sa (va_up hs 0 (dI, dA)) tx tl hc hn v pa mt pm ty ra).set 27 (.inl (10, f)) = HP si sa (va_up hs 0 (dI, (va_up dA 1 f))) tx tl hc hn v pa mt pm ty ra := rfl
set_option maxRecDepth 100000 in
theorem HPat_0_4 {f : Nat → Int32} : (HP si sa (va_up hs 0 (dI, dA)) tx tl hc hn v pa mt pm ty ra).set 29 (.inl (100, f)) = HP si sa (va_up hs 0 (dI, (va_up dA 2 f))) tx tl hc hn v pa mt pm ty ra := rfl
set_option maxRecDepth 100000 in
theorem HPat_0_6 {f : Nat → Int32} : (HP si sa (va_up hs 0 (dI, dA)) tx tl hc hn v pa mt pm ty ra).set 31 (.inl (100, f)) = HP si sa (va_up hs 0 (dI, (va_up dA 3 f))) tx tl hc hn v pa mt pm ty ra := rfl
set_option maxRecDepth 100000 in
theorem HPat_0_8 {f : Nat → Int32} : (HP si sa (va_up hs 0 (dI, dA)) tx tl hc hn v pa mt pm ty ra).set 33 (.inl (41, f)) = HP si sa (va_up hs 0 (dI, (va_up dA 4 f))) tx tl hc hn v pa mt pm ty ra := rfl
set_option maxRecDepth 100000 in
theorem HPat_0_9 {f : Nat → Int32} : (HP si sa (va_up hs 0 (dI, dA)) tx tl hc hn v pa mt pm ty ra).set 34 (.inl (41, f)) = HP si sa (va_up hs 0 (dI, (va_up dA 5 f))) tx tl hc hn v pa mt pm ty ra := rfl
set_option maxRecDepth 100000 in
theorem HPat_0_10 {f : Nat → Int32} : (HP si sa (va_up hs 0 (dI, dA)) tx tl hc hn v pa mt pm ty ra).set 35 (.inl (41, f)) = HP si sa (va_up hs 0 (dI, (va_up dA 6 f))) tx tl hc hn v pa mt pm ty ra := rfl
set_option maxRecDepth 100000 in
theorem HPat_0_11 {f : Nat → Int32} : (HP si sa (va_up hs 0 (dI, dA)) tx tl hc hn v pa mt pm ty ra).set 36 (.inl (41, f)) = HP si sa (va_up hs 0 (dI, (va_up dA 7 f))) tx tl hc hn v pa mt pm ty ra := rfl
set_option maxRecDepth 100000 in
theorem HPat_0_12 {f : Nat → Int32} : (HP si sa (va_up hs 0 (dI, dA)) tx tl hc hn v pa mt pm ty ra).set 37 (.inl (41, f)) = HP si sa (va_up hs 0 (dI, (va_up dA 8 f))) tx tl hc hn v pa mt pm ty ra := rfl
set_option maxRecDepth 100000 in
theorem HPat_0_13 {f : Nat → Int32} : (HP si sa (va_up hs 0 (dI, dA)) tx tl hc hn v pa mt pm ty ra).set 38 (.inl (41, f)) = HP si sa (va_up hs 0 (dI, (va_up dA 9 f))) tx tl hc hn v pa mt pm ty ra := rfl
set_option maxRecDepth 100000 in
theorem HPat_0_14 {f : Nat → Int32} : (HP si sa (va_up hs 0 (dI, dA)) tx tl hc hn v pa mt pm ty ra).set 39 (.inl (41, f)) = HP si sa (va_up hs 0 (dI, (va_up dA 10 f))) tx tl hc hn v pa mt pm ty ra := rfl
set_option maxRecDepth 100000 in
theorem HPat_0_15 {f : Nat → Int32} : (HP si sa (va_up hs 0 (dI, dA)) tx tl hc hn v pa mt pm ty ra).set 40 (.inl (410, f)) = HP si sa (va_up hs 0 (dI, (va_up dA 11 f))) tx tl hc hn v pa mt pm ty ra := rfl
set_option maxRecDepth 100000 in
theorem HPat_0_17 {f : Nat → Int32} : (HP si sa (va_up hs 0 (dI, dA)) tx tl hc hn v pa mt pm ty ra).set 42 (.inl (20, f)) = HP si sa (va_up hs 0 (dI, (va_up dA 12 f))) tx tl hc hn v pa mt pm ty ra := rfl
set_option maxRecDepth 100000 in
theorem HPat_0_18 {f : Nat → Int32} : (HP si sa (va_up hs 0 (dI, dA)) tx tl hc hn v pa mt pm ty ra).set 43 (.inl (20, f)) = HP si sa (va_up hs 0 (dI, (va_up dA 13 f))) tx tl hc hn v pa mt pm ty ra := rfl
set_option maxRecDepth 100000 in
theorem HPat_0_19 {f : Nat → Int32} : (HP si sa (va_up hs 0 (dI, dA)) tx tl hc hn v pa mt pm ty ra).set 44 (.inl (20, f)) = HP si sa (va_up hs 0 (dI, (va_up dA 14 f))) tx tl hc hn v pa mt pm ty ra := rfl
set_option maxRecDepth 100000 in
theorem HPat_1_1 {f : Nat → Int32} : (HP si sa (va_up hs 1 (dI, dA)) tx tl hc hn v pa mt pm ty ra).set 46 (.inl (6, f)) = HP si sa (va_up hs 1 (dI, (va_up dA 0 f))) tx tl hc hn v pa mt pm ty ra := rfl
set_option maxRecDepth 100000 in
theorem HPat_1_2 {f : Nat → Int32} : (HP si sa (va_up hs 1 (dI, dA)) tx tl hc hn v pa mt pm ty ra).set 47 (.inl (10, f)) = HP si sa (va_up hs 1 (dI, (va_up dA 1 f))) tx tl hc hn v pa mt pm ty ra := rfl
set_option maxRecDepth 100000 in
theorem HPat_1_4 {f : Nat → Int32} : (HP si sa (va_up hs 1 (dI, dA)) tx tl hc hn v pa mt pm ty ra).set 49 (.inl (100, f)) = HP si sa (va_up hs 1 (dI, (va_up dA 2 f))) tx tl hc hn v pa mt pm ty ra := rfl
set_option maxRecDepth 100000 in
theorem HPat_1_6 {f : Nat → Int32} : (HP si sa (va_up hs 1 (dI, dA)) tx tl hc hn v pa mt pm ty ra).set 51 (.inl (100, f)) = HP si sa (va_up hs 1 (dI, (va_up dA 3 f))) tx tl hc hn v pa mt pm ty ra := rfl
set_option maxRecDepth 100000 in
theorem HPat_1_8 {f : Nat → Int32} : (HP si sa (va_up hs 1 (dI, dA)) tx tl hc hn v pa mt pm ty ra).set 53 (.inl (41, f)) = HP si sa (va_up hs 1 (dI, (va_up dA 4 f))) tx tl hc hn v pa mt pm ty ra := rfl
set_option maxRecDepth 100000 in
theorem HPat_1_9 {f : Nat → Int32} : (HP si sa (va_up hs 1 (dI, dA)) tx tl hc hn v pa mt pm ty ra).set 54 (.inl (41, f)) = HP si sa (va_up hs 1 (dI, (va_up dA 5 f))) tx tl hc hn v pa mt pm ty ra := rfl
set_option maxRecDepth 100000 in
theorem HPat_1_10 {f : Nat → Int32} : (HP si sa (va_up hs 1 (dI, dA)) tx tl hc hn v pa mt pm ty ra).set 55 (.inl (41, f)) = HP si sa (va_up hs 1 (dI, (va_up dA 6 f))) tx tl hc hn v pa mt pm ty ra := rfl
set_option maxRecDepth 100000 in
theorem HPat_1_11 {f : Nat → Int32} : (HP si sa (va_up hs 1 (dI, dA)) tx tl hc hn v pa mt pm ty ra).set 56 (.inl (41, f)) = HP si sa (va_up hs 1 (dI, (va_up dA 7 f))) tx tl hc hn v pa mt pm ty ra := rfl
set_option maxRecDepth 100000 in
theorem HPat_1_12 {f : Nat → Int32} : (HP si sa (va_up hs 1 (dI, dA)) tx tl hc hn v pa mt pm ty ra).set 57 (.inl (41, f)) = HP si sa (va_up hs 1 (dI, (va_up dA 8 f))) tx tl hc hn v pa mt pm ty ra := rfl
set_option maxRecDepth 100000 in
theorem HPat_1_13 {f : Nat → Int32} : (HP si sa (va_up hs 1 (dI, dA)) tx tl hc hn v pa mt pm ty ra).set 58 (.inl (41, f)) = HP si sa (va_up hs 1 (dI, (va_up dA 9 f))) tx tl hc hn v pa mt pm ty ra := rfl
set_option maxRecDepth 100000 in
theorem HPat_1_14 {f : Nat → Int32} : (HP si sa (va_up hs 1 (dI, dA)) tx tl hc hn v pa mt pm ty ra).set 59 (.inl (41, f)) = HP si sa (va_up hs 1 (dI, (va_up dA 10 f))) tx tl hc hn v pa mt pm ty ra := rfl
set_option maxRecDepth 100000 in
theorem HPat_1_15 {f : Nat → Int32} : (HP si sa (va_up hs 1 (dI, dA)) tx tl hc hn v pa mt pm ty ra).set 60 (.inl (410, f)) = HP si sa (va_up hs 1 (dI, (va_up dA 11 f))) tx tl hc hn v pa mt pm ty ra := rfl
set_option maxRecDepth 100000 in
theorem HPat_1_17 {f : Nat → Int32} : (HP si sa (va_up hs 1 (dI, dA)) tx tl hc hn v pa mt pm ty ra).set 62 (.inl (20, f)) = HP si sa (va_up hs 1 (dI, (va_up dA 12 f))) tx tl hc hn v pa mt pm ty ra := rfl
set_option maxRecDepth 100000 in
theorem HPat_1_18 {f : Nat → Int32} : (HP si sa (va_up hs 1 (dI, dA)) tx tl hc hn v pa mt pm ty ra).set 63 (.inl (20, f)) = HP si sa (va_up hs 1 (dI, (va_up dA 13 f))) tx tl hc hn v pa mt pm ty ra := rfl
set_option maxRecDepth 100000 in
theorem HPat_1_19 {f : Nat → Int32} : (HP si sa (va_up hs 1 (dI, dA)) tx tl hc hn v pa mt pm ty ra).set 64 (.inl (20, f)) = HP si sa (va_up hs 1 (dI, (va_up dA 14 f))) tx tl hc hn v pa mt pm ty ra := rfl
set_option maxRecDepth 100000 in
theorem HPat_2_1 {f : Nat → Int32} : (HP si sa (va_up hs 2 (dI, dA)) tx tl hc hn v pa mt pm ty ra).set 66 (.inl (6, f)) = HP si sa (va_up hs 2 (dI, (va_up dA 0 f))) tx tl hc hn v pa mt pm ty ra := rfl
set_option maxRecDepth 100000 in
theorem HPat_2_2 {f : Nat → Int32} : (HP si sa (va_up hs 2 (dI, dA)) tx tl hc hn v pa mt pm ty ra).set 67 (.inl (10, f)) = HP si sa (va_up hs 2 (dI, (va_up dA 1 f))) tx tl hc hn v pa mt pm ty ra := rfl
set_option maxRecDepth 100000 in
theorem HPat_2_4 {f : Nat → Int32} : (HP si sa (va_up hs 2 (dI, dA)) tx tl hc hn v pa mt pm ty ra).set 69 (.inl (100, f)) = HP si sa (va_up hs 2 (dI, (va_up dA 2 f))) tx tl hc hn v pa mt pm ty ra := rfl
set_option maxRecDepth 100000 in
theorem HPat_2_6 {f : Nat → Int32} : (HP si sa (va_up hs 2 (dI, dA)) tx tl hc hn v pa mt pm ty ra).set 71 (.inl (100, f)) = HP si sa (va_up hs 2 (dI, (va_up dA 3 f))) tx tl hc hn v pa mt pm ty ra := rfl
set_option maxRecDepth 100000 in
theorem HPat_2_8 {f : Nat → Int32} : (HP si sa (va_up hs 2 (dI, dA)) tx tl hc hn v pa mt pm ty ra).set 73 (.inl (41, f)) = HP si sa (va_up hs 2 (dI, (va_up dA 4 f))) tx tl hc hn v pa mt pm ty ra := rfl
set_option maxRecDepth 100000 in
theorem HPat_2_9 {f : Nat → Int32} : (HP si sa (va_up hs 2 (dI, dA)) tx tl hc hn v pa mt pm ty ra).set 74 (.inl (41, f)) = HP si sa (va_up hs 2 (dI, (va_up dA 5 f))) tx tl hc hn v pa mt pm ty ra := rfl
set_option maxRecDepth 100000 in
theorem HPat_2_10 {f : Nat → Int32} : (HP si sa (va_up hs 2 (dI, dA)) tx tl hc hn v pa mt pm ty ra).set 75 (.inl (41, f)) = HP si sa (va_up hs 2 (dI, (va_up dA 6 f))) tx tl hc hn v pa mt pm ty ra := rfl
set_option maxRecDepth 100000 in
theorem HPat_2_11 {f : Nat → Int32} : (HP si sa (va_up hs 2 (dI, dA)) tx tl hc hn v pa mt pm ty ra).set 76 (.inl (41, f)) = HP si sa (va_up hs 2 (dI, (va_up dA 7 f))) tx tl hc hn v pa mt pm ty ra := rfl
set_option maxRecDepth 100000 in
theorem HPat_2_12 {f : Nat → Int32} : (HP si sa (va_up hs 2 (dI, dA)) tx tl hc hn v pa mt pm ty ra).set 77 (.inl (41, f)) = HP si sa (va_up hs 2 (dI, (va_up dA 8 f))) tx tl hc hn v pa mt pm ty ra := rfl
set_option maxRecDepth 100000 in
theorem HPat_2_13 {f : Nat → Int32} : (HP si sa (va_up hs 2 (dI, dA)) tx tl hc hn v pa mt pm ty ra).set 78 (.inl (41, f)) = HP si sa (va_up hs 2 (dI, (va_up dA 9 f))) tx tl hc hn v pa mt pm ty ra := rfl
set_option maxRecDepth 100000 in
theorem HPat_2_14 {f : Nat → Int32} : (HP si sa (va_up hs 2 (dI, dA)) tx tl hc hn v pa mt pm ty ra).set 79 (.inl (41, f)) = HP si sa (va_up hs 2 (dI, (va_up dA 10 f))) tx tl hc hn v pa mt pm ty ra := rfl
set_option maxRecDepth 100000 in
theorem HPat_2_15 {f : Nat → Int32} : (HP si sa (va_up hs 2 (dI, dA)) tx tl hc hn v pa mt pm ty ra).set 80 (.inl (410, f)) = HP si sa (va_up hs 2 (dI, (va_up dA 11 f))) tx tl hc hn v pa mt pm ty ra := rfl
set_option maxRecDepth 100000 in
theorem HPat_2_17 {f : Nat → Int32} : (HP si sa (va_up hs 2 (dI, dA)) tx tl hc hn v pa mt pm ty ra).set 82 (.inl (20, f)) = HP si sa (va_up hs 2 (dI, (va_up dA 12 f))) tx tl hc hn v pa mt pm ty ra := rfl
set_option maxRecDepth 100000 in
theorem HPat_2_18 {f : Nat → Int32} : (HP si sa (va_up hs 2 (dI, dA)) tx tl hc hn v pa mt pm ty ra).set 83 (.inl (20, f)) = HP si sa (va_up hs 2 (dI, (va_up dA 13 f))) tx tl hc hn v pa mt pm ty ra := rfl
set_option maxRecDepth 100000 in
theorem HPat_2_19 {f : Nat → Int32} : (HP si sa (va_up hs 2 (dI, dA)) tx tl hc hn v pa mt pm ty ra).set 84 (.inl (20, f)) = HP si sa (va_up hs 2 (dI, (va_up dA 14 f))) tx tl hc hn v pa mt pm ty ra := rfl
set_option maxRecDepth 100000 in
theorem HPat_3_15 {f : Nat → Int32} : (HP si sa (va_up hs 3 (dI, dA)) tx tl hc hn v pa mt pm ty ra).set 100 (.inl (410, f)) = HP si sa (va_up hs 3 (dI, (va_up dA 11 f))) tx tl hc hn v pa mt pm ty ra := rfl
set_option maxRecDepth 100000 in
theorem HPat_3_17 {f : Nat → Int32} : (HP si sa (va_up hs 3 (dI, dA)) tx tl hc hn v pa mt pm ty ra).set 102 (.inl (20, f)) = HP si sa (va_up hs 3 (dI, (va_up dA 12 f))) tx tl hc hn v pa mt pm ty ra := rfl
set_option maxRecDepth 100000 in
theorem HPat_3_18 {f : Nat → Int32} : (HP si sa (va_up hs 3 (dI, dA)) tx tl hc hn v pa mt pm ty ra).set 103 (.inl (20, f)) = HP si sa (va_up hs 3 (dI, (va_up dA 13 f))) tx tl hc hn v pa mt pm ty ra := rfl
set_option maxRecDepth 100000 in
theorem HPat_3_19 {f : Nat → Int32} : (HP si sa (va_up hs 3 (dI, dA)) tx tl hc hn v pa mt pm ty ra).set 104 (.inl (20, f)) = HP si sa (va_up hs 3 (dI, (va_up dA 14 f))) tx tl hc hn v pa mt pm ty ra := rfl
set_option maxRecDepth 100000 in
theorem HPat_3_1 {f : Nat → Int32} : (HP si sa (va_up hs 3 (dI, dA)) tx tl hc hn v pa mt pm ty ra).set 86 (.inl (6, f)) = HP si sa (va_up hs 3 (dI, (va_up dA 0 f))) tx tl hc hn v pa mt pm ty ra := rfl
set_option maxRecDepth 100000 in
theorem HPat_3_2 {f : Nat → Int32} : (HP si sa (va_up hs 3 (dI, dA)) tx tl hc hn v pa mt pm ty ra).set 87 (.inl (10, f)) = HP si sa (va_up hs 3 (dI, (va_up dA 1 f))) tx tl hc hn v pa mt pm ty ra := rfl
set_option maxRecDepth 100000 in
theorem HPat_3_4 {f : Nat → Int32} : (HP si sa (va_up hs 3 (dI, dA)) tx tl hc hn v pa mt pm ty ra).set 89 (.inl (100, f)) = HP si sa (va_up hs 3 (dI, (va_up dA 2 f))) tx tl hc hn v pa mt pm ty ra := rfl
set_option maxRecDepth 100000 in
theorem HPat_3_6 {f : Nat → Int32} : (HP si sa (va_up hs 3 (dI, dA)) tx tl hc hn v pa mt pm ty ra).set 91 (.inl (100, f)) = HP si sa (va_up hs 3 (dI, (va_up dA 3 f))) tx tl hc hn v pa mt pm ty ra := rfl
set_option maxRecDepth 100000 in
theorem HPat_3_8 {f : Nat → Int32} : (HP si sa (va_up hs 3 (dI, dA)) tx tl hc hn v pa mt pm ty ra).set 93 (.inl (41, f)) = HP si sa (va_up hs 3 (dI, (va_up dA 4 f))) tx tl hc hn v pa mt pm ty ra := rfl
set_option maxRecDepth 100000 in
theorem HPat_3_9 {f : Nat → Int32} : (HP si sa (va_up hs 3 (dI, dA)) tx tl hc hn v pa mt pm ty ra).set 94 (.inl (41, f)) = HP si sa (va_up hs 3 (dI, (va_up dA 5 f))) tx tl hc hn v pa mt pm ty ra := rfl
set_option maxRecDepth 100000 in
theorem HPat_3_10 {f : Nat → Int32} : (HP si sa (va_up hs 3 (dI, dA)) tx tl hc hn v pa mt pm ty ra).set 95 (.inl (41, f)) = HP si sa (va_up hs 3 (dI, (va_up dA 6 f))) tx tl hc hn v pa mt pm ty ra := rfl
set_option maxRecDepth 100000 in
theorem HPat_3_11 {f : Nat → Int32} : (HP si sa (va_up hs 3 (dI, dA)) tx tl hc hn v pa mt pm ty ra).set 96 (.inl (41, f)) = HP si sa (va_up hs 3 (dI, (va_up dA 7 f))) tx tl hc hn v pa mt pm ty ra := rfl
set_option maxRecDepth 100000 in
theorem HPat_3_12 {f : Nat → Int32} : (HP si sa (va_up hs 3 (dI, dA)) tx tl hc hn v pa mt pm ty ra).set 97 (.inl (41, f)) = HP si sa (va_up hs 3 (dI, (va_up dA 8 f))) tx tl hc hn v pa mt pm ty ra := rfl
set_option maxRecDepth 100000 in
theorem HPat_3_13 {f : Nat → Int32} : (HP si sa (va_up hs 3 (dI, dA)) tx tl hc hn v pa mt pm ty ra).set 98 (.inl (41, f)) = HP si sa (va_up hs 3 (dI, (va_up dA 9 f))) tx tl hc hn v pa mt pm ty ra := rfl
set_option maxRecDepth 100000 in
theorem HPat_3_14 {f : Nat → Int32} : (HP si sa (va_up hs 3 (dI, dA)) tx tl hc hn v pa mt pm ty ra).set 99 (.inl (41, f)) = HP si sa (va_up hs 3 (dI, (va_up dA 10 f))) tx tl hc hn v pa mt pm ty ra := rfl
set_option maxRecDepth 100000 in
theorem HPat_4_1 {f : Nat → Int32} : (HP si sa (va_up hs 4 (dI, dA)) tx tl hc hn v pa mt pm ty ra).set 106 (.inl (6, f)) = HP si sa (va_up hs 4 (dI, (va_up dA 0 f))) tx tl hc hn v pa mt pm ty ra := rfl
set_option maxRecDepth 100000 in
theorem HPat_4_2 {f : Nat → Int32} : (HP si sa (va_up hs 4 (dI, dA)) tx tl hc hn v pa mt pm ty ra).set 107 (.inl (10, f)) = HP si sa (va_up hs 4 (dI, (va_up dA 1 f))) tx tl hc hn v pa mt pm ty ra := rfl
set_option maxRecDepth 100000 in
theorem HPat_4_4 {f : Nat → Int32} : (HP si sa (va_up hs 4 (dI, dA)) tx tl hc hn v pa mt pm ty ra).set 109 (.inl (100, f)) = HP si sa (va_up hs 4 (dI, (va_up dA 2 f))) tx tl hc hn v pa mt pm ty ra := rfl
set_option maxRecDepth 100000 in
theorem HPat_4_6 {f : Nat → Int32} : (HP si sa (va_up hs 4 (dI, dA)) tx tl hc hn v pa mt pm ty ra).set 111 (.inl (100, f)) = HP si sa (va_up hs 4 (dI, (va_up dA 3 f))) tx tl hc hn v pa mt pm ty ra := rfl
set_option maxRecDepth 100000 in
theorem HPat_4_8 {f : Nat → Int32} : (HP si sa (va_up hs 4 (dI, dA)) tx tl hc hn v pa mt pm ty ra).set 113 (.inl (41, f)) = HP si sa (va_up hs 4 (dI, (va_up dA 4 f))) tx tl hc hn v pa mt pm ty ra := rfl
set_option maxRecDepth 100000 in
theorem HPat_4_9 {f : Nat → Int32} : (HP si sa (va_up hs 4 (dI, dA)) tx tl hc hn v pa mt pm ty ra).set 114 (.inl (41, f)) = HP si sa (va_up hs 4 (dI, (va_up dA 5 f))) tx tl hc hn v pa mt pm ty ra := rfl
set_option maxRecDepth 100000 in
theorem HPat_4_10 {f : Nat → Int32} : (HP si sa (va_up hs 4 (dI, dA)) tx tl hc hn v pa mt pm ty ra).set 115 (.inl (41, f)) = HP si sa (va_up hs 4 (dI, (va_up dA 6 f))) tx tl hc hn v pa mt pm ty ra := rfl
set_option maxRecDepth 100000 in
theorem HPat_4_11 {f : Nat → Int32} : (HP si sa (va_up hs 4 (dI, dA)) tx tl hc hn v pa mt pm ty ra).set 116 (.inl (41, f)) = HP si sa (va_up hs 4 (dI, (va_up dA 7 f))) tx tl hc hn v pa mt pm ty ra := rfl
set_option maxRecDepth 100000 in
theorem HPat_4_12 {f : Nat → Int32} : (HP si sa (va_up hs 4 (dI, dA)) tx tl hc hn v pa mt pm ty ra).set 117 (.inl (41, f)) = HP si sa (va_up hs 4 (dI, (va_up dA 8 f))) tx tl hc hn v pa mt pm ty ra := rfl
set_option maxRecDepth 100000 in
theorem HPat_4_13 {f : Nat → Int32} : (HP si sa (va_up hs 4 (dI, dA)) tx tl hc hn v pa mt pm ty ra).set 118 (.inl (41, f)) = HP si sa (va_up hs 4 (dI, (va_up dA 9 f))) tx tl hc hn v pa mt pm ty ra := rfl
set_option maxRecDepth 100000 in
theorem HPat_4_14 {f : Nat → Int32} : (HP si sa (va_up hs 4 (dI, dA)) tx tl hc hn v pa mt pm ty ra).set 119 (.inl (41, f)) = HP si sa (va_up hs 4 (dI, (va_up dA 10 f))) tx tl hc hn v pa mt pm ty ra := rfl
set_option maxRecDepth 100000 in
theorem HPat_4_15 {f : Nat → Int32} : (HP si sa (va_up hs 4 (dI, dA)) tx tl hc hn v pa mt pm ty ra).set 120 (.inl (410, f)) = HP si sa (va_up hs 4 (dI, (va_up dA 11 f))) tx tl hc hn v pa mt pm ty ra := rfl
set_option maxRecDepth 100000 in
theorem HPat_4_17 {f : Nat → Int32} : (HP si sa (va_up hs 4 (dI, dA)) tx tl hc hn v pa mt pm ty ra).set 122 (.inl (20, f)) = HP si sa (va_up hs 4 (dI, (va_up dA 12 f))) tx tl hc hn v pa mt pm ty ra := rfl
set_option maxRecDepth 100000 in
theorem HPat_4_18 {f : Nat → Int32} : (HP si sa (va_up hs 4 (dI, dA)) tx tl hc hn v pa mt pm ty ra).set 123 (.inl (20, f)) = HP si sa (va_up hs 4 (dI, (va_up dA 13 f))) tx tl hc hn v pa mt pm ty ra := rfl
set_option maxRecDepth 100000 in
theorem HPat_4_19 {f : Nat → Int32} : (HP si sa (va_up hs 4 (dI, dA)) tx tl hc hn v pa mt pm ty ra).set 124 (.inl (20, f)) = HP si sa (va_up hs 4 (dI, (va_up dA 14 f))) tx tl hc hn v pa mt pm ty ra := rfl
theorem HP_eta (k : Nat) : HP si sa hs tx tl hc hn v pa mt pm ty ra = HP si sa (va_up hs k ((hs k).1, (hs k).2)) tx tl hc hn v pa mt pm ty ra := by
  congr 1
  funext j
  unfold va_up
  split
  next h => rw [h]
  · rfl
end TVHP
def tv_least : Nat → Int32 := fun i => if i = 0 then 10 else if i = 4 then 0 else 1
def tv_great : Nat → Int32 := fun i => if i = 0 then 1000 else if i = 1 then 9 else if i = 2 then 9 else if i = 3 then 100 else if i = 4 then 100 else 10
/-! the JDK's bitCount and fill; copyRow -/
def tv_us (x : Int32) (n : Int32) : Int32 := (x.toUInt32 >>> (n.toUInt32 &&& Int32.toUInt32 31)).toInt32
def tv_b1 (x : Int32) : Int32 := x - (tv_us x 1 &&& 1431655765)
def tv_b2 (x : Int32) : Int32 := (x &&& 858993459) + (tv_us x 2 &&& 858993459)
def tv_b3 (x : Int32) : Int32 := (x + tv_us x 4) &&& 252645135
def tv_b4 (x : Int32) : Int32 := x + tv_us x 8
def tv_b5 (x : Int32) : Int32 := x + tv_us x 16
def tv_bc (x : Int32) : Int32 := tv_b5 (tv_b4 (tv_b3 (tv_b2 (tv_b1 x)))) &&& 63
theorem kc_J6_265 : Cond.constant RJ6 265 1431655765 ∈ lw_tbl := (List.mem_of_getElem? (i := 310) (by decide +kernel))
theorem kc_J6_266 : Cond.constant RJ6 266 858993459 ∈ lw_tbl := (List.mem_of_getElem? (i := 311) (by decide +kernel))
theorem kc_J6_267 : Cond.constant RJ6 267 252645135 ∈ lw_tbl := (List.mem_of_getElem? (i := 312) (by decide +kernel))
set_option maxRecDepth 100000 in
set_option maxHeartbeats 4000000 in
theorem R_bitCount {g : tv_G} {l : Launch} {h : tv_Hp} {x : Int32} : tv_E g l yJ6_bitCount_0f7a4 cJ6_bitCount_0f7a4 1 (some .int) 0 0 0 0 [.int x] [] h (some (.int (tv_bc x))) h := by
  refine ev_iload_n (i := 0) 1 dJ6_bitCount_0f7a4_0 rfl rfl rfl ?_
  refine ev_iload_n (i := 0) 2 dJ6_bitCount_0f7a4_1 rfl rfl rfl ?_
  refine ev_iconst 3 dJ6_bitCount_0f7a4_2 rfl (v := 1) (by decide) ?_
  refine ev_iushr 4 dJ6_bitCount_0f7a4_3 rfl ?_
  refine ev_ldcw 7 dJ6_bitCount_0f7a4_4 rfl kc_J6_265 ?_
  refine ev_iand 8 dJ6_bitCount_0f7a4_7 rfl ?_
  refine ev_isub 9 dJ6_bitCount_0f7a4_8 rfl ?_
  refine ev_istore_n (i := 0) (L2 := [.int (tv_b1 x)]) 10 dJ6_bitCount_0f7a4_9 rfl rfl (Nat.le_of_ble_eq_true rfl) rfl ?_
  refine ev_iload_n (i := 0) 11 dJ6_bitCount_0f7a4_10 rfl rfl rfl ?_
  refine ev_ldcw 14 dJ6_bitCount_0f7a4_11 rfl kc_J6_266 ?_
  refine ev_iand 15 dJ6_bitCount_0f7a4_14 rfl ?_
  refine ev_iload_n (i := 0) 16 dJ6_bitCount_0f7a4_15 rfl rfl rfl ?_
  refine ev_iconst 17 dJ6_bitCount_0f7a4_16 rfl (v := 2) (by decide) ?_
  refine ev_iushr 18 dJ6_bitCount_0f7a4_17 rfl ?_
  refine ev_ldcw 21 dJ6_bitCount_0f7a4_18 rfl kc_J6_266 ?_
  refine ev_iand 22 dJ6_bitCount_0f7a4_21 rfl ?_
  refine ev_iadd 23 dJ6_bitCount_0f7a4_22 rfl ?_
  refine ev_istore_n (i := 0) (L2 := [.int (tv_b2 (tv_b1 x))]) 24 dJ6_bitCount_0f7a4_23 rfl rfl (Nat.le_of_ble_eq_true rfl) rfl ?_
  refine ev_iload_n (i := 0) 25 dJ6_bitCount_0f7a4_24 rfl rfl rfl ?_
  refine ev_iload_n (i := 0) 26 dJ6_bitCount_0f7a4_25 rfl rfl rfl ?_
  refine ev_iconst 27 dJ6_bitCount_0f7a4_26 rfl (v := 4) (by decide) ?_
  refine ev_iushr 28 dJ6_bitCount_0f7a4_27 rfl ?_
  refine ev_iadd 29 dJ6_bitCount_0f7a4_28 rfl ?_
  refine ev_ldcw 32 dJ6_bitCount_0f7a4_29 rfl kc_J6_267 ?_
  refine ev_iand 33 dJ6_bitCount_0f7a4_32 rfl ?_
  refine ev_istore_n (i := 0) (L2 := [.int (tv_b3 (tv_b2 (tv_b1 x)))]) 34 dJ6_bitCount_0f7a4_33 rfl rfl (Nat.le_of_ble_eq_true rfl) rfl ?_
  refine ev_iload_n (i := 0) 35 dJ6_bitCount_0f7a4_34 rfl rfl rfl ?_
  refine ev_iload_n (i := 0) 36 dJ6_bitCount_0f7a4_35 rfl rfl rfl ?_
  refine ev_bipush 38 dJ6_bitCount_0f7a4_36 rfl (v := 8) (by decide) ?_
  refine ev_iushr 39 dJ6_bitCount_0f7a4_38 rfl ?_
  refine ev_iadd 40 dJ6_bitCount_0f7a4_39 rfl ?_
  refine ev_istore_n (i := 0) (L2 := [.int (tv_b4 (tv_b3 (tv_b2 (tv_b1 x))))]) 41 dJ6_bitCount_0f7a4_40 rfl rfl (Nat.le_of_ble_eq_true rfl) rfl ?_
  refine ev_iload_n (i := 0) 42 dJ6_bitCount_0f7a4_41 rfl rfl rfl ?_
  refine ev_iload_n (i := 0) 43 dJ6_bitCount_0f7a4_42 rfl rfl rfl ?_
  refine ev_bipush 45 dJ6_bitCount_0f7a4_43 rfl (v := 16) (by decide) ?_
  refine ev_iushr 46 dJ6_bitCount_0f7a4_45 rfl ?_
  refine ev_iadd 47 dJ6_bitCount_0f7a4_46 rfl ?_
  refine ev_istore_n (i := 0) (L2 := [.int (tv_b5 (tv_b4 (tv_b3 (tv_b2 (tv_b1 x)))))]) 48 dJ6_bitCount_0f7a4_47 rfl rfl (Nat.le_of_ble_eq_true rfl) rfl ?_
  refine ev_iload_n (i := 0) 49 dJ6_bitCount_0f7a4_48 rfl rfl rfl ?_
  refine ev_bipush 51 dJ6_bitCount_0f7a4_49 rfl (v := 63) (by decide) ?_
  refine ev_iand 52 dJ6_bitCount_0f7a4_51 rfl ?_
  exact ev_ireturn dJ6_bitCount_0f7a4_52 rfl rfl
set_option maxRecDepth 100000 in
set_option maxHeartbeats 4000000 in
theorem R_copyRow {g : tv_G} {l : Launch} {h hh : tv_Hp} {i j n0 n1 : Nat} {f f1 f2 : Nat → Int32} (hi : i < 1000) (hj : j < 1000) (hci : h[i]? = some (.inl (n0, f))) (hcj : h[j]? = some (.inl (n1, f1))) (hr : tv_cp n0 f n1 f1 0 0 (Int32.ofNat n1) = some f2) (hs : h.set j (.inl (n1, f2)) = hh) : tv_E g l yX6_copyRow cX6_copyRow 2 none 1 0 0 0 [.ref i, .ref j] [] h none hh := by
  refine ev_aload_n (i := 0) 1 dX6_copyRow_0 rfl rfl rfl ?_
  refine ev_iconst (v := 0) 2 dX6_copyRow_1 rfl (by decide) ?_
  refine ev_aload_n (i := 1) 3 dX6_copyRow_2 rfl rfl rfl ?_
  refine ev_iconst (v := 0) 4 dX6_copyRow_3 rfl (by decide) ?_
  refine ev_aload_n (i := 1) 5 dX6_copyRow_4 rfl rfl rfl ?_
  refine ev_arraylength 6 dX6_copyRow_5 rfl hj hcj rfl ?_
  refine ev_arraycopy 9 dX6_copyRow_6 rfl wc_X6_44 wc_native wc_static wc_init (Nat.le_of_ble_eq_true rfl) (Nat.le_of_ble_eq_true rfl) hi hj hci hcj hr hs ?_
  exact ev_return dX6_copyRow_9 rfl
def tv_fill (n : Nat) (x : Int32) (f : Nat → Int32) : Nat → Int32 := fun i => if i < n then x else f i
theorem tv_fill_0 (x : Int32) (f : Nat → Int32) : tv_fill 0 x f = f := by
  funext i
  simp [tv_fill]
theorem tv_fill_s (n : Nat) (x : Int32) (f : Nat → Int32) : upd (tv_fill n x f) n x = tv_fill (n + 1) x f := by
  funext i
  simp only [tv_fill, upd]
  by_cases h1 : i = n
  · subst h1; simp
  · rw [if_neg h1]
    by_cases h2 : i < n
    · rw [if_pos h2, if_pos (by omega)]
    · rw [if_neg h2, if_neg (by omega)]
set_option maxRecDepth 100000 in
set_option maxHeartbeats 4000000 in
theorem R_fill_L {g : tv_G} {l : Launch} {h : tv_Hp} {a n : Nat} {f : Nat → Int32} {x : Int32} (ha : a < 1000) (hn : n < 100000) (hl : a < h.length) : ∀ (k i : Nat), k + i = n → tv_E g l yJ7_fill_53178 cJ7_fill_53178 4 none 0 0 0 5 [.ref a, .int x, .int (nI i), .int (nI n)] [] (h.set a (.inl (n, tv_fill i x f))) none (h.set a (.inl (n, tv_fill n x f))) := by
  intro k
  induction k with
  | zero =>
    intro i hi
    have hi : i = n := by omega
    subst hi
    refine ev_iload_n (i := 2) 6 dJ7_fill_53178_5 rfl rfl rfl ?_
    refine ev_iload_n (i := 3) 7 dJ7_fill_53178_6 rfl rfl rfl ?_
    refine ev_icmp_ge 20 10 dJ7_fill_53178_7 rfl rfl (fun hc => ?_) (fun hc => absurd (nI_le (Nat.le_refl _) (by omega)) hc)
    exact ev_return dJ7_fill_53178_20 rfl
  | succ k ih =>
    intro i hi
    refine ev_iload_n (i := 2) 6 dJ7_fill_53178_5 rfl rfl rfl ?_
    refine ev_iload_n (i := 3) 7 dJ7_fill_53178_6 rfl rfl rfl ?_
    refine ev_icmp_ge 20 10 dJ7_fill_53178_7 rfl rfl (fun hc => absurd hc (nI_ge (by omega) (by omega))) (fun hc => ?_)
    refine ev_aload_n (i := 0) 11 dJ7_fill_53178_10 rfl rfl rfl ?_
    refine ev_iload_n (i := 2) 12 dJ7_fill_53178_11 rfl rfl rfl ?_
    refine ev_iload_n (i := 1) 13 dJ7_fill_53178_12 rfl rfl rfl ?_
    have hcl : (nI i).toNatClampNeg = i := nI_clamp (by omega)
    refine ev_iastore (n := n) (f := tv_fill i x f) (f2 := tv_fill (i + 1) x f) (hh := h.set a (.inl (n, tv_fill (i + 1) x f))) 14 dJ7_fill_53178_13 rfl ha (by rw [List.getElem?_set_self hl]) ?_ (by rw [List.set_set]) ?_
    · unfold tv_wr
      rw [if_neg (nI_in (by omega) (by omega)), hcl, tv_fill_s]
    refine ev_iinc (v := nI (i + 1)) (L2 := [.ref a, .int x, .int (nI (i + 1)), .int (nI n)]) 17 dJ7_fill_53178_14 rfl rfl (by rw [show Int32.ofInt 1 = 1 from by decide]; exact nI_1 i) (Nat.le_of_ble_eq_true rfl) rfl ?_
    refine ev_goto 5 dJ7_fill_53178_17 rfl ?_
    exact ih (i + 1) (by omega)
set_option maxRecDepth 100000 in
set_option maxHeartbeats 4000000 in
theorem R_fill {g : tv_G} {l : Launch} {h hh : tv_Hp} {a n : Nat} {f : Nat → Int32} {x : Int32} (hn : n < 100000) (ha : a < 1000) (hc : h[a]? = some (.inl (n, f))) (hs : h.set a (.inl (n, tv_fill n x f)) = hh) : tv_E g l yJ7_fill_53178 cJ7_fill_53178 4 none 0 0 0 0 [.ref a, .int x, .null, .null] [] h none hh := by
  have hl : a < h.length := (List.getElem?_eq_some_iff.mp hc).1
  refine ev_iconst (v := 0) 1 dJ7_fill_53178_0 rfl (by decide) ?_
  refine ev_istore_n (i := 2) (L2 := [.ref a, .int x, .int 0, .null]) 2 dJ7_fill_53178_1 rfl rfl (Nat.le_of_ble_eq_true rfl) rfl ?_
  refine ev_aload_n (i := 0) 3 dJ7_fill_53178_2 rfl rfl rfl ?_
  refine ev_arraylength (v := nI n) 4 dJ7_fill_53178_3 rfl ha hc rfl ?_
  refine ev_istore_n (i := 3) (L2 := [.ref a, .int x, .int 0, .int (nI n)]) 5 dJ7_fill_53178_4 rfl rfl (Nat.le_of_ble_eq_true rfl) rfl ?_
  have h0 := R_fill_L (g := g) (l := l) (h := h) (a := a) (n := n) (f := f) (x := x) ha hn hl n 0 (by omega)
  rw [tv_fill_0, nI_0, hs] at h0
  refine ev_heq ?_ h0
  apply List.ext_getElem?
  intro j
  by_cases e : a = j
  · subst e; rw [List.getElem?_set_self hl, hc]
  · rw [List.getElem?_set_ne e]
