set_option maxRecDepth 100000 in
set_option maxHeartbeats 4000000 in
theorem R_X1_tell {g : tv_G} {l : Launch} {si : Nat → Int32} {sa : Nat → Nat → Int32} {hs : Nat → (Nat → Int32) × (Nat → Nat → Int32)} {tx : Nat → Int32} {tl : Int32} {hc : Int32} {hn : Int32} {v : Nat → Int32} {pa : Nat → Int32} {mt : Nat → Int32} {pm : Int32} {ty : Int32} {ra : Int32} {a1 : Int32} {a2 : Int32} {a3 : Int32} {p : (Nat → Int32) × (Nat → Nat → Int32)} (hF : F_X1_tell si sa a1 a2 a3 = some p) : tv_E g l yX1_tell cX1_tell 5 none 0 0 0 0 [.ref 19, .int a1, .int a2, .int a3, .null] [] (HP si sa hs tx tl hc hn v pa mt pm ty ra) none (HP p.1 p.2 hs tx tl hc hn v pa mt pm ty ra) := by
  unfold F_X1_tell at hF
  refine ev_aload_n (i := 0) 1 dX1_tell_0 rfl rfl rfl ?_
  refine ev_getfield 4 dX1_tell_1 rfl okf_X1_21 (Nat.le_of_ble_eq_true rfl) HPg_19 rfl ?_
  refine ev_bipush 6 dX1_tell_4 rfl kB_20 ?_
  refine ev_irem 7 dX1_tell_6 rfl (by decide) ?_
  refine ev_istore (L2 := [.ref 19, .int a1, .int a2, .int a3, .int ((si 10) - (si 10) / 20 * 20)]) 9 dX1_tell_7 rfl (Nat.le_of_ble_eq_true rfl) rfl ?_
  refine ev_aload_n (i := 0) 10 dX1_tell_9 rfl rfl rfl ?_
  refine ev_getfield 13 dX1_tell_10 rfl okf_X1_9 (Nat.le_of_ble_eq_true rfl) HPg_19 rfl ?_
  refine ev_iload 15 dX1_tell_13 rfl rfl ?_
  refine ev_iload_n (i := 1) 16 dX1_tell_15 rfl rfl rfl ?_
  obtain ⟨x1, hx1, hF⟩ := tv_bind hF
  refine ev_iastore 17 dX1_tell_16 rfl (Nat.le_of_ble_eq_true rfl) HPg_20 hx1 HPa_20 ?_
  refine ev_aload_n (i := 0) 18 dX1_tell_17 rfl rfl rfl ?_
  refine ev_getfield 21 dX1_tell_18 rfl okf_X1_15 (Nat.le_of_ble_eq_true rfl) HPg_19 rfl ?_
  refine ev_iload 23 dX1_tell_21 rfl rfl ?_
  refine ev_iload_n (i := 2) 24 dX1_tell_23 rfl rfl rfl ?_
  obtain ⟨x2, hx2, hF⟩ := tv_bind hF
  refine ev_iastore 25 dX1_tell_24 rfl (Nat.le_of_ble_eq_true rfl) HPg_21 hx2 HPa_21 ?_
  refine ev_aload_n (i := 0) 26 dX1_tell_25 rfl rfl rfl ?_
  refine ev_getfield 29 dX1_tell_26 rfl okf_X1_18 (Nat.le_of_ble_eq_true rfl) HPg_19 rfl ?_
  refine ev_iload 31 dX1_tell_29 rfl rfl ?_
  refine ev_iload_n (i := 3) 32 dX1_tell_31 rfl rfl rfl ?_
  obtain ⟨x3, hx3, hF⟩ := tv_bind hF
  refine ev_iastore 33 dX1_tell_32 rfl (Nat.le_of_ble_eq_true rfl) HPg_22 hx3 HPa_22 ?_
  refine ev_aload_n (i := 0) 34 dX1_tell_33 rfl rfl rfl ?_
  refine ev_dup 35 dX1_tell_34 rfl rfl ?_
  refine ev_getfield 38 dX1_tell_35 rfl okf_X1_21 (Nat.le_of_ble_eq_true rfl) HPg_19 rfl ?_
  refine ev_iconst 39 dX1_tell_38 rfl kI_1 ?_
  refine ev_iadd 40 dX1_tell_39 rfl ?_
  refine ev_putfield 43 dX1_tell_40 rfl okf_X1_21 (Nat.le_of_ble_eq_true rfl) HPg_19 (Nat.le_of_ble_eq_true rfl) rfl rfl HPs_19_0 ?_
  have hF := Option.some.inj hF
  subst hF
  exact ev_return dX1_tell_43 rfl

set_option maxRecDepth 100000 in
set_option maxHeartbeats 4000000 in
theorem R_X7_has {g : tv_G} {l : Launch} {si : Nat → Int32} {sa : Nat → Nat → Int32} {hs : Nat → (Nat → Int32) × (Nat → Nat → Int32)} {tx : Nat → Int32} {tl : Int32} {hc : Int32} {hn : Int32} {v : Nat → Int32} {pa : Nat → Int32} {mt : Nat → Int32} {pm : Int32} {ty : Int32} {ra : Int32} {a0 : Int32} {a1 : Int32} {p : Int32} (hF : some (F_X7_has a0 a1) = some p) : tv_E g l yX7_has cX7_has 2 (some .boolean) 0 0 0 0 [.int a0, .int a1] [] (HP si sa hs tx tl hc hn v pa mt pm ty ra) (some (.int p)) (HP si sa hs tx tl hc hn v pa mt pm ty ra) := by
  unfold F_X7_has at hF
  refine ev_iload_n (i := 0) 1 dX7_has_0 rfl rfl rfl ?_
  refine ev_iload_n (i := 1) 2 dX7_has_1 rfl rfl rfl ?_
  refine ev_ishr 3 dX7_has_2 rfl ?_
  refine ev_iconst 4 dX7_has_3 rfl kI_1 ?_
  refine ev_iand 5 dX7_has_4 rfl ?_
  refine ev_iconst 6 dX7_has_5 rfl kI_1 ?_
  refine ev_icmp_ne 13 9 dX7_has_6 rfl rfl (fun hc7 => ?_) (fun hc7 => ?_)
  · rw [if_neg hc7] at hF
    refine ev_iconst 14 dX7_has_13 rfl kI_0 ?_
    have hF := Option.some.inj hF
    subst hF
    exact ev_ireturn dX7_has_14 rfl rfl
  · rw [if_pos hc7] at hF
    refine ev_iconst 10 dX7_has_9 rfl kI_1 ?_
    refine ev_goto 14 dX7_has_10 rfl ?_
    have hF := Option.some.inj hF
    subst hF
    exact ev_ireturn dX7_has_14 rfl rfl

set_option maxRecDepth 100000 in
set_option maxHeartbeats 4000000 in
theorem R_X6_score_L7 {g : tv_G} {l : Launch} {si : Nat → Int32} {sa : Nat → Nat → Int32} {hs : Nat → (Nat → Int32) × (Nat → Nat → Int32)} {tx : Nat → Int32} {tl : Int32} {hc : Int32} {hn : Int32} {v : Nat → Int32} {pa : Nat → Int32} {mt : Nat → Int32} {pm : Int32} {ty : Int32} {ra : Int32} {l1 : Int32} {r : Option Value} {h' : tv_Hp} : ∀ (n : Nat) (l2 : Int32) (l3 : Int32) (l4 : Int32)  (x : Int32 × Int32), F_X6_score_L7 sa l1 n l2 l3 l4 = some x → tv_E g l yX6_score cX6_score 6 (some .int) 0 0 0 49 [.ref 10, .int l1, .int x.1, .int x.2, .null, .null] [] (HP si sa hs tx tl hc hn v pa mt pm ty ra) r h' → tv_E g l yX6_score cX6_score 6 (some .int) 0 0 0 7 [.ref 10, .int l1, .int l2, .int l3, .int l4, .null] [] (HP si sa hs tx tl hc hn v pa mt pm ty ra) r h' := by
  intro n
  induction n with
  | zero => intro l2 l3 l4 x hF k; cases hF
  | succ n ih =>
      intro l2 l3 l4 x hF k
      rw [F_X6_score_L7] at hF
      refine ev_iload 9 dX6_score_7 rfl rfl ?_
      refine ev_bipush 11 dX6_score_9 rfl kB_10 ?_
      refine ev_icmp_ge 49 14 dX6_score_11 rfl rfl (fun hc8 => ?_) (fun hc8 => ?_)
      · rw [if_pos hc8] at hF
        have hF := Option.some.inj hF
        subst hF
        refine ev_weak [.ref 10, .int l1, .int l2, .int l3, .null, .null] ⟨Or.inr rfl, ⟨Or.inr rfl, ⟨Or.inr rfl, ⟨Or.inr rfl, ⟨Or.inl rfl, ⟨Or.inl rfl, trivial⟩⟩⟩⟩⟩⟩ ?_
        exact k
      · rw [if_neg hc8] at hF
        refine ev_aload_n (i := 0) 15 dX6_score_14 rfl rfl rfl ?_
        refine ev_getfield 18 dX6_score_15 rfl okf_X6_33 (Nat.le_of_ble_eq_true rfl) HPg_10 rfl ?_
        refine ev_iload_n (i := 1) 19 dX6_score_18 rfl rfl rfl ?_
        refine ev_bipush 21 dX6_score_19 rfl kB_10 ?_
        refine ev_imul 22 dX6_score_21 rfl ?_
        refine ev_iload 24 dX6_score_22 rfl rfl ?_
        refine ev_iadd 25 dX6_score_24 rfl ?_
        obtain ⟨x1, hx1, hF⟩ := tv_bind hF
        refine ev_iaload 26 dX6_score_25 rfl (Nat.le_of_ble_eq_true rfl) HPg_18 hx1 ?_
        refine ev_istore (L2 := [.ref 10, .int l1, .int l2, .int l3, .int l4, .int x1]) 28 dX6_score_26 rfl (Nat.le_of_ble_eq_true rfl) rfl ?_
        refine ev_iload 30 dX6_score_28 rfl rfl ?_
        refine ev_bipush 32 dX6_score_30 rfl kB_m9 ?_
        refine ev_icmp_eq 43 35 dX6_score_32 rfl rfl (fun hc9 => ?_) (fun hc9 => ?_)
        · rw [if_pos hc9] at hF
          refine ev_iinc (L2 := [.ref 10, .int l1, .int l2, .int l3, .int (l4 + 1), .int x1]) 46 dX6_score_43 rfl rfl (kA_1 _) (Nat.le_of_ble_eq_true rfl) rfl ?_
          refine ev_goto 7 dX6_score_46 rfl ?_
          refine ev_weak [.ref 10, .int l1, .int l2, .int l3, .int (l4 + 1), .null] ⟨Or.inr rfl, ⟨Or.inr rfl, ⟨Or.inr rfl, ⟨Or.inr rfl, ⟨Or.inr rfl, ⟨Or.inl rfl, trivial⟩⟩⟩⟩⟩⟩ ?_
          exact ih _ _ _ _ hF k
        · rw [if_neg hc9] at hF
          refine ev_iload_n (i := 2) 36 dX6_score_35 rfl rfl rfl ?_
          refine ev_iload 38 dX6_score_36 rfl rfl ?_
          refine ev_iadd 39 dX6_score_38 rfl ?_
          refine ev_istore_n (i := 2) (L2 := [.ref 10, .int l1, .int (l2 + x1), .int l3, .int l4, .int x1]) 40 dX6_score_39 rfl rfl (Nat.le_of_ble_eq_true rfl) rfl ?_
          refine ev_iinc (L2 := [.ref 10, .int l1, .int (l2 + x1), .int (l3 + 1), .int l4, .int x1]) 43 dX6_score_40 rfl rfl (kA_1 _) (Nat.le_of_ble_eq_true rfl) rfl ?_
          refine ev_iinc (L2 := [.ref 10, .int l1, .int (l2 + x1), .int (l3 + 1), .int (l4 + 1), .int x1]) 46 dX6_score_43 rfl rfl (kA_1 _) (Nat.le_of_ble_eq_true rfl) rfl ?_
          refine ev_goto 7 dX6_score_46 rfl ?_
          refine ev_weak [.ref 10, .int l1, .int (l2 + x1), .int (l3 + 1), .int (l4 + 1), .null] ⟨Or.inr rfl, ⟨Or.inr rfl, ⟨Or.inr rfl, ⟨Or.inr rfl, ⟨Or.inr rfl, ⟨Or.inl rfl, trivial⟩⟩⟩⟩⟩⟩ ?_
          exact ih _ _ _ _ hF k

set_option maxRecDepth 100000 in
set_option maxHeartbeats 4000000 in
theorem R_X6_score {g : tv_G} {l : Launch} {si : Nat → Int32} {sa : Nat → Nat → Int32} {hs : Nat → (Nat → Int32) × (Nat → Nat → Int32)} {tx : Nat → Int32} {tl : Int32} {hc : Int32} {hn : Int32} {v : Nat → Int32} {pa : Nat → Int32} {mt : Nat → Int32} {pm : Int32} {ty : Int32} {ra : Int32} {a1 : Int32} {p : Int32} (hF : F_X6_score sa a1 = some p) : tv_E g l yX6_score cX6_score 6 (some .int) 0 0 0 0 [.ref 10, .int a1, .null, .null, .null, .null] [] (HP si sa hs tx tl hc hn v pa mt pm ty ra) (some (.int p)) (HP si sa hs tx tl hc hn v pa mt pm ty ra) := by
  unfold F_X6_score at hF
  refine ev_iconst 1 dX6_score_0 rfl kI_0 ?_
  refine ev_istore_n (i := 2) (L2 := [.ref 10, .int a1, .int 0, .null, .null, .null]) 2 dX6_score_1 rfl rfl (Nat.le_of_ble_eq_true rfl) rfl ?_
  refine ev_iconst 3 dX6_score_2 rfl kI_0 ?_
  refine ev_istore_n (i := 3) (L2 := [.ref 10, .int a1, .int 0, .int 0, .null, .null]) 4 dX6_score_3 rfl rfl (Nat.le_of_ble_eq_true rfl) rfl ?_
  refine ev_iconst 5 dX6_score_4 rfl kI_0 ?_
  refine ev_istore (L2 := [.ref 10, .int a1, .int 0, .int 0, .int 0, .null]) 7 dX6_score_5 rfl (Nat.le_of_ble_eq_true rfl) rfl ?_
  obtain ⟨x2, hx2, hF⟩ := tv_bind hF
  refine R_X6_score_L7 _ _ _ _ _ hx2 ?_
  refine ev_iload_n (i := 3) 50 dX6_score_49 rfl rfl rfl ?_
  obtain ⟨x4, hBx4, hF⟩ := tv_bind hF
  have Jx4 : tv_E g l yX6_score cX6_score 6 (some .int) 0 0 0 64 [.ref 10, .int a1, .null, .null, .null, .null] [.int x4] (HP si sa hs tx tl hc hn v pa mt pm ty ra) (some (.int p)) (HP si sa hs tx tl hc hn v pa mt pm ty ra) := by
    refine ev_istore (L2 := [.ref 10, .int a1, .null, .null, .int x4, .null]) 66 dX6_score_64 rfl (Nat.le_of_ble_eq_true rfl) rfl ?_
    refine ev_iload 68 dX6_score_66 rfl rfl ?_
    refine ev_iconst 69 dX6_score_68 rfl kI_5 ?_
    refine ev_aload_n (i := 0) 70 dX6_score_69 rfl rfl rfl ?_
    refine ev_getfield 73 dX6_score_70 rfl okf_X6_24 (Nat.le_of_ble_eq_true rfl) HPg_10 rfl ?_
    refine ev_iload_n (i := 1) 74 dX6_score_73 rfl rfl rfl ?_
    obtain ⟨x5, hx5, hF⟩ := tv_bind hF
    refine ev_iaload 75 dX6_score_74 rfl (Nat.le_of_ble_eq_true rfl) HPg_15 hx5 ?_
    refine ev_imul 76 dX6_score_75 rfl ?_
    refine ev_iadd 77 dX6_score_76 rfl ?_
    refine ev_bipush 79 dX6_score_77 rfl kB_25 ?_
    refine ev_aload_n (i := 0) 80 dX6_score_79 rfl rfl rfl ?_
    refine ev_getfield 83 dX6_score_80 rfl okf_X6_27 (Nat.le_of_ble_eq_true rfl) HPg_10 rfl ?_
    refine ev_iload_n (i := 1) 84 dX6_score_83 rfl rfl rfl ?_
    obtain ⟨x6, hx6, hF⟩ := tv_bind hF
    refine ev_iaload 85 dX6_score_84 rfl (Nat.le_of_ble_eq_true rfl) HPg_16 hx6 ?_
    refine ev_imul 86 dX6_score_85 rfl ?_
    refine ev_isub 87 dX6_score_86 rfl ?_
    refine ev_istore (L2 := [.ref 10, .int a1, .null, .null, .int x4, .int ((x4 + (5 * x5)) - (25 * x6))]) 89 dX6_score_87 rfl (Nat.le_of_ble_eq_true rfl) rfl ?_
    refine ev_iload 91 dX6_score_89 rfl rfl ?_
    refine ev_if_ge 96 94 dX6_score_91 rfl rfl (fun hc10 => ?_) (fun hc10 => ?_)
    · rw [if_pos hc10] at hF
      refine ev_iload 98 dX6_score_96 rfl rfl ?_
      refine ev_bipush 100 dX6_score_98 rfl kB_100 ?_
      refine ev_icmp_le 108 103 dX6_score_100 rfl rfl (fun hc11 => ?_) (fun hc11 => ?_)
      · rw [if_pos hc11] at hF
        refine ev_iload 110 dX6_score_108 rfl rfl ?_
        have hF := Option.some.inj hF
        subst hF
        exact ev_ireturn dX6_score_110 rfl rfl
      · rw [if_neg hc11] at hF
        refine ev_bipush 105 dX6_score_103 rfl kB_100 ?_
        refine ev_goto 110 dX6_score_105 rfl ?_
        have hF := Option.some.inj hF
        subst hF
        exact ev_ireturn dX6_score_110 rfl rfl
    · rw [if_neg hc10] at hF
      refine ev_iconst 95 dX6_score_94 rfl kI_0 ?_
      have hF := Option.some.inj hF
      subst hF
      exact ev_ireturn dX6_score_95 rfl rfl
  clear hF
  refine ev_if_le 62 53 dX6_score_50 rfl rfl (fun hc12 => ?_) (fun hc12 => ?_)
  · rw [if_pos hc12] at hBx4
    refine ev_bipush 64 dX6_score_62 rfl kB_50 ?_
    have hBx4 := Option.some.inj hBx4
    subst hBx4
    refine ev_weak [.ref 10, .int a1, .null, .null, .null, .null] ⟨Or.inr rfl, ⟨Or.inr rfl, ⟨Or.inl rfl, ⟨Or.inl rfl, ⟨Or.inl rfl, ⟨Or.inl rfl, trivial⟩⟩⟩⟩⟩⟩ ?_
    exact Jx4
  · rw [if_neg hc12] at hBx4
    refine ev_bipush 55 dX6_score_53 rfl kB_10 ?_
    refine ev_iload_n (i := 2) 56 dX6_score_55 rfl rfl rfl ?_
    refine ev_imul 57 dX6_score_56 rfl ?_
    refine ev_iload_n (i := 3) 58 dX6_score_57 rfl rfl rfl ?_
    by_cases hz3 : x2.2 = 0
    · rw [if_pos hz3] at hBx4; cases hBx4
    rw [if_neg hz3] at hBx4
    refine ev_idiv 59 dX6_score_58 rfl hz3 ?_
    refine ev_goto 64 dX6_score_59 rfl ?_
    have hBx4 := Option.some.inj hBx4
    subst hBx4
    refine ev_weak [.ref 10, .int a1, .null, .null, .null, .null] ⟨Or.inr rfl, ⟨Or.inr rfl, ⟨Or.inl rfl, ⟨Or.inl rfl, ⟨Or.inl rfl, ⟨Or.inl rfl, trivial⟩⟩⟩⟩⟩⟩ ?_
    exact Jx4

set_option maxRecDepth 100000 in
set_option maxHeartbeats 4000000 in
theorem R_X6_reputation_L11 {g : tv_G} {l : Launch} {si : Nat → Int32} {sa : Nat → Nat → Int32} {hs : Nat → (Nat → Int32) × (Nat → Nat → Int32)} {tx : Nat → Int32} {tl : Int32} {hc : Int32} {hn : Int32} {v : Nat → Int32} {pa : Nat → Int32} {mt : Nat → Int32} {pm : Int32} {ty : Int32} {ra : Int32} {l1 : Int32} {l2 : Int32} {r : Option Value} {h' : tv_Hp} : ∀ (n : Nat) (l3 : Int32) (l4 : Int32) (l5 : Int32)  (x : Int32 × Int32), F_X6_reputation_L11 sa l1 l2 n l3 l4 l5 = some x → tv_E g l yX6_reputation cX6_reputation 6 (some .int) 1 0 0 64 [.null, .null, .null, .int x.1, .int x.2, .null] [] (HP si sa hs tx tl hc hn v pa mt pm ty ra) r h' → tv_E g l yX6_reputation cX6_reputation 6 (some .int) 1 0 0 11 [.ref 10, .int l1, .int l2, .int l3, .int l4, .int l5] [] (HP si sa hs tx tl hc hn v pa mt pm ty ra) r h' := by
  intro n
  induction n with
  | zero => intro l3 l4 l5 x hF k; cases hF
  | succ n ih =>
      intro l3 l4 l5 x hF k
      rw [F_X6_reputation_L11] at hF
      refine ev_iload 13 dX6_reputation_11 rfl rfl ?_
      refine ev_iconst 14 dX6_reputation_13 rfl kI_1 ?_
      refine ev_icmp_lt 64 17 dX6_reputation_14 rfl rfl (fun hc13 => ?_) (fun hc13 => ?_)
      · rw [if_pos hc13] at hF
        have hF := Option.some.inj hF
        subst hF
        refine ev_weak [.null, .null, .null, .int l3, .int l4, .null] ⟨Or.inl rfl, ⟨Or.inl rfl, ⟨Or.inl rfl, ⟨Or.inr rfl, ⟨Or.inr rfl, ⟨Or.inl rfl, trivial⟩⟩⟩⟩⟩⟩ ?_
        exact k
      · rw [if_neg hc13] at hF
        refine ev_iload 19 dX6_reputation_17 rfl rfl ?_
        refine ev_iload_n (i := 2) 20 dX6_reputation_19 rfl rfl rfl ?_
        refine ev_icmp_ge 64 23 dX6_reputation_20 rfl rfl (fun hc14 => ?_) (fun hc14 => ?_)
        · rw [if_pos hc14] at hF
          have hF := Option.some.inj hF
          subst hF
          refine ev_weak [.null, .null, .null, .int l3, .int l4, .null] ⟨Or.inl rfl, ⟨Or.inl rfl, ⟨Or.inl rfl, ⟨Or.inr rfl, ⟨Or.inr rfl, ⟨Or.inl rfl, trivial⟩⟩⟩⟩⟩⟩ ?_
          exact k
        · rw [if_neg hc14] at hF
          refine ev_aload_n (i := 0) 24 dX6_reputation_23 rfl rfl rfl ?_
          refine ev_getfield 27 dX6_reputation_24 rfl okf_X6_9 (Nat.le_of_ble_eq_true rfl) HPg_10 rfl ?_
          refine ev_iload 29 dX6_reputation_27 rfl rfl ?_
          obtain ⟨x1, hx1, hF⟩ := tv_bind hF
          refine ev_iaload 30 dX6_reputation_29 rfl (Nat.le_of_ble_eq_true rfl) HPg_11 hx1 ?_
          refine ev_iload_n (i := 1) 31 dX6_reputation_30 rfl rfl rfl ?_
          refine ev_icmp_ne 58 34 dX6_reputation_31 rfl rfl (fun hc15 => ?_) (fun hc15 => ?_)
          · rw [if_neg hc15] at hF
            refine ev_iinc (L2 := [.ref 10, .int l1, .int l2, .int l3, .int l4, .int (l5 + (-1))]) 61 dX6_reputation_58 rfl rfl (kA_m1 _) (Nat.le_of_ble_eq_true rfl) rfl ?_
            refine ev_goto 11 dX6_reputation_61 rfl ?_
            exact ih _ _ _ _ hF k
          · rw [if_pos hc15] at hF
            refine ev_aload_n (i := 0) 35 dX6_reputation_34 rfl rfl rfl ?_
            refine ev_getfield 38 dX6_reputation_35 rfl okf_X6_21 (Nat.le_of_ble_eq_true rfl) HPg_10 rfl ?_
            refine ev_iload 40 dX6_reputation_38 rfl rfl ?_
            obtain ⟨x2, hx2, hF⟩ := tv_bind hF
            refine ev_iaload 41 dX6_reputation_40 rfl (Nat.le_of_ble_eq_true rfl) HPg_14 hx2 ?_
            refine ev_bipush 43 dX6_reputation_41 rfl kB_m9 ?_
            refine ev_icmp_eq 58 46 dX6_reputation_43 rfl rfl (fun hc16 => ?_) (fun hc16 => ?_)
            · rw [if_pos hc16] at hF
              refine ev_iinc (L2 := [.ref 10, .int l1, .int l2, .int l3, .int l4, .int (l5 + (-1))]) 61 dX6_reputation_58 rfl rfl (kA_m1 _) (Nat.le_of_ble_eq_true rfl) rfl ?_
              refine ev_goto 11 dX6_reputation_61 rfl ?_
              exact ih _ _ _ _ hF k
            · rw [if_neg hc16] at hF
              refine ev_iload_n (i := 3) 47 dX6_reputation_46 rfl rfl rfl ?_
              refine ev_aload_n (i := 0) 48 dX6_reputation_47 rfl rfl rfl ?_
              refine ev_iload 50 dX6_reputation_48 rfl rfl ?_
              obtain ⟨x3, hx3, hF⟩ := tv_bind hF
              refine ev_callVi (i := 10) 53 [.int l5] [.int l3] dX6_reputation_50 rfl okV_X6_70 rfl rfl (Nat.le_of_ble_eq_true rfl) (Nat.le_of_ble_eq_true rfl) HPg_10 rfl (Nat.le_of_ble_eq_true rfl) (Nat.le_of_ble_eq_true rfl) (R_X6_score hx3) ?_
              refine ev_iadd 54 dX6_reputation_53 rfl ?_
              refine ev_istore_n (i := 3) (L2 := [.ref 10, .int l1, .int l2, .int (l3 + x3), .int l4, .int l5]) 55 dX6_reputation_54 rfl rfl (Nat.le_of_ble_eq_true rfl) rfl ?_
              refine ev_iinc (L2 := [.ref 10, .int l1, .int l2, .int (l3 + x3), .int (l4 + 1), .int l5]) 58 dX6_reputation_55 rfl rfl (kA_1 _) (Nat.le_of_ble_eq_true rfl) rfl ?_
              refine ev_iinc (L2 := [.ref 10, .int l1, .int l2, .int (l3 + x3), .int (l4 + 1), .int (l5 + (-1))]) 61 dX6_reputation_58 rfl rfl (kA_m1 _) (Nat.le_of_ble_eq_true rfl) rfl ?_
              refine ev_goto 11 dX6_reputation_61 rfl ?_
              exact ih _ _ _ _ hF k

set_option maxRecDepth 100000 in
set_option maxHeartbeats 4000000 in
theorem R_X6_reputation {g : tv_G} {l : Launch} {si : Nat → Int32} {sa : Nat → Nat → Int32} {hs : Nat → (Nat → Int32) × (Nat → Nat → Int32)} {tx : Nat → Int32} {tl : Int32} {hc : Int32} {hn : Int32} {v : Nat → Int32} {pa : Nat → Int32} {mt : Nat → Int32} {pm : Int32} {ty : Int32} {ra : Int32} {a1 : Int32} {a2 : Int32} {p : Int32} (hF : F_X6_reputation si sa a1 a2 = some p) : tv_E g l yX6_reputation cX6_reputation 6 (some .int) 1 0 0 0 [.ref 10, .int a1, .int a2, .null, .null, .null] [] (HP si sa hs tx tl hc hn v pa mt pm ty ra) (some (.int p)) (HP si sa hs tx tl hc hn v pa mt pm ty ra) := by
  unfold F_X6_reputation at hF
  refine ev_iconst 1 dX6_reputation_0 rfl kI_0 ?_
  refine ev_istore_n (i := 3) (L2 := [.ref 10, .int a1, .int a2, .int 0, .null, .null]) 2 dX6_reputation_1 rfl rfl (Nat.le_of_ble_eq_true rfl) rfl ?_
  refine ev_iconst 3 dX6_reputation_2 rfl kI_0 ?_
  refine ev_istore (L2 := [.ref 10, .int a1, .int a2, .int 0, .int 0, .null]) 5 dX6_reputation_3 rfl (Nat.le_of_ble_eq_true rfl) rfl ?_
  refine ev_aload_n (i := 0) 6 dX6_reputation_5 rfl rfl rfl ?_
  refine ev_getfield 9 dX6_reputation_6 rfl okf_X6_36 (Nat.le_of_ble_eq_true rfl) HPg_10 rfl ?_
  refine ev_istore (L2 := [.ref 10, .int a1, .int a2, .int 0, .int 0, .int (si 9)]) 11 dX6_reputation_9 rfl (Nat.le_of_ble_eq_true rfl) rfl ?_
  obtain ⟨x4, hx4, hF⟩ := tv_bind hF
  refine R_X6_reputation_L11 _ _ _ _ _ hx4 ?_
  refine ev_iload 66 dX6_reputation_64 rfl rfl ?_
  refine ev_if_le 76 69 dX6_reputation_66 rfl rfl (fun hc17 => ?_) (fun hc17 => ?_)
  · rw [if_pos hc17] at hF
    refine ev_bipush 78 dX6_reputation_76 rfl kB_50 ?_
    have hF := Option.some.inj hF
    subst hF
    exact ev_ireturn dX6_reputation_78 rfl rfl
  · rw [if_neg hc17] at hF
    refine ev_iload_n (i := 3) 70 dX6_reputation_69 rfl rfl rfl ?_
    refine ev_iload 72 dX6_reputation_70 rfl rfl ?_
    by_cases hz5 : x4.2 = 0
    · rw [if_pos hz5] at hF; cases hF
    rw [if_neg hz5] at hF
    refine ev_idiv 73 dX6_reputation_72 rfl hz5 ?_
    refine ev_goto 78 dX6_reputation_73 rfl ?_
    have hF := Option.some.inj hF
    subst hF
    exact ev_ireturn dX6_reputation_78 rfl rfl

set_option maxRecDepth 100000 in
set_option maxHeartbeats 4000000 in
theorem R_X6_countLed_L4 {g : tv_G} {l : Launch} {si : Nat → Int32} {sa : Nat → Nat → Int32} {hs : Nat → (Nat → Int32) × (Nat → Nat → Int32)} {tx : Nat → Int32} {tl : Int32} {hc : Int32} {hn : Int32} {v : Nat → Int32} {pa : Nat → Int32} {mt : Nat → Int32} {pm : Int32} {ty : Int32} {ra : Int32} {l1 : Int32} {r : Option Value} {h' : tv_Hp} : ∀ (n : Nat) (l2 : Int32) (l3 : Int32)  (x : Int32), F_X6_countLed_L4 si sa l1 n l2 l3 = some x → tv_E g l yX6_countLed cX6_countLed 4 (some .int) 0 0 0 31 [.null, .null, .int x, .null] [] (HP si sa hs tx tl hc hn v pa mt pm ty ra) r h' → tv_E g l yX6_countLed cX6_countLed 4 (some .int) 0 0 0 4 [.ref 10, .int l1, .int l2, .int l3] [] (HP si sa hs tx tl hc hn v pa mt pm ty ra) r h' := by
  intro n
  induction n with
  | zero => intro l2 l3 x hF k; cases hF
  | succ n ih =>
      intro l2 l3 x hF k
      rw [F_X6_countLed_L4] at hF
      refine ev_iload_n (i := 3) 5 dX6_countLed_4 rfl rfl rfl ?_
      refine ev_aload_n (i := 0) 6 dX6_countLed_5 rfl rfl rfl ?_
      refine ev_getfield 9 dX6_countLed_6 rfl okf_X6_36 (Nat.le_of_ble_eq_true rfl) HPg_10 rfl ?_
      refine ev_icmp_gt 31 12 dX6_countLed_9 rfl rfl (fun hc18 => ?_) (fun hc18 => ?_)
      · rw [if_pos hc18] at hF
        have hF := Option.some.inj hF
        subst hF
        refine ev_weak [.null, .null, .int l2, .null] ⟨Or.inl rfl, ⟨Or.inl rfl, ⟨Or.inr rfl, ⟨Or.inl rfl, trivial⟩⟩⟩⟩ ?_
        exact k
      · rw [if_neg hc18] at hF
        refine ev_aload_n (i := 0) 13 dX6_countLed_12 rfl rfl rfl ?_
        refine ev_getfield 16 dX6_countLed_13 rfl okf_X6_9 (Nat.le_of_ble_eq_true rfl) HPg_10 rfl ?_
        refine ev_iload_n (i := 3) 17 dX6_countLed_16 rfl rfl rfl ?_
        obtain ⟨x1, hx1, hF⟩ := tv_bind hF
        refine ev_iaload 18 dX6_countLed_17 rfl (Nat.le_of_ble_eq_true rfl) HPg_11 hx1 ?_
        refine ev_iload_n (i := 1) 19 dX6_countLed_18 rfl rfl rfl ?_
        refine ev_icmp_ne 25 22 dX6_countLed_19 rfl rfl (fun hc19 => ?_) (fun hc19 => ?_)
        · rw [if_neg hc19] at hF
          refine ev_iinc (L2 := [.ref 10, .int l1, .int l2, .int (l3 + 1)]) 28 dX6_countLed_25 rfl rfl (kA_1 _) (Nat.le_of_ble_eq_true rfl) rfl ?_
          refine ev_goto 4 dX6_countLed_28 rfl ?_
          exact ih _ _ _ hF k
        · rw [if_pos hc19] at hF
          refine ev_iinc (L2 := [.ref 10, .int l1, .int (l2 + 1), .int l3]) 25 dX6_countLed_22 rfl rfl (kA_1 _) (Nat.le_of_ble_eq_true rfl) rfl ?_
          refine ev_iinc (L2 := [.ref 10, .int l1, .int (l2 + 1), .int (l3 + 1)]) 28 dX6_countLed_25 rfl rfl (kA_1 _) (Nat.le_of_ble_eq_true rfl) rfl ?_
          refine ev_goto 4 dX6_countLed_28 rfl ?_
          exact ih _ _ _ hF k

set_option maxRecDepth 100000 in
set_option maxHeartbeats 4000000 in
theorem R_X6_countLed {g : tv_G} {l : Launch} {si : Nat → Int32} {sa : Nat → Nat → Int32} {hs : Nat → (Nat → Int32) × (Nat → Nat → Int32)} {tx : Nat → Int32} {tl : Int32} {hc : Int32} {hn : Int32} {v : Nat → Int32} {pa : Nat → Int32} {mt : Nat → Int32} {pm : Int32} {ty : Int32} {ra : Int32} {a1 : Int32} {p : Int32} (hF : F_X6_countLed si sa a1 = some p) : tv_E g l yX6_countLed cX6_countLed 4 (some .int) 0 0 0 0 [.ref 10, .int a1, .null, .null] [] (HP si sa hs tx tl hc hn v pa mt pm ty ra) (some (.int p)) (HP si sa hs tx tl hc hn v pa mt pm ty ra) := by
  unfold F_X6_countLed at hF
  refine ev_iconst 1 dX6_countLed_0 rfl kI_0 ?_
  refine ev_istore_n (i := 2) (L2 := [.ref 10, .int a1, .int 0, .null]) 2 dX6_countLed_1 rfl rfl (Nat.le_of_ble_eq_true rfl) rfl ?_
  refine ev_iconst 3 dX6_countLed_2 rfl kI_1 ?_
  refine ev_istore_n (i := 3) (L2 := [.ref 10, .int a1, .int 0, .int 1]) 4 dX6_countLed_3 rfl rfl (Nat.le_of_ble_eq_true rfl) rfl ?_
  obtain ⟨x2, hx2, hF⟩ := tv_bind hF
  refine R_X6_countLed_L4 _ _ _ _ hx2 ?_
  refine ev_iload_n (i := 2) 32 dX6_countLed_31 rfl rfl rfl ?_
  have hF := Option.some.inj hF
  subst hF
  exact ev_ireturn dX6_countLed_32 rfl rfl

set_option maxRecDepth 100000 in
set_option maxHeartbeats 4000000 in
theorem R_X5_bestCaretaker_L11 {g : tv_G} {l : Launch} {si : Nat → Int32} {sa : Nat → Nat → Int32} {hs : Nat → (Nat → Int32) × (Nat → Nat → Int32)} {tx : Nat → Int32} {tl : Int32} {hc : Int32} {hn : Int32} {v : Nat → Int32} {pa : Nat → Int32} {mt : Nat → Int32} {pm : Int32} {ty : Int32} {ra : Int32} {l1 : Int32} {r : Option Value} {h' : tv_Hp} : ∀ (n : Nat) (l2 : Int32) (l3 : Int32) (l4 : Int32) (l5 : Int32)  (x : Int32), F_X5_bestCaretaker_L11 si sa l1 n l2 l3 l4 l5 = some x → tv_E g l yX5_bestCaretaker cX5_bestCaretaker 8 (some .int) 2 0 0 108 [.null, .null, .int x, .null, .null, .null, .null, .null] [] (HP si sa hs tx tl hc hn v pa mt pm ty ra) r h' → tv_E g l yX5_bestCaretaker cX5_bestCaretaker 8 (some .int) 2 0 0 11 [.ref 3, .int l1, .int l2, .int l3, .int l4, .int l5, .null, .null] [] (HP si sa hs tx tl hc hn v pa mt pm ty ra) r h' := by
  intro n
  induction n with
  | zero => intro l2 l3 l4 l5 x hF k; cases hF
  | succ n ih =>
      intro l2 l3 l4 l5 x hF k
      rw [F_X5_bestCaretaker_L11] at hF
      refine ev_iload 13 dX5_bestCaretaker_11 rfl rfl ?_
      refine ev_bipush 15 dX5_bestCaretaker_13 rfl kB_10 ?_
      refine ev_icmp_ge 108 18 dX5_bestCaretaker_15 rfl rfl (fun hc20 => ?_) (fun hc20 => ?_)
      · rw [if_pos hc20] at hF
        have hF := Option.some.inj hF
        subst hF
        refine ev_weak [.null, .null, .int l2, .null, .null, .null, .null, .null] ⟨Or.inl rfl, ⟨Or.inl rfl, ⟨Or.inr rfl, ⟨Or.inl rfl, ⟨Or.inl rfl, ⟨Or.inl rfl, ⟨Or.inl rfl, ⟨Or.inl rfl, trivial⟩⟩⟩⟩⟩⟩⟩⟩ ?_
        exact k
      · rw [if_neg hc20] at hF
        refine ev_aload_n (i := 0) 19 dX5_bestCaretaker_18 rfl rfl rfl ?_
        refine ev_getfield 22 dX5_bestCaretaker_19 rfl okf_X5_68 (Nat.le_of_ble_eq_true rfl) HPg_3 rfl ?_
        refine ev_iload 24 dX5_bestCaretaker_22 rfl rfl ?_
        refine ev_callSi 27 [.int (si 2), .int l5] [] dX5_bestCaretaker_24 rfl okS_X5_87 rfl rfl (Nat.le_of_ble_eq_true rfl) rfl (Nat.le_of_ble_eq_true rfl) (Nat.le_of_ble_eq_true rfl) (R_X7_has rfl) ?_
        refine ev_if_eq 102 30 dX5_bestCaretaker_27 rfl rfl (fun hc21 => ?_) (fun hc21 => ?_)
        · rw [if_pos hc21] at hF
          refine ev_iinc (L2 := [.ref 3, .int l1, .int l2, .int l3, .int l4, .int (l5 + 1), .null, .null]) 105 dX5_bestCaretaker_102 rfl rfl (kA_1 _) (Nat.le_of_ble_eq_true rfl) rfl ?_
          refine ev_goto 11 dX5_bestCaretaker_105 rfl ?_
          exact ih _ _ _ _ _ hF k
        · rw [if_neg hc21] at hF
          refine ev_iload 32 dX5_bestCaretaker_30 rfl rfl ?_
          refine ev_iload_n (i := 1) 33 dX5_bestCaretaker_32 rfl rfl rfl ?_
          refine ev_icmp_ne 39 36 dX5_bestCaretaker_33 rfl rfl (fun hc22 => ?_) (fun hc22 => ?_)
          · rw [if_neg hc22] at hF
            refine ev_aload_n (i := 0) 40 dX5_bestCaretaker_39 rfl rfl rfl ?_
            refine ev_getfield 43 dX5_bestCaretaker_40 rfl okf_X5_42 (Nat.le_of_ble_eq_true rfl) HPg_3 rfl ?_
            refine ev_iload 45 dX5_bestCaretaker_43 rfl rfl ?_
            refine ev_aload_n (i := 0) 46 dX5_bestCaretaker_45 rfl rfl rfl ?_
            refine ev_getfield 49 dX5_bestCaretaker_46 rfl okf_X5_9 (Nat.le_of_ble_eq_true rfl) HPg_3 rfl ?_
            refine ev_iconst 50 dX5_bestCaretaker_49 rfl kI_5 ?_
            obtain ⟨x1, hx1, hF⟩ := tv_bind hF
            refine ev_iaload 51 dX5_bestCaretaker_50 rfl (Nat.le_of_ble_eq_true rfl) HPg_4 hx1 ?_
            obtain ⟨x2, hx2, hF⟩ := tv_bind hF
            refine ev_callVi (i := 10) 54 [.int l5, .int x1] [] dX5_bestCaretaker_51 rfl okV_X5_132 rfl rfl (Nat.le_of_ble_eq_true rfl) (Nat.le_of_ble_eq_true rfl) HPg_10 rfl (Nat.le_of_ble_eq_true rfl) (Nat.le_of_ble_eq_true rfl) (R_X6_reputation hx2) ?_
            refine ev_istore (L2 := [.ref 3, .int l1, .int l2, .int l3, .int l4, .int l5, .int x2, .null]) 56 dX5_bestCaretaker_54 rfl (Nat.le_of_ble_eq_true rfl) rfl ?_
            refine ev_aload_n (i := 0) 57 dX5_bestCaretaker_56 rfl rfl rfl ?_
            refine ev_getfield 60 dX5_bestCaretaker_57 rfl okf_X5_42 (Nat.le_of_ble_eq_true rfl) HPg_3 rfl ?_
            refine ev_iload 62 dX5_bestCaretaker_60 rfl rfl ?_
            obtain ⟨x3, hx3, hF⟩ := tv_bind hF
            refine ev_callVi (i := 10) 65 [.int l5] [] dX5_bestCaretaker_62 rfl okV_X5_136 rfl rfl (Nat.le_of_ble_eq_true rfl) (Nat.le_of_ble_eq_true rfl) HPg_10 rfl (Nat.le_of_ble_eq_true rfl) (Nat.le_of_ble_eq_true rfl) (R_X6_countLed hx3) ?_
            refine ev_istore (L2 := [.ref 3, .int l1, .int l2, .int l3, .int l4, .int l5, .int x2, .int x3]) 67 dX5_bestCaretaker_65 rfl (Nat.le_of_ble_eq_true rfl) rfl ?_
            refine ev_iload_n (i := 2) 68 dX5_bestCaretaker_67 rfl rfl rfl ?_
            refine ev_bipush 70 dX5_bestCaretaker_68 rfl kB_m9 ?_
            refine ev_icmp_eq 92 73 dX5_bestCaretaker_70 rfl rfl (fun hc23 => ?_) (fun hc23 => ?_)
            · rw [if_pos hc23] at hF
              refine ev_iload 94 dX5_bestCaretaker_92 rfl rfl ?_
              refine ev_istore_n (i := 2) (L2 := [.ref 3, .int l1, .int l5, .int l3, .int l4, .int l5, .int x2, .int x3]) 95 dX5_bestCaretaker_94 rfl rfl (Nat.le_of_ble_eq_true rfl) rfl ?_
              refine ev_iload 97 dX5_bestCaretaker_95 rfl rfl ?_
              refine ev_istore_n (i := 3) (L2 := [.ref 3, .int l1, .int l5, .int x2, .int l4, .int l5, .int x2, .int x3]) 98 dX5_bestCaretaker_97 rfl rfl (Nat.le_of_ble_eq_true rfl) rfl ?_
              refine ev_iload 100 dX5_bestCaretaker_98 rfl rfl ?_
              refine ev_istore (L2 := [.ref 3, .int l1, .int l5, .int x2, .int x3, .int l5, .int x2, .int x3]) 102 dX5_bestCaretaker_100 rfl (Nat.le_of_ble_eq_true rfl) rfl ?_
              refine ev_iinc (L2 := [.ref 3, .int l1, .int l5, .int x2, .int x3, .int (l5 + 1), .int x2, .int x3]) 105 dX5_bestCaretaker_102 rfl rfl (kA_1 _) (Nat.le_of_ble_eq_true rfl) rfl ?_
              refine ev_goto 11 dX5_bestCaretaker_105 rfl ?_
              refine ev_weak [.ref 3, .int l1, .int l5, .int x2, .int x3, .int (l5 + 1), .null, .null] ⟨Or.inr rfl, ⟨Or.inr rfl, ⟨Or.inr rfl, ⟨Or.inr rfl, ⟨Or.inr rfl, ⟨Or.inr rfl, ⟨Or.inl rfl, ⟨Or.inl rfl, trivial⟩⟩⟩⟩⟩⟩⟩⟩ ?_
              exact ih _ _ _ _ _ hF k
            · rw [if_neg hc23] at hF
              refine ev_iload 75 dX5_bestCaretaker_73 rfl rfl ?_
              refine ev_iload_n (i := 3) 76 dX5_bestCaretaker_75 rfl rfl rfl ?_
              refine ev_icmp_gt 92 79 dX5_bestCaretaker_76 rfl rfl (fun hc24 => ?_) (fun hc24 => ?_)
              · rw [if_pos hc24] at hF
                refine ev_iload 94 dX5_bestCaretaker_92 rfl rfl ?_
                refine ev_istore_n (i := 2) (L2 := [.ref 3, .int l1, .int l5, .int l3, .int l4, .int l5, .int x2, .int x3]) 95 dX5_bestCaretaker_94 rfl rfl (Nat.le_of_ble_eq_true rfl) rfl ?_
                refine ev_iload 97 dX5_bestCaretaker_95 rfl rfl ?_
                refine ev_istore_n (i := 3) (L2 := [.ref 3, .int l1, .int l5, .int x2, .int l4, .int l5, .int x2, .int x3]) 98 dX5_bestCaretaker_97 rfl rfl (Nat.le_of_ble_eq_true rfl) rfl ?_
                refine ev_iload 100 dX5_bestCaretaker_98 rfl rfl ?_
                refine ev_istore (L2 := [.ref 3, .int l1, .int l5, .int x2, .int x3, .int l5, .int x2, .int x3]) 102 dX5_bestCaretaker_100 rfl (Nat.le_of_ble_eq_true rfl) rfl ?_
                refine ev_iinc (L2 := [.ref 3, .int l1, .int l5, .int x2, .int x3, .int (l5 + 1), .int x2, .int x3]) 105 dX5_bestCaretaker_102 rfl rfl (kA_1 _) (Nat.le_of_ble_eq_true rfl) rfl ?_
                refine ev_goto 11 dX5_bestCaretaker_105 rfl ?_
                refine ev_weak [.ref 3, .int l1, .int l5, .int x2, .int x3, .int (l5 + 1), .null, .null] ⟨Or.inr rfl, ⟨Or.inr rfl, ⟨Or.inr rfl, ⟨Or.inr rfl, ⟨Or.inr rfl, ⟨Or.inr rfl, ⟨Or.inl rfl, ⟨Or.inl rfl, trivial⟩⟩⟩⟩⟩⟩⟩⟩ ?_
                exact ih _ _ _ _ _ hF k
              · rw [if_neg hc24] at hF
                refine ev_iload 81 dX5_bestCaretaker_79 rfl rfl ?_
                refine ev_iload_n (i := 3) 82 dX5_bestCaretaker_81 rfl rfl rfl ?_
                refine ev_icmp_ne 102 85 dX5_bestCaretaker_82 rfl rfl (fun hc25 => ?_) (fun hc25 => ?_)
                · rw [if_neg hc25] at hF
                  refine ev_iinc (L2 := [.ref 3, .int l1, .int l2, .int l3, .int l4, .int (l5 + 1), .int x2, .int x3]) 105 dX5_bestCaretaker_102 rfl rfl (kA_1 _) (Nat.le_of_ble_eq_true rfl) rfl ?_
                  refine ev_goto 11 dX5_bestCaretaker_105 rfl ?_
                  refine ev_weak [.ref 3, .int l1, .int l2, .int l3, .int l4, .int (l5 + 1), .null, .null] ⟨Or.inr rfl, ⟨Or.inr rfl, ⟨Or.inr rfl, ⟨Or.inr rfl, ⟨Or.inr rfl, ⟨Or.inr rfl, ⟨Or.inl rfl, ⟨Or.inl rfl, trivial⟩⟩⟩⟩⟩⟩⟩⟩ ?_
                  exact ih _ _ _ _ _ hF k
                · rw [if_pos hc25] at hF
                  refine ev_iload 87 dX5_bestCaretaker_85 rfl rfl ?_
                  refine ev_iload 89 dX5_bestCaretaker_87 rfl rfl ?_
                  refine ev_icmp_ge 102 92 dX5_bestCaretaker_89 rfl rfl (fun hc26 => ?_) (fun hc26 => ?_)
                  · rw [if_pos hc26] at hF
                    refine ev_iinc (L2 := [.ref 3, .int l1, .int l2, .int l3, .int l4, .int (l5 + 1), .int x2, .int x3]) 105 dX5_bestCaretaker_102 rfl rfl (kA_1 _) (Nat.le_of_ble_eq_true rfl) rfl ?_
                    refine ev_goto 11 dX5_bestCaretaker_105 rfl ?_
                    refine ev_weak [.ref 3, .int l1, .int l2, .int l3, .int l4, .int (l5 + 1), .null, .null] ⟨Or.inr rfl, ⟨Or.inr rfl, ⟨Or.inr rfl, ⟨Or.inr rfl, ⟨Or.inr rfl, ⟨Or.inr rfl, ⟨Or.inl rfl, ⟨Or.inl rfl, trivial⟩⟩⟩⟩⟩⟩⟩⟩ ?_
                    exact ih _ _ _ _ _ hF k
                  · rw [if_neg hc26] at hF
                    refine ev_iload 94 dX5_bestCaretaker_92 rfl rfl ?_
                    refine ev_istore_n (i := 2) (L2 := [.ref 3, .int l1, .int l5, .int l3, .int l4, .int l5, .int x2, .int x3]) 95 dX5_bestCaretaker_94 rfl rfl (Nat.le_of_ble_eq_true rfl) rfl ?_
                    refine ev_iload 97 dX5_bestCaretaker_95 rfl rfl ?_
                    refine ev_istore_n (i := 3) (L2 := [.ref 3, .int l1, .int l5, .int x2, .int l4, .int l5, .int x2, .int x3]) 98 dX5_bestCaretaker_97 rfl rfl (Nat.le_of_ble_eq_true rfl) rfl ?_
                    refine ev_iload 100 dX5_bestCaretaker_98 rfl rfl ?_
                    refine ev_istore (L2 := [.ref 3, .int l1, .int l5, .int x2, .int x3, .int l5, .int x2, .int x3]) 102 dX5_bestCaretaker_100 rfl (Nat.le_of_ble_eq_true rfl) rfl ?_
                    refine ev_iinc (L2 := [.ref 3, .int l1, .int l5, .int x2, .int x3, .int (l5 + 1), .int x2, .int x3]) 105 dX5_bestCaretaker_102 rfl rfl (kA_1 _) (Nat.le_of_ble_eq_true rfl) rfl ?_
                    refine ev_goto 11 dX5_bestCaretaker_105 rfl ?_
                    refine ev_weak [.ref 3, .int l1, .int l5, .int x2, .int x3, .int (l5 + 1), .null, .null] ⟨Or.inr rfl, ⟨Or.inr rfl, ⟨Or.inr rfl, ⟨Or.inr rfl, ⟨Or.inr rfl, ⟨Or.inr rfl, ⟨Or.inl rfl, ⟨Or.inl rfl, trivial⟩⟩⟩⟩⟩⟩⟩⟩ ?_
                    exact ih _ _ _ _ _ hF k
          · rw [if_pos hc22] at hF
            refine ev_goto 102 dX5_bestCaretaker_36 rfl ?_
            refine ev_iinc (L2 := [.ref 3, .int l1, .int l2, .int l3, .int l4, .int (l5 + 1), .null, .null]) 105 dX5_bestCaretaker_102 rfl rfl (kA_1 _) (Nat.le_of_ble_eq_true rfl) rfl ?_
            refine ev_goto 11 dX5_bestCaretaker_105 rfl ?_
            exact ih _ _ _ _ _ hF k

set_option maxRecDepth 100000 in
set_option maxHeartbeats 4000000 in
theorem R_X5_bestCaretaker {g : tv_G} {l : Launch} {si : Nat → Int32} {sa : Nat → Nat → Int32} {hs : Nat → (Nat → Int32) × (Nat → Nat → Int32)} {tx : Nat → Int32} {tl : Int32} {hc : Int32} {hn : Int32} {v : Nat → Int32} {pa : Nat → Int32} {mt : Nat → Int32} {pm : Int32} {ty : Int32} {ra : Int32} {a1 : Int32} {p : Int32} (hF : F_X5_bestCaretaker si sa a1 = some p) : tv_E g l yX5_bestCaretaker cX5_bestCaretaker 8 (some .int) 2 0 0 0 [.ref 3, .int a1, .null, .null, .null, .null, .null, .null] [] (HP si sa hs tx tl hc hn v pa mt pm ty ra) (some (.int p)) (HP si sa hs tx tl hc hn v pa mt pm ty ra) := by
  unfold F_X5_bestCaretaker at hF
  refine ev_bipush 2 dX5_bestCaretaker_0 rfl kB_m9 ?_
  refine ev_istore_n (i := 2) (L2 := [.ref 3, .int a1, .int (-9), .null, .null, .null, .null, .null]) 3 dX5_bestCaretaker_2 rfl rfl (Nat.le_of_ble_eq_true rfl) rfl ?_
  refine ev_iconst 4 dX5_bestCaretaker_3 rfl kI_0 ?_
  refine ev_istore_n (i := 3) (L2 := [.ref 3, .int a1, .int (-9), .int 0, .null, .null, .null, .null]) 5 dX5_bestCaretaker_4 rfl rfl (Nat.le_of_ble_eq_true rfl) rfl ?_
  refine ev_iconst 6 dX5_bestCaretaker_5 rfl kI_0 ?_
  refine ev_istore (L2 := [.ref 3, .int a1, .int (-9), .int 0, .int 0, .null, .null, .null]) 8 dX5_bestCaretaker_6 rfl (Nat.le_of_ble_eq_true rfl) rfl ?_
  refine ev_iconst 9 dX5_bestCaretaker_8 rfl kI_0 ?_
  refine ev_istore (L2 := [.ref 3, .int a1, .int (-9), .int 0, .int 0, .int 0, .null, .null]) 11 dX5_bestCaretaker_9 rfl (Nat.le_of_ble_eq_true rfl) rfl ?_
  obtain ⟨x4, hx4, hF⟩ := tv_bind hF
  refine R_X5_bestCaretaker_L11 _ _ _ _ _ _ hx4 ?_
  refine ev_iload_n (i := 2) 109 dX5_bestCaretaker_108 rfl rfl rfl ?_
  have hF := Option.some.inj hF
  subst hF
  exact ev_ireturn dX5_bestCaretaker_109 rfl rfl

set_option maxRecDepth 100000 in
set_option maxHeartbeats 4000000 in
theorem R_X5_appointCaretaker {g : tv_G} {l : Launch} {si : Nat → Int32} {sa : Nat → Nat → Int32} {hs : Nat → (Nat → Int32) × (Nat → Nat → Int32)} {tx : Nat → Int32} {tl : Int32} {hc : Int32} {hn : Int32} {v : Nat → Int32} {pa : Nat → Int32} {mt : Nat → Int32} {pm : Int32} {ty : Int32} {ra : Int32} {a1 : Int32} {p : (Nat → Int32) × (Nat → Nat → Int32)} (hF : F_X5_appointCaretaker si sa a1 = some p) : tv_E g l yX5_appointCaretaker cX5_appointCaretaker 2 none 3 0 0 0 [.ref 3, .int a1] [] (HP si sa hs tx tl hc hn v pa mt pm ty ra) none (HP p.1 p.2 hs tx tl hc hn v pa mt pm ty ra) := by
  unfold F_X5_appointCaretaker at hF
  refine ev_aload_n (i := 0) 1 dX5_appointCaretaker_0 rfl rfl rfl ?_
  refine ev_aload_n (i := 0) 2 dX5_appointCaretaker_1 rfl rfl rfl ?_
  refine ev_iload_n (i := 1) 3 dX5_appointCaretaker_2 rfl rfl rfl ?_
  obtain ⟨x1, hx1, hF⟩ := tv_bind hF
  refine ev_callVi (i := 3) 6 [.int a1] [.ref 3] dX5_appointCaretaker_3 rfl okV_X5_129 rfl rfl (Nat.le_of_ble_eq_true rfl) (Nat.le_of_ble_eq_true rfl) HPg_3 rfl (Nat.le_of_ble_eq_true rfl) (Nat.le_of_ble_eq_true rfl) (R_X5_bestCaretaker hx1) ?_
  refine ev_putfield 9 dX5_appointCaretaker_6 rfl okf_X5_22 (Nat.le_of_ble_eq_true rfl) HPg_3 (Nat.le_of_ble_eq_true rfl) rfl rfl HPs_3_7 ?_
  refine ev_aload_n (i := 0) 10 dX5_appointCaretaker_9 rfl rfl rfl ?_
  refine ev_aload_n (i := 0) 11 dX5_appointCaretaker_10 rfl rfl rfl ?_
  refine ev_getfield 14 dX5_appointCaretaker_11 rfl okf_X5_22 (Nat.le_of_ble_eq_true rfl) HPg_3 rfl ?_
  refine ev_bipush 16 dX5_appointCaretaker_14 rfl kB_m9 ?_
  obtain ⟨x2, hBx2, hF⟩ := tv_bind hF
  have Jx2 : tv_E g l yX5_appointCaretaker cX5_appointCaretaker 2 none 3 0 0 24 [.ref 3, .null] [.int x2, .ref 3] (HP (upd si 5 x1) sa hs tx tl hc hn v pa mt pm ty ra) none (HP p.1 p.2 hs tx tl hc hn v pa mt pm ty ra) := by
    refine ev_putfield 27 dX5_appointCaretaker_24 rfl okf_X5_18 (Nat.le_of_ble_eq_true rfl) HPg_3 (Nat.le_of_ble_eq_true rfl) rfl rfl HPs_3_6 ?_
    refine ev_aload_n (i := 0) 28 dX5_appointCaretaker_27 rfl rfl rfl ?_
    refine ev_getfield 31 dX5_appointCaretaker_28 rfl okf_X5_49 (Nat.le_of_ble_eq_true rfl) HPg_3 rfl ?_
    refine ev_aload_n (i := 0) 32 dX5_appointCaretaker_31 rfl rfl rfl ?_
    refine ev_getfield 35 dX5_appointCaretaker_32 rfl okf_X5_62 (Nat.le_of_ble_eq_true rfl) HPg_3 rfl ?_
    refine ev_aload_n (i := 0) 36 dX5_appointCaretaker_35 rfl rfl rfl ?_
    refine ev_getfield 39 dX5_appointCaretaker_36 rfl okf_X5_22 (Nat.le_of_ble_eq_true rfl) HPg_3 rfl ?_
    refine ev_bipush 41 dX5_appointCaretaker_39 rfl kB_m9 ?_
    obtain ⟨x3, hBx3, hF⟩ := tv_bind hF
    have Jx3 : tv_E g l yX5_appointCaretaker cX5_appointCaretaker 2 none 3 0 0 50 [.ref 3, .null] [.int x3, .int ((upd (upd si 5 x1) 4 x2) 0), .ref 19] (HP (upd (upd si 5 x1) 4 x2) sa hs tx tl hc hn v pa mt pm ty ra) none (HP p.1 p.2 hs tx tl hc hn v pa mt pm ty ra) := by
      refine ev_aload_n (i := 0) 51 dX5_appointCaretaker_50 rfl rfl rfl ?_
      refine ev_getfield 54 dX5_appointCaretaker_51 rfl okf_X5_22 (Nat.le_of_ble_eq_true rfl) HPg_3 rfl ?_
      obtain ⟨x4, hx4, hF⟩ := tv_bind hF
      refine ev_callVv (i := 19) 57 [.int ((upd (upd si 5 x1) 4 x2) 0), .int x3, .int ((upd (upd si 5 x1) 4 x2) 5)] [] dX5_appointCaretaker_54 rfl okV_X5_121 rfl rfl (Nat.le_of_ble_eq_true rfl) (Nat.le_of_ble_eq_true rfl) HPg_19 rfl (Nat.le_of_ble_eq_true rfl) (Nat.le_of_ble_eq_true rfl) (R_X1_tell hx4) ?_
      have hF := Option.some.inj hF
      subst hF
      exact ev_return dX5_appointCaretaker_57 rfl
    clear hF
    refine ev_icmp_ne 49 44 dX5_appointCaretaker_41 rfl rfl (fun hc27 => ?_) (fun hc27 => ?_)
    · rw [if_neg hc27] at hBx3
      refine ev_iconst 50 dX5_appointCaretaker_49 rfl kI_5 ?_
      have hBx3 := Option.some.inj hBx3
      subst hBx3
      exact Jx3
    · rw [if_pos hc27] at hBx3
      refine ev_bipush 46 dX5_appointCaretaker_44 rfl kB_7 ?_
      refine ev_goto 50 dX5_appointCaretaker_46 rfl ?_
      have hBx3 := Option.some.inj hBx3
      subst hBx3
      exact Jx3
  clear hF
  refine ev_icmp_ne 23 19 dX5_appointCaretaker_16 rfl rfl (fun hc28 => ?_) (fun hc28 => ?_)
  · rw [if_neg hc28] at hBx2
    refine ev_iconst 24 dX5_appointCaretaker_23 rfl kI_1 ?_
    have hBx2 := Option.some.inj hBx2
    subst hBx2
    refine ev_weak [.ref 3, .null] ⟨Or.inr rfl, ⟨Or.inl rfl, trivial⟩⟩ ?_
    exact Jx2
  · rw [if_pos hc28] at hBx2
    refine ev_iconst 20 dX5_appointCaretaker_19 rfl kI_0 ?_
    refine ev_goto 24 dX5_appointCaretaker_20 rfl ?_
    have hBx2 := Option.some.inj hBx2
    subst hBx2
    refine ev_weak [.ref 3, .null] ⟨Or.inr rfl, ⟨Or.inl rfl, trivial⟩⟩ ?_
    exact Jx2

set_option maxRecDepth 100000 in
set_option maxHeartbeats 4000000 in
theorem R_X5_endTerm {g : tv_G} {l : Launch} {si : Nat → Int32} {sa : Nat → Nat → Int32} {hs : Nat → (Nat → Int32) × (Nat → Nat → Int32)} {tx : Nat → Int32} {tl : Int32} {hc : Int32} {hn : Int32} {v : Nat → Int32} {pa : Nat → Int32} {mt : Nat → Int32} {pm : Int32} {ty : Int32} {ra : Int32} {a1 : Int32} {p : (Nat → Int32) × (Nat → Nat → Int32)} (hF : F_X5_endTerm si sa a1 = some p) : tv_E g l yX5_endTerm cX5_endTerm 3 none 4 0 0 0 [.ref 3, .int a1, .null] [] (HP si sa hs tx tl hc hn v pa mt pm ty ra) none (HP p.1 p.2 hs tx tl hc hn v pa mt pm ty ra) := by
  unfold F_X5_endTerm at hF
  refine ev_aload_n (i := 0) 1 dX5_endTerm_0 rfl rfl rfl ?_
  refine ev_getfield 4 dX5_endTerm_1 rfl okf_X5_22 (Nat.le_of_ble_eq_true rfl) HPg_3 rfl ?_
  refine ev_istore_n (i := 2) (L2 := [.ref 3, .int a1, .int (si 5)]) 5 dX5_endTerm_4 rfl rfl (Nat.le_of_ble_eq_true rfl) rfl ?_
  refine ev_aload_n (i := 0) 6 dX5_endTerm_5 rfl rfl rfl ?_
  refine ev_getfield 9 dX5_endTerm_6 rfl okf_X5_42 (Nat.le_of_ble_eq_true rfl) HPg_3 rfl ?_
  refine ev_aload_n (i := 0) 10 dX5_endTerm_9 rfl rfl rfl ?_
  refine ev_getfield 13 dX5_endTerm_10 rfl okf_X5_62 (Nat.le_of_ble_eq_true rfl) HPg_3 rfl ?_
  refine ev_iload_n (i := 1) 14 dX5_endTerm_13 rfl rfl rfl ?_
  refine ev_iconst 15 dX5_endTerm_14 rfl kI_3 ?_
  obtain ⟨x1, hBx1, hF⟩ := tv_bind hF
  have Jx1 : tv_E g l yX5_endTerm cX5_endTerm 3 none 4 0 0 23 [.ref 3, .int a1, .int (si 5)] [.int x1, .int (si 0), .ref 10] (HP si sa hs tx tl hc hn v pa mt pm ty ra) none (HP p.1 p.2 hs tx tl hc hn v pa mt pm ty ra) := by
    obtain ⟨x2, hx2, hF⟩ := tv_bind hF
    refine ev_callVv (i := 10) 26 [.int (si 0), .int x1] [] dX5_endTerm_23 rfl okV_X5_125 rfl rfl (Nat.le_of_ble_eq_true rfl) (Nat.le_of_ble_eq_true rfl) HPg_10 rfl (Nat.le_of_ble_eq_true rfl) (Nat.le_of_ble_eq_true rfl) (R_X6_finishLatest hx2) ?_
    refine ev_aload_n (i := 0) 27 dX5_endTerm_26 rfl rfl rfl ?_
    refine ev_iconst 28 dX5_endTerm_27 rfl kI_0 ?_
    refine ev_putfield 31 dX5_endTerm_28 rfl okf_X5_71 (Nat.le_of_ble_eq_true rfl) HPg_3 (Nat.le_of_ble_eq_true rfl) rfl rfl HPs_3_5 ?_
    refine ev_aload_n (i := 0) 32 dX5_endTerm_31 rfl rfl rfl ?_
    refine ev_getfield 35 dX5_endTerm_32 rfl okf_X5_49 (Nat.le_of_ble_eq_true rfl) HPg_3 rfl ?_
    refine ev_aload_n (i := 0) 36 dX5_endTerm_35 rfl rfl rfl ?_
    refine ev_getfield 39 dX5_endTerm_36 rfl okf_X5_62 (Nat.le_of_ble_eq_true rfl) HPg_3 rfl ?_
    refine ev_iload_n (i := 1) 40 dX5_endTerm_39 rfl rfl rfl ?_
    refine ev_iload_n (i := 2) 41 dX5_endTerm_40 rfl rfl rfl ?_
    obtain ⟨x3, hx3, hF⟩ := tv_bind hF
    refine ev_callVv (i := 19) 44 [.int ((upd si 3 0) 0), .int a1, .int (si 5)] [] dX5_endTerm_41 rfl okV_X5_121 rfl rfl (Nat.le_of_ble_eq_true rfl) (Nat.le_of_ble_eq_true rfl) HPg_19 rfl (Nat.le_of_ble_eq_true rfl) (Nat.le_of_ble_eq_true rfl) (R_X1_tell hx3) ?_
    refine ev_aload_n (i := 0) 45 dX5_endTerm_44 rfl rfl rfl ?_
    refine ev_iload_n (i := 2) 46 dX5_endTerm_45 rfl rfl rfl ?_
    obtain ⟨x4, hx4, hF⟩ := tv_bind hF
    refine ev_callVv (i := 3) 49 [.int (si 5)] [] dX5_endTerm_46 rfl okV_X5_102 rfl rfl (Nat.le_of_ble_eq_true rfl) (Nat.le_of_ble_eq_true rfl) HPg_3 rfl (Nat.le_of_ble_eq_true rfl) (Nat.le_of_ble_eq_true rfl) (R_X5_appointCaretaker hx4) ?_
    have hF := Option.some.inj hF
    subst hF
    exact ev_return dX5_endTerm_49 rfl
  clear hF
  refine ev_icmp_ne 22 18 dX5_endTerm_15 rfl rfl (fun hc29 => ?_) (fun hc29 => ?_)
  · rw [if_neg hc29] at hBx1
    refine ev_iconst 23 dX5_endTerm_22 rfl kI_0 ?_
    have hBx1 := Option.some.inj hBx1
    subst hBx1
    exact Jx1
  · rw [if_pos hc29] at hBx1
    refine ev_iconst 19 dX5_endTerm_18 rfl kI_1 ?_
    refine ev_goto 23 dX5_endTerm_19 rfl ?_
    have hBx1 := Option.some.inj hBx1
    subst hBx1
    exact Jx1

set_option maxRecDepth 100000 in
set_option maxHeartbeats 4000000 in
theorem R_X5_lookAtPetition {g : tv_G} {l : Launch} {si : Nat → Int32} {sa : Nat → Nat → Int32} {hs : Nat → (Nat → Int32) × (Nat → Nat → Int32)} {tx : Nat → Int32} {tl : Int32} {hc : Int32} {hn : Int32} {v : Nat → Int32} {pa : Nat → Int32} {mt : Nat → Int32} {pm : Int32} {ty : Int32} {ra : Int32}  {p : (Nat → Int32) × (Nat → Nat → Int32)} (hF : F_X5_lookAtPetition si sa = some p) : tv_E g l yX5_lookAtPetition cX5_lookAtPetition 3 none 5 0 0 0 [.ref 3, .null, .null] [] (HP si sa hs tx tl hc hn v pa mt pm ty ra) none (HP p.1 p.2 hs tx tl hc hn v pa mt pm ty ra) := by
  unfold F_X5_lookAtPetition at hF
  refine ev_aload_n (i := 0) 1 dX5_lookAtPetition_0 rfl rfl rfl ?_
  refine ev_getfield 4 dX5_lookAtPetition_1 rfl okf_X5_18 (Nat.le_of_ble_eq_true rfl) HPg_3 rfl ?_
  refine ev_iconst 5 dX5_lookAtPetition_4 rfl kI_2 ?_
  refine ev_icmp_eq 9 8 dX5_lookAtPetition_5 rfl rfl (fun hc30 => ?_) (fun hc30 => ?_)
  · rw [if_pos hc30] at hF
    refine ev_aload_n (i := 0) 10 dX5_lookAtPetition_9 rfl rfl rfl ?_
    refine ev_callVi (i := 3) 13 [] [] dX5_lookAtPetition_10 rfl okV_X5_114 rfl rfl (Nat.le_of_ble_eq_true rfl) (Nat.le_of_ble_eq_true rfl) HPg_3 rfl (Nat.le_of_ble_eq_true rfl) (Nat.le_of_ble_eq_true rfl) (R_X5_countSignatures rfl) ?_
    refine ev_istore_n (i := 1) (L2 := [.ref 3, .int (F_X5_countSignatures si), .null]) 14 dX5_lookAtPetition_13 rfl rfl (Nat.le_of_ble_eq_true rfl) rfl ?_
    refine ev_aload_n (i := 0) 15 dX5_lookAtPetition_14 rfl rfl rfl ?_
    refine ev_getfield 18 dX5_lookAtPetition_15 rfl okf_X5_68 (Nat.le_of_ble_eq_true rfl) HPg_3 rfl ?_
    refine ev_aload_n (i := 0) 19 dX5_lookAtPetition_18 rfl rfl rfl ?_
    refine ev_getfield 22 dX5_lookAtPetition_19 rfl okf_X5_22 (Nat.le_of_ble_eq_true rfl) HPg_3 rfl ?_
    refine ev_callSi 25 [.int (si 5)] [.int (si 2)] dX5_lookAtPetition_22 rfl okS_X5_91 rfl rfl (Nat.le_of_ble_eq_true rfl) rfl (Nat.le_of_ble_eq_true rfl) (Nat.le_of_ble_eq_true rfl) (R_X7_only rfl) ?_
    refine ev_iconst 26 dX5_lookAtPetition_25 rfl kI_m1 ?_
    refine ev_ixor 27 dX5_lookAtPetition_26 rfl ?_
    refine ev_iand 28 dX5_lookAtPetition_27 rfl ?_
    refine ev_callSi 31 [.int ((si 2) &&& ((F_X7_only (si 5)) ^^^ (-1)))] [] dX5_lookAtPetition_28 rfl okS_X5_109 rfl rfl (Nat.le_of_ble_eq_true rfl) rfl (Nat.le_of_ble_eq_true rfl) (Nat.le_of_ble_eq_true rfl) R_bitCount ?_
    refine ev_istore_n (i := 2) (L2 := [.ref 3, .int (F_X5_countSignatures si), .int (tv_bc ((si 2) &&& ((F_X7_only (si 5)) ^^^ (-1))))]) 32 dX5_lookAtPetition_31 rfl rfl (Nat.le_of_ble_eq_true rfl) rfl ?_
    refine ev_iload_n (i := 1) 33 dX5_lookAtPetition_32 rfl rfl rfl ?_
    refine ev_if_le 56 36 dX5_lookAtPetition_33 rfl rfl (fun hc31 => ?_) (fun hc31 => ?_)
    · rw [if_pos hc31] at hF
      have hF := Option.some.inj hF
      subst hF
      exact ev_return dX5_lookAtPetition_56 rfl
    · rw [if_neg hc31] at hF
      refine ev_bipush 38 dX5_lookAtPetition_36 rfl kB_100 ?_
      refine ev_iload_n (i := 1) 39 dX5_lookAtPetition_38 rfl rfl rfl ?_
      refine ev_imul 40 dX5_lookAtPetition_39 rfl ?_
      refine ev_aload_n (i := 0) 41 dX5_lookAtPetition_40 rfl rfl rfl ?_
      refine ev_getfield 44 dX5_lookAtPetition_41 rfl okf_X5_9 (Nat.le_of_ble_eq_true rfl) HPg_3 rfl ?_
      refine ev_iconst 45 dX5_lookAtPetition_44 rfl kI_3 ?_
      obtain ⟨x1, hx1, hF⟩ := tv_bind hF
      refine ev_iaload 46 dX5_lookAtPetition_45 rfl (Nat.le_of_ble_eq_true rfl) HPg_4 hx1 ?_
      refine ev_iload_n (i := 2) 47 dX5_lookAtPetition_46 rfl rfl rfl ?_
      refine ev_imul 48 dX5_lookAtPetition_47 rfl ?_
      refine ev_icmp_lt 56 51 dX5_lookAtPetition_48 rfl rfl (fun hc32 => ?_) (fun hc32 => ?_)
      · rw [if_pos hc32] at hF
        have hF := Option.some.inj hF
        subst hF
        exact ev_return dX5_lookAtPetition_56 rfl
      · rw [if_neg hc32] at hF
        refine ev_aload_n (i := 0) 52 dX5_lookAtPetition_51 rfl rfl rfl ?_
        refine ev_iconst 53 dX5_lookAtPetition_52 rfl kI_3 ?_
        obtain ⟨x2, hx2, hF⟩ := tv_bind hF
        refine ev_callVv (i := 3) 56 [.int 3] [] dX5_lookAtPetition_53 rfl okV_X5_99 rfl rfl (Nat.le_of_ble_eq_true rfl) (Nat.le_of_ble_eq_true rfl) HPg_3 rfl (Nat.le_of_ble_eq_true rfl) (Nat.le_of_ble_eq_true rfl) (R_X5_endTerm hx2) ?_
        have hF := Option.some.inj hF
        subst hF
        exact ev_return dX5_lookAtPetition_56 rfl
  · rw [if_neg hc30] at hF
    have hF := Option.some.inj hF
    subst hF
    exact ev_return dX5_lookAtPetition_8 rfl

set_option maxRecDepth 100000 in
set_option maxHeartbeats 4000000 in
theorem R_X7_set {g : tv_G} {l : Launch} {si : Nat → Int32} {sa : Nat → Nat → Int32} {hs : Nat → (Nat → Int32) × (Nat → Nat → Int32)} {tx : Nat → Int32} {tl : Int32} {hc : Int32} {hn : Int32} {v : Nat → Int32} {pa : Nat → Int32} {mt : Nat → Int32} {pm : Int32} {ty : Int32} {ra : Int32} {a1 : Int32} {a2 : Int32} {p : Int32 × (Nat → Int32) × (Nat → Nat → Int32) × (Nat → (Nat → Int32) × (Nat → Nat → Int32)) × Int32 × Int32} (hX : tv_XL g 1 = 6 ∧ tv_X g 1 = tv_least ∧ tv_XL g 2 = 6 ∧ tv_X g 2 = tv_great) (hF : F_X7_set si sa hs hc hn a1 a2 = some p) : tv_E g l yX7_set cX7_set 4 (some .int) 6 0 0 0 [.ref 0, .int a1, .int a2, .null] [] (HP si sa hs tx tl hc hn v pa mt pm ty ra) (some (.int p.1)) (HP p.2.1 p.2.2.1 p.2.2.2.1 tx tl p.2.2.2.2.1 p.2.2.2.2.2 v pa mt pm ty ra) := by
  unfold F_X7_set at hF
  refine ev_iload_n (i := 1) 1 dX7_set_0 rfl rfl rfl ?_
  refine ev_if_lt 10 4 dX7_set_1 rfl rfl (fun hc33 => ?_) (fun hc33 => ?_)
  · rw [if_pos hc33] at hF
    refine ev_iconst 11 dX7_set_10 rfl kI_m1 ?_
    have hF := Option.some.inj hF
    subst hF
    exact ev_ireturn dX7_set_11 rfl rfl
  · rw [if_neg hc33] at hF
    refine ev_iload_n (i := 1) 5 dX7_set_4 rfl rfl rfl ?_
    refine ev_bipush 7 dX7_set_5 rfl kB_6 ?_
    refine ev_icmp_lt 12 10 dX7_set_7 rfl rfl (fun hc34 => ?_) (fun hc34 => ?_)
    · rw [if_pos hc34] at hF
      refine ev_iload_n (i := 2) 13 dX7_set_12 rfl rfl rfl ?_
      refine ev_getstatic (i := 1) 16 dX7_set_13 rfl (Or.inl (List.mem_of_getElem? (i := 261) (by decide +kernel))) (Nat.le_of_ble_eq_true rfl) (Nat.le_of_ble_eq_true rfl) ?_
      refine ev_iload_n (i := 1) 17 dX7_set_16 rfl rfl rfl ?_
      obtain ⟨x1, hx1, hF⟩ := tv_bind hF
      refine ev_xaload (i := 1) 18 dX7_set_17 rfl (Nat.le_of_ble_eq_true rfl) (by rw [hX.1, hX.2.1]; exact hx1) ?_
      refine ev_icmp_lt 30 21 dX7_set_18 rfl rfl (fun hc35 => ?_) (fun hc35 => ?_)
      · rw [if_pos hc35] at hF
        refine ev_iconst 31 dX7_set_30 rfl kI_m1 ?_
        have hF := Option.some.inj hF
        subst hF
        exact ev_ireturn dX7_set_31 rfl rfl
      · rw [if_neg hc35] at hF
        refine ev_iload_n (i := 2) 22 dX7_set_21 rfl rfl rfl ?_
        refine ev_getstatic (i := 2) 25 dX7_set_22 rfl (Or.inl (List.mem_of_getElem? (i := 263) (by decide +kernel))) (Nat.le_of_ble_eq_true rfl) (Nat.le_of_ble_eq_true rfl) ?_
        refine ev_iload_n (i := 1) 26 dX7_set_25 rfl rfl rfl ?_
        obtain ⟨x2, hx2, hF⟩ := tv_bind hF
        refine ev_xaload (i := 2) 27 dX7_set_26 rfl (Nat.le_of_ble_eq_true rfl) (by rw [hX.2.2.1, hX.2.2.2]; exact hx2) ?_
        refine ev_icmp_le 32 30 dX7_set_27 rfl rfl (fun hc36 => ?_) (fun hc36 => ?_)
        · rw [if_pos hc36] at hF
          refine ev_aload_n (i := 0) 33 dX7_set_32 rfl rfl rfl ?_
          refine ev_getfield 36 dX7_set_33 rfl okf_X7_26 (Nat.le_of_ble_eq_true rfl) HPg_0 rfl ?_
          refine ev_aload_n (i := 0) 37 dX7_set_36 rfl rfl rfl ?_
          refine ev_getfield 40 dX7_set_37 rfl okf_X7_19 (Nat.le_of_ble_eq_true rfl) HPg_0 rfl ?_
          obtain ⟨x3, hx3, hF⟩ := tv_bind hF
          refine ev_callVv (i := 23) 43 [.ref 3] [] dX7_set_40 rfl okV_X7_37 rfl rfl (Nat.le_of_ble_eq_true rfl) (Nat.le_of_ble_eq_true rfl) HPg_23 rfl (Nat.le_of_ble_eq_true rfl) (Nat.le_of_ble_eq_true rfl) (R_X3_keep hx3) ?_
          refine ev_aload_n (i := 0) 44 dX7_set_43 rfl rfl rfl ?_
          refine ev_getfield 47 dX7_set_44 rfl okf_X7_19 (Nat.le_of_ble_eq_true rfl) HPg_0 rfl ?_
          refine ev_getfield 50 dX7_set_47 rfl okf_X7_41 (Nat.le_of_ble_eq_true rfl) HPg_3 rfl ?_
          refine ev_iload_n (i := 1) 51 dX7_set_50 rfl rfl rfl ?_
          obtain ⟨x4, hx4, hF⟩ := tv_bind hF
          refine ev_iaload 52 dX7_set_51 rfl (Nat.le_of_ble_eq_true rfl) HPg_4 hx4 ?_
          refine ev_istore_n (i := 3) (L2 := [.ref 0, .int a1, .int a2, .int x4]) 53 dX7_set_52 rfl rfl (Nat.le_of_ble_eq_true rfl) rfl ?_
          refine ev_aload_n (i := 0) 54 dX7_set_53 rfl rfl rfl ?_
          refine ev_getfield 57 dX7_set_54 rfl okf_X7_19 (Nat.le_of_ble_eq_true rfl) HPg_0 rfl ?_
          refine ev_getfield 60 dX7_set_57 rfl okf_X7_41 (Nat.le_of_ble_eq_true rfl) HPg_3 rfl ?_
          refine ev_iload_n (i := 1) 61 dX7_set_60 rfl rfl rfl ?_
          refine ev_iload_n (i := 2) 62 dX7_set_61 rfl rfl rfl ?_
          obtain ⟨x5, hx5, hF⟩ := tv_bind hF
          refine ev_iastore 63 dX7_set_62 rfl (Nat.le_of_ble_eq_true rfl) HPg_4 hx5 HPa_4 ?_
          refine ev_iload_n (i := 1) 64 dX7_set_63 rfl rfl rfl ?_
          refine ev_iconst 65 dX7_set_64 rfl kI_3 ?_
          refine ev_icmp_ne 75 68 dX7_set_65 rfl rfl (fun hc37 => ?_) (fun hc37 => ?_)
          · rw [if_neg hc37] at hF
            refine ev_iload_n (i := 3) 76 dX7_set_75 rfl rfl rfl ?_
            have hF := Option.some.inj hF
            subst hF
            exact ev_ireturn dX7_set_76 rfl rfl
          · rw [if_pos hc37] at hF
            refine ev_aload_n (i := 0) 69 dX7_set_68 rfl rfl rfl ?_
            refine ev_getfield 72 dX7_set_69 rfl okf_X7_19 (Nat.le_of_ble_eq_true rfl) HPg_0 rfl ?_
            obtain ⟨x6, hx6, hF⟩ := tv_bind hF
            refine ev_callVv (i := 3) 75 [] [] dX7_set_72 rfl okV_X7_44 rfl rfl (Nat.le_of_ble_eq_true rfl) (Nat.le_of_ble_eq_true rfl) HPg_3 rfl (Nat.le_of_ble_eq_true rfl) (Nat.le_of_ble_eq_true rfl) (R_X5_lookAtPetition hx6) ?_
            refine ev_iload_n (i := 3) 76 dX7_set_75 rfl rfl rfl ?_
            have hF := Option.some.inj hF
            subst hF
            exact ev_ireturn dX7_set_76 rfl rfl
        · rw [if_neg hc36] at hF
          refine ev_iconst 31 dX7_set_30 rfl kI_m1 ?_
          have hF := Option.some.inj hF
          subst hF
          exact ev_ireturn dX7_set_31 rfl rfl
    · rw [if_neg hc34] at hF
      refine ev_iconst 11 dX7_set_10 rfl kI_m1 ?_
      have hF := Option.some.inj hF
      subst hF
      exact ev_ireturn dX7_set_11 rfl rfl

set_option maxRecDepth 100000 in
set_option maxHeartbeats 4000000 in
theorem R_X5_enrol {g : tv_G} {l : Launch} {si : Nat → Int32} {sa : Nat → Nat → Int32} {hs : Nat → (Nat → Int32) × (Nat → Nat → Int32)} {tx : Nat → Int32} {tl : Int32} {hc : Int32} {hn : Int32} {v : Nat → Int32} {pa : Nat → Int32} {mt : Nat → Int32} {pm : Int32} {ty : Int32} {ra : Int32} {a1 : Int32} {p : Int32 × (Nat → Int32) × (Nat → Nat → Int32)} (hF : F_X5_enrol si sa a1 = some p) : tv_E g l yX5_enrol cX5_enrol 3 (some .int) 1 0 0 0 [.ref 3, .int a1, .null] [] (HP si sa hs tx tl hc hn v pa mt pm ty ra) (some (.int p.1)) (HP p.2.1 p.2.2 hs tx tl hc hn v pa mt pm ty ra) := by
  unfold F_X5_enrol at hF
  refine ev_aload_n (i := 0) 1 dX5_enrol_0 rfl rfl rfl ?_
  refine ev_getfield 4 dX5_enrol_1 rfl okf_X5_65 (Nat.le_of_ble_eq_true rfl) HPg_3 rfl ?_
  refine ev_istore_n (i := 2) (L2 := [.ref 3, .int a1, .int (si 1)]) 5 dX5_enrol_4 rfl rfl (Nat.le_of_ble_eq_true rfl) rfl ?_
  refine ev_aload_n (i := 0) 6 dX5_enrol_5 rfl rfl rfl ?_
  refine ev_getfield 9 dX5_enrol_6 rfl okf_X5_15 (Nat.le_of_ble_eq_true rfl) HPg_3 rfl ?_
  refine ev_iload_n (i := 2) 10 dX5_enrol_9 rfl rfl rfl ?_
  refine ev_iload_n (i := 1) 11 dX5_enrol_10 rfl rfl rfl ?_
  obtain ⟨x1, hx1, hF⟩ := tv_bind hF
  refine ev_iastore 12 dX5_enrol_11 rfl (Nat.le_of_ble_eq_true rfl) HPg_5 hx1 HPa_5 ?_
  refine ev_aload_n (i := 0) 13 dX5_enrol_12 rfl rfl rfl ?_
  refine ev_dup 14 dX5_enrol_13 rfl rfl ?_
  refine ev_getfield 17 dX5_enrol_14 rfl okf_X5_65 (Nat.le_of_ble_eq_true rfl) HPg_3 rfl ?_
  refine ev_iconst 18 dX5_enrol_17 rfl kI_1 ?_
  refine ev_iadd 19 dX5_enrol_18 rfl ?_
  refine ev_putfield 22 dX5_enrol_19 rfl okf_X5_65 (Nat.le_of_ble_eq_true rfl) HPg_3 (Nat.le_of_ble_eq_true rfl) rfl rfl HPs_3_2 ?_
  refine ev_aload_n (i := 0) 23 dX5_enrol_22 rfl rfl rfl ?_
  refine ev_dup 24 dX5_enrol_23 rfl rfl ?_
  refine ev_getfield 27 dX5_enrol_24 rfl okf_X5_68 (Nat.le_of_ble_eq_true rfl) HPg_3 rfl ?_
  refine ev_iload_n (i := 2) 28 dX5_enrol_27 rfl rfl rfl ?_
  refine ev_callSi 31 [.int (si 1)] [.int ((upd si 1 ((si 1) + 1)) 2), .ref 3] dX5_enrol_28 rfl okS_X5_91 rfl rfl (Nat.le_of_ble_eq_true rfl) rfl (Nat.le_of_ble_eq_true rfl) (Nat.le_of_ble_eq_true rfl) (R_X7_only rfl) ?_
  refine ev_ior 32 dX5_enrol_31 rfl ?_
  refine ev_putfield 35 dX5_enrol_32 rfl okf_X5_68 (Nat.le_of_ble_eq_true rfl) HPg_3 (Nat.le_of_ble_eq_true rfl) rfl rfl HPs_3_4 ?_
  refine ev_iload_n (i := 2) 36 dX5_enrol_35 rfl rfl rfl ?_
  have hF := Option.some.inj hF
  subst hF
  exact ev_ireturn dX5_enrol_36 rfl rfl

set_option maxRecDepth 100000 in
set_option maxHeartbeats 4000000 in
theorem R_X7_join {g : tv_G} {l : Launch} {si : Nat → Int32} {sa : Nat → Nat → Int32} {hs : Nat → (Nat → Int32) × (Nat → Nat → Int32)} {tx : Nat → Int32} {tl : Int32} {hc : Int32} {hn : Int32} {v : Nat → Int32} {pa : Nat → Int32} {mt : Nat → Int32} {pm : Int32} {ty : Int32} {ra : Int32} {a1 : Int32} {p : Int32 × (Nat → Int32) × (Nat → Nat → Int32) × (Nat → (Nat → Int32) × (Nat → Nat → Int32)) × Int32 × Int32} (hF : F_X7_join si sa hs hc hn a1 = some p) : tv_E g l yX7_join cX7_join 3 (some .int) 6 0 0 0 [.ref 0, .int a1, .null] [] (HP si sa hs tx tl hc hn v pa mt pm ty ra) (some (.int p.1)) (HP p.2.1 p.2.2.1 p.2.2.2.1 tx tl p.2.2.2.2.1 p.2.2.2.2.2 v pa mt pm ty ra) := by
  unfold F_X7_join at hF
  refine ev_iload_n (i := 1) 1 dX7_join_0 rfl rfl rfl ?_
  refine ev_if_lt 11 4 dX7_join_1 rfl rfl (fun hc38 => ?_) (fun hc38 => ?_)
  · rw [if_pos hc38] at hF
    refine ev_iconst 12 dX7_join_11 rfl kI_m1 ?_
    have hF := Option.some.inj hF
    subst hF
    exact ev_ireturn dX7_join_12 rfl rfl
  · rw [if_neg hc38] at hF
    refine ev_iload_n (i := 1) 5 dX7_join_4 rfl rfl rfl ?_
    refine ev_sipush 8 dX7_join_5 rfl kS_997 ?_
    refine ev_icmp_lt 13 11 dX7_join_8 rfl rfl (fun hc39 => ?_) (fun hc39 => ?_)
    · rw [if_pos hc39] at hF
      refine ev_aload_n (i := 0) 14 dX7_join_13 rfl rfl rfl ?_
      refine ev_getfield 17 dX7_join_14 rfl okf_X7_19 (Nat.le_of_ble_eq_true rfl) HPg_0 rfl ?_
      refine ev_getfield 20 dX7_join_17 rfl okf_X7_47 (Nat.le_of_ble_eq_true rfl) HPg_3 rfl ?_
      refine ev_bipush 22 dX7_join_20 rfl kB_10 ?_
      refine ev_icmp_lt 28 25 dX7_join_22 rfl rfl (fun hc40 => ?_) (fun hc40 => ?_)
      · rw [if_pos hc40] at hF
        refine ev_aload_n (i := 0) 29 dX7_join_28 rfl rfl rfl ?_
        refine ev_getfield 32 dX7_join_29 rfl okf_X7_26 (Nat.le_of_ble_eq_true rfl) HPg_0 rfl ?_
        refine ev_aload_n (i := 0) 33 dX7_join_32 rfl rfl rfl ?_
        refine ev_getfield 36 dX7_join_33 rfl okf_X7_19 (Nat.le_of_ble_eq_true rfl) HPg_0 rfl ?_
        obtain ⟨x1, hx1, hF⟩ := tv_bind hF
        refine ev_callVv (i := 23) 39 [.ref 3] [] dX7_join_36 rfl okV_X7_37 rfl rfl (Nat.le_of_ble_eq_true rfl) (Nat.le_of_ble_eq_true rfl) HPg_23 rfl (Nat.le_of_ble_eq_true rfl) (Nat.le_of_ble_eq_true rfl) (R_X3_keep hx1) ?_
        refine ev_aload_n (i := 0) 40 dX7_join_39 rfl rfl rfl ?_
        refine ev_getfield 43 dX7_join_40 rfl okf_X7_19 (Nat.le_of_ble_eq_true rfl) HPg_0 rfl ?_
        refine ev_iload_n (i := 1) 44 dX7_join_43 rfl rfl rfl ?_
        obtain ⟨x2, hx2, hF⟩ := tv_bind hF
        refine ev_callVi (i := 3) 47 [.int a1] [] dX7_join_44 rfl okV_X7_51 rfl rfl (Nat.le_of_ble_eq_true rfl) (Nat.le_of_ble_eq_true rfl) HPg_3 rfl (Nat.le_of_ble_eq_true rfl) (Nat.le_of_ble_eq_true rfl) (R_X5_enrol hx2) ?_
        refine ev_istore_n (i := 2) (L2 := [.ref 0, .int a1, .int x2.1]) 48 dX7_join_47 rfl rfl (Nat.le_of_ble_eq_true rfl) rfl ?_
        refine ev_aload_n (i := 0) 49 dX7_join_48 rfl rfl rfl ?_
        refine ev_getfield 52 dX7_join_49 rfl okf_X7_19 (Nat.le_of_ble_eq_true rfl) HPg_0 rfl ?_
        obtain ⟨x3, hx3, hF⟩ := tv_bind hF
        refine ev_callVv (i := 3) 55 [] [] dX7_join_52 rfl okV_X7_44 rfl rfl (Nat.le_of_ble_eq_true rfl) (Nat.le_of_ble_eq_true rfl) HPg_3 rfl (Nat.le_of_ble_eq_true rfl) (Nat.le_of_ble_eq_true rfl) (R_X5_lookAtPetition hx3) ?_
        refine ev_iload_n (i := 2) 56 dX7_join_55 rfl rfl rfl ?_
        have hF := Option.some.inj hF
        subst hF
        exact ev_ireturn dX7_join_56 rfl rfl
      · rw [if_neg hc40] at hF
        refine ev_bipush 27 dX7_join_25 rfl kB_m3 ?_
        have hF := Option.some.inj hF
        subst hF
        exact ev_ireturn dX7_join_27 rfl rfl
    · rw [if_neg hc39] at hF
      refine ev_iconst 12 dX7_join_11 rfl kI_m1 ?_
      have hF := Option.some.inj hF
      subst hF
      exact ev_ireturn dX7_join_12 rfl rfl

set_option maxRecDepth 100000 in
set_option maxHeartbeats 4000000 in
theorem R_X5_isMember {g : tv_G} {l : Launch} {si : Nat → Int32} {sa : Nat → Nat → Int32} {hs : Nat → (Nat → Int32) × (Nat → Nat → Int32)} {tx : Nat → Int32} {tl : Int32} {hc : Int32} {hn : Int32} {v : Nat → Int32} {pa : Nat → Int32} {mt : Nat → Int32} {pm : Int32} {ty : Int32} {ra : Int32} {a1 : Int32} {p : Int32} (hF : some (F_X5_isMember si a1) = some p) : tv_E g l yX5_isMember cX5_isMember 2 (some .boolean) 0 0 0 0 [.ref 3, .int a1] [] (HP si sa hs tx tl hc hn v pa mt pm ty ra) (some (.int p)) (HP si sa hs tx tl hc hn v pa mt pm ty ra) := by
  unfold F_X5_isMember at hF
  refine ev_iload_n (i := 1) 1 dX5_isMember_0 rfl rfl rfl ?_
  refine ev_if_lt 16 4 dX5_isMember_1 rfl rfl (fun hc41 => ?_) (fun hc41 => ?_)
  · rw [if_pos hc41] at hF
    refine ev_iconst 17 dX5_isMember_16 rfl kI_0 ?_
    have hF := Option.some.inj hF
    subst hF
    exact ev_ireturn dX5_isMember_17 rfl rfl
  · rw [if_neg hc41] at hF
    refine ev_iload_n (i := 1) 5 dX5_isMember_4 rfl rfl rfl ?_
    refine ev_aload_n (i := 0) 6 dX5_isMember_5 rfl rfl rfl ?_
    refine ev_getfield 9 dX5_isMember_6 rfl okf_X5_65 (Nat.le_of_ble_eq_true rfl) HPg_3 rfl ?_
    refine ev_icmp_ge 16 12 dX5_isMember_9 rfl rfl (fun hc42 => ?_) (fun hc42 => ?_)
    · rw [if_pos hc42] at hF
      refine ev_iconst 17 dX5_isMember_16 rfl kI_0 ?_
      have hF := Option.some.inj hF
      subst hF
      exact ev_ireturn dX5_isMember_17 rfl rfl
    · rw [if_neg hc42] at hF
      refine ev_iconst 13 dX5_isMember_12 rfl kI_1 ?_
      refine ev_goto 17 dX5_isMember_13 rfl ?_
      have hF := Option.some.inj hF
      subst hF
      exact ev_ireturn dX5_isMember_17 rfl rfl

set_option maxRecDepth 100000 in
set_option maxHeartbeats 4000000 in
theorem R_X5_isPresent {g : tv_G} {l : Launch} {si : Nat → Int32} {sa : Nat → Nat → Int32} {hs : Nat → (Nat → Int32) × (Nat → Nat → Int32)} {tx : Nat → Int32} {tl : Int32} {hc : Int32} {hn : Int32} {v : Nat → Int32} {pa : Nat → Int32} {mt : Nat → Int32} {pm : Int32} {ty : Int32} {ra : Int32} {a1 : Int32} {p : Int32} (hF : F_X5_isPresent si a1 = some p) : tv_E g l yX5_isPresent cX5_isPresent 2 (some .boolean) 1 0 0 0 [.ref 3, .int a1] [] (HP si sa hs tx tl hc hn v pa mt pm ty ra) (some (.int p)) (HP si sa hs tx tl hc hn v pa mt pm ty ra) := by
  unfold F_X5_isPresent at hF
  refine ev_aload_n (i := 0) 1 dX5_isPresent_0 rfl rfl rfl ?_
  refine ev_getfield 4 dX5_isPresent_1 rfl okf_X5_68 (Nat.le_of_ble_eq_true rfl) HPg_3 rfl ?_
  refine ev_iload_n (i := 1) 5 dX5_isPresent_4 rfl rfl rfl ?_
  refine ev_callSi 8 [.int (si 2), .int a1] [] dX5_isPresent_5 rfl okS_X5_87 rfl rfl (Nat.le_of_ble_eq_true rfl) rfl (Nat.le_of_ble_eq_true rfl) (Nat.le_of_ble_eq_true rfl) (R_X7_has rfl) ?_
  by_cases hz1 : ¬ ((F_X7_has (si 2) a1) = 0 ∨ (F_X7_has (si 2) a1) = 1)
  · rw [if_pos hz1] at hF; cases hF
  rw [if_neg hz1] at hF
  have hF := Option.some.inj hF
  subst hF
  exact ev_ireturn dX5_isPresent_8 rfl (tv_nz hz1)

set_option maxRecDepth 100000 in
set_option maxHeartbeats 4000000 in
theorem R_X2_strike_L11 {g : tv_G} {l : Launch} {si : Nat → Int32} {hs : Nat → (Nat → Int32) × (Nat → Nat → Int32)} {tx : Nat → Int32} {tl : Int32} {hc : Int32} {hn : Int32} {v : Nat → Int32} {pa : Nat → Int32} {mt : Nat → Int32} {pm : Int32} {ty : Int32} {ra : Int32} {l2 : Int32} {l3 : Int32} {r : Option Value} {h' : tv_Hp} : ∀ (n : Nat) (l4 : Int32) (l5 : Int32) (sa : Nat → Nat → Int32) (x : Int32 × (Nat → Nat → Int32)), F_X2_strike_L11 l2 l3 n l4 l5 sa = some x → tv_E g l yX2_strike cX2_strike 7 none 0 0 0 55 [.ref 6, .null, .null, .int l3, .int x.1, .null, .null] [] (HP si x.2 hs tx tl hc hn v pa mt pm ty ra) r h' → tv_E g l yX2_strike cX2_strike 7 none 0 0 0 11 [.ref 6, .null, .int l2, .int l3, .int l4, .int l5, .null] [] (HP si sa hs tx tl hc hn v pa mt pm ty ra) r h' := by
  intro n
  induction n with
  | zero => intro l4 l5 sa x hF k; cases hF
  | succ n ih =>
      intro l4 l5 sa x hF k
      rw [F_X2_strike_L11] at hF
      refine ev_iload 13 dX2_strike_11 rfl rfl ?_
      refine ev_bipush 15 dX2_strike_13 rfl kB_10 ?_
      refine ev_icmp_ge 55 18 dX2_strike_15 rfl rfl (fun hc43 => ?_) (fun hc43 => ?_)
      · rw [if_pos hc43] at hF
        have hF := Option.some.inj hF
        subst hF
        refine ev_weak [.ref 6, .null, .null, .int l3, .int l4, .null, .null] ⟨Or.inr rfl, ⟨Or.inl rfl, ⟨Or.inl rfl, ⟨Or.inr rfl, ⟨Or.inr rfl, ⟨Or.inl rfl, ⟨Or.inl rfl, trivial⟩⟩⟩⟩⟩⟩⟩ ?_
        exact k
      · rw [if_neg hc43] at hF
        refine ev_aload_n (i := 0) 19 dX2_strike_18 rfl rfl rfl ?_
        refine ev_getfield 22 dX2_strike_19 rfl okf_X2_9 (Nat.le_of_ble_eq_true rfl) HPg_6 rfl ?_
        refine ev_iload_n (i := 3) 23 dX2_strike_22 rfl rfl rfl ?_
        refine ev_iload 25 dX2_strike_23 rfl rfl ?_
        refine ev_iadd 26 dX2_strike_25 rfl ?_
        obtain ⟨x1, hx1, hF⟩ := tv_bind hF
        refine ev_iaload 27 dX2_strike_26 rfl (Nat.le_of_ble_eq_true rfl) HPg_7 hx1 ?_
        refine ev_istore (L2 := [.ref 6, .null, .int l2, .int l3, .int l4, .int l5, .int x1]) 29 dX2_strike_27 rfl (Nat.le_of_ble_eq_true rfl) rfl ?_
        refine ev_iload 31 dX2_strike_29 rfl rfl ?_
        refine ev_iload_n (i := 2) 32 dX2_strike_31 rfl rfl rfl ?_
        refine ev_icmp_eq 49 35 dX2_strike_32 rfl rfl (fun hc44 => ?_) (fun hc44 => ?_)
        · rw [if_pos hc44] at hF
          refine ev_iinc (L2 := [.ref 6, .null, .int l2, .int l3, .int l4, .int (l5 + 1), .int x1]) 52 dX2_strike_49 rfl rfl (kA_1 _) (Nat.le_of_ble_eq_true rfl) rfl ?_
          refine ev_goto 11 dX2_strike_52 rfl ?_
          refine ev_weak [.ref 6, .null, .int l2, .int l3, .int l4, .int (l5 + 1), .null] ⟨Or.inr rfl, ⟨Or.inl rfl, ⟨Or.inr rfl, ⟨Or.inr rfl, ⟨Or.inr rfl, ⟨Or.inr rfl, ⟨Or.inl rfl, trivial⟩⟩⟩⟩⟩⟩⟩ ?_
          exact ih _ _ _ _ hF k
        · rw [if_neg hc44] at hF
          refine ev_aload_n (i := 0) 36 dX2_strike_35 rfl rfl rfl ?_
          refine ev_getfield 39 dX2_strike_36 rfl okf_X2_9 (Nat.le_of_ble_eq_true rfl) HPg_6 rfl ?_
          refine ev_iload_n (i := 3) 40 dX2_strike_39 rfl rfl rfl ?_
          refine ev_iload 42 dX2_strike_40 rfl rfl ?_
          refine ev_iadd 43 dX2_strike_42 rfl ?_
          refine ev_iload 45 dX2_strike_43 rfl rfl ?_
          obtain ⟨x2, hx2, hF⟩ := tv_bind hF
          refine ev_iastore 46 dX2_strike_45 rfl (Nat.le_of_ble_eq_true rfl) HPg_7 hx2 HPa_7 ?_
          refine ev_iinc (L2 := [.ref 6, .null, .int l2, .int l3, .int (l4 + 1), .int l5, .int x1]) 49 dX2_strike_46 rfl rfl (kA_1 _) (Nat.le_of_ble_eq_true rfl) rfl ?_
          refine ev_iinc (L2 := [.ref 6, .null, .int l2, .int l3, .int (l4 + 1), .int (l5 + 1), .int x1]) 52 dX2_strike_49 rfl rfl (kA_1 _) (Nat.le_of_ble_eq_true rfl) rfl ?_
          refine ev_goto 11 dX2_strike_52 rfl ?_
          refine ev_weak [.ref 6, .null, .int l2, .int l3, .int (l4 + 1), .int (l5 + 1), .null] ⟨Or.inr rfl, ⟨Or.inl rfl, ⟨Or.inr rfl, ⟨Or.inr rfl, ⟨Or.inr rfl, ⟨Or.inr rfl, ⟨Or.inl rfl, trivial⟩⟩⟩⟩⟩⟩⟩ ?_
          exact ih _ _ _ _ hF k

set_option maxRecDepth 100000 in
set_option maxHeartbeats 4000000 in
theorem R_X2_strike_L59 {g : tv_G} {l : Launch} {si : Nat → Int32} {hs : Nat → (Nat → Int32) × (Nat → Nat → Int32)} {tx : Nat → Int32} {tl : Int32} {hc : Int32} {hn : Int32} {v : Nat → Int32} {pa : Nat → Int32} {mt : Nat → Int32} {pm : Int32} {ty : Int32} {ra : Int32} {l3 : Int32} {r : Option Value} {h' : tv_Hp} : ∀ (n : Nat) (l5 : Int32) (sa : Nat → Nat → Int32) (x : (Nat → Nat → Int32)), F_X2_strike_L59 l3 n l5 sa = some x → tv_E g l yX2_strike cX2_strike 7 none 0 0 0 83 [.null, .null, .null, .null, .null, .null, .null] [] (HP si x hs tx tl hc hn v pa mt pm ty ra) r h' → tv_E g l yX2_strike cX2_strike 7 none 0 0 0 59 [.ref 6, .null, .null, .int l3, .null, .int l5, .null] [] (HP si sa hs tx tl hc hn v pa mt pm ty ra) r h' := by
  intro n
  induction n with
  | zero => intro l5 sa x hF k; cases hF
  | succ n ih =>
      intro l5 sa x hF k
      rw [F_X2_strike_L59] at hF
      refine ev_iload 61 dX2_strike_59 rfl rfl ?_
      refine ev_bipush 63 dX2_strike_61 rfl kB_10 ?_
      refine ev_icmp_ge 83 66 dX2_strike_63 rfl rfl (fun hc45 => ?_) (fun hc45 => ?_)
      · rw [if_pos hc45] at hF
        have hF := Option.some.inj hF
        subst hF
        refine ev_weak [.null, .null, .null, .null, .null, .null, .null] ⟨Or.inl rfl, ⟨Or.inl rfl, ⟨Or.inl rfl, ⟨Or.inl rfl, ⟨Or.inl rfl, ⟨Or.inl rfl, ⟨Or.inl rfl, trivial⟩⟩⟩⟩⟩⟩⟩ ?_
        exact k
      · rw [if_neg hc45] at hF
        refine ev_aload_n (i := 0) 67 dX2_strike_66 rfl rfl rfl ?_
        refine ev_getfield 70 dX2_strike_67 rfl okf_X2_9 (Nat.le_of_ble_eq_true rfl) HPg_6 rfl ?_
        refine ev_iload_n (i := 3) 71 dX2_strike_70 rfl rfl rfl ?_
        refine ev_iload 73 dX2_strike_71 rfl rfl ?_
        refine ev_iadd 74 dX2_strike_73 rfl ?_
        refine ev_bipush 76 dX2_strike_74 rfl kB_m9 ?_
        obtain ⟨x4, hx4, hF⟩ := tv_bind hF
        refine ev_iastore 77 dX2_strike_76 rfl (Nat.le_of_ble_eq_true rfl) HPg_7 hx4 HPa_7 ?_
        refine ev_iinc (L2 := [.ref 6, .null, .null, .int l3, .null, .int (l5 + 1), .null]) 80 dX2_strike_77 rfl rfl (kA_1 _) (Nat.le_of_ble_eq_true rfl) rfl ?_
        refine ev_goto 59 dX2_strike_80 rfl ?_
        exact ih _ _ _ hF k

set_option maxRecDepth 100000 in
set_option maxHeartbeats 4000000 in
theorem R_X2_strike {g : tv_G} {l : Launch} {si : Nat → Int32} {sa : Nat → Nat → Int32} {hs : Nat → (Nat → Int32) × (Nat → Nat → Int32)} {tx : Nat → Int32} {tl : Int32} {hc : Int32} {hn : Int32} {v : Nat → Int32} {pa : Nat → Int32} {mt : Nat → Int32} {pm : Int32} {ty : Int32} {ra : Int32} {a1 : Int32} {a2 : Int32} {p : (Nat → Nat → Int32)} (hF : F_X2_strike sa a1 a2 = some p) : tv_E g l yX2_strike cX2_strike 7 none 0 0 0 0 [.ref 6, .int a1, .int a2, .null, .null, .null, .null] [] (HP si sa hs tx tl hc hn v pa mt pm ty ra) none (HP si p hs tx tl hc hn v pa mt pm ty ra) := by
  unfold F_X2_strike at hF
  refine ev_iload_n (i := 1) 1 dX2_strike_0 rfl rfl rfl ?_
  refine ev_bipush 3 dX2_strike_1 rfl kB_10 ?_
  refine ev_imul 4 dX2_strike_3 rfl ?_
  refine ev_istore_n (i := 3) (L2 := [.ref 6, .int a1, .int a2, .int (a1 * 10), .null, .null, .null]) 5 dX2_strike_4 rfl rfl (Nat.le_of_ble_eq_true rfl) rfl ?_
  refine ev_iconst 6 dX2_strike_5 rfl kI_0 ?_
  refine ev_istore (L2 := [.ref 6, .int a1, .int a2, .int (a1 * 10), .int 0, .null, .null]) 8 dX2_strike_6 rfl (Nat.le_of_ble_eq_true rfl) rfl ?_
  refine ev_iconst 9 dX2_strike_8 rfl kI_0 ?_
  refine ev_istore (L2 := [.ref 6, .int a1, .int a2, .int (a1 * 10), .int 0, .int 0, .null]) 11 dX2_strike_9 rfl (Nat.le_of_ble_eq_true rfl) rfl ?_
  obtain ⟨x3, hx3, hF⟩ := tv_bind hF
  refine ev_weak [.ref 6, .null, .int a2, .int (a1 * 10), .int 0, .int 0, .null] ⟨Or.inr rfl, ⟨Or.inl rfl, ⟨Or.inr rfl, ⟨Or.inr rfl, ⟨Or.inr rfl, ⟨Or.inr rfl, ⟨Or.inl rfl, trivial⟩⟩⟩⟩⟩⟩⟩ ?_
  refine R_X2_strike_L11 _ _ _ _ _ hx3 ?_
  refine ev_iload 57 dX2_strike_55 rfl rfl ?_
  refine ev_istore (L2 := [.ref 6, .null, .null, .int (a1 * 10), .int x3.1, .int x3.1, .null]) 59 dX2_strike_57 rfl (Nat.le_of_ble_eq_true rfl) rfl ?_
  obtain ⟨x5, hx5, hF⟩ := tv_bind hF
  refine ev_weak [.ref 6, .null, .null, .int (a1 * 10), .null, .int x3.1, .null] ⟨Or.inr rfl, ⟨Or.inl rfl, ⟨Or.inl rfl, ⟨Or.inr rfl, ⟨Or.inl rfl, ⟨Or.inr rfl, ⟨Or.inl rfl, trivial⟩⟩⟩⟩⟩⟩⟩ ?_
  refine R_X2_strike_L59 _ _ _ _ hx5 ?_
  have hF := Option.some.inj hF
  subst hF
  exact ev_return dX2_strike_83 rfl

set_option maxRecDepth 100000 in
set_option maxHeartbeats 4000000 in
theorem R_X2_forget_L17 {g : tv_G} {l : Launch} {si : Nat → Int32} {hs : Nat → (Nat → Int32) × (Nat → Nat → Int32)} {tx : Nat → Int32} {tl : Int32} {hc : Int32} {hn : Int32} {v : Nat → Int32} {pa : Nat → Int32} {mt : Nat → Int32} {pm : Int32} {ty : Int32} {ra : Int32} {l1 : Int32} {r : Option Value} {h' : tv_Hp} : ∀ (n : Nat) (l2 : Int32) (sa : Nat → Nat → Int32) (x : (Nat → Nat → Int32)), F_X2_forget_L17 l1 n l2 sa = some x → tv_E g l yX2_forget cX2_forget 3 none 1 0 0 42 [.ref 6, .int l1, .null] [] (HP si x hs tx tl hc hn v pa mt pm ty ra) r h' → tv_E g l yX2_forget cX2_forget 3 none 1 0 0 17 [.ref 6, .int l1, .int l2] [] (HP si sa hs tx tl hc hn v pa mt pm ty ra) r h' := by
  intro n
  induction n with
  | zero => intro l2 sa x hF k; cases hF
  | succ n ih =>
      intro l2 sa x hF k
      rw [F_X2_forget_L17] at hF
      refine ev_iload_n (i := 2) 18 dX2_forget_17 rfl rfl rfl ?_
      refine ev_bipush 20 dX2_forget_18 rfl kB_10 ?_
      refine ev_icmp_ge 42 23 dX2_forget_20 rfl rfl (fun hc46 => ?_) (fun hc46 => ?_)
      · rw [if_pos hc46] at hF
        have hF := Option.some.inj hF
        subst hF
        refine ev_weak [.ref 6, .int l1, .null] ⟨Or.inr rfl, ⟨Or.inr rfl, ⟨Or.inl rfl, trivial⟩⟩⟩ ?_
        exact k
      · rw [if_neg hc46] at hF
        refine ev_aload_n (i := 0) 24 dX2_forget_23 rfl rfl rfl ?_
        refine ev_getfield 27 dX2_forget_24 rfl okf_X2_9 (Nat.le_of_ble_eq_true rfl) HPg_6 rfl ?_
        refine ev_iload_n (i := 1) 28 dX2_forget_27 rfl rfl rfl ?_
        refine ev_bipush 30 dX2_forget_28 rfl kB_10 ?_
        refine ev_imul 31 dX2_forget_30 rfl ?_
        refine ev_iload_n (i := 2) 32 dX2_forget_31 rfl rfl rfl ?_
        refine ev_iadd 33 dX2_forget_32 rfl ?_
        refine ev_bipush 35 dX2_forget_33 rfl kB_m9 ?_
        obtain ⟨x1, hx1, hF⟩ := tv_bind hF
        refine ev_iastore 36 dX2_forget_35 rfl (Nat.le_of_ble_eq_true rfl) HPg_7 hx1 HPa_7 ?_
        refine ev_iinc (L2 := [.ref 6, .int l1, .int (l2 + 1)]) 39 dX2_forget_36 rfl rfl (kA_1 _) (Nat.le_of_ble_eq_true rfl) rfl ?_
        refine ev_goto 17 dX2_forget_39 rfl ?_
        exact ih _ _ _ hF k

set_option maxRecDepth 100000 in
set_option maxHeartbeats 4000000 in
theorem R_X2_forget_L44 {g : tv_G} {l : Launch} {si : Nat → Int32} {hs : Nat → (Nat → Int32) × (Nat → Nat → Int32)} {tx : Nat → Int32} {tl : Int32} {hc : Int32} {hn : Int32} {v : Nat → Int32} {pa : Nat → Int32} {mt : Nat → Int32} {pm : Int32} {ty : Int32} {ra : Int32} {l1 : Int32} {r : Option Value} {h' : tv_Hp} : ∀ (n : Nat) (l2 : Int32) (sa : Nat → Nat → Int32) (x : (Nat → Nat → Int32)), F_X2_forget_L44 l1 n l2 sa = some x → tv_E g l yX2_forget cX2_forget 3 none 1 0 0 62 [.null, .null, .null] [] (HP si x hs tx tl hc hn v pa mt pm ty ra) r h' → tv_E g l yX2_forget cX2_forget 3 none 1 0 0 44 [.ref 6, .int l1, .int l2] [] (HP si sa hs tx tl hc hn v pa mt pm ty ra) r h' := by
  intro n
  induction n with
  | zero => intro l2 sa x hF k; cases hF
  | succ n ih =>
      intro l2 sa x hF k
      rw [F_X2_forget_L44] at hF
      refine ev_iload_n (i := 2) 45 dX2_forget_44 rfl rfl rfl ?_
      refine ev_bipush 47 dX2_forget_45 rfl kB_10 ?_
      refine ev_icmp_ge 62 50 dX2_forget_47 rfl rfl (fun hc47 => ?_) (fun hc47 => ?_)
      · rw [if_pos hc47] at hF
        have hF := Option.some.inj hF
        subst hF
        refine ev_weak [.null, .null, .null] ⟨Or.inl rfl, ⟨Or.inl rfl, ⟨Or.inl rfl, trivial⟩⟩⟩ ?_
        exact k
      · rw [if_neg hc47] at hF
        refine ev_aload_n (i := 0) 51 dX2_forget_50 rfl rfl rfl ?_
        refine ev_iload_n (i := 2) 52 dX2_forget_51 rfl rfl rfl ?_
        refine ev_iload_n (i := 1) 53 dX2_forget_52 rfl rfl rfl ?_
        obtain ⟨x3, hx3, hF⟩ := tv_bind hF
        refine ev_callVv (i := 6) 56 [.int l2, .int l1] [] dX2_forget_53 rfl okV_X2_47 rfl rfl (Nat.le_of_ble_eq_true rfl) (Nat.le_of_ble_eq_true rfl) HPg_6 rfl (Nat.le_of_ble_eq_true rfl) (Nat.le_of_ble_eq_true rfl) (R_X2_strike hx3) ?_
        refine ev_iinc (L2 := [.ref 6, .int l1, .int (l2 + 1)]) 59 dX2_forget_56 rfl rfl (kA_1 _) (Nat.le_of_ble_eq_true rfl) rfl ?_
        refine ev_goto 44 dX2_forget_59 rfl ?_
        exact ih _ _ _ hF k

set_option maxRecDepth 100000 in
set_option maxHeartbeats 4000000 in
theorem R_X2_forget {g : tv_G} {l : Launch} {si : Nat → Int32} {sa : Nat → Nat → Int32} {hs : Nat → (Nat → Int32) × (Nat → Nat → Int32)} {tx : Nat → Int32} {tl : Int32} {hc : Int32} {hn : Int32} {v : Nat → Int32} {pa : Nat → Int32} {mt : Nat → Int32} {pm : Int32} {ty : Int32} {ra : Int32} {a1 : Int32} {p : (Nat → Int32) × (Nat → Nat → Int32)} (hF : F_X2_forget si sa a1 = some p) : tv_E g l yX2_forget cX2_forget 3 none 1 0 0 0 [.ref 6, .int a1, .null] [] (HP si sa hs tx tl hc hn v pa mt pm ty ra) none (HP p.1 p.2 hs tx tl hc hn v pa mt pm ty ra) := by
  unfold F_X2_forget at hF
  refine ev_aload_n (i := 0) 1 dX2_forget_0 rfl rfl rfl ?_
  refine ev_dup 2 dX2_forget_1 rfl rfl ?_
  refine ev_getfield 5 dX2_forget_2 rfl okf_X2_25 (Nat.le_of_ble_eq_true rfl) HPg_6 rfl ?_
  refine ev_iload_n (i := 1) 6 dX2_forget_5 rfl rfl rfl ?_
  refine ev_callSi 9 [.int a1] [.int (si 7), .ref 6] dX2_forget_6 rfl okS_X2_44 rfl rfl (Nat.le_of_ble_eq_true rfl) rfl (Nat.le_of_ble_eq_true rfl) (Nat.le_of_ble_eq_true rfl) (R_X7_only rfl) ?_
  refine ev_iconst 10 dX2_forget_9 rfl kI_m1 ?_
  refine ev_ixor 11 dX2_forget_10 rfl ?_
  refine ev_iand 12 dX2_forget_11 rfl ?_
  refine ev_putfield 15 dX2_forget_12 rfl okf_X2_25 (Nat.le_of_ble_eq_true rfl) HPg_6 (Nat.le_of_ble_eq_true rfl) rfl rfl HPs_6_1 ?_
  refine ev_iconst 16 dX2_forget_15 rfl kI_0 ?_
  refine ev_istore_n (i := 2) (L2 := [.ref 6, .int a1, .int 0]) 17 dX2_forget_16 rfl rfl (Nat.le_of_ble_eq_true rfl) rfl ?_
  obtain ⟨x2, hx2, hF⟩ := tv_bind hF
  refine R_X2_forget_L17 _ _ _ _ hx2 ?_
  refine ev_iconst 43 dX2_forget_42 rfl kI_0 ?_
  refine ev_istore_n (i := 2) (L2 := [.ref 6, .int a1, .int 0]) 44 dX2_forget_43 rfl rfl (Nat.le_of_ble_eq_true rfl) rfl ?_
  obtain ⟨x4, hx4, hF⟩ := tv_bind hF
  refine R_X2_forget_L44 _ _ _ _ hx4 ?_
  have hF := Option.some.inj hF
  subst hF
  exact ev_return dX2_forget_62 rfl

set_option maxRecDepth 100000 in
set_option maxHeartbeats 4000000 in
theorem R_X5_leave {g : tv_G} {l : Launch} {si : Nat → Int32} {sa : Nat → Nat → Int32} {hs : Nat → (Nat → Int32) × (Nat → Nat → Int32)} {tx : Nat → Int32} {tl : Int32} {hc : Int32} {hn : Int32} {v : Nat → Int32} {pa : Nat → Int32} {mt : Nat → Int32} {pm : Int32} {ty : Int32} {ra : Int32} {a1 : Int32} {p : (Nat → Int32) × (Nat → Nat → Int32)} (hF : F_X5_leave si sa a1 = some p) : tv_E g l yX5_leave cX5_leave 2 none 5 0 0 0 [.ref 3, .int a1] [] (HP si sa hs tx tl hc hn v pa mt pm ty ra) none (HP p.1 p.2 hs tx tl hc hn v pa mt pm ty ra) := by
  unfold F_X5_leave at hF
  refine ev_aload_n (i := 0) 1 dX5_leave_0 rfl rfl rfl ?_
  refine ev_dup 2 dX5_leave_1 rfl rfl ?_
  refine ev_getfield 5 dX5_leave_2 rfl okf_X5_68 (Nat.le_of_ble_eq_true rfl) HPg_3 rfl ?_
  refine ev_iload_n (i := 1) 6 dX5_leave_5 rfl rfl rfl ?_
  refine ev_callSi 9 [.int a1] [.int (si 2), .ref 3] dX5_leave_6 rfl okS_X5_91 rfl rfl (Nat.le_of_ble_eq_true rfl) rfl (Nat.le_of_ble_eq_true rfl) (Nat.le_of_ble_eq_true rfl) (R_X7_only rfl) ?_
  refine ev_iconst 10 dX5_leave_9 rfl kI_m1 ?_
  refine ev_ixor 11 dX5_leave_10 rfl ?_
  refine ev_iand 12 dX5_leave_11 rfl ?_
  refine ev_putfield 15 dX5_leave_12 rfl okf_X5_68 (Nat.le_of_ble_eq_true rfl) HPg_3 (Nat.le_of_ble_eq_true rfl) rfl rfl HPs_3_4 ?_
  refine ev_aload_n (i := 0) 16 dX5_leave_15 rfl rfl rfl ?_
  refine ev_getfield 19 dX5_leave_16 rfl okf_X5_28 (Nat.le_of_ble_eq_true rfl) HPg_3 rfl ?_
  refine ev_iload_n (i := 1) 20 dX5_leave_19 rfl rfl rfl ?_
  obtain ⟨x1, hx1, hF⟩ := tv_bind hF
  refine ev_callVv (i := 6) 23 [.int a1] [] dX5_leave_20 rfl okV_X5_95 rfl rfl (Nat.le_of_ble_eq_true rfl) (Nat.le_of_ble_eq_true rfl) HPg_6 rfl (Nat.le_of_ble_eq_true rfl) (Nat.le_of_ble_eq_true rfl) (R_X2_forget hx1) ?_
  refine ev_iload_n (i := 1) 24 dX5_leave_23 rfl rfl rfl ?_
  refine ev_aload_n (i := 0) 25 dX5_leave_24 rfl rfl rfl ?_
  refine ev_getfield 28 dX5_leave_25 rfl okf_X5_22 (Nat.le_of_ble_eq_true rfl) HPg_3 rfl ?_
  refine ev_icmp_ne 53 31 dX5_leave_28 rfl rfl (fun hc48 => ?_) (fun hc48 => ?_)
  · rw [if_neg hc48] at hF
    have hF := Option.some.inj hF
    subst hF
    exact ev_return dX5_leave_53 rfl
  · rw [if_pos hc48] at hF
    refine ev_aload_n (i := 0) 32 dX5_leave_31 rfl rfl rfl ?_
    refine ev_getfield 35 dX5_leave_32 rfl okf_X5_18 (Nat.le_of_ble_eq_true rfl) HPg_3 rfl ?_
    refine ev_iconst 36 dX5_leave_35 rfl kI_2 ?_
    refine ev_icmp_ne 47 39 dX5_leave_36 rfl rfl (fun hc49 => ?_) (fun hc49 => ?_)
    · rw [if_neg hc49] at hF
      refine ev_aload_n (i := 0) 48 dX5_leave_47 rfl rfl rfl ?_
      refine ev_bipush 50 dX5_leave_48 rfl kB_m9 ?_
      obtain ⟨x2, hx2, hF⟩ := tv_bind hF
      refine ev_callVv (i := 3) 53 [.int (-9)] [] dX5_leave_50 rfl okV_X5_102 rfl rfl (Nat.le_of_ble_eq_true rfl) (Nat.le_of_ble_eq_true rfl) HPg_3 rfl (Nat.le_of_ble_eq_true rfl) (Nat.le_of_ble_eq_true rfl) (R_X5_appointCaretaker hx2) ?_
      have hF := Option.some.inj hF
      subst hF
      exact ev_return dX5_leave_53 rfl
    · rw [if_pos hc49] at hF
      refine ev_aload_n (i := 0) 40 dX5_leave_39 rfl rfl rfl ?_
      refine ev_iconst 41 dX5_leave_40 rfl kI_4 ?_
      obtain ⟨x3, hx3, hF⟩ := tv_bind hF
      refine ev_callVv (i := 3) 44 [.int 4] [] dX5_leave_41 rfl okV_X5_99 rfl rfl (Nat.le_of_ble_eq_true rfl) (Nat.le_of_ble_eq_true rfl) HPg_3 rfl (Nat.le_of_ble_eq_true rfl) (Nat.le_of_ble_eq_true rfl) (R_X5_endTerm hx3) ?_
      refine ev_goto 53 dX5_leave_44 rfl ?_
      have hF := Option.some.inj hF
      subst hF
      exact ev_return dX5_leave_53 rfl

set_option maxRecDepth 100000 in
set_option maxHeartbeats 4000000 in
theorem R_X7_setPresent {g : tv_G} {l : Launch} {si : Nat → Int32} {sa : Nat → Nat → Int32} {hs : Nat → (Nat → Int32) × (Nat → Nat → Int32)} {tx : Nat → Int32} {tl : Int32} {hc : Int32} {hn : Int32} {v : Nat → Int32} {pa : Nat → Int32} {mt : Nat → Int32} {pm : Int32} {ty : Int32} {ra : Int32} {a1 : Int32} {a2 : Int32} {p : Int32 × (Nat → Int32) × (Nat → Nat → Int32) × (Nat → (Nat → Int32) × (Nat → Nat → Int32)) × Int32 × Int32} (hF : F_X7_setPresent si sa hs hc hn a1 a2 = some p) : tv_E g l yX7_setPresent cX7_setPresent 4 (some .int) 6 0 0 0 [.ref 0, .int a1, .int a2, .null] [] (HP si sa hs tx tl hc hn v pa mt pm ty ra) (some (.int p.1)) (HP p.2.1 p.2.2.1 p.2.2.2.1 tx tl p.2.2.2.2.1 p.2.2.2.2.2 v pa mt pm ty ra) := by
  unfold F_X7_setPresent at hF
  refine ev_aload_n (i := 0) 1 dX7_setPresent_0 rfl rfl rfl ?_
  refine ev_getfield 4 dX7_setPresent_1 rfl okf_X7_19 (Nat.le_of_ble_eq_true rfl) HPg_0 rfl ?_
  refine ev_iload_n (i := 1) 5 dX7_setPresent_4 rfl rfl rfl ?_
  refine ev_callVi (i := 3) 8 [.int a1] [] dX7_setPresent_5 rfl okV_X7_55 rfl rfl (Nat.le_of_ble_eq_true rfl) (Nat.le_of_ble_eq_true rfl) HPg_3 rfl (Nat.le_of_ble_eq_true rfl) (Nat.le_of_ble_eq_true rfl) (R_X5_isMember rfl) ?_
  refine ev_if_ne 13 11 dX7_setPresent_8 rfl rfl (fun hc50 => ?_) (fun hc50 => ?_)
  · rw [if_neg hc50] at hF
    refine ev_aload_n (i := 0) 14 dX7_setPresent_13 rfl rfl rfl ?_
    refine ev_getfield 17 dX7_setPresent_14 rfl okf_X7_26 (Nat.le_of_ble_eq_true rfl) HPg_0 rfl ?_
    refine ev_aload_n (i := 0) 18 dX7_setPresent_17 rfl rfl rfl ?_
    refine ev_getfield 21 dX7_setPresent_18 rfl okf_X7_19 (Nat.le_of_ble_eq_true rfl) HPg_0 rfl ?_
    obtain ⟨x1, hx1, hF⟩ := tv_bind hF
    refine ev_callVv (i := 23) 24 [.ref 3] [] dX7_setPresent_21 rfl okV_X7_37 rfl rfl (Nat.le_of_ble_eq_true rfl) (Nat.le_of_ble_eq_true rfl) HPg_23 rfl (Nat.le_of_ble_eq_true rfl) (Nat.le_of_ble_eq_true rfl) (R_X3_keep hx1) ?_
    refine ev_aload_n (i := 0) 25 dX7_setPresent_24 rfl rfl rfl ?_
    refine ev_getfield 28 dX7_setPresent_25 rfl okf_X7_19 (Nat.le_of_ble_eq_true rfl) HPg_0 rfl ?_
    refine ev_iload_n (i := 1) 29 dX7_setPresent_28 rfl rfl rfl ?_
    obtain ⟨x2, hx2, hF⟩ := tv_bind hF
    refine ev_callVi (i := 3) 32 [.int a1] [] dX7_setPresent_29 rfl okV_X7_59 rfl rfl (Nat.le_of_ble_eq_true rfl) (Nat.le_of_ble_eq_true rfl) HPg_3 rfl (Nat.le_of_ble_eq_true rfl) (Nat.le_of_ble_eq_true rfl) (R_X5_isPresent hx2) ?_
    refine ev_istore_n (i := 3) (L2 := [.ref 0, .int a1, .int a2, .int x2]) 33 dX7_setPresent_32 rfl rfl (Nat.le_of_ble_eq_true rfl) rfl ?_
    refine ev_iload_n (i := 2) 34 dX7_setPresent_33 rfl rfl rfl ?_
    refine ev_iload_n (i := 3) 35 dX7_setPresent_34 rfl rfl rfl ?_
    refine ev_icmp_ne 43 38 dX7_setPresent_35 rfl rfl (fun hc51 => ?_) (fun hc51 => ?_)
    · rw [if_neg hc51] at hF
      refine ev_iload_n (i := 2) 44 dX7_setPresent_43 rfl rfl rfl ?_
      obtain ⟨x4, hBx4, hF⟩ := tv_bind hF
      have Jx4 : tv_E g l yX7_setPresent cX7_setPresent 4 (some .int) 6 0 0 74 [.ref 0, .null, .null, .int x2] [] (HP x4.1 x4.2 x1.1 tx tl x1.2.1 x1.2.2 v pa mt pm ty ra) (some (.int p.1)) (HP p.2.1 p.2.2.1 p.2.2.2.1 tx tl p.2.2.2.2.1 p.2.2.2.2.2 v pa mt pm ty ra) := by
        refine ev_aload_n (i := 0) 75 dX7_setPresent_74 rfl rfl rfl ?_
        refine ev_getfield 78 dX7_setPresent_75 rfl okf_X7_19 (Nat.le_of_ble_eq_true rfl) HPg_0 rfl ?_
        obtain ⟨x5, hx5, hF⟩ := tv_bind hF
        refine ev_callVv (i := 3) 81 [] [] dX7_setPresent_78 rfl okV_X7_44 rfl rfl (Nat.le_of_ble_eq_true rfl) (Nat.le_of_ble_eq_true rfl) HPg_3 rfl (Nat.le_of_ble_eq_true rfl) (Nat.le_of_ble_eq_true rfl) (R_X5_lookAtPetition hx5) ?_
        refine ev_iload_n (i := 3) 82 dX7_setPresent_81 rfl rfl rfl ?_
        refine ev_callSi 85 [.int x2] [] dX7_setPresent_82 rfl okS_X7_62 rfl rfl (Nat.le_of_ble_eq_true rfl) rfl (Nat.le_of_ble_eq_true rfl) (Nat.le_of_ble_eq_true rfl) (R_X7_asNumber rfl) ?_
        have hF := Option.some.inj hF
        subst hF
        exact ev_ireturn dX7_setPresent_85 rfl rfl
      clear hF
      refine ev_if_eq 66 47 dX7_setPresent_44 rfl rfl (fun hc52 => ?_) (fun hc52 => ?_)
      · rw [if_pos hc52] at hBx4
        refine ev_aload_n (i := 0) 67 dX7_setPresent_66 rfl rfl rfl ?_
        refine ev_getfield 70 dX7_setPresent_67 rfl okf_X7_19 (Nat.le_of_ble_eq_true rfl) HPg_0 rfl ?_
        refine ev_iload_n (i := 1) 71 dX7_setPresent_70 rfl rfl rfl ?_
        obtain ⟨x3, hx3, hBx4⟩ := tv_bind hBx4
        refine ev_callVv (i := 3) 74 [.int a1] [] dX7_setPresent_71 rfl okV_X7_72 rfl rfl (Nat.le_of_ble_eq_true rfl) (Nat.le_of_ble_eq_true rfl) HPg_3 rfl (Nat.le_of_ble_eq_true rfl) (Nat.le_of_ble_eq_true rfl) (R_X5_leave hx3) ?_
        have hBx4 := Option.some.inj hBx4
        subst hBx4
        refine ev_weak [.ref 0, .null, .null, .int x2] ⟨Or.inr rfl, ⟨Or.inl rfl, ⟨Or.inl rfl, ⟨Or.inr rfl, trivial⟩⟩⟩⟩ ?_
        exact Jx4
      · rw [if_neg hc52] at hBx4
        refine ev_aload_n (i := 0) 48 dX7_setPresent_47 rfl rfl rfl ?_
        refine ev_getfield 51 dX7_setPresent_48 rfl okf_X7_19 (Nat.le_of_ble_eq_true rfl) HPg_0 rfl ?_
        refine ev_dup 52 dX7_setPresent_51 rfl rfl ?_
        refine ev_getfield 55 dX7_setPresent_52 rfl okf_X7_66 (Nat.le_of_ble_eq_true rfl) HPg_3 rfl ?_
        refine ev_iload_n (i := 1) 56 dX7_setPresent_55 rfl rfl rfl ?_
        refine ev_callSi 59 [.int a1] [.int (si 2), .ref 3] dX7_setPresent_56 rfl okS_X7_69 rfl rfl (Nat.le_of_ble_eq_true rfl) rfl (Nat.le_of_ble_eq_true rfl) (Nat.le_of_ble_eq_true rfl) (R_X7_only rfl) ?_
        refine ev_ior 60 dX7_setPresent_59 rfl ?_
        refine ev_putfield 63 dX7_setPresent_60 rfl okf_X7_66 (Nat.le_of_ble_eq_true rfl) HPg_3 (Nat.le_of_ble_eq_true rfl) rfl rfl HPs_3_4 ?_
        refine ev_goto 74 dX7_setPresent_63 rfl ?_
        have hBx4 := Option.some.inj hBx4
        subst hBx4
        refine ev_weak [.ref 0, .null, .null, .int x2] ⟨Or.inr rfl, ⟨Or.inl rfl, ⟨Or.inl rfl, ⟨Or.inr rfl, trivial⟩⟩⟩⟩ ?_
        exact Jx4
    · rw [if_pos hc51] at hF
      refine ev_iload_n (i := 3) 39 dX7_setPresent_38 rfl rfl rfl ?_
      refine ev_callSi 42 [.int x2] [] dX7_setPresent_39 rfl okS_X7_62 rfl rfl (Nat.le_of_ble_eq_true rfl) rfl (Nat.le_of_ble_eq_true rfl) (Nat.le_of_ble_eq_true rfl) (R_X7_asNumber rfl) ?_
      have hF := Option.some.inj hF
      subst hF
      exact ev_ireturn dX7_setPresent_42 rfl rfl
  · rw [if_pos hc50] at hF
    refine ev_iconst 12 dX7_setPresent_11 rfl kI_m1 ?_
    have hF := Option.some.inj hF
    subst hF
    exact ev_ireturn dX7_setPresent_12 rfl rfl

set_option maxRecDepth 100000 in
set_option maxHeartbeats 4000000 in
theorem R_X6_latestPlannedEnd {g : tv_G} {l : Launch} {si : Nat → Int32} {sa : Nat → Nat → Int32} {hs : Nat → (Nat → Int32) × (Nat → Nat → Int32)} {tx : Nat → Int32} {tl : Int32} {hc : Int32} {hn : Int32} {v : Nat → Int32} {pa : Nat → Int32} {mt : Nat → Int32} {pm : Int32} {ty : Int32} {ra : Int32}  {p : Int32} (hF : F_X6_latestPlannedEnd si sa = some p) : tv_E g l yX6_latestPlannedEnd cX6_latestPlannedEnd 1 (some .int) 0 0 0 0 [.ref 10] [] (HP si sa hs tx tl hc hn v pa mt pm ty ra) (some (.int p)) (HP si sa hs tx tl hc hn v pa mt pm ty ra) := by
  unfold F_X6_latestPlannedEnd at hF
  refine ev_aload_n (i := 0) 1 dX6_latestPlannedEnd_0 rfl rfl rfl ?_
  refine ev_getfield 4 dX6_latestPlannedEnd_1 rfl okf_X6_18 (Nat.le_of_ble_eq_true rfl) HPg_10 rfl ?_
  refine ev_aload_n (i := 0) 5 dX6_latestPlannedEnd_4 rfl rfl rfl ?_
  refine ev_getfield 8 dX6_latestPlannedEnd_5 rfl okf_X6_36 (Nat.le_of_ble_eq_true rfl) HPg_10 rfl ?_
  obtain ⟨x1, hx1, hF⟩ := tv_bind hF
  refine ev_iaload 9 dX6_latestPlannedEnd_8 rfl (Nat.le_of_ble_eq_true rfl) HPg_13 hx1 ?_
  have hF := Option.some.inj hF
  subst hF
  exact ev_ireturn dX6_latestPlannedEnd_9 rfl rfl

set_option maxRecDepth 100000 in
set_option maxHeartbeats 4000000 in
theorem R_X5_advance {g : tv_G} {l : Launch} {si : Nat → Int32} {sa : Nat → Nat → Int32} {hs : Nat → (Nat → Int32) × (Nat → Nat → Int32)} {tx : Nat → Int32} {tl : Int32} {hc : Int32} {hn : Int32} {v : Nat → Int32} {pa : Nat → Int32} {mt : Nat → Int32} {pm : Int32} {ty : Int32} {ra : Int32} {a1 : Int32} {p : (Nat → Int32) × (Nat → Nat → Int32)} (hF : F_X5_advance si sa a1 = some p) : tv_E g l yX5_advance cX5_advance 3 none 5 0 0 0 [.ref 3, .int a1, .null] [] (HP si sa hs tx tl hc hn v pa mt pm ty ra) none (HP p.1 p.2 hs tx tl hc hn v pa mt pm ty ra) := by
  unfold F_X5_advance at hF
  refine ev_aload_n (i := 0) 1 dX5_advance_0 rfl rfl rfl ?_
  refine ev_getfield 4 dX5_advance_1 rfl okf_X5_62 (Nat.le_of_ble_eq_true rfl) HPg_3 rfl ?_
  refine ev_iload_n (i := 1) 5 dX5_advance_4 rfl rfl rfl ?_
  refine ev_iadd 6 dX5_advance_5 rfl ?_
  refine ev_istore_n (i := 2) (L2 := [.ref 3, .int a1, .int ((si 0) + a1)]) 7 dX5_advance_6 rfl rfl (Nat.le_of_ble_eq_true rfl) rfl ?_
  refine ev_aload_n (i := 0) 8 dX5_advance_7 rfl rfl rfl ?_
  refine ev_getfield 11 dX5_advance_8 rfl okf_X5_18 (Nat.le_of_ble_eq_true rfl) HPg_3 rfl ?_
  refine ev_iconst 12 dX5_advance_11 rfl kI_2 ?_
  obtain ⟨x4, hBx4, hF⟩ := tv_bind hF
  have Jx4 : tv_E g l yX5_advance cX5_advance 3 none 5 0 0 42 [.ref 3, .null, .int ((si 0) + a1)] [] (HP x4.1 x4.2 hs tx tl hc hn v pa mt pm ty ra) none (HP p.1 p.2 hs tx tl hc hn v pa mt pm ty ra) := by
    refine ev_aload_n (i := 0) 43 dX5_advance_42 rfl rfl rfl ?_
    refine ev_iload_n (i := 2) 44 dX5_advance_43 rfl rfl rfl ?_
    refine ev_putfield 47 dX5_advance_44 rfl okf_X5_62 (Nat.le_of_ble_eq_true rfl) HPg_3 (Nat.le_of_ble_eq_true rfl) rfl rfl HPs_3_1 ?_
    have hF := Option.some.inj hF
    subst hF
    exact ev_return dX5_advance_47 rfl
  clear hF
  refine ev_icmp_ne 42 15 dX5_advance_12 rfl rfl (fun hc53 => ?_) (fun hc53 => ?_)
  · rw [if_neg hc53] at hBx4
    have hBx4 := Option.some.inj hBx4
    subst hBx4
    refine ev_weak [.ref 3, .null, .int ((si 0) + a1)] ⟨Or.inr rfl, ⟨Or.inl rfl, ⟨Or.inr rfl, trivial⟩⟩⟩ ?_
    exact Jx4
  · rw [if_pos hc53] at hBx4
    refine ev_aload_n (i := 0) 16 dX5_advance_15 rfl rfl rfl ?_
    refine ev_getfield 19 dX5_advance_16 rfl okf_X5_42 (Nat.le_of_ble_eq_true rfl) HPg_3 rfl ?_
    obtain ⟨x1, hx1, hBx4⟩ := tv_bind hBx4
    refine ev_callVi (i := 10) 22 [] [] dX5_advance_19 rfl okV_X5_105 rfl rfl (Nat.le_of_ble_eq_true rfl) (Nat.le_of_ble_eq_true rfl) HPg_10 rfl (Nat.le_of_ble_eq_true rfl) (Nat.le_of_ble_eq_true rfl) (R_X6_latestPlannedEnd hx1) ?_
    refine ev_iload_n (i := 2) 23 dX5_advance_22 rfl rfl rfl ?_
    refine ev_icmp_gt 42 26 dX5_advance_23 rfl rfl (fun hc54 => ?_) (fun hc54 => ?_)
    · rw [if_pos hc54] at hBx4
      have hBx4 := Option.some.inj hBx4
      subst hBx4
      refine ev_weak [.ref 3, .null, .int ((si 0) + a1)] ⟨Or.inr rfl, ⟨Or.inl rfl, ⟨Or.inr rfl, trivial⟩⟩⟩ ?_
      exact Jx4
    · rw [if_neg hc54] at hBx4
      refine ev_aload_n (i := 0) 27 dX5_advance_26 rfl rfl rfl ?_
      refine ev_aload_n (i := 0) 28 dX5_advance_27 rfl rfl rfl ?_
      refine ev_getfield 31 dX5_advance_28 rfl okf_X5_42 (Nat.le_of_ble_eq_true rfl) HPg_3 rfl ?_
      obtain ⟨x2, hx2, hBx4⟩ := tv_bind hBx4
      refine ev_callVi (i := 10) 34 [] [.ref 3] dX5_advance_31 rfl okV_X5_105 rfl rfl (Nat.le_of_ble_eq_true rfl) (Nat.le_of_ble_eq_true rfl) HPg_10 rfl (Nat.le_of_ble_eq_true rfl) (Nat.le_of_ble_eq_true rfl) (R_X6_latestPlannedEnd hx2) ?_
      refine ev_putfield 37 dX5_advance_34 rfl okf_X5_62 (Nat.le_of_ble_eq_true rfl) HPg_3 (Nat.le_of_ble_eq_true rfl) rfl rfl HPs_3_1 ?_
      refine ev_aload_n (i := 0) 38 dX5_advance_37 rfl rfl rfl ?_
      refine ev_iconst 39 dX5_advance_38 rfl kI_2 ?_
      obtain ⟨x3, hx3, hBx4⟩ := tv_bind hBx4
      refine ev_callVv (i := 3) 42 [.int 2] [] dX5_advance_39 rfl okV_X5_99 rfl rfl (Nat.le_of_ble_eq_true rfl) (Nat.le_of_ble_eq_true rfl) HPg_3 rfl (Nat.le_of_ble_eq_true rfl) (Nat.le_of_ble_eq_true rfl) (R_X5_endTerm hx3) ?_
      have hBx4 := Option.some.inj hBx4
      subst hBx4
      refine ev_weak [.ref 3, .null, .int ((si 0) + a1)] ⟨Or.inr rfl, ⟨Or.inl rfl, ⟨Or.inr rfl, trivial⟩⟩⟩ ?_
      exact Jx4

set_option maxRecDepth 100000 in
set_option maxHeartbeats 4000000 in
theorem R_X7_pass {g : tv_G} {l : Launch} {si : Nat → Int32} {sa : Nat → Nat → Int32} {hs : Nat → (Nat → Int32) × (Nat → Nat → Int32)} {tx : Nat → Int32} {tl : Int32} {hc : Int32} {hn : Int32} {v : Nat → Int32} {pa : Nat → Int32} {mt : Nat → Int32} {pm : Int32} {ty : Int32} {ra : Int32} {a1 : Int32} {p : Int32 × (Nat → Int32) × (Nat → Nat → Int32) × (Nat → (Nat → Int32) × (Nat → Nat → Int32)) × Int32 × Int32} (hF : F_X7_pass si sa hs hc hn a1 = some p) : tv_E g l yX7_pass cX7_pass 2 (some .int) 6 0 0 0 [.ref 0, .int a1] [] (HP si sa hs tx tl hc hn v pa mt pm ty ra) (some (.int p.1)) (HP p.2.1 p.2.2.1 p.2.2.2.1 tx tl p.2.2.2.2.1 p.2.2.2.2.2 v pa mt pm ty ra) := by
  unfold F_X7_pass at hF
  refine ev_iload_n (i := 1) 1 dX7_pass_0 rfl rfl rfl ?_
  refine ev_iconst 2 dX7_pass_1 rfl kI_1 ?_
  refine ev_icmp_lt 12 5 dX7_pass_2 rfl rfl (fun hc55 => ?_) (fun hc55 => ?_)
  · rw [if_pos hc55] at hF
    refine ev_iconst 13 dX7_pass_12 rfl kI_m1 ?_
    have hF := Option.some.inj hF
    subst hF
    exact ev_ireturn dX7_pass_13 rfl rfl
  · rw [if_neg hc55] at hF
    refine ev_iload_n (i := 1) 6 dX7_pass_5 rfl rfl rfl ?_
    refine ev_sipush 9 dX7_pass_6 rfl kS_1000 ?_
    refine ev_icmp_le 14 12 dX7_pass_9 rfl rfl (fun hc56 => ?_) (fun hc56 => ?_)
    · rw [if_pos hc56] at hF
      refine ev_aload_n (i := 0) 15 dX7_pass_14 rfl rfl rfl ?_
      refine ev_getfield 18 dX7_pass_15 rfl okf_X7_19 (Nat.le_of_ble_eq_true rfl) HPg_0 rfl ?_
      refine ev_getfield 21 dX7_pass_18 rfl okf_X7_76 (Nat.le_of_ble_eq_true rfl) HPg_3 rfl ?_
      refine ev_iload_n (i := 1) 22 dX7_pass_21 rfl rfl rfl ?_
      refine ev_iadd 23 dX7_pass_22 rfl ?_
      refine ev_ldc 25 dX7_pass_23 rfl kc_X7_79 ?_
      refine ev_icmp_le 31 28 dX7_pass_25 rfl rfl (fun hc57 => ?_) (fun hc57 => ?_)
      · rw [if_pos hc57] at hF
        refine ev_aload_n (i := 0) 32 dX7_pass_31 rfl rfl rfl ?_
        refine ev_getfield 35 dX7_pass_32 rfl okf_X7_26 (Nat.le_of_ble_eq_true rfl) HPg_0 rfl ?_
        refine ev_aload_n (i := 0) 36 dX7_pass_35 rfl rfl rfl ?_
        refine ev_getfield 39 dX7_pass_36 rfl okf_X7_19 (Nat.le_of_ble_eq_true rfl) HPg_0 rfl ?_
        obtain ⟨x1, hx1, hF⟩ := tv_bind hF
        refine ev_callVv (i := 23) 42 [.ref 3] [] dX7_pass_39 rfl okV_X7_37 rfl rfl (Nat.le_of_ble_eq_true rfl) (Nat.le_of_ble_eq_true rfl) HPg_23 rfl (Nat.le_of_ble_eq_true rfl) (Nat.le_of_ble_eq_true rfl) (R_X3_keep hx1) ?_
        refine ev_aload_n (i := 0) 43 dX7_pass_42 rfl rfl rfl ?_
        refine ev_getfield 46 dX7_pass_43 rfl okf_X7_19 (Nat.le_of_ble_eq_true rfl) HPg_0 rfl ?_
        refine ev_iload_n (i := 1) 47 dX7_pass_46 rfl rfl rfl ?_
        obtain ⟨x2, hx2, hF⟩ := tv_bind hF
        refine ev_callVv (i := 3) 50 [.int a1] [] dX7_pass_47 rfl okV_X7_80 rfl rfl (Nat.le_of_ble_eq_true rfl) (Nat.le_of_ble_eq_true rfl) HPg_3 rfl (Nat.le_of_ble_eq_true rfl) (Nat.le_of_ble_eq_true rfl) (R_X5_advance hx2) ?_
        refine ev_aload_n (i := 0) 51 dX7_pass_50 rfl rfl rfl ?_
        refine ev_getfield 54 dX7_pass_51 rfl okf_X7_19 (Nat.le_of_ble_eq_true rfl) HPg_0 rfl ?_
        refine ev_getfield 57 dX7_pass_54 rfl okf_X7_76 (Nat.le_of_ble_eq_true rfl) HPg_3 rfl ?_
        have hF := Option.some.inj hF
        subst hF
        exact ev_ireturn dX7_pass_57 rfl rfl
      · rw [if_neg hc57] at hF
        refine ev_bipush 30 dX7_pass_28 rfl kB_m2 ?_
        have hF := Option.some.inj hF
        subst hF
        exact ev_ireturn dX7_pass_30 rfl rfl
    · rw [if_neg hc56] at hF
      refine ev_iconst 13 dX7_pass_12 rfl kI_m1 ?_
      have hF := Option.some.inj hF
      subst hF
      exact ev_ireturn dX7_pass_13 rfl rfl

set_option maxRecDepth 100000 in
set_option maxHeartbeats 4000000 in
theorem R_X7_open {g : tv_G} {l : Launch} {si : Nat → Int32} {sa : Nat → Nat → Int32} {hs : Nat → (Nat → Int32) × (Nat → Nat → Int32)} {tx : Nat → Int32} {tl : Int32} {hc : Int32} {hn : Int32} {v : Nat → Int32} {pa : Nat → Int32} {mt : Nat → Int32} {pm : Int32} {ty : Int32} {ra : Int32}  {p : Int32 × (Nat → Int32) × (Nat → (Nat → Int32) × (Nat → Nat → Int32)) × Int32 × Int32} (hF : F_X7_open si sa hs hc hn = some p) : tv_E g l yX7_open cX7_open 1 (some .int) 5 0 0 0 [.ref 0] [] (HP si sa hs tx tl hc hn v pa mt pm ty ra) (some (.int p.1)) (HP p.2.1 sa p.2.2.1 tx tl p.2.2.2.1 p.2.2.2.2 v pa mt pm ty ra) := by
  unfold F_X7_open at hF
  refine ev_aload_n (i := 0) 1 dX7_open_0 rfl rfl rfl ?_
  refine ev_getfield 4 dX7_open_1 rfl okf_X7_19 (Nat.le_of_ble_eq_true rfl) HPg_0 rfl ?_
  refine ev_getfield 7 dX7_open_4 rfl okf_X7_83 (Nat.le_of_ble_eq_true rfl) HPg_3 rfl ?_
  refine ev_getfield 10 dX7_open_7 rfl okf_X7_87 (Nat.le_of_ble_eq_true rfl) HPg_6 rfl ?_
  refine ev_if_ne 24 13 dX7_open_10 rfl rfl (fun hc58 => ?_) (fun hc58 => ?_)
  · rw [if_neg hc58] at hF
    refine ev_bipush 26 dX7_open_24 rfl kB_m2 ?_
    have hF := Option.some.inj hF
    subst hF
    exact ev_ireturn dX7_open_26 rfl rfl
  · rw [if_pos hc58] at hF
    refine ev_aload_n (i := 0) 14 dX7_open_13 rfl rfl rfl ?_
    refine ev_getfield 17 dX7_open_14 rfl okf_X7_19 (Nat.le_of_ble_eq_true rfl) HPg_0 rfl ?_
    refine ev_getfield 20 dX7_open_17 rfl okf_X7_93 (Nat.le_of_ble_eq_true rfl) HPg_3 rfl ?_
    refine ev_iconst 21 dX7_open_20 rfl kI_2 ?_
    refine ev_icmp_ne 27 24 dX7_open_21 rfl rfl (fun hc59 => ?_) (fun hc59 => ?_)
    · rw [if_neg hc59] at hF
      refine ev_aload_n (i := 0) 28 dX7_open_27 rfl rfl rfl ?_
      refine ev_getfield 31 dX7_open_28 rfl okf_X7_19 (Nat.le_of_ble_eq_true rfl) HPg_0 rfl ?_
      refine ev_getfield 34 dX7_open_31 rfl okf_X7_96 (Nat.le_of_ble_eq_true rfl) HPg_3 rfl ?_
      refine ev_getfield 37 dX7_open_34 rfl okf_X7_100 (Nat.le_of_ble_eq_true rfl) HPg_10 rfl ?_
      refine ev_bipush 39 dX7_open_37 rfl kB_40 ?_
      refine ev_icmp_lt 45 42 dX7_open_39 rfl rfl (fun hc60 => ?_) (fun hc60 => ?_)
      · rw [if_pos hc60] at hF
        refine ev_aload_n (i := 0) 46 dX7_open_45 rfl rfl rfl ?_
        refine ev_getfield 49 dX7_open_46 rfl okf_X7_26 (Nat.le_of_ble_eq_true rfl) HPg_0 rfl ?_
        refine ev_aload_n (i := 0) 50 dX7_open_49 rfl rfl rfl ?_
        refine ev_getfield 53 dX7_open_50 rfl okf_X7_19 (Nat.le_of_ble_eq_true rfl) HPg_0 rfl ?_
        obtain ⟨x1, hx1, hF⟩ := tv_bind hF
        refine ev_callVv (i := 23) 56 [.ref 3] [] dX7_open_53 rfl okV_X7_37 rfl rfl (Nat.le_of_ble_eq_true rfl) (Nat.le_of_ble_eq_true rfl) HPg_23 rfl (Nat.le_of_ble_eq_true rfl) (Nat.le_of_ble_eq_true rfl) (R_X3_keep hx1) ?_
        refine ev_aload_n (i := 0) 57 dX7_open_56 rfl rfl rfl ?_
        refine ev_getfield 60 dX7_open_57 rfl okf_X7_19 (Nat.le_of_ble_eq_true rfl) HPg_0 rfl ?_
        refine ev_getfield 63 dX7_open_60 rfl okf_X7_83 (Nat.le_of_ble_eq_true rfl) HPg_3 rfl ?_
        refine ev_iconst 64 dX7_open_63 rfl kI_1 ?_
        refine ev_putfield 67 dX7_open_64 rfl okf_X7_87 (Nat.le_of_ble_eq_true rfl) HPg_6 (Nat.le_of_ble_eq_true rfl) rfl rfl HPs_6_0 ?_
        refine ev_aload_n (i := 0) 68 dX7_open_67 rfl rfl rfl ?_
        refine ev_getfield 71 dX7_open_68 rfl okf_X7_19 (Nat.le_of_ble_eq_true rfl) HPg_0 rfl ?_
        refine ev_getfield 74 dX7_open_71 rfl okf_X7_96 (Nat.le_of_ble_eq_true rfl) HPg_3 rfl ?_
        refine ev_getfield 77 dX7_open_74 rfl okf_X7_100 (Nat.le_of_ble_eq_true rfl) HPg_10 rfl ?_
        refine ev_iconst 78 dX7_open_77 rfl kI_1 ?_
        refine ev_iadd 79 dX7_open_78 rfl ?_
        have hF := Option.some.inj hF
        subst hF
        exact ev_ireturn dX7_open_79 rfl rfl
      · rw [if_neg hc60] at hF
        refine ev_bipush 44 dX7_open_42 rfl kB_m3 ?_
        have hF := Option.some.inj hF
        subst hF
        exact ev_ireturn dX7_open_44 rfl rfl
    · rw [if_pos hc59] at hF
      refine ev_bipush 26 dX7_open_24 rfl kB_m2 ?_
      have hF := Option.some.inj hF
      subst hF
      exact ev_ireturn dX7_open_26 rfl rfl

set_option maxRecDepth 100000 in
set_option maxHeartbeats 4000000 in
theorem R_X6_countLedInARow_L7 {g : tv_G} {l : Launch} {si : Nat → Int32} {sa : Nat → Nat → Int32} {hs : Nat → (Nat → Int32) × (Nat → Nat → Int32)} {tx : Nat → Int32} {tl : Int32} {hc : Int32} {hn : Int32} {v : Nat → Int32} {pa : Nat → Int32} {mt : Nat → Int32} {pm : Int32} {ty : Int32} {ra : Int32} {l1 : Int32} {r : Option Value} {h' : tv_Hp} : ∀ (n : Nat) (l2 : Int32) (l3 : Int32)  (x : Int32), F_X6_countLedInARow_L7 sa l1 n l2 l3 = some x → tv_E g l yX6_countLedInARow cX6_countLedInARow 4 (some .int) 0 0 0 31 [.null, .null, .int x, .null] [] (HP si sa hs tx tl hc hn v pa mt pm ty ra) r h' → tv_E g l yX6_countLedInARow cX6_countLedInARow 4 (some .int) 0 0 0 7 [.ref 10, .int l1, .int l2, .int l3] [] (HP si sa hs tx tl hc hn v pa mt pm ty ra) r h' := by
  intro n
  induction n with
  | zero => intro l2 l3 x hF k; cases hF
  | succ n ih =>
      intro l2 l3 x hF k
      rw [F_X6_countLedInARow_L7] at hF
      refine ev_iload_n (i := 3) 8 dX6_countLedInARow_7 rfl rfl rfl ?_
      refine ev_iconst 9 dX6_countLedInARow_8 rfl kI_1 ?_
      refine ev_icmp_lt 31 12 dX6_countLedInARow_9 rfl rfl (fun hc61 => ?_) (fun hc61 => ?_)
      · rw [if_pos hc61] at hF
        have hF := Option.some.inj hF
        subst hF
        refine ev_weak [.null, .null, .int l2, .null] ⟨Or.inl rfl, ⟨Or.inl rfl, ⟨Or.inr rfl, ⟨Or.inl rfl, trivial⟩⟩⟩⟩ ?_
        exact k
      · rw [if_neg hc61] at hF
        refine ev_aload_n (i := 0) 13 dX6_countLedInARow_12 rfl rfl rfl ?_
        refine ev_getfield 16 dX6_countLedInARow_13 rfl okf_X6_9 (Nat.le_of_ble_eq_true rfl) HPg_10 rfl ?_
        refine ev_iload_n (i := 3) 17 dX6_countLedInARow_16 rfl rfl rfl ?_
        obtain ⟨x1, hx1, hF⟩ := tv_bind hF
        refine ev_iaload 18 dX6_countLedInARow_17 rfl (Nat.le_of_ble_eq_true rfl) HPg_11 hx1 ?_
        refine ev_iload_n (i := 1) 19 dX6_countLedInARow_18 rfl rfl rfl ?_
        refine ev_icmp_ne 31 22 dX6_countLedInARow_19 rfl rfl (fun hc62 => ?_) (fun hc62 => ?_)
        · rw [if_neg hc62] at hF
          have hF := Option.some.inj hF
          subst hF
          refine ev_weak [.null, .null, .int l2, .null] ⟨Or.inl rfl, ⟨Or.inl rfl, ⟨Or.inr rfl, ⟨Or.inl rfl, trivial⟩⟩⟩⟩ ?_
          exact k
        · rw [if_pos hc62] at hF
          refine ev_iinc (L2 := [.ref 10, .int l1, .int (l2 + 1), .int l3]) 25 dX6_countLedInARow_22 rfl rfl (kA_1 _) (Nat.le_of_ble_eq_true rfl) rfl ?_
          refine ev_iinc (L2 := [.ref 10, .int l1, .int (l2 + 1), .int (l3 + (-1))]) 28 dX6_countLedInARow_25 rfl rfl (kA_m1 _) (Nat.le_of_ble_eq_true rfl) rfl ?_
          refine ev_goto 7 dX6_countLedInARow_28 rfl ?_
          exact ih _ _ _ hF k

set_option maxRecDepth 100000 in
set_option maxHeartbeats 4000000 in
theorem R_X6_countLedInARow {g : tv_G} {l : Launch} {si : Nat → Int32} {sa : Nat → Nat → Int32} {hs : Nat → (Nat → Int32) × (Nat → Nat → Int32)} {tx : Nat → Int32} {tl : Int32} {hc : Int32} {hn : Int32} {v : Nat → Int32} {pa : Nat → Int32} {mt : Nat → Int32} {pm : Int32} {ty : Int32} {ra : Int32} {a1 : Int32} {p : Int32} (hF : F_X6_countLedInARow si sa a1 = some p) : tv_E g l yX6_countLedInARow cX6_countLedInARow 4 (some .int) 0 0 0 0 [.ref 10, .int a1, .null, .null] [] (HP si sa hs tx tl hc hn v pa mt pm ty ra) (some (.int p)) (HP si sa hs tx tl hc hn v pa mt pm ty ra) := by
  unfold F_X6_countLedInARow at hF
  refine ev_iconst 1 dX6_countLedInARow_0 rfl kI_0 ?_
  refine ev_istore_n (i := 2) (L2 := [.ref 10, .int a1, .int 0, .null]) 2 dX6_countLedInARow_1 rfl rfl (Nat.le_of_ble_eq_true rfl) rfl ?_
  refine ev_aload_n (i := 0) 3 dX6_countLedInARow_2 rfl rfl rfl ?_
  refine ev_getfield 6 dX6_countLedInARow_3 rfl okf_X6_36 (Nat.le_of_ble_eq_true rfl) HPg_10 rfl ?_
  refine ev_istore_n (i := 3) (L2 := [.ref 10, .int a1, .int 0, .int (si 9)]) 7 dX6_countLedInARow_6 rfl rfl (Nat.le_of_ble_eq_true rfl) rfl ?_
  obtain ⟨x2, hx2, hF⟩ := tv_bind hF
  refine R_X6_countLedInARow_L7 _ _ _ _ hx2 ?_
  refine ev_iload_n (i := 2) 32 dX6_countLedInARow_31 rfl rfl rfl ?_
  have hF := Option.some.inj hF
  subst hF
  exact ev_ireturn dX6_countLedInARow_32 rfl rfl

set_option maxRecDepth 100000 in
set_option maxHeartbeats 4000000 in
theorem R_X5_canLead {g : tv_G} {l : Launch} {si : Nat → Int32} {sa : Nat → Nat → Int32} {hs : Nat → (Nat → Int32) × (Nat → Nat → Int32)} {tx : Nat → Int32} {tl : Int32} {hc : Int32} {hn : Int32} {v : Nat → Int32} {pa : Nat → Int32} {mt : Nat → Int32} {pm : Int32} {ty : Int32} {ra : Int32} {a1 : Int32} {p : Int32} (hF : F_X5_canLead si sa a1 = some p) : tv_E g l yX5_canLead cX5_canLead 2 (some .boolean) 2 0 0 0 [.ref 3, .int a1] [] (HP si sa hs tx tl hc hn v pa mt pm ty ra) (some (.int p)) (HP si sa hs tx tl hc hn v pa mt pm ty ra) := by
  unfold F_X5_canLead at hF
  refine ev_aload_n (i := 0) 1 dX5_canLead_0 rfl rfl rfl ?_
  refine ev_iload_n (i := 1) 2 dX5_canLead_1 rfl rfl rfl ?_
  obtain ⟨x1, hx1, hF⟩ := tv_bind hF
  refine ev_callVi (i := 3) 5 [.int a1] [] dX5_canLead_2 rfl okV_X5_178 rfl rfl (Nat.le_of_ble_eq_true rfl) (Nat.le_of_ble_eq_true rfl) HPg_3 rfl (Nat.le_of_ble_eq_true rfl) (Nat.le_of_ble_eq_true rfl) (R_X5_isPresent hx1) ?_
  refine ev_if_eq 46 8 dX5_canLead_5 rfl rfl (fun hc63 => ?_) (fun hc63 => ?_)
  · rw [if_pos hc63] at hF
    refine ev_iconst 47 dX5_canLead_46 rfl kI_0 ?_
    have hF := Option.some.inj hF
    subst hF
    exact ev_ireturn dX5_canLead_47 rfl rfl
  · rw [if_neg hc63] at hF
    refine ev_aload_n (i := 0) 9 dX5_canLead_8 rfl rfl rfl ?_
    refine ev_getfield 12 dX5_canLead_9 rfl okf_X5_42 (Nat.le_of_ble_eq_true rfl) HPg_3 rfl ?_
    refine ev_iload_n (i := 1) 13 dX5_canLead_12 rfl rfl rfl ?_
    obtain ⟨x2, hx2, hF⟩ := tv_bind hF
    refine ev_callVi (i := 10) 16 [.int a1] [] dX5_canLead_13 rfl okV_X5_136 rfl rfl (Nat.le_of_ble_eq_true rfl) (Nat.le_of_ble_eq_true rfl) HPg_10 rfl (Nat.le_of_ble_eq_true rfl) (Nat.le_of_ble_eq_true rfl) (R_X6_countLed hx2) ?_
    refine ev_aload_n (i := 0) 17 dX5_canLead_16 rfl rfl rfl ?_
    refine ev_getfield 20 dX5_canLead_17 rfl okf_X5_9 (Nat.le_of_ble_eq_true rfl) HPg_3 rfl ?_
    refine ev_iconst 21 dX5_canLead_20 rfl kI_1 ?_
    obtain ⟨x3, hx3, hF⟩ := tv_bind hF
    refine ev_iaload 22 dX5_canLead_21 rfl (Nat.le_of_ble_eq_true rfl) HPg_4 hx3 ?_
    refine ev_icmp_ge 46 25 dX5_canLead_22 rfl rfl (fun hc64 => ?_) (fun hc64 => ?_)
    · rw [if_pos hc64] at hF
      refine ev_iconst 47 dX5_canLead_46 rfl kI_0 ?_
      have hF := Option.some.inj hF
      subst hF
      exact ev_ireturn dX5_canLead_47 rfl rfl
    · rw [if_neg hc64] at hF
      refine ev_aload_n (i := 0) 26 dX5_canLead_25 rfl rfl rfl ?_
      refine ev_getfield 29 dX5_canLead_26 rfl okf_X5_42 (Nat.le_of_ble_eq_true rfl) HPg_3 rfl ?_
      refine ev_iload_n (i := 1) 30 dX5_canLead_29 rfl rfl rfl ?_
      obtain ⟨x4, hx4, hF⟩ := tv_bind hF
      refine ev_callVi (i := 10) 33 [.int a1] [] dX5_canLead_30 rfl okV_X5_182 rfl rfl (Nat.le_of_ble_eq_true rfl) (Nat.le_of_ble_eq_true rfl) HPg_10 rfl (Nat.le_of_ble_eq_true rfl) (Nat.le_of_ble_eq_true rfl) (R_X6_countLedInARow hx4) ?_
      refine ev_aload_n (i := 0) 34 dX5_canLead_33 rfl rfl rfl ?_
      refine ev_getfield 37 dX5_canLead_34 rfl okf_X5_9 (Nat.le_of_ble_eq_true rfl) HPg_3 rfl ?_
      refine ev_iconst 38 dX5_canLead_37 rfl kI_2 ?_
      obtain ⟨x5, hx5, hF⟩ := tv_bind hF
      refine ev_iaload 39 dX5_canLead_38 rfl (Nat.le_of_ble_eq_true rfl) HPg_4 hx5 ?_
      refine ev_icmp_ge 46 42 dX5_canLead_39 rfl rfl (fun hc65 => ?_) (fun hc65 => ?_)
      · rw [if_pos hc65] at hF
        refine ev_iconst 47 dX5_canLead_46 rfl kI_0 ?_
        have hF := Option.some.inj hF
        subst hF
        exact ev_ireturn dX5_canLead_47 rfl rfl
      · rw [if_neg hc65] at hF
        refine ev_iconst 43 dX5_canLead_42 rfl kI_1 ?_
        refine ev_goto 47 dX5_canLead_43 rfl ?_
        have hF := Option.some.inj hF
        subst hF
        exact ev_ireturn dX5_canLead_47 rfl rfl
