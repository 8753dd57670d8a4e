set_option maxRecDepth 100000 in
set_option maxHeartbeats 4000000 in
theorem R_X8_act_L10 {g : tv_G} {l : Launch} {si : Nat → Int32} {sa : Nat → Nat → Int32} {hs : Nat → (Nat → Int32) × (Nat → Nat → Int32)} {tx : Nat → Int32} {tl : Int32} {hc : Int32} {hn : Int32} {v : Nat → Int32} {mt : Nat → Int32} {pm : Int32} {ty : Int32} {ra : Int32}  {r : Option Value} {h' : tv_Hp} : ∀ (n : Nat) (l1 : Int32) (pa : Nat → Int32) (x : (Nat → Int32)), F_X8_act_L10 n l1 pa = some x → tv_E g l yX8_act cX8_act 2 none 0 0 0 39 [.ref 125, .null] [] (HP si sa hs tx tl hc hn v x mt pm ty ra) r h' → tv_E g l yX8_act cX8_act 2 none 0 0 0 10 [.ref 125, .int l1] [] (HP si sa hs tx tl hc hn v pa mt pm ty ra) r h' := by
  intro n
  induction n with
  | zero => intro l1 pa x hF k; cases hF
  | succ n ih =>
      intro l1 pa x hF k
      rw [F_X8_act_L10] at hF
      refine ev_iload_n (i := 1) 11 dX8_act_10 rfl rfl rfl ?_
      refine ev_sipush 14 dX8_act_11 rfl kS_4400 ?_
      refine ev_icmp_ge 39 17 dX8_act_14 rfl rfl (fun hc198 => ?_) (fun hc198 => ?_)
      · rw [if_pos hc198] at hF
        have hF := Option.some.inj hF
        subst hF
        refine ev_weak [.ref 125, .null] ⟨Or.inr rfl, ⟨Or.inl rfl, trivial⟩⟩ ?_
        exact k
      · rw [if_neg hc198] at hF
        refine ev_aload_n (i := 0) 18 dX8_act_17 rfl rfl rfl ?_
        refine ev_getfield 21 dX8_act_18 rfl okf_X8_13 (Nat.le_of_ble_eq_true rfl) HPg_125 rfl ?_
        refine ev_iload_n (i := 1) 22 dX8_act_21 rfl rfl rfl ?_
        refine ev_aload_n (i := 0) 23 dX8_act_22 rfl rfl rfl ?_
        refine ev_getfield 26 dX8_act_23 rfl okf_X8_13 (Nat.le_of_ble_eq_true rfl) HPg_125 rfl ?_
        refine ev_iload_n (i := 1) 27 dX8_act_26 rfl rfl rfl ?_
        refine ev_sipush 30 dX8_act_27 rfl kS_1100 ?_
        refine ev_iadd 31 dX8_act_30 rfl ?_
        obtain ⟨x1, hx1, hF⟩ := tv_bind hF
        refine ev_iaload 32 dX8_act_31 rfl (Nat.le_of_ble_eq_true rfl) HPg_127 hx1 ?_
        obtain ⟨x2, hx2, hF⟩ := tv_bind hF
        refine ev_iastore 33 dX8_act_32 rfl (Nat.le_of_ble_eq_true rfl) HPg_127 hx2 HPa_127 ?_
        refine ev_iinc (L2 := [.ref 125, .int (l1 + 1)]) 36 dX8_act_33 rfl rfl (kA_1 _) (Nat.le_of_ble_eq_true rfl) rfl ?_
        refine ev_goto 10 dX8_act_36 rfl ?_
        exact ih _ _ _ hF k

set_option maxRecDepth 100000 in
set_option maxHeartbeats 4000000 in
theorem R_X8_act_L51 {g : tv_G} {l : Launch} {si : Nat → Int32} {sa : Nat → Nat → Int32} {hs : Nat → (Nat → Int32) × (Nat → Nat → Int32)} {tx : Nat → Int32} {tl : Int32} {hc : Int32} {hn : Int32} {v : Nat → Int32} {mt : Nat → Int32} {pm : Int32} {ty : Int32} {ra : Int32}  {r : Option Value} {h' : tv_Hp} : ∀ (n : Nat) (l1 : Int32) (pa : Nat → Int32) (x : (Nat → Int32)), F_X8_act_L51 v pm n l1 pa = some x → tv_E g l yX8_act cX8_act 2 none 0 0 0 85 [.ref 125, .null] [] (HP si sa hs tx tl hc hn v x mt pm ty ra) r h' → tv_E g l yX8_act cX8_act 2 none 0 0 0 51 [.ref 125, .int l1] [] (HP si sa hs tx tl hc hn v pa mt pm ty ra) r h' := by
  intro n
  induction n with
  | zero => intro l1 pa x hF k; cases hF
  | succ n ih =>
      intro l1 pa x hF k
      rw [F_X8_act_L51] at hF
      refine ev_iload_n (i := 1) 52 dX8_act_51 rfl rfl rfl ?_
      refine ev_sipush 55 dX8_act_52 rfl kS_1100 ?_
      refine ev_icmp_ge 85 58 dX8_act_55 rfl rfl (fun hc199 => ?_) (fun hc199 => ?_)
      · rw [if_pos hc199] at hF
        have hF := Option.some.inj hF
        subst hF
        refine ev_weak [.ref 125, .null] ⟨Or.inr rfl, ⟨Or.inl rfl, trivial⟩⟩ ?_
        exact k
      · rw [if_neg hc199] at hF
        refine ev_aload_n (i := 0) 59 dX8_act_58 rfl rfl rfl ?_
        refine ev_getfield 62 dX8_act_59 rfl okf_X8_13 (Nat.le_of_ble_eq_true rfl) HPg_125 rfl ?_
        refine ev_sipush 65 dX8_act_62 rfl kS_1100 ?_
        refine ev_aload_n (i := 0) 66 dX8_act_65 rfl rfl rfl ?_
        refine ev_getfield 69 dX8_act_66 rfl okf_X8_19 (Nat.le_of_ble_eq_true rfl) HPg_125 rfl ?_
        refine ev_imul 70 dX8_act_69 rfl ?_
        refine ev_iload_n (i := 1) 71 dX8_act_70 rfl rfl rfl ?_
        refine ev_iadd 72 dX8_act_71 rfl ?_
        refine ev_aload_n (i := 0) 73 dX8_act_72 rfl rfl rfl ?_
        refine ev_getfield 76 dX8_act_73 rfl okf_X8_7 (Nat.le_of_ble_eq_true rfl) HPg_125 rfl ?_
        refine ev_iload_n (i := 1) 77 dX8_act_76 rfl rfl rfl ?_
        obtain ⟨x5, hx5, hF⟩ := tv_bind hF
        refine ev_iaload 78 dX8_act_77 rfl (Nat.le_of_ble_eq_true rfl) HPg_126 hx5 ?_
        obtain ⟨x6, hx6, hF⟩ := tv_bind hF
        refine ev_iastore 79 dX8_act_78 rfl (Nat.le_of_ble_eq_true rfl) HPg_127 hx6 HPa_127 ?_
        refine ev_iinc (L2 := [.ref 125, .int (l1 + 1)]) 82 dX8_act_79 rfl rfl (kA_1 _) (Nat.le_of_ble_eq_true rfl) rfl ?_
        refine ev_goto 51 dX8_act_82 rfl ?_
        exact ih _ _ _ hF k

set_option maxRecDepth 100000 in
set_option maxHeartbeats 4000000 in
theorem R_X8_act {g : tv_G} {l : Launch} {si : Nat → Int32} {sa : Nat → Nat → Int32} {hs : Nat → (Nat → Int32) × (Nat → Nat → Int32)} {tx : Nat → Int32} {tl : Int32} {hc : Int32} {hn : Int32} {v : Nat → Int32} {pa : Nat → Int32} {mt : Nat → Int32} {pm : Int32} {ty : Int32} {ra : Int32}  {p : (Nat → Int32) × Int32} (hF : F_X8_act v pa pm = some p) : tv_E g l yX8_act cX8_act 2 none 0 0 0 0 [.ref 125, .null] [] (HP si sa hs tx tl hc hn v pa mt pm ty ra) none (HP si sa hs tx tl hc hn v p.1 mt p.2 ty ra) := by
  unfold F_X8_act at hF
  refine ev_aload_n (i := 0) 1 dX8_act_0 rfl rfl rfl ?_
  refine ev_getfield 4 dX8_act_1 rfl okf_X8_19 (Nat.le_of_ble_eq_true rfl) HPg_125 rfl ?_
  refine ev_iconst 5 dX8_act_4 rfl kI_5 ?_
  obtain ⟨x4, hBx4, hF⟩ := tv_bind hF
  have Jx4 : tv_E g l yX8_act cX8_act 2 none 0 0 0 49 [.ref 125, .null] [] (HP si sa hs tx tl hc hn v x4.1 mt x4.2 ty ra) none (HP si sa hs tx tl hc hn v p.1 mt p.2 ty ra) := by
    refine ev_iconst 50 dX8_act_49 rfl kI_0 ?_
    refine ev_istore_n (i := 1) (L2 := [.ref 125, .int 0]) 51 dX8_act_50 rfl rfl (Nat.le_of_ble_eq_true rfl) rfl ?_
    obtain ⟨x7, hx7, hF⟩ := tv_bind hF
    refine R_X8_act_L51 _ _ _ _ hx7 ?_
    refine ev_aload_n (i := 0) 86 dX8_act_85 rfl rfl rfl ?_
    refine ev_dup 87 dX8_act_86 rfl rfl ?_
    refine ev_getfield 90 dX8_act_87 rfl okf_X8_19 (Nat.le_of_ble_eq_true rfl) HPg_125 rfl ?_
    refine ev_iconst 91 dX8_act_90 rfl kI_1 ?_
    refine ev_iadd 92 dX8_act_91 rfl ?_
    refine ev_putfield 95 dX8_act_92 rfl okf_X8_19 (Nat.le_of_ble_eq_true rfl) HPg_125 (Nat.le_of_ble_eq_true rfl) rfl rfl HPs_125_2 ?_
    have hF := Option.some.inj hF
    subst hF
    exact ev_return dX8_act_95 rfl
  clear hF
  refine ev_icmp_ne 49 8 dX8_act_5 rfl rfl (fun hc200 => ?_) (fun hc200 => ?_)
  · rw [if_neg hc200] at hBx4
    have hBx4 := Option.some.inj hBx4
    subst hBx4
    exact Jx4
  · rw [if_pos hc200] at hBx4
    refine ev_iconst 9 dX8_act_8 rfl kI_0 ?_
    refine ev_istore_n (i := 1) (L2 := [.ref 125, .int 0]) 10 dX8_act_9 rfl rfl (Nat.le_of_ble_eq_true rfl) rfl ?_
    obtain ⟨x3, hx3, hBx4⟩ := tv_bind hBx4
    refine R_X8_act_L10 _ _ _ _ hx3 ?_
    refine ev_aload_n (i := 0) 40 dX8_act_39 rfl rfl rfl ?_
    refine ev_dup 41 dX8_act_40 rfl rfl ?_
    refine ev_getfield 44 dX8_act_41 rfl okf_X8_19 (Nat.le_of_ble_eq_true rfl) HPg_125 rfl ?_
    refine ev_iconst 45 dX8_act_44 rfl kI_1 ?_
    refine ev_isub 46 dX8_act_45 rfl ?_
    refine ev_putfield 49 dX8_act_46 rfl okf_X8_19 (Nat.le_of_ble_eq_true rfl) HPg_125 (Nat.le_of_ble_eq_true rfl) rfl rfl HPs_125_2 ?_
    have hBx4 := Option.some.inj hBx4
    subst hBx4
    exact Jx4

set_option maxRecDepth 100000 in
set_option maxHeartbeats 4000000 in
theorem R_X8_at {g : tv_G} {l : Launch} {si : Nat → Int32} {sa : Nat → Nat → Int32} {hs : Nat → (Nat → Int32) × (Nat → Nat → Int32)} {tx : Nat → Int32} {tl : Int32} {hc : Int32} {hn : Int32} {v : Nat → Int32} {pa : Nat → Int32} {mt : Nat → Int32} {pm : Int32} {ty : Int32} {ra : Int32} {a0 : Int32} {a1 : Int32} {p : Int32} (hF : some (F_X8_at a0 a1) = some p) : tv_E g l yX8_at cX8_at 2 (some .int) 0 0 0 0 [.int a0, .int a1] [] (HP si sa hs tx tl hc hn v pa mt pm ty ra) (some (.int p)) (HP si sa hs tx tl hc hn v pa mt pm ty ra) := by
  unfold F_X8_at at hF
  refine ev_bipush 2 dX8_at_0 rfl kB_20 ?_
  refine ev_bipush 4 dX8_at_2 rfl kB_15 ?_
  refine ev_iload_n (i := 0) 5 dX8_at_4 rfl rfl rfl ?_
  refine ev_imul 6 dX8_at_5 rfl ?_
  refine ev_iadd 7 dX8_at_6 rfl ?_
  refine ev_iload_n (i := 1) 8 dX8_at_7 rfl rfl rfl ?_
  refine ev_iadd 9 dX8_at_8 rfl ?_
  have hF := Option.some.inj hF
  subst hF
  exact ev_ireturn dX8_at_9 rfl rfl

set_option maxRecDepth 100000 in
set_option maxHeartbeats 4000000 in
theorem R_X8_presentMany_L4 {g : tv_G} {l : Launch} {si : Nat → Int32} {sa : Nat → Nat → Int32} {hs : Nat → (Nat → Int32) × (Nat → Nat → Int32)} {tx : Nat → Int32} {tl : Int32} {hc : Int32} {hn : Int32} {v : Nat → Int32} {pa : Nat → Int32} {mt : Nat → Int32} {pm : Int32} {ty : Int32} {ra : Int32}  {r : Option Value} {h' : tv_Hp} : ∀ (n : Nat) (l1 : Int32) (l2 : Int32)  (x : Int32), F_X8_presentMany_L4 v n l1 l2 = some x → tv_E g l yX8_presentMany cX8_presentMany 3 (some .int) 1 0 0 34 [.null, .int x, .null] [] (HP si sa hs tx tl hc hn v pa mt pm ty ra) r h' → tv_E g l yX8_presentMany cX8_presentMany 3 (some .int) 1 0 0 4 [.ref 125, .int l1, .int l2] [] (HP si sa hs tx tl hc hn v pa mt pm ty ra) r h' := by
  intro n
  induction n with
  | zero => intro l1 l2 x hF k; cases hF
  | succ n ih =>
      intro l1 l2 x hF k
      rw [F_X8_presentMany_L4] at hF
      refine ev_iload_n (i := 2) 5 dX8_presentMany_4 rfl rfl rfl ?_
      refine ev_aload_n (i := 0) 6 dX8_presentMany_5 rfl rfl rfl ?_
      refine ev_getfield 9 dX8_presentMany_6 rfl okf_X8_7 (Nat.le_of_ble_eq_true rfl) HPg_125 rfl ?_
      refine ev_bipush 11 dX8_presentMany_9 rfl kB_10 ?_
      obtain ⟨x1, hx1, hF⟩ := tv_bind hF
      refine ev_iaload 12 dX8_presentMany_11 rfl (Nat.le_of_ble_eq_true rfl) HPg_126 hx1 ?_
      refine ev_icmp_ge 34 15 dX8_presentMany_12 rfl rfl (fun hc201 => ?_) (fun hc201 => ?_)
      · rw [if_pos hc201] at hF
        have hF := Option.some.inj hF
        subst hF
        refine ev_weak [.null, .int l1, .null] ⟨Or.inl rfl, ⟨Or.inr rfl, ⟨Or.inl rfl, trivial⟩⟩⟩ ?_
        exact k
      · rw [if_neg hc201] at hF
        refine ev_iload_n (i := 1) 16 dX8_presentMany_15 rfl rfl rfl ?_
        refine ev_aload_n (i := 0) 17 dX8_presentMany_16 rfl rfl rfl ?_
        refine ev_getfield 20 dX8_presentMany_17 rfl okf_X8_7 (Nat.le_of_ble_eq_true rfl) HPg_125 rfl ?_
        refine ev_iload_n (i := 2) 21 dX8_presentMany_20 rfl rfl rfl ?_
        refine ev_iconst 22 dX8_presentMany_21 rfl kI_1 ?_
        refine ev_callSi 25 [.int l2, .int 1] [.ref 126, .int l1] dX8_presentMany_22 rfl okS_X8_27 rfl rfl (Nat.le_of_ble_eq_true rfl) rfl (Nat.le_of_ble_eq_true rfl) (Nat.le_of_ble_eq_true rfl) (R_X8_at rfl) ?_
        obtain ⟨x2, hx2, hF⟩ := tv_bind hF
        refine ev_iaload 26 dX8_presentMany_25 rfl (Nat.le_of_ble_eq_true rfl) HPg_126 hx2 ?_
        refine ev_iadd 27 dX8_presentMany_26 rfl ?_
        refine ev_istore_n (i := 1) (L2 := [.ref 125, .int (l1 + x2), .int l2]) 28 dX8_presentMany_27 rfl rfl (Nat.le_of_ble_eq_true rfl) rfl ?_
        refine ev_iinc (L2 := [.ref 125, .int (l1 + x2), .int (l2 + 1)]) 31 dX8_presentMany_28 rfl rfl (kA_1 _) (Nat.le_of_ble_eq_true rfl) rfl ?_
        refine ev_goto 4 dX8_presentMany_31 rfl ?_
        exact ih _ _ _ hF k

set_option maxRecDepth 100000 in
set_option maxHeartbeats 4000000 in
theorem R_X8_presentMany {g : tv_G} {l : Launch} {si : Nat → Int32} {sa : Nat → Nat → Int32} {hs : Nat → (Nat → Int32) × (Nat → Nat → Int32)} {tx : Nat → Int32} {tl : Int32} {hc : Int32} {hn : Int32} {v : Nat → Int32} {pa : Nat → Int32} {mt : Nat → Int32} {pm : Int32} {ty : Int32} {ra : Int32}  {p : Int32} (hF : F_X8_presentMany v = some p) : tv_E g l yX8_presentMany cX8_presentMany 3 (some .int) 1 0 0 0 [.ref 125, .null, .null] [] (HP si sa hs tx tl hc hn v pa mt pm ty ra) (some (.int p)) (HP si sa hs tx tl hc hn v pa mt pm ty ra) := by
  unfold F_X8_presentMany at hF
  refine ev_iconst 1 dX8_presentMany_0 rfl kI_0 ?_
  refine ev_istore_n (i := 1) (L2 := [.ref 125, .int 0, .null]) 2 dX8_presentMany_1 rfl rfl (Nat.le_of_ble_eq_true rfl) rfl ?_
  refine ev_iconst 3 dX8_presentMany_2 rfl kI_0 ?_
  refine ev_istore_n (i := 2) (L2 := [.ref 125, .int 0, .int 0]) 4 dX8_presentMany_3 rfl rfl (Nat.le_of_ble_eq_true rfl) rfl ?_
  obtain ⟨x3, hx3, hF⟩ := tv_bind hF
  refine R_X8_presentMany_L4 _ _ _ _ hx3 ?_
  refine ev_iload_n (i := 1) 35 dX8_presentMany_34 rfl rfl rfl ?_
  have hF := Option.some.inj hF
  subst hF
  exact ev_ireturn dX8_presentMany_35 rfl rfl

set_option maxRecDepth 100000 in
set_option maxHeartbeats 4000000 in
theorem R_X8_isPresent {g : tv_G} {l : Launch} {si : Nat → Int32} {sa : Nat → Nat → Int32} {hs : Nat → (Nat → Int32) × (Nat → Nat → Int32)} {tx : Nat → Int32} {tl : Int32} {hc : Int32} {hn : Int32} {v : Nat → Int32} {pa : Nat → Int32} {mt : Nat → Int32} {pm : Int32} {ty : Int32} {ra : Int32} {a1 : Int32} {p : Int32} (hF : F_X8_isPresent v a1 = some p) : tv_E g l yX8_isPresent cX8_isPresent 2 (some .boolean) 1 0 0 0 [.ref 125, .int a1] [] (HP si sa hs tx tl hc hn v pa mt pm ty ra) (some (.int p)) (HP si sa hs tx tl hc hn v pa mt pm ty ra) := by
  unfold F_X8_isPresent at hF
  refine ev_aload_n (i := 0) 1 dX8_isPresent_0 rfl rfl rfl ?_
  refine ev_getfield 4 dX8_isPresent_1 rfl okf_X8_7 (Nat.le_of_ble_eq_true rfl) HPg_125 rfl ?_
  refine ev_iload_n (i := 1) 5 dX8_isPresent_4 rfl rfl rfl ?_
  refine ev_iconst 6 dX8_isPresent_5 rfl kI_1 ?_
  refine ev_callSi 9 [.int a1, .int 1] [.ref 126] dX8_isPresent_6 rfl okS_X8_27 rfl rfl (Nat.le_of_ble_eq_true rfl) rfl (Nat.le_of_ble_eq_true rfl) (Nat.le_of_ble_eq_true rfl) (R_X8_at rfl) ?_
  obtain ⟨x1, hx1, hF⟩ := tv_bind hF
  refine ev_iaload 10 dX8_isPresent_9 rfl (Nat.le_of_ble_eq_true rfl) HPg_126 hx1 ?_
  refine ev_iconst 11 dX8_isPresent_10 rfl kI_1 ?_
  refine ev_icmp_ne 18 14 dX8_isPresent_11 rfl rfl (fun hc202 => ?_) (fun hc202 => ?_)
  · rw [if_neg hc202] at hF
    refine ev_iconst 19 dX8_isPresent_18 rfl kI_0 ?_
    have hF := Option.some.inj hF
    subst hF
    exact ev_ireturn dX8_isPresent_19 rfl rfl
  · rw [if_pos hc202] at hF
    refine ev_iconst 15 dX8_isPresent_14 rfl kI_1 ?_
    refine ev_goto 19 dX8_isPresent_15 rfl ?_
    have hF := Option.some.inj hF
    subst hF
    exact ev_ireturn dX8_isPresent_19 rfl rfl

set_option maxRecDepth 100000 in
set_option maxHeartbeats 4000000 in
theorem R_X8_signatures_L4 {g : tv_G} {l : Launch} {si : Nat → Int32} {sa : Nat → Nat → Int32} {hs : Nat → (Nat → Int32) × (Nat → Nat → Int32)} {tx : Nat → Int32} {tl : Int32} {hc : Int32} {hn : Int32} {v : Nat → Int32} {pa : Nat → Int32} {mt : Nat → Int32} {pm : Int32} {ty : Int32} {ra : Int32}  {r : Option Value} {h' : tv_Hp} : ∀ (n : Nat) (l1 : Int32) (l2 : Int32)  (x : Int32), F_X8_signatures_L4 v n l1 l2 = some x → tv_E g l yX8_signatures cX8_signatures 3 (some .int) 2 0 0 51 [.null, .int x, .null] [] (HP si sa hs tx tl hc hn v pa mt pm ty ra) r h' → tv_E g l yX8_signatures cX8_signatures 3 (some .int) 2 0 0 4 [.ref 125, .int l1, .int l2] [] (HP si sa hs tx tl hc hn v pa mt pm ty ra) r h' := by
  intro n
  induction n with
  | zero => intro l1 l2 x hF k; cases hF
  | succ n ih =>
      intro l1 l2 x hF k
      rw [F_X8_signatures_L4] at hF
      refine ev_iload_n (i := 2) 5 dX8_signatures_4 rfl rfl rfl ?_
      refine ev_aload_n (i := 0) 6 dX8_signatures_5 rfl rfl rfl ?_
      refine ev_getfield 9 dX8_signatures_6 rfl okf_X8_7 (Nat.le_of_ble_eq_true rfl) HPg_125 rfl ?_
      refine ev_bipush 11 dX8_signatures_9 rfl kB_10 ?_
      obtain ⟨x1, hx1, hF⟩ := tv_bind hF
      refine ev_iaload 12 dX8_signatures_11 rfl (Nat.le_of_ble_eq_true rfl) HPg_126 hx1 ?_
      refine ev_icmp_ge 51 15 dX8_signatures_12 rfl rfl (fun hc203 => ?_) (fun hc203 => ?_)
      · rw [if_pos hc203] at hF
        have hF := Option.some.inj hF
        subst hF
        refine ev_weak [.null, .int l1, .null] ⟨Or.inl rfl, ⟨Or.inr rfl, ⟨Or.inl rfl, trivial⟩⟩⟩ ?_
        exact k
      · rw [if_neg hc203] at hF
        refine ev_iload_n (i := 1) 16 dX8_signatures_15 rfl rfl rfl ?_
        refine ev_aload_n (i := 0) 17 dX8_signatures_16 rfl rfl rfl ?_
        refine ev_iload_n (i := 2) 18 dX8_signatures_17 rfl rfl rfl ?_
        obtain ⟨x2, hx2, hF⟩ := tv_bind hF
        refine ev_callVi (i := 125) 21 [.int l2] [.int l1] dX8_signatures_18 rfl okV_X8_41 rfl rfl (Nat.le_of_ble_eq_true rfl) (Nat.le_of_ble_eq_true rfl) HPg_125 rfl (Nat.le_of_ble_eq_true rfl) (Nat.le_of_ble_eq_true rfl) (R_X8_isPresent hx2) ?_
        refine ev_if_eq 42 24 dX8_signatures_21 rfl rfl (fun hc204 => ?_) (fun hc204 => ?_)
        · rw [if_pos hc204] at hF
          refine ev_iconst 43 dX8_signatures_42 rfl kI_0 ?_
          refine ev_iadd 44 dX8_signatures_43 rfl ?_
          refine ev_istore_n (i := 1) (L2 := [.ref 125, .int (l1 + 0), .int l2]) 45 dX8_signatures_44 rfl rfl (Nat.le_of_ble_eq_true rfl) rfl ?_
          refine ev_iinc (L2 := [.ref 125, .int (l1 + 0), .int (l2 + 1)]) 48 dX8_signatures_45 rfl rfl (kA_1 _) (Nat.le_of_ble_eq_true rfl) rfl ?_
          refine ev_goto 4 dX8_signatures_48 rfl ?_
          exact ih _ _ _ hF k
        · rw [if_neg hc204] at hF
          refine ev_aload_n (i := 0) 25 dX8_signatures_24 rfl rfl rfl ?_
          refine ev_getfield 28 dX8_signatures_25 rfl okf_X8_7 (Nat.le_of_ble_eq_true rfl) HPg_125 rfl ?_
          refine ev_iload_n (i := 2) 29 dX8_signatures_28 rfl rfl rfl ?_
          refine ev_iconst 30 dX8_signatures_29 rfl kI_3 ?_
          refine ev_callSi 33 [.int l2, .int 3] [.ref 126, .int l1] dX8_signatures_30 rfl okS_X8_27 rfl rfl (Nat.le_of_ble_eq_true rfl) rfl (Nat.le_of_ble_eq_true rfl) (Nat.le_of_ble_eq_true rfl) (R_X8_at rfl) ?_
          obtain ⟨x3, hx3, hF⟩ := tv_bind hF
          refine ev_iaload 34 dX8_signatures_33 rfl (Nat.le_of_ble_eq_true rfl) HPg_126 hx3 ?_
          refine ev_iconst 35 dX8_signatures_34 rfl kI_1 ?_
          refine ev_icmp_ne 42 38 dX8_signatures_35 rfl rfl (fun hc205 => ?_) (fun hc205 => ?_)
          · rw [if_neg hc205] at hF
            refine ev_iconst 43 dX8_signatures_42 rfl kI_0 ?_
            refine ev_iadd 44 dX8_signatures_43 rfl ?_
            refine ev_istore_n (i := 1) (L2 := [.ref 125, .int (l1 + 0), .int l2]) 45 dX8_signatures_44 rfl rfl (Nat.le_of_ble_eq_true rfl) rfl ?_
            refine ev_iinc (L2 := [.ref 125, .int (l1 + 0), .int (l2 + 1)]) 48 dX8_signatures_45 rfl rfl (kA_1 _) (Nat.le_of_ble_eq_true rfl) rfl ?_
            refine ev_goto 4 dX8_signatures_48 rfl ?_
            exact ih _ _ _ hF k
          · rw [if_pos hc205] at hF
            refine ev_iconst 39 dX8_signatures_38 rfl kI_1 ?_
            refine ev_goto 43 dX8_signatures_39 rfl ?_
            refine ev_iadd 44 dX8_signatures_43 rfl ?_
            refine ev_istore_n (i := 1) (L2 := [.ref 125, .int (l1 + 1), .int l2]) 45 dX8_signatures_44 rfl rfl (Nat.le_of_ble_eq_true rfl) rfl ?_
            refine ev_iinc (L2 := [.ref 125, .int (l1 + 1), .int (l2 + 1)]) 48 dX8_signatures_45 rfl rfl (kA_1 _) (Nat.le_of_ble_eq_true rfl) rfl ?_
            refine ev_goto 4 dX8_signatures_48 rfl ?_
            exact ih _ _ _ hF k

set_option maxRecDepth 100000 in
set_option maxHeartbeats 4000000 in
theorem R_X8_signatures {g : tv_G} {l : Launch} {si : Nat → Int32} {sa : Nat → Nat → Int32} {hs : Nat → (Nat → Int32) × (Nat → Nat → Int32)} {tx : Nat → Int32} {tl : Int32} {hc : Int32} {hn : Int32} {v : Nat → Int32} {pa : Nat → Int32} {mt : Nat → Int32} {pm : Int32} {ty : Int32} {ra : Int32}  {p : Int32} (hF : F_X8_signatures v = some p) : tv_E g l yX8_signatures cX8_signatures 3 (some .int) 2 0 0 0 [.ref 125, .null, .null] [] (HP si sa hs tx tl hc hn v pa mt pm ty ra) (some (.int p)) (HP si sa hs tx tl hc hn v pa mt pm ty ra) := by
  unfold F_X8_signatures at hF
  refine ev_iconst 1 dX8_signatures_0 rfl kI_0 ?_
  refine ev_istore_n (i := 1) (L2 := [.ref 125, .int 0, .null]) 2 dX8_signatures_1 rfl rfl (Nat.le_of_ble_eq_true rfl) rfl ?_
  refine ev_iconst 3 dX8_signatures_2 rfl kI_0 ?_
  refine ev_istore_n (i := 2) (L2 := [.ref 125, .int 0, .int 0]) 4 dX8_signatures_3 rfl rfl (Nat.le_of_ble_eq_true rfl) rfl ?_
  obtain ⟨x4, hx4, hF⟩ := tv_bind hF
  refine R_X8_signatures_L4 _ _ _ _ hx4 ?_
  refine ev_iload_n (i := 1) 52 dX8_signatures_51 rfl rfl rfl ?_
  have hF := Option.some.inj hF
  subst hF
  exact ev_ireturn dX8_signatures_52 rfl rfl

set_option maxRecDepth 100000 in
set_option maxHeartbeats 4000000 in
theorem R_X8_of {g : tv_G} {l : Launch} {si : Nat → Int32} {sa : Nat → Nat → Int32} {hs : Nat → (Nat → Int32) × (Nat → Nat → Int32)} {tx : Nat → Int32} {tl : Int32} {hc : Int32} {hn : Int32} {v : Nat → Int32} {pa : Nat → Int32} {mt : Nat → Int32} {pm : Int32} {ty : Int32} {ra : Int32} {a0 : Int32} {a1 : Int32} {p : Int32} (hF : some (F_X8_of a0 a1) = some p) : tv_E g l yX8_of cX8_of 2 (some .int) 0 0 0 0 [.int a0, .int a1] [] (HP si sa hs tx tl hc hn v pa mt pm ty ra) (some (.int p)) (HP si sa hs tx tl hc hn v pa mt pm ty ra) := by
  unfold F_X8_of at hF
  refine ev_sipush 3 dX8_of_0 rfl kS_170 ?_
  refine ev_bipush 5 dX8_of_3 rfl kB_18 ?_
  refine ev_iload_n (i := 0) 6 dX8_of_5 rfl rfl rfl ?_
  refine ev_iconst 7 dX8_of_6 rfl kI_1 ?_
  refine ev_isub 8 dX8_of_7 rfl ?_
  refine ev_imul 9 dX8_of_8 rfl ?_
  refine ev_iadd 10 dX8_of_9 rfl ?_
  refine ev_iload_n (i := 1) 11 dX8_of_10 rfl rfl rfl ?_
  refine ev_iadd 12 dX8_of_11 rfl ?_
  have hF := Option.some.inj hF
  subst hF
  exact ev_ireturn dX8_of_12 rfl rfl

set_option maxRecDepth 100000 in
set_option maxHeartbeats 4000000 in
theorem R_X8_tells {g : tv_G} {l : Launch} {si : Nat → Int32} {sa : Nat → Nat → Int32} {hs : Nat → (Nat → Int32) × (Nat → Nat → Int32)} {tx : Nat → Int32} {tl : Int32} {hc : Int32} {hn : Int32} {v : Nat → Int32} {pa : Nat → Int32} {mt : Nat → Int32} {pm : Int32} {ty : Int32} {ra : Int32} {a1 : Int32} {a2 : Int32} {p : (Nat → Int32)} (hF : F_X8_tells v a1 a2 = some p) : tv_E g l yX8_tells cX8_tells 4 none 0 0 0 0 [.ref 125, .int a1, .int a2, .null] [] (HP si sa hs tx tl hc hn v pa mt pm ty ra) none (HP si sa hs tx tl hc hn p pa mt pm ty ra) := by
  unfold F_X8_tells at hF
  refine ev_sipush 3 dX8_tells_0 rfl kS_910 ?_
  refine ev_iconst 4 dX8_tells_3 rfl kI_3 ?_
  refine ev_aload_n (i := 0) 5 dX8_tells_4 rfl rfl rfl ?_
  refine ev_getfield 8 dX8_tells_5 rfl okf_X8_7 (Nat.le_of_ble_eq_true rfl) HPg_125 rfl ?_
  refine ev_bipush 10 dX8_tells_8 rfl kB_12 ?_
  obtain ⟨x1, hx1, hF⟩ := tv_bind hF
  refine ev_iaload 11 dX8_tells_10 rfl (Nat.le_of_ble_eq_true rfl) HPg_126 hx1 ?_
  refine ev_bipush 13 dX8_tells_11 rfl kB_20 ?_
  refine ev_irem 14 dX8_tells_13 rfl (by decide) ?_
  refine ev_imul 15 dX8_tells_14 rfl ?_
  refine ev_iadd 16 dX8_tells_15 rfl ?_
  refine ev_istore_n (i := 3) (L2 := [.ref 125, .int a1, .int a2, .int (910 + (3 * (x1 - x1 / 20 * 20)))]) 17 dX8_tells_16 rfl rfl (Nat.le_of_ble_eq_true rfl) rfl ?_
  refine ev_aload_n (i := 0) 18 dX8_tells_17 rfl rfl rfl ?_
  refine ev_getfield 21 dX8_tells_18 rfl okf_X8_7 (Nat.le_of_ble_eq_true rfl) HPg_125 rfl ?_
  refine ev_iload_n (i := 3) 22 dX8_tells_21 rfl rfl rfl ?_
  refine ev_aload_n (i := 0) 23 dX8_tells_22 rfl rfl rfl ?_
  refine ev_getfield 26 dX8_tells_23 rfl okf_X8_7 (Nat.le_of_ble_eq_true rfl) HPg_125 rfl ?_
  refine ev_bipush 28 dX8_tells_26 rfl kB_6 ?_
  obtain ⟨x2, hx2, hF⟩ := tv_bind hF
  refine ev_iaload 29 dX8_tells_28 rfl (Nat.le_of_ble_eq_true rfl) HPg_126 hx2 ?_
  obtain ⟨x3, hx3, hF⟩ := tv_bind hF
  refine ev_iastore 30 dX8_tells_29 rfl (Nat.le_of_ble_eq_true rfl) HPg_126 hx3 HPa_126 ?_
  refine ev_aload_n (i := 0) 31 dX8_tells_30 rfl rfl rfl ?_
  refine ev_getfield 34 dX8_tells_31 rfl okf_X8_7 (Nat.le_of_ble_eq_true rfl) HPg_125 rfl ?_
  refine ev_iload_n (i := 3) 35 dX8_tells_34 rfl rfl rfl ?_
  refine ev_iconst 36 dX8_tells_35 rfl kI_1 ?_
  refine ev_iadd 37 dX8_tells_36 rfl ?_
  refine ev_iload_n (i := 1) 38 dX8_tells_37 rfl rfl rfl ?_
  obtain ⟨x4, hx4, hF⟩ := tv_bind hF
  refine ev_iastore 39 dX8_tells_38 rfl (Nat.le_of_ble_eq_true rfl) HPg_126 hx4 HPa_126 ?_
  refine ev_aload_n (i := 0) 40 dX8_tells_39 rfl rfl rfl ?_
  refine ev_getfield 43 dX8_tells_40 rfl okf_X8_7 (Nat.le_of_ble_eq_true rfl) HPg_125 rfl ?_
  refine ev_iload_n (i := 3) 44 dX8_tells_43 rfl rfl rfl ?_
  refine ev_iconst 45 dX8_tells_44 rfl kI_2 ?_
  refine ev_iadd 46 dX8_tells_45 rfl ?_
  refine ev_iload_n (i := 2) 47 dX8_tells_46 rfl rfl rfl ?_
  obtain ⟨x5, hx5, hF⟩ := tv_bind hF
  refine ev_iastore 48 dX8_tells_47 rfl (Nat.le_of_ble_eq_true rfl) HPg_126 hx5 HPa_126 ?_
  refine ev_aload_n (i := 0) 49 dX8_tells_48 rfl rfl rfl ?_
  refine ev_getfield 52 dX8_tells_49 rfl okf_X8_7 (Nat.le_of_ble_eq_true rfl) HPg_125 rfl ?_
  refine ev_bipush 54 dX8_tells_52 rfl kB_12 ?_
  refine ev_dup2 55 dX8_tells_54 rfl rfl rfl ?_
  obtain ⟨x6, hx6, hF⟩ := tv_bind hF
  refine ev_iaload 56 dX8_tells_55 rfl (Nat.le_of_ble_eq_true rfl) HPg_126 hx6 ?_
  refine ev_iconst 57 dX8_tells_56 rfl kI_1 ?_
  refine ev_iadd 58 dX8_tells_57 rfl ?_
  obtain ⟨x7, hx7, hF⟩ := tv_bind hF
  refine ev_iastore 59 dX8_tells_58 rfl (Nat.le_of_ble_eq_true rfl) HPg_126 hx7 HPa_126 ?_
  have hF := Option.some.inj hF
  subst hF
  exact ev_return dX8_tells_59 rfl

set_option maxRecDepth 100000 in
set_option maxHeartbeats 4000000 in
theorem R_X8_grades_L4 {g : tv_G} {l : Launch} {si : Nat → Int32} {sa : Nat → Nat → Int32} {hs : Nat → (Nat → Int32) × (Nat → Nat → Int32)} {tx : Nat → Int32} {tl : Int32} {hc : Int32} {hn : Int32} {v : Nat → Int32} {pa : Nat → Int32} {mt : Nat → Int32} {pm : Int32} {ty : Int32} {ra : Int32} {l1 : Int32} {r : Option Value} {h' : tv_Hp} : ∀ (n : Nat) (l2 : Int32) (l3 : Int32)  (x : Int32), F_X8_grades_L4 v l1 n l2 l3 = some x → tv_E g l yX8_grades cX8_grades 4 (some .int) 1 0 0 34 [.null, .null, .int x, .null] [] (HP si sa hs tx tl hc hn v pa mt pm ty ra) r h' → tv_E g l yX8_grades cX8_grades 4 (some .int) 1 0 0 4 [.ref 125, .int l1, .int l2, .int l3] [] (HP si sa hs tx tl hc hn v pa mt pm ty ra) r h' := by
  intro n
  induction n with
  | zero => intro l2 l3 x hF k; cases hF
  | succ n ih =>
      intro l2 l3 x hF k
      rw [F_X8_grades_L4] at hF
      refine ev_iload_n (i := 3) 5 dX8_grades_4 rfl rfl rfl ?_
      refine ev_bipush 7 dX8_grades_5 rfl kB_10 ?_
      refine ev_icmp_ge 34 10 dX8_grades_7 rfl rfl (fun hc206 => ?_) (fun hc206 => ?_)
      · rw [if_pos hc206] at hF
        have hF := Option.some.inj hF
        subst hF
        refine ev_weak [.null, .null, .int l2, .null] ⟨Or.inl rfl, ⟨Or.inl rfl, ⟨Or.inr rfl, ⟨Or.inl rfl, trivial⟩⟩⟩⟩ ?_
        exact k
      · rw [if_neg hc206] at hF
        refine ev_iload_n (i := 2) 11 dX8_grades_10 rfl rfl rfl ?_
        refine ev_aload_n (i := 0) 12 dX8_grades_11 rfl rfl rfl ?_
        refine ev_getfield 15 dX8_grades_12 rfl okf_X8_7 (Nat.le_of_ble_eq_true rfl) HPg_125 rfl ?_
        refine ev_iload_n (i := 1) 16 dX8_grades_15 rfl rfl rfl ?_
        refine ev_bipush 18 dX8_grades_16 rfl kB_7 ?_
        refine ev_callSi 21 [.int l1, .int 7] [.ref 126, .int l2] dX8_grades_18 rfl okS_X8_31 rfl rfl (Nat.le_of_ble_eq_true rfl) rfl (Nat.le_of_ble_eq_true rfl) (Nat.le_of_ble_eq_true rfl) (R_X8_of rfl) ?_
        obtain ⟨x1, hx1, hF⟩ := tv_bind hF
        refine ev_iaload 22 dX8_grades_21 rfl (Nat.le_of_ble_eq_true rfl) HPg_126 hx1 ?_
        refine ev_iload_n (i := 3) 23 dX8_grades_22 rfl rfl rfl ?_
        refine ev_ishr 24 dX8_grades_23 rfl ?_
        refine ev_iconst 25 dX8_grades_24 rfl kI_1 ?_
        refine ev_iand 26 dX8_grades_25 rfl ?_
        refine ev_iadd 27 dX8_grades_26 rfl ?_
        refine ev_istore_n (i := 2) (L2 := [.ref 125, .int l1, .int (l2 + ((x1 >>> (l3 &&& 31)) &&& 1)), .int l3]) 28 dX8_grades_27 rfl rfl (Nat.le_of_ble_eq_true rfl) rfl ?_
        refine ev_iinc (L2 := [.ref 125, .int l1, .int (l2 + ((x1 >>> (l3 &&& 31)) &&& 1)), .int (l3 + 1)]) 31 dX8_grades_28 rfl rfl (kA_1 _) (Nat.le_of_ble_eq_true rfl) rfl ?_
        refine ev_goto 4 dX8_grades_31 rfl ?_
        exact ih _ _ _ hF k

set_option maxRecDepth 100000 in
set_option maxHeartbeats 4000000 in
theorem R_X8_grades {g : tv_G} {l : Launch} {si : Nat → Int32} {sa : Nat → Nat → Int32} {hs : Nat → (Nat → Int32) × (Nat → Nat → Int32)} {tx : Nat → Int32} {tl : Int32} {hc : Int32} {hn : Int32} {v : Nat → Int32} {pa : Nat → Int32} {mt : Nat → Int32} {pm : Int32} {ty : Int32} {ra : Int32} {a1 : Int32} {p : Int32} (hF : F_X8_grades v a1 = some p) : tv_E g l yX8_grades cX8_grades 4 (some .int) 1 0 0 0 [.ref 125, .int a1, .null, .null] [] (HP si sa hs tx tl hc hn v pa mt pm ty ra) (some (.int p)) (HP si sa hs tx tl hc hn v pa mt pm ty ra) := by
  unfold F_X8_grades at hF
  refine ev_iconst 1 dX8_grades_0 rfl kI_0 ?_
  refine ev_istore_n (i := 2) (L2 := [.ref 125, .int a1, .int 0, .null]) 2 dX8_grades_1 rfl rfl (Nat.le_of_ble_eq_true rfl) rfl ?_
  refine ev_iconst 3 dX8_grades_2 rfl kI_0 ?_
  refine ev_istore_n (i := 3) (L2 := [.ref 125, .int a1, .int 0, .int 0]) 4 dX8_grades_3 rfl rfl (Nat.le_of_ble_eq_true rfl) rfl ?_
  obtain ⟨x2, hx2, hF⟩ := tv_bind hF
  refine R_X8_grades_L4 _ _ _ _ hx2 ?_
  refine ev_iload_n (i := 2) 35 dX8_grades_34 rfl rfl rfl ?_
  have hF := Option.some.inj hF
  subst hF
  exact ev_ireturn dX8_grades_35 rfl rfl

set_option maxRecDepth 100000 in
set_option maxHeartbeats 4000000 in
theorem R_X8_scoreOf_L11 {g : tv_G} {l : Launch} {si : Nat → Int32} {sa : Nat → Nat → Int32} {hs : Nat → (Nat → Int32) × (Nat → Nat → Int32)} {tx : Nat → Int32} {tl : Int32} {hc : Int32} {hn : Int32} {v : Nat → Int32} {pa : Nat → Int32} {mt : Nat → Int32} {pm : Int32} {ty : Int32} {ra : Int32} {l1 : Int32} {l2 : Int32} {r : Option Value} {h' : tv_Hp} : ∀ (n : Nat) (l3 : Int32) (l4 : Int32)  (x : Int32), F_X8_scoreOf_L11 v l1 l2 n l3 l4 = some x → tv_E g l yX8_scoreOf cX8_scoreOf 5 (some .int) 2 0 0 65 [.ref 125, .int l1, .int l2, .int x, .null] [] (HP si sa hs tx tl hc hn v pa mt pm ty ra) r h' → tv_E g l yX8_scoreOf cX8_scoreOf 5 (some .int) 2 0 0 11 [.ref 125, .int l1, .int l2, .int l3, .int l4] [] (HP si sa hs tx tl hc hn v pa mt pm ty ra) r h' := by
  intro n
  induction n with
  | zero => intro l3 l4 x hF k; cases hF
  | succ n ih =>
      intro l3 l4 x hF k
      rw [F_X8_scoreOf_L11] at hF
      refine ev_iload 13 dX8_scoreOf_11 rfl rfl ?_
      refine ev_bipush 15 dX8_scoreOf_13 rfl kB_10 ?_
      refine ev_icmp_ge 65 18 dX8_scoreOf_15 rfl rfl (fun hc207 => ?_) (fun hc207 => ?_)
      · rw [if_pos hc207] at hF
        have hF := Option.some.inj hF
        subst hF
        refine ev_weak [.ref 125, .int l1, .int l2, .int l3, .null] ⟨Or.inr rfl, ⟨Or.inr rfl, ⟨Or.inr rfl, ⟨Or.inr rfl, ⟨Or.inl rfl, trivial⟩⟩⟩⟩⟩ ?_
        exact k
      · rw [if_neg hc207] at hF
        refine ev_iload_n (i := 3) 19 dX8_scoreOf_18 rfl rfl rfl ?_
        refine ev_aload_n (i := 0) 20 dX8_scoreOf_19 rfl rfl rfl ?_
        refine ev_getfield 23 dX8_scoreOf_20 rfl okf_X8_7 (Nat.le_of_ble_eq_true rfl) HPg_125 rfl ?_
        refine ev_iload_n (i := 1) 24 dX8_scoreOf_23 rfl rfl rfl ?_
        refine ev_bipush 26 dX8_scoreOf_24 rfl kB_7 ?_
        refine ev_callSi 29 [.int l1, .int 7] [.ref 126, .int l3] dX8_scoreOf_26 rfl okS_X8_31 rfl rfl (Nat.le_of_ble_eq_true rfl) rfl (Nat.le_of_ble_eq_true rfl) (Nat.le_of_ble_eq_true rfl) (R_X8_of rfl) ?_
        obtain ⟨x2, hx2, hF⟩ := tv_bind hF
        refine ev_iaload 30 dX8_scoreOf_29 rfl (Nat.le_of_ble_eq_true rfl) HPg_126 hx2 ?_
        refine ev_iload 32 dX8_scoreOf_30 rfl rfl ?_
        refine ev_ishr 33 dX8_scoreOf_32 rfl ?_
        refine ev_iconst 34 dX8_scoreOf_33 rfl kI_1 ?_
        refine ev_iand 35 dX8_scoreOf_34 rfl ?_
        refine ev_iconst 36 dX8_scoreOf_35 rfl kI_1 ?_
        refine ev_icmp_ne 56 39 dX8_scoreOf_36 rfl rfl (fun hc208 => ?_) (fun hc208 => ?_)
        · rw [if_neg hc208] at hF
          refine ev_iconst 57 dX8_scoreOf_56 rfl kI_0 ?_
          refine ev_iadd 58 dX8_scoreOf_57 rfl ?_
          refine ev_istore_n (i := 3) (L2 := [.ref 125, .int l1, .int l2, .int (l3 + 0), .int l4]) 59 dX8_scoreOf_58 rfl rfl (Nat.le_of_ble_eq_true rfl) rfl ?_
          refine ev_iinc (L2 := [.ref 125, .int l1, .int l2, .int (l3 + 0), .int (l4 + 1)]) 62 dX8_scoreOf_59 rfl rfl (kA_1 _) (Nat.le_of_ble_eq_true rfl) rfl ?_
          refine ev_goto 11 dX8_scoreOf_62 rfl ?_
          exact ih _ _ _ hF k
        · rw [if_pos hc208] at hF
          refine ev_aload_n (i := 0) 40 dX8_scoreOf_39 rfl rfl rfl ?_
          refine ev_getfield 43 dX8_scoreOf_40 rfl okf_X8_7 (Nat.le_of_ble_eq_true rfl) HPg_125 rfl ?_
          refine ev_iload_n (i := 1) 44 dX8_scoreOf_43 rfl rfl rfl ?_
          refine ev_bipush 46 dX8_scoreOf_44 rfl kB_8 ?_
          refine ev_iload 48 dX8_scoreOf_46 rfl rfl ?_
          refine ev_iadd 49 dX8_scoreOf_48 rfl ?_
          refine ev_callSi 52 [.int l1, .int (8 + l4)] [.ref 126, .int l3] dX8_scoreOf_49 rfl okS_X8_31 rfl rfl (Nat.le_of_ble_eq_true rfl) rfl (Nat.le_of_ble_eq_true rfl) (Nat.le_of_ble_eq_true rfl) (R_X8_of rfl) ?_
          obtain ⟨x3, hx3, hF⟩ := tv_bind hF
          refine ev_iaload 53 dX8_scoreOf_52 rfl (Nat.le_of_ble_eq_true rfl) HPg_126 hx3 ?_
          refine ev_goto 57 dX8_scoreOf_53 rfl ?_
          refine ev_iadd 58 dX8_scoreOf_57 rfl ?_
          refine ev_istore_n (i := 3) (L2 := [.ref 125, .int l1, .int l2, .int (l3 + x3), .int l4]) 59 dX8_scoreOf_58 rfl rfl (Nat.le_of_ble_eq_true rfl) rfl ?_
          refine ev_iinc (L2 := [.ref 125, .int l1, .int l2, .int (l3 + x3), .int (l4 + 1)]) 62 dX8_scoreOf_59 rfl rfl (kA_1 _) (Nat.le_of_ble_eq_true rfl) rfl ?_
          refine ev_goto 11 dX8_scoreOf_62 rfl ?_
          exact ih _ _ _ hF k

set_option maxRecDepth 100000 in
set_option maxHeartbeats 4000000 in
theorem R_X8_scoreOf {g : tv_G} {l : Launch} {si : Nat → Int32} {sa : Nat → Nat → Int32} {hs : Nat → (Nat → Int32) × (Nat → Nat → Int32)} {tx : Nat → Int32} {tl : Int32} {hc : Int32} {hn : Int32} {v : Nat → Int32} {pa : Nat → Int32} {mt : Nat → Int32} {pm : Int32} {ty : Int32} {ra : Int32} {a1 : Int32} {p : Int32} (hF : F_X8_scoreOf v a1 = some p) : tv_E g l yX8_scoreOf cX8_scoreOf 5 (some .int) 2 0 0 0 [.ref 125, .int a1, .null, .null, .null] [] (HP si sa hs tx tl hc hn v pa mt pm ty ra) (some (.int p)) (HP si sa hs tx tl hc hn v pa mt pm ty ra) := by
  unfold F_X8_scoreOf at hF
  refine ev_aload_n (i := 0) 1 dX8_scoreOf_0 rfl rfl rfl ?_
  refine ev_iload_n (i := 1) 2 dX8_scoreOf_1 rfl rfl rfl ?_
  obtain ⟨x1, hx1, hF⟩ := tv_bind hF
  refine ev_callVi (i := 125) 5 [.int a1] [] dX8_scoreOf_2 rfl okV_X8_34 rfl rfl (Nat.le_of_ble_eq_true rfl) (Nat.le_of_ble_eq_true rfl) HPg_125 rfl (Nat.le_of_ble_eq_true rfl) (Nat.le_of_ble_eq_true rfl) (R_X8_grades hx1) ?_
  refine ev_istore_n (i := 2) (L2 := [.ref 125, .int a1, .int x1, .null, .null]) 6 dX8_scoreOf_5 rfl rfl (Nat.le_of_ble_eq_true rfl) rfl ?_
  refine ev_iconst 7 dX8_scoreOf_6 rfl kI_0 ?_
  refine ev_istore_n (i := 3) (L2 := [.ref 125, .int a1, .int x1, .int 0, .null]) 8 dX8_scoreOf_7 rfl rfl (Nat.le_of_ble_eq_true rfl) rfl ?_
  refine ev_iconst 9 dX8_scoreOf_8 rfl kI_0 ?_
  refine ev_istore (L2 := [.ref 125, .int a1, .int x1, .int 0, .int 0]) 11 dX8_scoreOf_9 rfl (Nat.le_of_ble_eq_true rfl) rfl ?_
  obtain ⟨x4, hx4, hF⟩ := tv_bind hF
  refine R_X8_scoreOf_L11 _ _ _ _ hx4 ?_
  refine ev_iload_n (i := 2) 66 dX8_scoreOf_65 rfl rfl rfl ?_
  obtain ⟨x6, hBx6, hF⟩ := tv_bind hF
  have Jx6 : tv_E g l yX8_scoreOf cX8_scoreOf 5 (some .int) 2 0 0 80 [.ref 125, .int a1, .null, .null, .null] [.int x6] (HP si sa hs tx tl hc hn v pa mt pm ty ra) (some (.int p)) (HP si sa hs tx tl hc hn v pa mt pm ty ra) := by
    refine ev_iconst 81 dX8_scoreOf_80 rfl kI_5 ?_
    refine ev_aload_n (i := 0) 82 dX8_scoreOf_81 rfl rfl rfl ?_
    refine ev_getfield 85 dX8_scoreOf_82 rfl okf_X8_7 (Nat.le_of_ble_eq_true rfl) HPg_125 rfl ?_
    refine ev_iload_n (i := 1) 86 dX8_scoreOf_85 rfl rfl rfl ?_
    refine ev_iconst 87 dX8_scoreOf_86 rfl kI_4 ?_
    refine ev_callSi 90 [.int a1, .int 4] [.ref 126, .int 5, .int x6] dX8_scoreOf_87 rfl okS_X8_31 rfl rfl (Nat.le_of_ble_eq_true rfl) rfl (Nat.le_of_ble_eq_true rfl) (Nat.le_of_ble_eq_true rfl) (R_X8_of rfl) ?_
    obtain ⟨x7, hx7, hF⟩ := tv_bind hF
    refine ev_iaload 91 dX8_scoreOf_90 rfl (Nat.le_of_ble_eq_true rfl) HPg_126 hx7 ?_
    refine ev_imul 92 dX8_scoreOf_91 rfl ?_
    refine ev_iadd 93 dX8_scoreOf_92 rfl ?_
    refine ev_bipush 95 dX8_scoreOf_93 rfl kB_25 ?_
    refine ev_aload_n (i := 0) 96 dX8_scoreOf_95 rfl rfl rfl ?_
    refine ev_getfield 99 dX8_scoreOf_96 rfl okf_X8_7 (Nat.le_of_ble_eq_true rfl) HPg_125 rfl ?_
    refine ev_iload_n (i := 1) 100 dX8_scoreOf_99 rfl rfl rfl ?_
    refine ev_iconst 101 dX8_scoreOf_100 rfl kI_5 ?_
    refine ev_callSi 104 [.int a1, .int 5] [.ref 126, .int 25, .int (x6 + (5 * x7))] dX8_scoreOf_101 rfl okS_X8_31 rfl rfl (Nat.le_of_ble_eq_true rfl) rfl (Nat.le_of_ble_eq_true rfl) (Nat.le_of_ble_eq_true rfl) (R_X8_of rfl) ?_
    obtain ⟨x8, hx8, hF⟩ := tv_bind hF
    refine ev_iaload 105 dX8_scoreOf_104 rfl (Nat.le_of_ble_eq_true rfl) HPg_126 hx8 ?_
    refine ev_imul 106 dX8_scoreOf_105 rfl ?_
    refine ev_isub 107 dX8_scoreOf_106 rfl ?_
    refine ev_istore (L2 := [.ref 125, .int a1, .null, .null, .int ((x6 + (5 * x7)) - (25 * x8))]) 109 dX8_scoreOf_107 rfl (Nat.le_of_ble_eq_true rfl) rfl ?_
    refine ev_iload 111 dX8_scoreOf_109 rfl rfl ?_
    refine ev_if_ge 118 114 dX8_scoreOf_111 rfl rfl (fun hc209 => ?_) (fun hc209 => ?_)
    · rw [if_pos hc209] at hF
      refine ev_iload 120 dX8_scoreOf_118 rfl rfl ?_
      refine ev_bipush 122 dX8_scoreOf_120 rfl kB_100 ?_
      refine ev_icmp_le 130 125 dX8_scoreOf_122 rfl rfl (fun hc210 => ?_) (fun hc210 => ?_)
      · rw [if_pos hc210] at hF
        refine ev_iload 132 dX8_scoreOf_130 rfl rfl ?_
        have hF := Option.some.inj hF
        subst hF
        exact ev_ireturn dX8_scoreOf_132 rfl rfl
      · rw [if_neg hc210] at hF
        refine ev_bipush 127 dX8_scoreOf_125 rfl kB_100 ?_
        refine ev_goto 132 dX8_scoreOf_127 rfl ?_
        have hF := Option.some.inj hF
        subst hF
        exact ev_ireturn dX8_scoreOf_132 rfl rfl
    · rw [if_neg hc209] at hF
      refine ev_iconst 115 dX8_scoreOf_114 rfl kI_0 ?_
      refine ev_goto 132 dX8_scoreOf_115 rfl ?_
      have hF := Option.some.inj hF
      subst hF
      exact ev_ireturn dX8_scoreOf_132 rfl rfl
  clear hF
  refine ev_if_ne 74 69 dX8_scoreOf_66 rfl rfl (fun hc211 => ?_) (fun hc211 => ?_)
  · rw [if_neg hc211] at hBx6
    refine ev_bipush 76 dX8_scoreOf_74 rfl kB_10 ?_
    refine ev_iload_n (i := 3) 77 dX8_scoreOf_76 rfl rfl rfl ?_
    refine ev_imul 78 dX8_scoreOf_77 rfl ?_
    refine ev_iload_n (i := 2) 79 dX8_scoreOf_78 rfl rfl rfl ?_
    by_cases hz5 : x1 = 0
    · rw [if_pos hz5] at hBx6; cases hBx6
    rw [if_neg hz5] at hBx6
    refine ev_idiv 80 dX8_scoreOf_79 rfl hz5 ?_
    have hBx6 := Option.some.inj hBx6
    subst hBx6
    refine ev_weak [.ref 125, .int a1, .null, .null, .null] ⟨Or.inr rfl, ⟨Or.inr rfl, ⟨Or.inl rfl, ⟨Or.inl rfl, ⟨Or.inl rfl, trivial⟩⟩⟩⟩⟩ ?_
    exact Jx6
  · rw [if_pos hc211] at hBx6
    refine ev_bipush 71 dX8_scoreOf_69 rfl kB_50 ?_
    refine ev_goto 80 dX8_scoreOf_71 rfl ?_
    have hBx6 := Option.some.inj hBx6
    subst hBx6
    refine ev_weak [.ref 125, .int a1, .null, .null, .null] ⟨Or.inr rfl, ⟨Or.inr rfl, ⟨Or.inl rfl, ⟨Or.inl rfl, ⟨Or.inl rfl, trivial⟩⟩⟩⟩⟩ ?_
    exact Jx6

set_option maxRecDepth 100000 in
set_option maxHeartbeats 4000000 in
theorem R_X8_reputation_L13 {g : tv_G} {l : Launch} {si : Nat → Int32} {sa : Nat → Nat → Int32} {hs : Nat → (Nat → Int32) × (Nat → Nat → Int32)} {tx : Nat → Int32} {tl : Int32} {hc : Int32} {hn : Int32} {v : Nat → Int32} {pa : Nat → Int32} {mt : Nat → Int32} {pm : Int32} {ty : Int32} {ra : Int32} {l1 : Int32} {r : Option Value} {h' : tv_Hp} : ∀ (n : Nat) (l2 : Int32) (l3 : Int32) (l4 : Int32)  (x : Int32 × Int32), F_X8_reputation_L13 v l1 n l2 l3 l4 = some x → tv_E g l yX8_reputation cX8_reputation 5 (some .int) 3 0 0 78 [.null, .null, .int x.1, .int x.2, .null] [] (HP si sa hs tx tl hc hn v pa mt pm ty ra) r h' → tv_E g l yX8_reputation cX8_reputation 5 (some .int) 3 0 0 13 [.ref 125, .int l1, .int l2, .int l3, .int l4] [] (HP si sa hs tx tl hc hn v pa mt pm ty ra) r h' := by
  intro n
  induction n with
  | zero => intro l2 l3 l4 x hF k; cases hF
  | succ n ih =>
      intro l2 l3 l4 x hF k
      rw [F_X8_reputation_L13] at hF
      refine ev_iload 15 dX8_reputation_13 rfl rfl ?_
      refine ev_iconst 16 dX8_reputation_15 rfl kI_1 ?_
      refine ev_icmp_lt 78 19 dX8_reputation_16 rfl rfl (fun hc212 => ?_) (fun hc212 => ?_)
      · rw [if_pos hc212] at hF
        have hF := Option.some.inj hF
        subst hF
        refine ev_weak [.null, .null, .int l2, .int l3, .null] ⟨Or.inl rfl, ⟨Or.inl rfl, ⟨Or.inr rfl, ⟨Or.inr rfl, ⟨Or.inl rfl, trivial⟩⟩⟩⟩⟩ ?_
        exact k
      · rw [if_neg hc212] at hF
        refine ev_iload_n (i := 2) 20 dX8_reputation_19 rfl rfl rfl ?_
        refine ev_aload_n (i := 0) 21 dX8_reputation_20 rfl rfl rfl ?_
        refine ev_getfield 24 dX8_reputation_21 rfl okf_X8_7 (Nat.le_of_ble_eq_true rfl) HPg_125 rfl ?_
        refine ev_iconst 25 dX8_reputation_24 rfl kI_5 ?_
        obtain ⟨x2, hx2, hF⟩ := tv_bind hF
        refine ev_iaload 26 dX8_reputation_25 rfl (Nat.le_of_ble_eq_true rfl) HPg_126 hx2 ?_
        refine ev_icmp_ge 78 29 dX8_reputation_26 rfl rfl (fun hc213 => ?_) (fun hc213 => ?_)
        · rw [if_pos hc213] at hF
          have hF := Option.some.inj hF
          subst hF
          refine ev_weak [.null, .null, .int l2, .int l3, .null] ⟨Or.inl rfl, ⟨Or.inl rfl, ⟨Or.inr rfl, ⟨Or.inr rfl, ⟨Or.inl rfl, trivial⟩⟩⟩⟩⟩ ?_
          exact k
        · rw [if_neg hc213] at hF
          refine ev_aload_n (i := 0) 30 dX8_reputation_29 rfl rfl rfl ?_
          refine ev_getfield 33 dX8_reputation_30 rfl okf_X8_7 (Nat.le_of_ble_eq_true rfl) HPg_125 rfl ?_
          refine ev_iload 35 dX8_reputation_33 rfl rfl ?_
          refine ev_iconst 36 dX8_reputation_35 rfl kI_0 ?_
          refine ev_callSi 39 [.int l4, .int 0] [.ref 126] dX8_reputation_36 rfl okS_X8_31 rfl rfl (Nat.le_of_ble_eq_true rfl) rfl (Nat.le_of_ble_eq_true rfl) (Nat.le_of_ble_eq_true rfl) (R_X8_of rfl) ?_
          obtain ⟨x3, hx3, hF⟩ := tv_bind hF
          refine ev_iaload 40 dX8_reputation_39 rfl (Nat.le_of_ble_eq_true rfl) HPg_126 hx3 ?_
          refine ev_iload_n (i := 1) 41 dX8_reputation_40 rfl rfl rfl ?_
          refine ev_icmp_ne 72 44 dX8_reputation_41 rfl rfl (fun hc214 => ?_) (fun hc214 => ?_)
          · rw [if_neg hc214] at hF
            refine ev_iinc (L2 := [.ref 125, .int l1, .int l2, .int l3, .int (l4 + (-1))]) 75 dX8_reputation_72 rfl rfl (kA_m1 _) (Nat.le_of_ble_eq_true rfl) rfl ?_
            refine ev_goto 13 dX8_reputation_75 rfl ?_
            exact ih _ _ _ _ hF k
          · rw [if_pos hc214] at hF
            refine ev_aload_n (i := 0) 45 dX8_reputation_44 rfl rfl rfl ?_
            refine ev_getfield 48 dX8_reputation_45 rfl okf_X8_7 (Nat.le_of_ble_eq_true rfl) HPg_125 rfl ?_
            refine ev_iload 50 dX8_reputation_48 rfl rfl ?_
            refine ev_iconst 51 dX8_reputation_50 rfl kI_3 ?_
            refine ev_callSi 54 [.int l4, .int 3] [.ref 126] dX8_reputation_51 rfl okS_X8_31 rfl rfl (Nat.le_of_ble_eq_true rfl) rfl (Nat.le_of_ble_eq_true rfl) (Nat.le_of_ble_eq_true rfl) (R_X8_of rfl) ?_
            obtain ⟨x4, hx4, hF⟩ := tv_bind hF
            refine ev_iaload 55 dX8_reputation_54 rfl (Nat.le_of_ble_eq_true rfl) HPg_126 hx4 ?_
            refine ev_bipush 57 dX8_reputation_55 rfl kB_m9 ?_
            refine ev_icmp_eq 72 60 dX8_reputation_57 rfl rfl (fun hc215 => ?_) (fun hc215 => ?_)
            · rw [if_pos hc215] at hF
              refine ev_iinc (L2 := [.ref 125, .int l1, .int l2, .int l3, .int (l4 + (-1))]) 75 dX8_reputation_72 rfl rfl (kA_m1 _) (Nat.le_of_ble_eq_true rfl) rfl ?_
              refine ev_goto 13 dX8_reputation_75 rfl ?_
              exact ih _ _ _ _ hF k
            · rw [if_neg hc215] at hF
              refine ev_iload_n (i := 3) 61 dX8_reputation_60 rfl rfl rfl ?_
              refine ev_aload_n (i := 0) 62 dX8_reputation_61 rfl rfl rfl ?_
              refine ev_iload 64 dX8_reputation_62 rfl rfl ?_
              obtain ⟨x5, hx5, hF⟩ := tv_bind hF
              refine ev_callVi (i := 125) 67 [.int l4] [.int l3] dX8_reputation_64 rfl okV_X8_38 rfl rfl (Nat.le_of_ble_eq_true rfl) (Nat.le_of_ble_eq_true rfl) HPg_125 rfl (Nat.le_of_ble_eq_true rfl) (Nat.le_of_ble_eq_true rfl) (R_X8_scoreOf hx5) ?_
              refine ev_iadd 68 dX8_reputation_67 rfl ?_
              refine ev_istore_n (i := 3) (L2 := [.ref 125, .int l1, .int l2, .int (l3 + x5), .int l4]) 69 dX8_reputation_68 rfl rfl (Nat.le_of_ble_eq_true rfl) rfl ?_
              refine ev_iinc (L2 := [.ref 125, .int l1, .int (l2 + 1), .int (l3 + x5), .int l4]) 72 dX8_reputation_69 rfl rfl (kA_1 _) (Nat.le_of_ble_eq_true rfl) rfl ?_
              refine ev_iinc (L2 := [.ref 125, .int l1, .int (l2 + 1), .int (l3 + x5), .int (l4 + (-1))]) 75 dX8_reputation_72 rfl rfl (kA_m1 _) (Nat.le_of_ble_eq_true rfl) rfl ?_
              refine ev_goto 13 dX8_reputation_75 rfl ?_
              exact ih _ _ _ _ hF k

set_option maxRecDepth 100000 in
set_option maxHeartbeats 4000000 in
theorem R_X8_reputation {g : tv_G} {l : Launch} {si : Nat → Int32} {sa : Nat → Nat → Int32} {hs : Nat → (Nat → Int32) × (Nat → Nat → Int32)} {tx : Nat → Int32} {tl : Int32} {hc : Int32} {hn : Int32} {v : Nat → Int32} {pa : Nat → Int32} {mt : Nat → Int32} {pm : Int32} {ty : Int32} {ra : Int32} {a1 : Int32} {p : Int32} (hF : F_X8_reputation v a1 = some p) : tv_E g l yX8_reputation cX8_reputation 5 (some .int) 3 0 0 0 [.ref 125, .int a1, .null, .null, .null] [] (HP si sa hs tx tl hc hn v pa mt pm ty ra) (some (.int p)) (HP si sa hs tx tl hc hn v pa mt pm ty ra) := by
  unfold F_X8_reputation at hF
  refine ev_iconst 1 dX8_reputation_0 rfl kI_0 ?_
  refine ev_istore_n (i := 2) (L2 := [.ref 125, .int a1, .int 0, .null, .null]) 2 dX8_reputation_1 rfl rfl (Nat.le_of_ble_eq_true rfl) rfl ?_
  refine ev_iconst 3 dX8_reputation_2 rfl kI_0 ?_
  refine ev_istore_n (i := 3) (L2 := [.ref 125, .int a1, .int 0, .int 0, .null]) 4 dX8_reputation_3 rfl rfl (Nat.le_of_ble_eq_true rfl) rfl ?_
  refine ev_aload_n (i := 0) 5 dX8_reputation_4 rfl rfl rfl ?_
  refine ev_getfield 8 dX8_reputation_5 rfl okf_X8_7 (Nat.le_of_ble_eq_true rfl) HPg_125 rfl ?_
  refine ev_bipush 10 dX8_reputation_8 rfl kB_9 ?_
  obtain ⟨x1, hx1, hF⟩ := tv_bind hF
  refine ev_iaload 11 dX8_reputation_10 rfl (Nat.le_of_ble_eq_true rfl) HPg_126 hx1 ?_
  refine ev_istore (L2 := [.ref 125, .int a1, .int 0, .int 0, .int x1]) 13 dX8_reputation_11 rfl (Nat.le_of_ble_eq_true rfl) rfl ?_
  obtain ⟨x6, hx6, hF⟩ := tv_bind hF
  refine R_X8_reputation_L13 _ _ _ _ _ hx6 ?_
  refine ev_iload_n (i := 2) 79 dX8_reputation_78 rfl rfl rfl ?_
  refine ev_if_ne 87 82 dX8_reputation_79 rfl rfl (fun hc216 => ?_) (fun hc216 => ?_)
  · rw [if_neg hc216] at hF
    refine ev_iload_n (i := 3) 88 dX8_reputation_87 rfl rfl rfl ?_
    refine ev_iload_n (i := 2) 89 dX8_reputation_88 rfl rfl rfl ?_
    by_cases hz7 : x6.1 = 0
    · rw [if_pos hz7] at hF; cases hF
    rw [if_neg hz7] at hF
    refine ev_idiv 90 dX8_reputation_89 rfl hz7 ?_
    have hF := Option.some.inj hF
    subst hF
    exact ev_ireturn dX8_reputation_90 rfl rfl
  · rw [if_pos hc216] at hF
    refine ev_bipush 84 dX8_reputation_82 rfl kB_50 ?_
    refine ev_goto 90 dX8_reputation_84 rfl ?_
    have hF := Option.some.inj hF
    subst hF
    exact ev_ireturn dX8_reputation_90 rfl rfl

set_option maxRecDepth 100000 in
set_option maxHeartbeats 4000000 in
theorem R_X8_led_L4 {g : tv_G} {l : Launch} {si : Nat → Int32} {sa : Nat → Nat → Int32} {hs : Nat → (Nat → Int32) × (Nat → Nat → Int32)} {tx : Nat → Int32} {tl : Int32} {hc : Int32} {hn : Int32} {v : Nat → Int32} {pa : Nat → Int32} {mt : Nat → Int32} {pm : Int32} {ty : Int32} {ra : Int32} {l1 : Int32} {r : Option Value} {h' : tv_Hp} : ∀ (n : Nat) (l2 : Int32) (l3 : Int32)  (x : Int32), F_X8_led_L4 v l1 n l2 l3 = some x → tv_E g l yX8_led cX8_led 4 (some .int) 1 0 0 43 [.null, .null, .int x, .null] [] (HP si sa hs tx tl hc hn v pa mt pm ty ra) r h' → tv_E g l yX8_led cX8_led 4 (some .int) 1 0 0 4 [.ref 125, .int l1, .int l2, .int l3] [] (HP si sa hs tx tl hc hn v pa mt pm ty ra) r h' := by
  intro n
  induction n with
  | zero => intro l2 l3 x hF k; cases hF
  | succ n ih =>
      intro l2 l3 x hF k
      rw [F_X8_led_L4] at hF
      refine ev_iload_n (i := 3) 5 dX8_led_4 rfl rfl rfl ?_
      refine ev_aload_n (i := 0) 6 dX8_led_5 rfl rfl rfl ?_
      refine ev_getfield 9 dX8_led_6 rfl okf_X8_7 (Nat.le_of_ble_eq_true rfl) HPg_125 rfl ?_
      refine ev_bipush 11 dX8_led_9 rfl kB_9 ?_
      obtain ⟨x1, hx1, hF⟩ := tv_bind hF
      refine ev_iaload 12 dX8_led_11 rfl (Nat.le_of_ble_eq_true rfl) HPg_126 hx1 ?_
      refine ev_icmp_gt 43 15 dX8_led_12 rfl rfl (fun hc217 => ?_) (fun hc217 => ?_)
      · rw [if_pos hc217] at hF
        have hF := Option.some.inj hF
        subst hF
        refine ev_weak [.null, .null, .int l2, .null] ⟨Or.inl rfl, ⟨Or.inl rfl, ⟨Or.inr rfl, ⟨Or.inl rfl, trivial⟩⟩⟩⟩ ?_
        exact k
      · rw [if_neg hc217] at hF
        refine ev_iload_n (i := 2) 16 dX8_led_15 rfl rfl rfl ?_
        refine ev_aload_n (i := 0) 17 dX8_led_16 rfl rfl rfl ?_
        refine ev_getfield 20 dX8_led_17 rfl okf_X8_7 (Nat.le_of_ble_eq_true rfl) HPg_125 rfl ?_
        refine ev_iload_n (i := 3) 21 dX8_led_20 rfl rfl rfl ?_
        refine ev_iconst 22 dX8_led_21 rfl kI_0 ?_
        refine ev_callSi 25 [.int l3, .int 0] [.ref 126, .int l2] dX8_led_22 rfl okS_X8_31 rfl rfl (Nat.le_of_ble_eq_true rfl) rfl (Nat.le_of_ble_eq_true rfl) (Nat.le_of_ble_eq_true rfl) (R_X8_of rfl) ?_
        obtain ⟨x2, hx2, hF⟩ := tv_bind hF
        refine ev_iaload 26 dX8_led_25 rfl (Nat.le_of_ble_eq_true rfl) HPg_126 hx2 ?_
        refine ev_iload_n (i := 1) 27 dX8_led_26 rfl rfl rfl ?_
        refine ev_icmp_ne 34 30 dX8_led_27 rfl rfl (fun hc218 => ?_) (fun hc218 => ?_)
        · rw [if_neg hc218] at hF
          refine ev_iconst 35 dX8_led_34 rfl kI_0 ?_
          refine ev_iadd 36 dX8_led_35 rfl ?_
          refine ev_istore_n (i := 2) (L2 := [.ref 125, .int l1, .int (l2 + 0), .int l3]) 37 dX8_led_36 rfl rfl (Nat.le_of_ble_eq_true rfl) rfl ?_
          refine ev_iinc (L2 := [.ref 125, .int l1, .int (l2 + 0), .int (l3 + 1)]) 40 dX8_led_37 rfl rfl (kA_1 _) (Nat.le_of_ble_eq_true rfl) rfl ?_
          refine ev_goto 4 dX8_led_40 rfl ?_
          exact ih _ _ _ hF k
        · rw [if_pos hc218] at hF
          refine ev_iconst 31 dX8_led_30 rfl kI_1 ?_
          refine ev_goto 35 dX8_led_31 rfl ?_
          refine ev_iadd 36 dX8_led_35 rfl ?_
          refine ev_istore_n (i := 2) (L2 := [.ref 125, .int l1, .int (l2 + 1), .int l3]) 37 dX8_led_36 rfl rfl (Nat.le_of_ble_eq_true rfl) rfl ?_
          refine ev_iinc (L2 := [.ref 125, .int l1, .int (l2 + 1), .int (l3 + 1)]) 40 dX8_led_37 rfl rfl (kA_1 _) (Nat.le_of_ble_eq_true rfl) rfl ?_
          refine ev_goto 4 dX8_led_40 rfl ?_
          exact ih _ _ _ hF k

set_option maxRecDepth 100000 in
set_option maxHeartbeats 4000000 in
theorem R_X8_led {g : tv_G} {l : Launch} {si : Nat → Int32} {sa : Nat → Nat → Int32} {hs : Nat → (Nat → Int32) × (Nat → Nat → Int32)} {tx : Nat → Int32} {tl : Int32} {hc : Int32} {hn : Int32} {v : Nat → Int32} {pa : Nat → Int32} {mt : Nat → Int32} {pm : Int32} {ty : Int32} {ra : Int32} {a1 : Int32} {p : Int32} (hF : F_X8_led v a1 = some p) : tv_E g l yX8_led cX8_led 4 (some .int) 1 0 0 0 [.ref 125, .int a1, .null, .null] [] (HP si sa hs tx tl hc hn v pa mt pm ty ra) (some (.int p)) (HP si sa hs tx tl hc hn v pa mt pm ty ra) := by
  unfold F_X8_led at hF
  refine ev_iconst 1 dX8_led_0 rfl kI_0 ?_
  refine ev_istore_n (i := 2) (L2 := [.ref 125, .int a1, .int 0, .null]) 2 dX8_led_1 rfl rfl (Nat.le_of_ble_eq_true rfl) rfl ?_
  refine ev_iconst 3 dX8_led_2 rfl kI_1 ?_
  refine ev_istore_n (i := 3) (L2 := [.ref 125, .int a1, .int 0, .int 1]) 4 dX8_led_3 rfl rfl (Nat.le_of_ble_eq_true rfl) rfl ?_
  obtain ⟨x3, hx3, hF⟩ := tv_bind hF
  refine R_X8_led_L4 _ _ _ _ hx3 ?_
  refine ev_iload_n (i := 2) 44 dX8_led_43 rfl rfl rfl ?_
  have hF := Option.some.inj hF
  subst hF
  exact ev_ireturn dX8_led_44 rfl rfl

set_option maxRecDepth 100000 in
set_option maxHeartbeats 4000000 in
theorem R_X8_appoints_L5 {g : tv_G} {l : Launch} {si : Nat → Int32} {sa : Nat → Nat → Int32} {hs : Nat → (Nat → Int32) × (Nat → Nat → Int32)} {tx : Nat → Int32} {tl : Int32} {hc : Int32} {hn : Int32} {v : Nat → Int32} {pa : Nat → Int32} {mt : Nat → Int32} {pm : Int32} {ty : Int32} {ra : Int32} {l1 : Int32} {r : Option Value} {h' : tv_Hp} : ∀ (n : Nat) (l2 : Int32) (l3 : Int32)  (x : Int32), F_X8_appoints_L5 v l1 n l2 l3 = some x → tv_E g l yX8_appoints cX8_appoints 5 none 4 0 0 90 [.ref 125, .null, .int x, .null, .null] [] (HP si sa hs tx tl hc hn v pa mt pm ty ra) r h' → tv_E g l yX8_appoints cX8_appoints 5 none 4 0 0 5 [.ref 125, .int l1, .int l2, .int l3, .null] [] (HP si sa hs tx tl hc hn v pa mt pm ty ra) r h' := by
  intro n
  induction n with
  | zero => intro l2 l3 x hF k; cases hF
  | succ n ih =>
      intro l2 l3 x hF k
      rw [F_X8_appoints_L5] at hF
      refine ev_iload_n (i := 3) 6 dX8_appoints_5 rfl rfl rfl ?_
      refine ev_aload_n (i := 0) 7 dX8_appoints_6 rfl rfl rfl ?_
      refine ev_getfield 10 dX8_appoints_7 rfl okf_X8_7 (Nat.le_of_ble_eq_true rfl) HPg_125 rfl ?_
      refine ev_bipush 12 dX8_appoints_10 rfl kB_10 ?_
      obtain ⟨x1, hx1, hF⟩ := tv_bind hF
      refine ev_iaload 13 dX8_appoints_12 rfl (Nat.le_of_ble_eq_true rfl) HPg_126 hx1 ?_
      refine ev_icmp_ge 90 16 dX8_appoints_13 rfl rfl (fun hc219 => ?_) (fun hc219 => ?_)
      · rw [if_pos hc219] at hF
        have hF := Option.some.inj hF
        subst hF
        refine ev_weak [.ref 125, .null, .int l2, .null, .null] ⟨Or.inr rfl, ⟨Or.inl rfl, ⟨Or.inr rfl, ⟨Or.inl rfl, ⟨Or.inl rfl, trivial⟩⟩⟩⟩⟩ ?_
        exact k
      · rw [if_neg hc219] at hF
        refine ev_aload_n (i := 0) 17 dX8_appoints_16 rfl rfl rfl ?_
        refine ev_iload_n (i := 3) 18 dX8_appoints_17 rfl rfl rfl ?_
        obtain ⟨x2, hx2, hF⟩ := tv_bind hF
        refine ev_callVi (i := 125) 21 [.int l3] [] dX8_appoints_18 rfl okV_X8_41 rfl rfl (Nat.le_of_ble_eq_true rfl) (Nat.le_of_ble_eq_true rfl) HPg_125 rfl (Nat.le_of_ble_eq_true rfl) (Nat.le_of_ble_eq_true rfl) (R_X8_isPresent hx2) ?_
        refine ev_if_eq 84 24 dX8_appoints_21 rfl rfl (fun hc220 => ?_) (fun hc220 => ?_)
        · rw [if_pos hc220] at hF
          refine ev_iinc (L2 := [.ref 125, .int l1, .int l2, .int (l3 + 1), .null]) 87 dX8_appoints_84 rfl rfl (kA_1 _) (Nat.le_of_ble_eq_true rfl) rfl ?_
          refine ev_goto 5 dX8_appoints_87 rfl ?_
          exact ih _ _ _ hF k
        · rw [if_neg hc220] at hF
          refine ev_iload_n (i := 3) 25 dX8_appoints_24 rfl rfl rfl ?_
          refine ev_iload_n (i := 1) 26 dX8_appoints_25 rfl rfl rfl ?_
          refine ev_icmp_eq 84 29 dX8_appoints_26 rfl rfl (fun hc221 => ?_) (fun hc221 => ?_)
          · rw [if_pos hc221] at hF
            refine ev_iinc (L2 := [.ref 125, .int l1, .int l2, .int (l3 + 1), .null]) 87 dX8_appoints_84 rfl rfl (kA_1 _) (Nat.le_of_ble_eq_true rfl) rfl ?_
            refine ev_goto 5 dX8_appoints_87 rfl ?_
            exact ih _ _ _ hF k
          · rw [if_neg hc221] at hF
            refine ev_iload_n (i := 2) 30 dX8_appoints_29 rfl rfl rfl ?_
            obtain ⟨x5, hBx5, hF⟩ := tv_bind hF
            have Jx5 : tv_E g l yX8_appoints cX8_appoints 5 none 4 0 0 48 [.ref 125, .int l1, .int l2, .int l3, .null] [.int x5] (HP si sa hs tx tl hc hn v pa mt pm ty ra) r h' := by
              refine ev_istore (L2 := [.ref 125, .int l1, .int l2, .int l3, .int x5]) 50 dX8_appoints_48 rfl (Nat.le_of_ble_eq_true rfl) rfl ?_
              refine ev_iload 52 dX8_appoints_50 rfl rfl ?_
              obtain ⟨x8, hBx8, hF⟩ := tv_bind hF
              have Jx8 : tv_E g l yX8_appoints cX8_appoints 5 none 4 0 0 71 [.ref 125, .int l1, .int l2, .int l3, .null] [.int x8] (HP si sa hs tx tl hc hn v pa mt pm ty ra) r h' := by
                refine ev_istore (L2 := [.ref 125, .int l1, .int l2, .int l3, .int x8]) 73 dX8_appoints_71 rfl (Nat.le_of_ble_eq_true rfl) rfl ?_
                refine ev_iload 75 dX8_appoints_73 rfl rfl ?_
                refine ev_if_le 82 78 dX8_appoints_75 rfl rfl (fun hc222 => ?_) (fun hc222 => ?_)
                · rw [if_pos hc222] at hF
                  refine ev_iload_n (i := 2) 83 dX8_appoints_82 rfl rfl rfl ?_
                  refine ev_istore_n (i := 2) (L2 := [.ref 125, .int l1, .int l2, .int l3, .int x8]) 84 dX8_appoints_83 rfl rfl (Nat.le_of_ble_eq_true rfl) rfl ?_
                  refine ev_iinc (L2 := [.ref 125, .int l1, .int l2, .int (l3 + 1), .int x8]) 87 dX8_appoints_84 rfl rfl (kA_1 _) (Nat.le_of_ble_eq_true rfl) rfl ?_
                  refine ev_goto 5 dX8_appoints_87 rfl ?_
                  refine ev_weak [.ref 125, .int l1, .int l2, .int (l3 + 1), .null] ⟨Or.inr rfl, ⟨Or.inr rfl, ⟨Or.inr rfl, ⟨Or.inr rfl, ⟨Or.inl rfl, trivial⟩⟩⟩⟩⟩ ?_
                  exact ih _ _ _ hF k
                · rw [if_neg hc222] at hF
                  refine ev_iload_n (i := 3) 79 dX8_appoints_78 rfl rfl rfl ?_
                  refine ev_goto 83 dX8_appoints_79 rfl ?_
                  refine ev_istore_n (i := 2) (L2 := [.ref 125, .int l1, .int l3, .int l3, .int x8]) 84 dX8_appoints_83 rfl rfl (Nat.le_of_ble_eq_true rfl) rfl ?_
                  refine ev_iinc (L2 := [.ref 125, .int l1, .int l3, .int (l3 + 1), .int x8]) 87 dX8_appoints_84 rfl rfl (kA_1 _) (Nat.le_of_ble_eq_true rfl) rfl ?_
                  refine ev_goto 5 dX8_appoints_87 rfl ?_
                  refine ev_weak [.ref 125, .int l1, .int l3, .int (l3 + 1), .null] ⟨Or.inr rfl, ⟨Or.inr rfl, ⟨Or.inr rfl, ⟨Or.inr rfl, ⟨Or.inl rfl, trivial⟩⟩⟩⟩⟩ ?_
                  exact ih _ _ _ hF k
              clear hF
              refine ev_if_ne 69 55 dX8_appoints_52 rfl rfl (fun hc223 => ?_) (fun hc223 => ?_)
              · rw [if_neg hc223] at hBx8
                refine ev_iload 71 dX8_appoints_69 rfl rfl ?_
                have hBx8 := Option.some.inj hBx8
                subst hBx8
                refine ev_weak [.ref 125, .int l1, .int l2, .int l3, .null] ⟨Or.inr rfl, ⟨Or.inr rfl, ⟨Or.inr rfl, ⟨Or.inr rfl, ⟨Or.inl rfl, trivial⟩⟩⟩⟩⟩ ?_
                exact Jx8
              · rw [if_pos hc223] at hBx8
                refine ev_aload_n (i := 0) 56 dX8_appoints_55 rfl rfl rfl ?_
                refine ev_iload_n (i := 2) 57 dX8_appoints_56 rfl rfl rfl ?_
                obtain ⟨x6, hx6, hBx8⟩ := tv_bind hBx8
                refine ev_callVi (i := 125) 60 [.int l2] [] dX8_appoints_57 rfl okV_X8_45 rfl rfl (Nat.le_of_ble_eq_true rfl) (Nat.le_of_ble_eq_true rfl) HPg_125 rfl (Nat.le_of_ble_eq_true rfl) (Nat.le_of_ble_eq_true rfl) (R_X8_led hx6) ?_
                refine ev_aload_n (i := 0) 61 dX8_appoints_60 rfl rfl rfl ?_
                refine ev_iload_n (i := 3) 62 dX8_appoints_61 rfl rfl rfl ?_
                obtain ⟨x7, hx7, hBx8⟩ := tv_bind hBx8
                refine ev_callVi (i := 125) 65 [.int l3] [.int x6] dX8_appoints_62 rfl okV_X8_45 rfl rfl (Nat.le_of_ble_eq_true rfl) (Nat.le_of_ble_eq_true rfl) HPg_125 rfl (Nat.le_of_ble_eq_true rfl) (Nat.le_of_ble_eq_true rfl) (R_X8_led hx7) ?_
                refine ev_isub 66 dX8_appoints_65 rfl ?_
                refine ev_goto 71 dX8_appoints_66 rfl ?_
                have hBx8 := Option.some.inj hBx8
                subst hBx8
                refine ev_weak [.ref 125, .int l1, .int l2, .int l3, .null] ⟨Or.inr rfl, ⟨Or.inr rfl, ⟨Or.inr rfl, ⟨Or.inr rfl, ⟨Or.inl rfl, trivial⟩⟩⟩⟩⟩ ?_
                exact Jx8
            clear hF
            refine ev_if_ge 37 33 dX8_appoints_30 rfl rfl (fun hc224 => ?_) (fun hc224 => ?_)
            · rw [if_pos hc224] at hBx5
              refine ev_aload_n (i := 0) 38 dX8_appoints_37 rfl rfl rfl ?_
              refine ev_iload_n (i := 3) 39 dX8_appoints_38 rfl rfl rfl ?_
              obtain ⟨x3, hx3, hBx5⟩ := tv_bind hBx5
              refine ev_callVi (i := 125) 42 [.int l3] [] dX8_appoints_39 rfl okV_X8_48 rfl rfl (Nat.le_of_ble_eq_true rfl) (Nat.le_of_ble_eq_true rfl) HPg_125 rfl (Nat.le_of_ble_eq_true rfl) (Nat.le_of_ble_eq_true rfl) (R_X8_reputation hx3) ?_
              refine ev_aload_n (i := 0) 43 dX8_appoints_42 rfl rfl rfl ?_
              refine ev_iload_n (i := 2) 44 dX8_appoints_43 rfl rfl rfl ?_
              obtain ⟨x4, hx4, hBx5⟩ := tv_bind hBx5
              refine ev_callVi (i := 125) 47 [.int l2] [.int x3] dX8_appoints_44 rfl okV_X8_48 rfl rfl (Nat.le_of_ble_eq_true rfl) (Nat.le_of_ble_eq_true rfl) HPg_125 rfl (Nat.le_of_ble_eq_true rfl) (Nat.le_of_ble_eq_true rfl) (R_X8_reputation hx4) ?_
              refine ev_isub 48 dX8_appoints_47 rfl ?_
              have hBx5 := Option.some.inj hBx5
              subst hBx5
              exact Jx5
            · rw [if_neg hc224] at hBx5
              refine ev_iconst 34 dX8_appoints_33 rfl kI_1 ?_
              refine ev_goto 48 dX8_appoints_34 rfl ?_
              have hBx5 := Option.some.inj hBx5
              subst hBx5
              exact Jx5

set_option maxRecDepth 100000 in
set_option maxHeartbeats 4000000 in
theorem R_X8_appoints {g : tv_G} {l : Launch} {si : Nat → Int32} {sa : Nat → Nat → Int32} {hs : Nat → (Nat → Int32) × (Nat → Nat → Int32)} {tx : Nat → Int32} {tl : Int32} {hc : Int32} {hn : Int32} {v : Nat → Int32} {pa : Nat → Int32} {mt : Nat → Int32} {pm : Int32} {ty : Int32} {ra : Int32} {a1 : Int32} {p : (Nat → Int32)} (hF : F_X8_appoints v a1 = some p) : tv_E g l yX8_appoints cX8_appoints 5 none 4 0 0 0 [.ref 125, .int a1, .null, .null, .null] [] (HP si sa hs tx tl hc hn v pa mt pm ty ra) none (HP si sa hs tx tl hc hn p pa mt pm ty ra) := by
  unfold F_X8_appoints at hF
  refine ev_bipush 2 dX8_appoints_0 rfl kB_m9 ?_
  refine ev_istore_n (i := 2) (L2 := [.ref 125, .int a1, .int (-9), .null, .null]) 3 dX8_appoints_2 rfl rfl (Nat.le_of_ble_eq_true rfl) rfl ?_
  refine ev_iconst 4 dX8_appoints_3 rfl kI_0 ?_
  refine ev_istore_n (i := 3) (L2 := [.ref 125, .int a1, .int (-9), .int 0, .null]) 5 dX8_appoints_4 rfl rfl (Nat.le_of_ble_eq_true rfl) rfl ?_
  obtain ⟨x9, hx9, hF⟩ := tv_bind hF
  refine R_X8_appoints_L5 _ _ _ _ hx9 ?_
  refine ev_aload_n (i := 0) 91 dX8_appoints_90 rfl rfl rfl ?_
  refine ev_getfield 94 dX8_appoints_91 rfl okf_X8_7 (Nat.le_of_ble_eq_true rfl) HPg_125 rfl ?_
  refine ev_bipush 96 dX8_appoints_94 rfl kB_7 ?_
  refine ev_iload_n (i := 2) 97 dX8_appoints_96 rfl rfl rfl ?_
  obtain ⟨x10, hBx10, hF⟩ := tv_bind hF
  have Jx10 : tv_E g l yX8_appoints cX8_appoints 5 none 4 0 0 105 [.ref 125, .null, .int x9, .null, .null] [.int x10, .int 7, .ref 126] (HP si sa hs tx tl hc hn v pa mt pm ty ra) none (HP si sa hs tx tl hc hn p pa mt pm ty ra) := by
    obtain ⟨x11, hx11, hF⟩ := tv_bind hF
    refine ev_iastore 106 dX8_appoints_105 rfl (Nat.le_of_ble_eq_true rfl) HPg_126 hx11 HPa_126 ?_
    refine ev_aload_n (i := 0) 107 dX8_appoints_106 rfl rfl rfl ?_
    refine ev_getfield 110 dX8_appoints_107 rfl okf_X8_7 (Nat.le_of_ble_eq_true rfl) HPg_125 rfl ?_
    refine ev_bipush 112 dX8_appoints_110 rfl kB_8 ?_
    refine ev_iload_n (i := 2) 113 dX8_appoints_112 rfl rfl rfl ?_
    obtain ⟨x12, hx12, hF⟩ := tv_bind hF
    refine ev_iastore 114 dX8_appoints_113 rfl (Nat.le_of_ble_eq_true rfl) HPg_126 hx12 HPa_126 ?_
    refine ev_aload_n (i := 0) 115 dX8_appoints_114 rfl rfl rfl ?_
    refine ev_iload_n (i := 2) 116 dX8_appoints_115 rfl rfl rfl ?_
    obtain ⟨x13, hBx13, hF⟩ := tv_bind hF
    have Jx13 : tv_E g l yX8_appoints cX8_appoints 5 none 4 0 0 125 [.null, .null, .int x9, .null, .null] [.int x13, .ref 125] (HP si sa hs tx tl hc hn x12 pa mt pm ty ra) none (HP si sa hs tx tl hc hn p pa mt pm ty ra) := by
      refine ev_iload_n (i := 2) 126 dX8_appoints_125 rfl rfl rfl ?_
      obtain ⟨x14, hx14, hF⟩ := tv_bind hF
      refine ev_callVv (i := 125) 129 [.int x13, .int x9] [] dX8_appoints_126 rfl okV_X8_51 rfl rfl (Nat.le_of_ble_eq_true rfl) (Nat.le_of_ble_eq_true rfl) HPg_125 rfl (Nat.le_of_ble_eq_true rfl) (Nat.le_of_ble_eq_true rfl) (R_X8_tells hx14) ?_
      have hF := Option.some.inj hF
      subst hF
      exact ev_return dX8_appoints_129 rfl
    clear hF
    refine ev_if_ge 124 119 dX8_appoints_116 rfl rfl (fun hc225 => ?_) (fun hc225 => ?_)
    · rw [if_pos hc225] at hBx13
      refine ev_iconst 125 dX8_appoints_124 rfl kI_5 ?_
      have hBx13 := Option.some.inj hBx13
      subst hBx13
      refine ev_weak [.null, .null, .int x9, .null, .null] ⟨Or.inl rfl, ⟨Or.inl rfl, ⟨Or.inr rfl, ⟨Or.inl rfl, ⟨Or.inl rfl, trivial⟩⟩⟩⟩⟩ ?_
      exact Jx13
    · rw [if_neg hc225] at hBx13
      refine ev_bipush 121 dX8_appoints_119 rfl kB_7 ?_
      refine ev_goto 125 dX8_appoints_121 rfl ?_
      have hBx13 := Option.some.inj hBx13
      subst hBx13
      refine ev_weak [.null, .null, .int x9, .null, .null] ⟨Or.inl rfl, ⟨Or.inl rfl, ⟨Or.inr rfl, ⟨Or.inl rfl, ⟨Or.inl rfl, trivial⟩⟩⟩⟩⟩ ?_
      exact Jx13
  clear hF
  refine ev_if_ge 104 100 dX8_appoints_97 rfl rfl (fun hc226 => ?_) (fun hc226 => ?_)
  · rw [if_pos hc226] at hBx10
    refine ev_iconst 105 dX8_appoints_104 rfl kI_1 ?_
    have hBx10 := Option.some.inj hBx10
    subst hBx10
    exact Jx10
  · rw [if_neg hc226] at hBx10
    refine ev_iconst 101 dX8_appoints_100 rfl kI_0 ?_
    refine ev_goto 105 dX8_appoints_101 rfl ?_
    have hBx10 := Option.some.inj hBx10
    subst hBx10
    exact Jx10

set_option maxRecDepth 100000 in
set_option maxHeartbeats 4000000 in
theorem R_X8_ends_L59 {g : tv_G} {l : Launch} {si : Nat → Int32} {sa : Nat → Nat → Int32} {hs : Nat → (Nat → Int32) × (Nat → Nat → Int32)} {tx : Nat → Int32} {tl : Int32} {hc : Int32} {hn : Int32} {pa : Nat → Int32} {mt : Nat → Int32} {pm : Int32} {ty : Int32} {ra : Int32} {l1 : Int32} {l3 : Int32} {r : Option Value} {h' : tv_Hp} : ∀ (n : Nat) (l4 : Int32) (v : Nat → Int32) (x : (Nat → Int32)), F_X8_ends_L59 l1 l3 n l4 v = some x → tv_E g l yX8_ends cX8_ends 5 none 5 0 0 84 [.ref 125, .int l1, .null, .int l3, .null] [] (HP si sa hs tx tl hc hn x pa mt pm ty ra) r h' → tv_E g l yX8_ends cX8_ends 5 none 5 0 0 59 [.ref 125, .int l1, .null, .int l3, .int l4] [] (HP si sa hs tx tl hc hn v pa mt pm ty ra) r h' := by
  intro n
  induction n with
  | zero => intro l4 v x hF k; cases hF
  | succ n ih =>
      intro l4 v x hF k
      rw [F_X8_ends_L59] at hF
      refine ev_iload 61 dX8_ends_59 rfl rfl ?_
      refine ev_bipush 63 dX8_ends_61 rfl kB_10 ?_
      refine ev_icmp_ge 84 66 dX8_ends_63 rfl rfl (fun hc227 => ?_) (fun hc227 => ?_)
      · rw [if_pos hc227] at hF
        have hF := Option.some.inj hF
        subst hF
        refine ev_weak [.ref 125, .int l1, .null, .int l3, .null] ⟨Or.inr rfl, ⟨Or.inr rfl, ⟨Or.inl rfl, ⟨Or.inr rfl, ⟨Or.inl rfl, trivial⟩⟩⟩⟩⟩ ?_
        exact k
      · rw [if_neg hc227] at hF
        refine ev_aload_n (i := 0) 67 dX8_ends_66 rfl rfl rfl ?_
        refine ev_getfield 70 dX8_ends_67 rfl okf_X8_7 (Nat.le_of_ble_eq_true rfl) HPg_125 rfl ?_
        refine ev_iload 72 dX8_ends_70 rfl rfl ?_
        refine ev_iconst 73 dX8_ends_72 rfl kI_3 ?_
        refine ev_callSi 76 [.int l4, .int 3] [.ref 126] dX8_ends_73 rfl okS_X8_27 rfl rfl (Nat.le_of_ble_eq_true rfl) rfl (Nat.le_of_ble_eq_true rfl) (Nat.le_of_ble_eq_true rfl) (R_X8_at rfl) ?_
        refine ev_iconst 77 dX8_ends_76 rfl kI_0 ?_
        obtain ⟨x7, hx7, hF⟩ := tv_bind hF
        refine ev_iastore 78 dX8_ends_77 rfl (Nat.le_of_ble_eq_true rfl) HPg_126 hx7 HPa_126 ?_
        refine ev_iinc (L2 := [.ref 125, .int l1, .null, .int l3, .int (l4 + 1)]) 81 dX8_ends_78 rfl rfl (kA_1 _) (Nat.le_of_ble_eq_true rfl) rfl ?_
        refine ev_goto 59 dX8_ends_81 rfl ?_
        exact ih _ _ _ hF k

set_option maxRecDepth 100000 in
set_option maxHeartbeats 4000000 in
theorem R_X8_ends {g : tv_G} {l : Launch} {si : Nat → Int32} {sa : Nat → Nat → Int32} {hs : Nat → (Nat → Int32) × (Nat → Nat → Int32)} {tx : Nat → Int32} {tl : Int32} {hc : Int32} {hn : Int32} {v : Nat → Int32} {pa : Nat → Int32} {mt : Nat → Int32} {pm : Int32} {ty : Int32} {ra : Int32} {a1 : Int32} {p : (Nat → Int32)} (hF : F_X8_ends v a1 = some p) : tv_E g l yX8_ends cX8_ends 5 none 5 0 0 0 [.ref 125, .int a1, .null, .null, .null] [] (HP si sa hs tx tl hc hn v pa mt pm ty ra) none (HP si sa hs tx tl hc hn p pa mt pm ty ra) := by
  unfold F_X8_ends at hF
  refine ev_aload_n (i := 0) 1 dX8_ends_0 rfl rfl rfl ?_
  refine ev_getfield 4 dX8_ends_1 rfl okf_X8_7 (Nat.le_of_ble_eq_true rfl) HPg_125 rfl ?_
  refine ev_bipush 6 dX8_ends_4 rfl kB_9 ?_
  obtain ⟨x1, hx1, hF⟩ := tv_bind hF
  refine ev_iaload 7 dX8_ends_6 rfl (Nat.le_of_ble_eq_true rfl) HPg_126 hx1 ?_
  refine ev_istore_n (i := 2) (L2 := [.ref 125, .int a1, .int x1, .null, .null]) 8 dX8_ends_7 rfl rfl (Nat.le_of_ble_eq_true rfl) rfl ?_
  refine ev_aload_n (i := 0) 9 dX8_ends_8 rfl rfl rfl ?_
  refine ev_getfield 12 dX8_ends_9 rfl okf_X8_7 (Nat.le_of_ble_eq_true rfl) HPg_125 rfl ?_
  refine ev_iload_n (i := 2) 13 dX8_ends_12 rfl rfl rfl ?_
  refine ev_iconst 14 dX8_ends_13 rfl kI_0 ?_
  refine ev_callSi 17 [.int x1, .int 0] [.ref 126] dX8_ends_14 rfl okS_X8_31 rfl rfl (Nat.le_of_ble_eq_true rfl) rfl (Nat.le_of_ble_eq_true rfl) (Nat.le_of_ble_eq_true rfl) (R_X8_of rfl) ?_
  obtain ⟨x2, hx2, hF⟩ := tv_bind hF
  refine ev_iaload 18 dX8_ends_17 rfl (Nat.le_of_ble_eq_true rfl) HPg_126 hx2 ?_
  refine ev_istore_n (i := 3) (L2 := [.ref 125, .int a1, .int x1, .int x2, .null]) 19 dX8_ends_18 rfl rfl (Nat.le_of_ble_eq_true rfl) rfl ?_
  refine ev_aload_n (i := 0) 20 dX8_ends_19 rfl rfl rfl ?_
  refine ev_getfield 23 dX8_ends_20 rfl okf_X8_7 (Nat.le_of_ble_eq_true rfl) HPg_125 rfl ?_
  refine ev_iload_n (i := 2) 24 dX8_ends_23 rfl rfl rfl ?_
  refine ev_iconst 25 dX8_ends_24 rfl kI_3 ?_
  refine ev_callSi 28 [.int x1, .int 3] [.ref 126] dX8_ends_25 rfl okS_X8_31 rfl rfl (Nat.le_of_ble_eq_true rfl) rfl (Nat.le_of_ble_eq_true rfl) (Nat.le_of_ble_eq_true rfl) (R_X8_of rfl) ?_
  refine ev_aload_n (i := 0) 29 dX8_ends_28 rfl rfl rfl ?_
  refine ev_getfield 32 dX8_ends_29 rfl okf_X8_7 (Nat.le_of_ble_eq_true rfl) HPg_125 rfl ?_
  refine ev_bipush 34 dX8_ends_32 rfl kB_6 ?_
  obtain ⟨x3, hx3, hF⟩ := tv_bind hF
  refine ev_iaload 35 dX8_ends_34 rfl (Nat.le_of_ble_eq_true rfl) HPg_126 hx3 ?_
  obtain ⟨x4, hx4, hF⟩ := tv_bind hF
  refine ev_iastore 36 dX8_ends_35 rfl (Nat.le_of_ble_eq_true rfl) HPg_126 hx4 HPa_126 ?_
  refine ev_aload_n (i := 0) 37 dX8_ends_36 rfl rfl rfl ?_
  refine ev_getfield 40 dX8_ends_37 rfl okf_X8_7 (Nat.le_of_ble_eq_true rfl) HPg_125 rfl ?_
  refine ev_iload_n (i := 2) 41 dX8_ends_40 rfl rfl rfl ?_
  refine ev_iconst 42 dX8_ends_41 rfl kI_5 ?_
  refine ev_callSi 45 [.int x1, .int 5] [.ref 126] dX8_ends_42 rfl okS_X8_31 rfl rfl (Nat.le_of_ble_eq_true rfl) rfl (Nat.le_of_ble_eq_true rfl) (Nat.le_of_ble_eq_true rfl) (R_X8_of rfl) ?_
  refine ev_iload_n (i := 1) 46 dX8_ends_45 rfl rfl rfl ?_
  refine ev_iconst 47 dX8_ends_46 rfl kI_3 ?_
  obtain ⟨x5, hBx5, hF⟩ := tv_bind hF
  have Jx5 : tv_E g l yX8_ends cX8_ends 5 none 5 0 0 55 [.ref 125, .int a1, .null, .int x2, .null] [.int x5, .int (F_X8_of x1 5), .ref 126] (HP si sa hs tx tl hc hn x4 pa mt pm ty ra) none (HP si sa hs tx tl hc hn p pa mt pm ty ra) := by
    obtain ⟨x6, hx6, hF⟩ := tv_bind hF
    refine ev_iastore 56 dX8_ends_55 rfl (Nat.le_of_ble_eq_true rfl) HPg_126 hx6 HPa_126 ?_
    refine ev_iconst 57 dX8_ends_56 rfl kI_0 ?_
    refine ev_istore (L2 := [.ref 125, .int a1, .null, .int x2, .int 0]) 59 dX8_ends_57 rfl (Nat.le_of_ble_eq_true rfl) rfl ?_
    obtain ⟨x8, hx8, hF⟩ := tv_bind hF
    refine R_X8_ends_L59 _ _ _ _ hx8 ?_
    refine ev_aload_n (i := 0) 85 dX8_ends_84 rfl rfl rfl ?_
    refine ev_iload_n (i := 1) 86 dX8_ends_85 rfl rfl rfl ?_
    refine ev_iload_n (i := 3) 87 dX8_ends_86 rfl rfl rfl ?_
    obtain ⟨x9, hx9, hF⟩ := tv_bind hF
    refine ev_callVv (i := 125) 90 [.int a1, .int x2] [] dX8_ends_87 rfl okV_X8_51 rfl rfl (Nat.le_of_ble_eq_true rfl) (Nat.le_of_ble_eq_true rfl) HPg_125 rfl (Nat.le_of_ble_eq_true rfl) (Nat.le_of_ble_eq_true rfl) (R_X8_tells hx9) ?_
    refine ev_aload_n (i := 0) 91 dX8_ends_90 rfl rfl rfl ?_
    refine ev_iload_n (i := 3) 92 dX8_ends_91 rfl rfl rfl ?_
    obtain ⟨x10, hx10, hF⟩ := tv_bind hF
    refine ev_callVv (i := 125) 95 [.int x2] [] dX8_ends_92 rfl okV_X8_55 rfl rfl (Nat.le_of_ble_eq_true rfl) (Nat.le_of_ble_eq_true rfl) HPg_125 rfl (Nat.le_of_ble_eq_true rfl) (Nat.le_of_ble_eq_true rfl) (R_X8_appoints hx10) ?_
    have hF := Option.some.inj hF
    subst hF
    exact ev_return dX8_ends_95 rfl
  clear hF
  refine ev_icmp_ne 54 50 dX8_ends_47 rfl rfl (fun hc228 => ?_) (fun hc228 => ?_)
  · rw [if_neg hc228] at hBx5
    refine ev_iconst 55 dX8_ends_54 rfl kI_0 ?_
    have hBx5 := Option.some.inj hBx5
    subst hBx5
    refine ev_weak [.ref 125, .int a1, .null, .int x2, .null] ⟨Or.inr rfl, ⟨Or.inr rfl, ⟨Or.inl rfl, ⟨Or.inr rfl, ⟨Or.inl rfl, trivial⟩⟩⟩⟩⟩ ?_
    exact Jx5
  · rw [if_pos hc228] at hBx5
    refine ev_iconst 51 dX8_ends_50 rfl kI_1 ?_
    refine ev_goto 55 dX8_ends_51 rfl ?_
    have hBx5 := Option.some.inj hBx5
    subst hBx5
    refine ev_weak [.ref 125, .int a1, .null, .int x2, .null] ⟨Or.inr rfl, ⟨Or.inr rfl, ⟨Or.inl rfl, ⟨Or.inr rfl, ⟨Or.inl rfl, trivial⟩⟩⟩⟩⟩ ?_
    exact Jx5

set_option maxRecDepth 100000 in
set_option maxHeartbeats 4000000 in
theorem R_X8_looks {g : tv_G} {l : Launch} {si : Nat → Int32} {sa : Nat → Nat → Int32} {hs : Nat → (Nat → Int32) × (Nat → Nat → Int32)} {tx : Nat → Int32} {tl : Int32} {hc : Int32} {hn : Int32} {v : Nat → Int32} {pa : Nat → Int32} {mt : Nat → Int32} {pm : Int32} {ty : Int32} {ra : Int32}  {p : (Nat → Int32)} (hF : F_X8_looks v = some p) : tv_E g l yX8_looks cX8_looks 3 none 6 0 0 0 [.ref 125, .null, .null] [] (HP si sa hs tx tl hc hn v pa mt pm ty ra) none (HP si sa hs tx tl hc hn p pa mt pm ty ra) := by
  unfold F_X8_looks at hF
  refine ev_aload_n (i := 0) 1 dX8_looks_0 rfl rfl rfl ?_
  refine ev_getfield 4 dX8_looks_1 rfl okf_X8_7 (Nat.le_of_ble_eq_true rfl) HPg_125 rfl ?_
  refine ev_bipush 6 dX8_looks_4 rfl kB_7 ?_
  obtain ⟨x1, hx1, hF⟩ := tv_bind hF
  refine ev_iaload 7 dX8_looks_6 rfl (Nat.le_of_ble_eq_true rfl) HPg_126 hx1 ?_
  refine ev_iconst 8 dX8_looks_7 rfl kI_2 ?_
  refine ev_icmp_ne 47 11 dX8_looks_8 rfl rfl (fun hc229 => ?_) (fun hc229 => ?_)
  · rw [if_neg hc229] at hF
    have hF := Option.some.inj hF
    subst hF
    exact ev_return dX8_looks_47 rfl
  · rw [if_pos hc229] at hF
    refine ev_aload_n (i := 0) 12 dX8_looks_11 rfl rfl rfl ?_
    obtain ⟨x2, hx2, hF⟩ := tv_bind hF
    refine ev_callVi (i := 125) 15 [] [] dX8_looks_12 rfl okV_X8_59 rfl rfl (Nat.le_of_ble_eq_true rfl) (Nat.le_of_ble_eq_true rfl) HPg_125 rfl (Nat.le_of_ble_eq_true rfl) (Nat.le_of_ble_eq_true rfl) (R_X8_presentMany hx2) ?_
    refine ev_iconst 16 dX8_looks_15 rfl kI_1 ?_
    refine ev_isub 17 dX8_looks_16 rfl ?_
    refine ev_istore_n (i := 1) (L2 := [.ref 125, .int (x2 - 1), .null]) 18 dX8_looks_17 rfl rfl (Nat.le_of_ble_eq_true rfl) rfl ?_
    refine ev_aload_n (i := 0) 19 dX8_looks_18 rfl rfl rfl ?_
    obtain ⟨x3, hx3, hF⟩ := tv_bind hF
    refine ev_callVi (i := 125) 22 [] [] dX8_looks_19 rfl okV_X8_63 rfl rfl (Nat.le_of_ble_eq_true rfl) (Nat.le_of_ble_eq_true rfl) HPg_125 rfl (Nat.le_of_ble_eq_true rfl) (Nat.le_of_ble_eq_true rfl) (R_X8_signatures hx3) ?_
    refine ev_istore_n (i := 2) (L2 := [.ref 125, .int (x2 - 1), .int x3]) 23 dX8_looks_22 rfl rfl (Nat.le_of_ble_eq_true rfl) rfl ?_
    refine ev_iload_n (i := 2) 24 dX8_looks_23 rfl rfl rfl ?_
    refine ev_if_le 47 27 dX8_looks_24 rfl rfl (fun hc230 => ?_) (fun hc230 => ?_)
    · rw [if_pos hc230] at hF
      have hF := Option.some.inj hF
      subst hF
      exact ev_return dX8_looks_47 rfl
    · rw [if_neg hc230] at hF
      refine ev_bipush 29 dX8_looks_27 rfl kB_100 ?_
      refine ev_iload_n (i := 2) 30 dX8_looks_29 rfl rfl rfl ?_
      refine ev_imul 31 dX8_looks_30 rfl ?_
      refine ev_aload_n (i := 0) 32 dX8_looks_31 rfl rfl rfl ?_
      refine ev_getfield 35 dX8_looks_32 rfl okf_X8_7 (Nat.le_of_ble_eq_true rfl) HPg_125 rfl ?_
      refine ev_iconst 36 dX8_looks_35 rfl kI_3 ?_
      obtain ⟨x4, hx4, hF⟩ := tv_bind hF
      refine ev_iaload 37 dX8_looks_36 rfl (Nat.le_of_ble_eq_true rfl) HPg_126 hx4 ?_
      refine ev_iload_n (i := 1) 38 dX8_looks_37 rfl rfl rfl ?_
      refine ev_imul 39 dX8_looks_38 rfl ?_
      refine ev_icmp_lt 47 42 dX8_looks_39 rfl rfl (fun hc231 => ?_) (fun hc231 => ?_)
      · rw [if_pos hc231] at hF
        have hF := Option.some.inj hF
        subst hF
        exact ev_return dX8_looks_47 rfl
      · rw [if_neg hc231] at hF
        refine ev_aload_n (i := 0) 43 dX8_looks_42 rfl rfl rfl ?_
        refine ev_iconst 44 dX8_looks_43 rfl kI_3 ?_
        obtain ⟨x5, hx5, hF⟩ := tv_bind hF
        refine ev_callVv (i := 125) 47 [.int 3] [] dX8_looks_44 rfl okV_X8_66 rfl rfl (Nat.le_of_ble_eq_true rfl) (Nat.le_of_ble_eq_true rfl) HPg_125 rfl (Nat.le_of_ble_eq_true rfl) (Nat.le_of_ble_eq_true rfl) (R_X8_ends hx5) ?_
        have hF := Option.some.inj hF
        subst hF
        exact ev_return dX8_looks_47 rfl

set_option maxRecDepth 100000 in
set_option maxHeartbeats 4000000 in
theorem R_X8_set {g : tv_G} {l : Launch} {si : Nat → Int32} {sa : Nat → Nat → Int32} {hs : Nat → (Nat → Int32) × (Nat → Nat → Int32)} {tx : Nat → Int32} {tl : Int32} {hc : Int32} {hn : Int32} {v : Nat → Int32} {pa : Nat → Int32} {mt : Nat → Int32} {pm : Int32} {ty : Int32} {ra : Int32} {a1 : Int32} {a2 : Int32} {p : Int32 × (Nat → Int32) × (Nat → Int32) × Int32} (hF : F_X8_set v pa pm a1 a2 = some p) : tv_E g l yX8_set cX8_set 4 (some .int) 7 0 0 0 [.ref 125, .int a1, .int a2, .null] [] (HP si sa hs tx tl hc hn v pa mt pm ty ra) (some (.int p.1)) (HP si sa hs tx tl hc hn p.2.1 p.2.2.1 mt p.2.2.2 ty ra) := by
  unfold F_X8_set at hF
  refine ev_iload_n (i := 1) 1 dX8_set_0 rfl rfl rfl ?_
  refine ev_iload_n (i := 2) 2 dX8_set_1 rfl rfl rfl ?_
  obtain ⟨x1, hx1, hF⟩ := tv_bind hF
  refine ev_callSi 5 [.int a1, .int a2] [] dX8_set_2 rfl okS_X8_69 rfl rfl (Nat.le_of_ble_eq_true rfl) rfl (Nat.le_of_ble_eq_true rfl) (Nat.le_of_ble_eq_true rfl) (R_X8_isIn hx1) ?_
  refine ev_if_ne 10 8 dX8_set_5 rfl rfl (fun hc232 => ?_) (fun hc232 => ?_)
  · rw [if_neg hc232] at hF
    refine ev_aload_n (i := 0) 11 dX8_set_10 rfl rfl rfl ?_
    obtain ⟨x2, hx2, hF⟩ := tv_bind hF
    refine ev_callVv (i := 125) 14 [] [] dX8_set_11 rfl okV_X8_73 rfl rfl (Nat.le_of_ble_eq_true rfl) (Nat.le_of_ble_eq_true rfl) HPg_125 rfl (Nat.le_of_ble_eq_true rfl) (Nat.le_of_ble_eq_true rfl) (R_X8_act hx2) ?_
    refine ev_aload_n (i := 0) 15 dX8_set_14 rfl rfl rfl ?_
    refine ev_getfield 18 dX8_set_15 rfl okf_X8_7 (Nat.le_of_ble_eq_true rfl) HPg_125 rfl ?_
    refine ev_iload_n (i := 1) 19 dX8_set_18 rfl rfl rfl ?_
    obtain ⟨x3, hx3, hF⟩ := tv_bind hF
    refine ev_iaload 20 dX8_set_19 rfl (Nat.le_of_ble_eq_true rfl) HPg_126 hx3 ?_
    refine ev_istore_n (i := 3) (L2 := [.ref 125, .int a1, .int a2, .int x3]) 21 dX8_set_20 rfl rfl (Nat.le_of_ble_eq_true rfl) rfl ?_
    refine ev_aload_n (i := 0) 22 dX8_set_21 rfl rfl rfl ?_
    refine ev_getfield 25 dX8_set_22 rfl okf_X8_7 (Nat.le_of_ble_eq_true rfl) HPg_125 rfl ?_
    refine ev_iload_n (i := 1) 26 dX8_set_25 rfl rfl rfl ?_
    refine ev_iload_n (i := 2) 27 dX8_set_26 rfl rfl rfl ?_
    obtain ⟨x4, hx4, hF⟩ := tv_bind hF
    refine ev_iastore 28 dX8_set_27 rfl (Nat.le_of_ble_eq_true rfl) HPg_126 hx4 HPa_126 ?_
    refine ev_iload_n (i := 1) 29 dX8_set_28 rfl rfl rfl ?_
    refine ev_iconst 30 dX8_set_29 rfl kI_3 ?_
    refine ev_icmp_ne 37 33 dX8_set_30 rfl rfl (fun hc233 => ?_) (fun hc233 => ?_)
    · rw [if_neg hc233] at hF
      refine ev_iload_n (i := 3) 38 dX8_set_37 rfl rfl rfl ?_
      have hF := Option.some.inj hF
      subst hF
      exact ev_ireturn dX8_set_38 rfl rfl
    · rw [if_pos hc233] at hF
      refine ev_aload_n (i := 0) 34 dX8_set_33 rfl rfl rfl ?_
      obtain ⟨x5, hx5, hF⟩ := tv_bind hF
      refine ev_callVv (i := 125) 37 [] [] dX8_set_34 rfl okV_X8_76 rfl rfl (Nat.le_of_ble_eq_true rfl) (Nat.le_of_ble_eq_true rfl) HPg_125 rfl (Nat.le_of_ble_eq_true rfl) (Nat.le_of_ble_eq_true rfl) (R_X8_looks hx5) ?_
      refine ev_iload_n (i := 3) 38 dX8_set_37 rfl rfl rfl ?_
      have hF := Option.some.inj hF
      subst hF
      exact ev_ireturn dX8_set_38 rfl rfl
  · rw [if_pos hc232] at hF
    refine ev_iconst 9 dX8_set_8 rfl kI_m1 ?_
    have hF := Option.some.inj hF
    subst hF
    exact ev_ireturn dX8_set_9 rfl rfl

set_option maxRecDepth 100000 in
set_option maxHeartbeats 4000000 in
theorem R_X8_join_L42 {g : tv_G} {l : Launch} {si : Nat → Int32} {sa : Nat → Nat → Int32} {hs : Nat → (Nat → Int32) × (Nat → Nat → Int32)} {tx : Nat → Int32} {tl : Int32} {hc : Int32} {hn : Int32} {pa : Nat → Int32} {mt : Nat → Int32} {pm : Int32} {ty : Int32} {ra : Int32} {l1 : Int32} {l2 : Int32} {r : Option Value} {h' : tv_Hp} : ∀ (n : Nat) (l3 : Int32) (v : Nat → Int32) (x : (Nat → Int32)), F_X8_join_L42 l1 l2 n l3 v = some x → tv_E g l yX8_join cX8_join 4 (some .int) 7 0 0 65 [.ref 125, .int l1, .int l2, .null] [] (HP si sa hs tx tl hc hn x pa mt pm ty ra) r h' → tv_E g l yX8_join cX8_join 4 (some .int) 7 0 0 42 [.ref 125, .int l1, .int l2, .int l3] [] (HP si sa hs tx tl hc hn v pa mt pm ty ra) r h' := by
  intro n
  induction n with
  | zero => intro l3 v x hF k; cases hF
  | succ n ih =>
      intro l3 v x hF k
      rw [F_X8_join_L42] at hF
      refine ev_iload_n (i := 3) 43 dX8_join_42 rfl rfl rfl ?_
      refine ev_bipush 45 dX8_join_43 rfl kB_15 ?_
      refine ev_icmp_ge 65 48 dX8_join_45 rfl rfl (fun hc234 => ?_) (fun hc234 => ?_)
      · rw [if_pos hc234] at hF
        have hF := Option.some.inj hF
        subst hF
        refine ev_weak [.ref 125, .int l1, .int l2, .null] ⟨Or.inr rfl, ⟨Or.inr rfl, ⟨Or.inr rfl, ⟨Or.inl rfl, trivial⟩⟩⟩⟩ ?_
        exact k
      · rw [if_neg hc234] at hF
        refine ev_aload_n (i := 0) 49 dX8_join_48 rfl rfl rfl ?_
        refine ev_getfield 52 dX8_join_49 rfl okf_X8_7 (Nat.le_of_ble_eq_true rfl) HPg_125 rfl ?_
        refine ev_iload_n (i := 2) 53 dX8_join_52 rfl rfl rfl ?_
        refine ev_iload_n (i := 3) 54 dX8_join_53 rfl rfl rfl ?_
        refine ev_callSi 57 [.int l2, .int l3] [.ref 126] dX8_join_54 rfl okS_X8_27 rfl rfl (Nat.le_of_ble_eq_true rfl) rfl (Nat.le_of_ble_eq_true rfl) (Nat.le_of_ble_eq_true rfl) (R_X8_at rfl) ?_
        refine ev_iconst 58 dX8_join_57 rfl kI_0 ?_
        obtain ⟨x4, hx4, hF⟩ := tv_bind hF
        refine ev_iastore 59 dX8_join_58 rfl (Nat.le_of_ble_eq_true rfl) HPg_126 hx4 HPa_126 ?_
        refine ev_iinc (L2 := [.ref 125, .int l1, .int l2, .int (l3 + 1)]) 62 dX8_join_59 rfl rfl (kA_1 _) (Nat.le_of_ble_eq_true rfl) rfl ?_
        refine ev_goto 42 dX8_join_62 rfl ?_
        exact ih _ _ _ hF k

set_option maxRecDepth 100000 in
set_option maxHeartbeats 4000000 in
theorem R_X8_join {g : tv_G} {l : Launch} {si : Nat → Int32} {sa : Nat → Nat → Int32} {hs : Nat → (Nat → Int32) × (Nat → Nat → Int32)} {tx : Nat → Int32} {tl : Int32} {hc : Int32} {hn : Int32} {v : Nat → Int32} {pa : Nat → Int32} {mt : Nat → Int32} {pm : Int32} {ty : Int32} {ra : Int32} {a1 : Int32} {p : Int32 × (Nat → Int32) × (Nat → Int32) × Int32} (hF : F_X8_join v pa pm a1 = some p) : tv_E g l yX8_join cX8_join 4 (some .int) 7 0 0 0 [.ref 125, .int a1, .null, .null] [] (HP si sa hs tx tl hc hn v pa mt pm ty ra) (some (.int p.1)) (HP si sa hs tx tl hc hn p.2.1 p.2.2.1 mt p.2.2.2 ty ra) := by
  unfold F_X8_join at hF
  refine ev_iload_n (i := 1) 1 dX8_join_0 rfl rfl rfl ?_
  refine ev_iconst 2 dX8_join_1 rfl kI_0 ?_
  refine ev_sipush 5 dX8_join_2 rfl kS_996 ?_
  refine ev_callSi 8 [.int a1, .int 0, .int 996] [] dX8_join_5 rfl okS_X8_23 rfl rfl (Nat.le_of_ble_eq_true rfl) rfl (Nat.le_of_ble_eq_true rfl) (Nat.le_of_ble_eq_true rfl) (R_X8_in rfl) ?_
  refine ev_if_ne 13 11 dX8_join_8 rfl rfl (fun hc235 => ?_) (fun hc235 => ?_)
  · rw [if_neg hc235] at hF
    refine ev_aload_n (i := 0) 14 dX8_join_13 rfl rfl rfl ?_
    refine ev_getfield 17 dX8_join_14 rfl okf_X8_7 (Nat.le_of_ble_eq_true rfl) HPg_125 rfl ?_
    refine ev_bipush 19 dX8_join_17 rfl kB_10 ?_
    obtain ⟨x1, hx1, hF⟩ := tv_bind hF
    refine ev_iaload 20 dX8_join_19 rfl (Nat.le_of_ble_eq_true rfl) HPg_126 hx1 ?_
    refine ev_bipush 22 dX8_join_20 rfl kB_10 ?_
    refine ev_icmp_ne 28 25 dX8_join_22 rfl rfl (fun hc236 => ?_) (fun hc236 => ?_)
    · rw [if_neg hc236] at hF
      refine ev_aload_n (i := 0) 29 dX8_join_28 rfl rfl rfl ?_
      obtain ⟨x2, hx2, hF⟩ := tv_bind hF
      refine ev_callVv (i := 125) 32 [] [] dX8_join_29 rfl okV_X8_73 rfl rfl (Nat.le_of_ble_eq_true rfl) (Nat.le_of_ble_eq_true rfl) HPg_125 rfl (Nat.le_of_ble_eq_true rfl) (Nat.le_of_ble_eq_true rfl) (R_X8_act hx2) ?_
      refine ev_aload_n (i := 0) 33 dX8_join_32 rfl rfl rfl ?_
      refine ev_getfield 36 dX8_join_33 rfl okf_X8_7 (Nat.le_of_ble_eq_true rfl) HPg_125 rfl ?_
      refine ev_bipush 38 dX8_join_36 rfl kB_10 ?_
      obtain ⟨x3, hx3, hF⟩ := tv_bind hF
      refine ev_iaload 39 dX8_join_38 rfl (Nat.le_of_ble_eq_true rfl) HPg_126 hx3 ?_
      refine ev_istore_n (i := 2) (L2 := [.ref 125, .int a1, .int x3, .null]) 40 dX8_join_39 rfl rfl (Nat.le_of_ble_eq_true rfl) rfl ?_
      refine ev_iconst 41 dX8_join_40 rfl kI_0 ?_
      refine ev_istore_n (i := 3) (L2 := [.ref 125, .int a1, .int x3, .int 0]) 42 dX8_join_41 rfl rfl (Nat.le_of_ble_eq_true rfl) rfl ?_
      obtain ⟨x5, hx5, hF⟩ := tv_bind hF
      refine R_X8_join_L42 _ _ _ _ hx5 ?_
      refine ev_aload_n (i := 0) 66 dX8_join_65 rfl rfl rfl ?_
      refine ev_getfield 69 dX8_join_66 rfl okf_X8_7 (Nat.le_of_ble_eq_true rfl) HPg_125 rfl ?_
      refine ev_iload_n (i := 2) 70 dX8_join_69 rfl rfl rfl ?_
      refine ev_iconst 71 dX8_join_70 rfl kI_0 ?_
      refine ev_callSi 74 [.int x3, .int 0] [.ref 126] dX8_join_71 rfl okS_X8_27 rfl rfl (Nat.le_of_ble_eq_true rfl) rfl (Nat.le_of_ble_eq_true rfl) (Nat.le_of_ble_eq_true rfl) (R_X8_at rfl) ?_
      refine ev_iload_n (i := 1) 75 dX8_join_74 rfl rfl rfl ?_
      obtain ⟨x6, hx6, hF⟩ := tv_bind hF
      refine ev_iastore 76 dX8_join_75 rfl (Nat.le_of_ble_eq_true rfl) HPg_126 hx6 HPa_126 ?_
      refine ev_aload_n (i := 0) 77 dX8_join_76 rfl rfl rfl ?_
      refine ev_getfield 80 dX8_join_77 rfl okf_X8_7 (Nat.le_of_ble_eq_true rfl) HPg_125 rfl ?_
      refine ev_iload_n (i := 2) 81 dX8_join_80 rfl rfl rfl ?_
      refine ev_iconst 82 dX8_join_81 rfl kI_1 ?_
      refine ev_callSi 85 [.int x3, .int 1] [.ref 126] dX8_join_82 rfl okS_X8_27 rfl rfl (Nat.le_of_ble_eq_true rfl) rfl (Nat.le_of_ble_eq_true rfl) (Nat.le_of_ble_eq_true rfl) (R_X8_at rfl) ?_
      refine ev_iconst 86 dX8_join_85 rfl kI_1 ?_
      obtain ⟨x7, hx7, hF⟩ := tv_bind hF
      refine ev_iastore 87 dX8_join_86 rfl (Nat.le_of_ble_eq_true rfl) HPg_126 hx7 HPa_126 ?_
      refine ev_aload_n (i := 0) 88 dX8_join_87 rfl rfl rfl ?_
      refine ev_getfield 91 dX8_join_88 rfl okf_X8_7 (Nat.le_of_ble_eq_true rfl) HPg_125 rfl ?_
      refine ev_bipush 93 dX8_join_91 rfl kB_10 ?_
      refine ev_dup2 94 dX8_join_93 rfl rfl rfl ?_
      obtain ⟨x8, hx8, hF⟩ := tv_bind hF
      refine ev_iaload 95 dX8_join_94 rfl (Nat.le_of_ble_eq_true rfl) HPg_126 hx8 ?_
      refine ev_iconst 96 dX8_join_95 rfl kI_1 ?_
      refine ev_iadd 97 dX8_join_96 rfl ?_
      obtain ⟨x9, hx9, hF⟩ := tv_bind hF
      refine ev_iastore 98 dX8_join_97 rfl (Nat.le_of_ble_eq_true rfl) HPg_126 hx9 HPa_126 ?_
      refine ev_aload_n (i := 0) 99 dX8_join_98 rfl rfl rfl ?_
      obtain ⟨x10, hx10, hF⟩ := tv_bind hF
      refine ev_callVv (i := 125) 102 [] [] dX8_join_99 rfl okV_X8_76 rfl rfl (Nat.le_of_ble_eq_true rfl) (Nat.le_of_ble_eq_true rfl) HPg_125 rfl (Nat.le_of_ble_eq_true rfl) (Nat.le_of_ble_eq_true rfl) (R_X8_looks hx10) ?_
      refine ev_iload_n (i := 2) 103 dX8_join_102 rfl rfl rfl ?_
      have hF := Option.some.inj hF
      subst hF
      exact ev_ireturn dX8_join_103 rfl rfl
    · rw [if_pos hc236] at hF
      refine ev_bipush 27 dX8_join_25 rfl kB_m3 ?_
      have hF := Option.some.inj hF
      subst hF
      exact ev_ireturn dX8_join_27 rfl rfl
  · rw [if_pos hc235] at hF
    refine ev_iconst 12 dX8_join_11 rfl kI_m1 ?_
    have hF := Option.some.inj hF
    subst hF
    exact ev_ireturn dX8_join_12 rfl rfl

set_option maxRecDepth 100000 in
set_option maxHeartbeats 4000000 in
theorem R_X8_isMember {g : tv_G} {l : Launch} {si : Nat → Int32} {sa : Nat → Nat → Int32} {hs : Nat → (Nat → Int32) × (Nat → Nat → Int32)} {tx : Nat → Int32} {tl : Int32} {hc : Int32} {hn : Int32} {v : Nat → Int32} {pa : Nat → Int32} {mt : Nat → Int32} {pm : Int32} {ty : Int32} {ra : Int32} {a1 : Int32} {p : Int32} (hF : F_X8_isMember v a1 = some p) : tv_E g l yX8_isMember cX8_isMember 2 (some .boolean) 1 0 0 0 [.ref 125, .int a1] [] (HP si sa hs tx tl hc hn v pa mt pm ty ra) (some (.int p)) (HP si sa hs tx tl hc hn v pa mt pm ty ra) := by
  unfold F_X8_isMember at hF
  refine ev_iload_n (i := 1) 1 dX8_isMember_0 rfl rfl rfl ?_
  refine ev_iconst 2 dX8_isMember_1 rfl kI_0 ?_
  refine ev_aload_n (i := 0) 3 dX8_isMember_2 rfl rfl rfl ?_
  refine ev_getfield 6 dX8_isMember_3 rfl okf_X8_7 (Nat.le_of_ble_eq_true rfl) HPg_125 rfl ?_
  refine ev_bipush 8 dX8_isMember_6 rfl kB_10 ?_
  obtain ⟨x1, hx1, hF⟩ := tv_bind hF
  refine ev_iaload 9 dX8_isMember_8 rfl (Nat.le_of_ble_eq_true rfl) HPg_126 hx1 ?_
  refine ev_iconst 10 dX8_isMember_9 rfl kI_1 ?_
  refine ev_isub 11 dX8_isMember_10 rfl ?_
  refine ev_callSi 14 [.int a1, .int 0, .int (x1 - 1)] [] dX8_isMember_11 rfl okS_X8_23 rfl rfl (Nat.le_of_ble_eq_true rfl) rfl (Nat.le_of_ble_eq_true rfl) (Nat.le_of_ble_eq_true rfl) (R_X8_in rfl) ?_
  by_cases hz2 : ¬ ((F_X8_in a1 0 (x1 - 1)) = 0 ∨ (F_X8_in a1 0 (x1 - 1)) = 1)
  · rw [if_pos hz2] at hF; cases hF
  rw [if_neg hz2] at hF
  have hF := Option.some.inj hF
  subst hF
  exact ev_ireturn dX8_isMember_14 rfl (tv_nz hz2)

set_option maxRecDepth 100000 in
set_option maxHeartbeats 4000000 in
theorem R_X8_strikes_L5 {g : tv_G} {l : Launch} {si : Nat → Int32} {sa : Nat → Nat → Int32} {hs : Nat → (Nat → Int32) × (Nat → Nat → Int32)} {tx : Nat → Int32} {tl : Int32} {hc : Int32} {hn : Int32} {pa : Nat → Int32} {mt : Nat → Int32} {pm : Int32} {ty : Int32} {ra : Int32} {l1 : Int32} {l2 : Int32} {r : Option Value} {h' : tv_Hp} : ∀ (n : Nat) (l3 : Int32) (l4 : Int32) (v : Nat → Int32) (x : Int32 × (Nat → Int32)), F_X8_strikes_L5 l1 l2 n l3 l4 v = some x → tv_E g l yX8_strikes cX8_strikes 6 none 1 0 0 69 [.ref 125, .int l1, .null, .int x.1, .null, .null] [] (HP si sa hs tx tl hc hn x.2 pa mt pm ty ra) r h' → tv_E g l yX8_strikes cX8_strikes 6 none 1 0 0 5 [.ref 125, .int l1, .int l2, .int l3, .int l4, .null] [] (HP si sa hs tx tl hc hn v pa mt pm ty ra) r h' := by
  intro n
  induction n with
  | zero => intro l3 l4 v x hF k; cases hF
  | succ n ih =>
      intro l3 l4 v x hF k
      rw [F_X8_strikes_L5] at hF
      refine ev_iload 7 dX8_strikes_5 rfl rfl ?_
      refine ev_aload_n (i := 0) 8 dX8_strikes_7 rfl rfl rfl ?_
      refine ev_getfield 11 dX8_strikes_8 rfl okf_X8_7 (Nat.le_of_ble_eq_true rfl) HPg_125 rfl ?_
      refine ev_iload_n (i := 1) 12 dX8_strikes_11 rfl rfl rfl ?_
      refine ev_iconst 13 dX8_strikes_12 rfl kI_4 ?_
      refine ev_callSi 16 [.int l1, .int 4] [.ref 126, .int l4] dX8_strikes_13 rfl okS_X8_27 rfl rfl (Nat.le_of_ble_eq_true rfl) rfl (Nat.le_of_ble_eq_true rfl) (Nat.le_of_ble_eq_true rfl) (R_X8_at rfl) ?_
      obtain ⟨x1, hx1, hF⟩ := tv_bind hF
      refine ev_iaload 17 dX8_strikes_16 rfl (Nat.le_of_ble_eq_true rfl) HPg_126 hx1 ?_
      refine ev_icmp_ge 69 20 dX8_strikes_17 rfl rfl (fun hc237 => ?_) (fun hc237 => ?_)
      · rw [if_pos hc237] at hF
        have hF := Option.some.inj hF
        subst hF
        refine ev_weak [.ref 125, .int l1, .null, .int l3, .null, .null] ⟨Or.inr rfl, ⟨Or.inr rfl, ⟨Or.inl rfl, ⟨Or.inr rfl, ⟨Or.inl rfl, ⟨Or.inl rfl, trivial⟩⟩⟩⟩⟩⟩ ?_
        exact k
      · rw [if_neg hc237] at hF
        refine ev_aload_n (i := 0) 21 dX8_strikes_20 rfl rfl rfl ?_
        refine ev_getfield 24 dX8_strikes_21 rfl okf_X8_7 (Nat.le_of_ble_eq_true rfl) HPg_125 rfl ?_
        refine ev_iload_n (i := 1) 25 dX8_strikes_24 rfl rfl rfl ?_
        refine ev_iconst 26 dX8_strikes_25 rfl kI_5 ?_
        refine ev_iload 28 dX8_strikes_26 rfl rfl ?_
        refine ev_iadd 29 dX8_strikes_28 rfl ?_
        refine ev_callSi 32 [.int l1, .int (5 + l4)] [.ref 126] dX8_strikes_29 rfl okS_X8_27 rfl rfl (Nat.le_of_ble_eq_true rfl) rfl (Nat.le_of_ble_eq_true rfl) (Nat.le_of_ble_eq_true rfl) (R_X8_at rfl) ?_
        obtain ⟨x2, hx2, hF⟩ := tv_bind hF
        refine ev_iaload 33 dX8_strikes_32 rfl (Nat.le_of_ble_eq_true rfl) HPg_126 hx2 ?_
        refine ev_istore (L2 := [.ref 125, .int l1, .int l2, .int l3, .int l4, .int x2]) 35 dX8_strikes_33 rfl (Nat.le_of_ble_eq_true rfl) rfl ?_
        refine ev_aload_n (i := 0) 36 dX8_strikes_35 rfl rfl rfl ?_
        refine ev_getfield 39 dX8_strikes_36 rfl okf_X8_7 (Nat.le_of_ble_eq_true rfl) HPg_125 rfl ?_
        refine ev_iload_n (i := 1) 40 dX8_strikes_39 rfl rfl rfl ?_
        refine ev_iconst 41 dX8_strikes_40 rfl kI_5 ?_
        refine ev_iload_n (i := 3) 42 dX8_strikes_41 rfl rfl rfl ?_
        refine ev_iadd 43 dX8_strikes_42 rfl ?_
        refine ev_callSi 46 [.int l1, .int (5 + l3)] [.ref 126] dX8_strikes_43 rfl okS_X8_27 rfl rfl (Nat.le_of_ble_eq_true rfl) rfl (Nat.le_of_ble_eq_true rfl) (Nat.le_of_ble_eq_true rfl) (R_X8_at rfl) ?_
        refine ev_iload 48 dX8_strikes_46 rfl rfl ?_
        obtain ⟨x3, hx3, hF⟩ := tv_bind hF
        refine ev_iastore 49 dX8_strikes_48 rfl (Nat.le_of_ble_eq_true rfl) HPg_126 hx3 HPa_126 ?_
        refine ev_iload_n (i := 3) 50 dX8_strikes_49 rfl rfl rfl ?_
        refine ev_iload 52 dX8_strikes_50 rfl rfl ?_
        refine ev_iload_n (i := 2) 53 dX8_strikes_52 rfl rfl rfl ?_
        refine ev_icmp_ne 60 56 dX8_strikes_53 rfl rfl (fun hc238 => ?_) (fun hc238 => ?_)
        · rw [if_neg hc238] at hF
          refine ev_iconst 61 dX8_strikes_60 rfl kI_1 ?_
          refine ev_iadd 62 dX8_strikes_61 rfl ?_
          refine ev_istore_n (i := 3) (L2 := [.ref 125, .int l1, .int l2, .int (l3 + 1), .int l4, .int x2]) 63 dX8_strikes_62 rfl rfl (Nat.le_of_ble_eq_true rfl) rfl ?_
          refine ev_iinc (L2 := [.ref 125, .int l1, .int l2, .int (l3 + 1), .int (l4 + 1), .int x2]) 66 dX8_strikes_63 rfl rfl (kA_1 _) (Nat.le_of_ble_eq_true rfl) rfl ?_
          refine ev_goto 5 dX8_strikes_66 rfl ?_
          refine ev_weak [.ref 125, .int l1, .int l2, .int (l3 + 1), .int (l4 + 1), .null] ⟨Or.inr rfl, ⟨Or.inr rfl, ⟨Or.inr rfl, ⟨Or.inr rfl, ⟨Or.inr rfl, ⟨Or.inl rfl, trivial⟩⟩⟩⟩⟩⟩ ?_
          exact ih _ _ _ _ hF k
        · rw [if_pos hc238] at hF
          refine ev_iconst 57 dX8_strikes_56 rfl kI_0 ?_
          refine ev_goto 61 dX8_strikes_57 rfl ?_
          refine ev_iadd 62 dX8_strikes_61 rfl ?_
          refine ev_istore_n (i := 3) (L2 := [.ref 125, .int l1, .int l2, .int (l3 + 0), .int l4, .int x2]) 63 dX8_strikes_62 rfl rfl (Nat.le_of_ble_eq_true rfl) rfl ?_
          refine ev_iinc (L2 := [.ref 125, .int l1, .int l2, .int (l3 + 0), .int (l4 + 1), .int x2]) 66 dX8_strikes_63 rfl rfl (kA_1 _) (Nat.le_of_ble_eq_true rfl) rfl ?_
          refine ev_goto 5 dX8_strikes_66 rfl ?_
          refine ev_weak [.ref 125, .int l1, .int l2, .int (l3 + 0), .int (l4 + 1), .null] ⟨Or.inr rfl, ⟨Or.inr rfl, ⟨Or.inr rfl, ⟨Or.inr rfl, ⟨Or.inr rfl, ⟨Or.inl rfl, trivial⟩⟩⟩⟩⟩⟩ ?_
          exact ih _ _ _ _ hF k

set_option maxRecDepth 100000 in
set_option maxHeartbeats 4000000 in
theorem R_X8_strikes {g : tv_G} {l : Launch} {si : Nat → Int32} {sa : Nat → Nat → Int32} {hs : Nat → (Nat → Int32) × (Nat → Nat → Int32)} {tx : Nat → Int32} {tl : Int32} {hc : Int32} {hn : Int32} {v : Nat → Int32} {pa : Nat → Int32} {mt : Nat → Int32} {pm : Int32} {ty : Int32} {ra : Int32} {a1 : Int32} {a2 : Int32} {p : (Nat → Int32)} (hF : F_X8_strikes v a1 a2 = some p) : tv_E g l yX8_strikes cX8_strikes 6 none 1 0 0 0 [.ref 125, .int a1, .int a2, .null, .null, .null] [] (HP si sa hs tx tl hc hn v pa mt pm ty ra) none (HP si sa hs tx tl hc hn p pa mt pm ty ra) := by
  unfold F_X8_strikes at hF
  refine ev_iconst 1 dX8_strikes_0 rfl kI_0 ?_
  refine ev_istore_n (i := 3) (L2 := [.ref 125, .int a1, .int a2, .int 0, .null, .null]) 2 dX8_strikes_1 rfl rfl (Nat.le_of_ble_eq_true rfl) rfl ?_
  refine ev_iconst 3 dX8_strikes_2 rfl kI_0 ?_
  refine ev_istore (L2 := [.ref 125, .int a1, .int a2, .int 0, .int 0, .null]) 5 dX8_strikes_3 rfl (Nat.le_of_ble_eq_true rfl) rfl ?_
  obtain ⟨x4, hx4, hF⟩ := tv_bind hF
  refine R_X8_strikes_L5 _ _ _ _ _ hx4 ?_
  refine ev_aload_n (i := 0) 70 dX8_strikes_69 rfl rfl rfl ?_
  refine ev_getfield 73 dX8_strikes_70 rfl okf_X8_7 (Nat.le_of_ble_eq_true rfl) HPg_125 rfl ?_
  refine ev_iload_n (i := 1) 74 dX8_strikes_73 rfl rfl rfl ?_
  refine ev_iconst 75 dX8_strikes_74 rfl kI_4 ?_
  refine ev_callSi 78 [.int a1, .int 4] [.ref 126] dX8_strikes_75 rfl okS_X8_27 rfl rfl (Nat.le_of_ble_eq_true rfl) rfl (Nat.le_of_ble_eq_true rfl) (Nat.le_of_ble_eq_true rfl) (R_X8_at rfl) ?_
  refine ev_iload_n (i := 3) 79 dX8_strikes_78 rfl rfl rfl ?_
  obtain ⟨x5, hx5, hF⟩ := tv_bind hF
  refine ev_iastore 80 dX8_strikes_79 rfl (Nat.le_of_ble_eq_true rfl) HPg_126 hx5 HPa_126 ?_
  have hF := Option.some.inj hF
  subst hF
  exact ev_return dX8_strikes_80 rfl

set_option maxRecDepth 100000 in
set_option maxHeartbeats 4000000 in
theorem R_X8_leaves_L35 {g : tv_G} {l : Launch} {si : Nat → Int32} {sa : Nat → Nat → Int32} {hs : Nat → (Nat → Int32) × (Nat → Nat → Int32)} {tx : Nat → Int32} {tl : Int32} {hc : Int32} {hn : Int32} {pa : Nat → Int32} {mt : Nat → Int32} {pm : Int32} {ty : Int32} {ra : Int32} {l1 : Int32} {r : Option Value} {h' : tv_Hp} : ∀ (n : Nat) (l2 : Int32) (v : Nat → Int32) (x : (Nat → Int32)), F_X8_leaves_L35 l1 n l2 v = some x → tv_E g l yX8_leaves cX8_leaves 3 none 6 0 0 58 [.ref 125, .int l1, .null] [] (HP si sa hs tx tl hc hn x pa mt pm ty ra) r h' → tv_E g l yX8_leaves cX8_leaves 3 none 6 0 0 35 [.ref 125, .int l1, .int l2] [] (HP si sa hs tx tl hc hn v pa mt pm ty ra) r h' := by
  intro n
  induction n with
  | zero => intro l2 v x hF k; cases hF
  | succ n ih =>
      intro l2 v x hF k
      rw [F_X8_leaves_L35] at hF
      refine ev_iload_n (i := 2) 36 dX8_leaves_35 rfl rfl rfl ?_
      refine ev_aload_n (i := 0) 37 dX8_leaves_36 rfl rfl rfl ?_
      refine ev_getfield 40 dX8_leaves_37 rfl okf_X8_7 (Nat.le_of_ble_eq_true rfl) HPg_125 rfl ?_
      refine ev_bipush 42 dX8_leaves_40 rfl kB_10 ?_
      obtain ⟨x4, hx4, hF⟩ := tv_bind hF
      refine ev_iaload 43 dX8_leaves_42 rfl (Nat.le_of_ble_eq_true rfl) HPg_126 hx4 ?_
      refine ev_icmp_ge 58 46 dX8_leaves_43 rfl rfl (fun hc239 => ?_) (fun hc239 => ?_)
      · rw [if_pos hc239] at hF
        have hF := Option.some.inj hF
        subst hF
        refine ev_weak [.ref 125, .int l1, .null] ⟨Or.inr rfl, ⟨Or.inr rfl, ⟨Or.inl rfl, trivial⟩⟩⟩ ?_
        exact k
      · rw [if_neg hc239] at hF
        refine ev_aload_n (i := 0) 47 dX8_leaves_46 rfl rfl rfl ?_
        refine ev_iload_n (i := 2) 48 dX8_leaves_47 rfl rfl rfl ?_
        refine ev_iload_n (i := 1) 49 dX8_leaves_48 rfl rfl rfl ?_
        obtain ⟨x5, hx5, hF⟩ := tv_bind hF
        refine ev_callVv (i := 125) 52 [.int l2, .int l1] [] dX8_leaves_49 rfl okV_X8_79 rfl rfl (Nat.le_of_ble_eq_true rfl) (Nat.le_of_ble_eq_true rfl) HPg_125 rfl (Nat.le_of_ble_eq_true rfl) (Nat.le_of_ble_eq_true rfl) (R_X8_strikes hx5) ?_
        refine ev_iinc (L2 := [.ref 125, .int l1, .int (l2 + 1)]) 55 dX8_leaves_52 rfl rfl (kA_1 _) (Nat.le_of_ble_eq_true rfl) rfl ?_
        refine ev_goto 35 dX8_leaves_55 rfl ?_
        exact ih _ _ _ hF k

set_option maxRecDepth 100000 in
set_option maxHeartbeats 4000000 in
theorem R_X8_leaves {g : tv_G} {l : Launch} {si : Nat → Int32} {sa : Nat → Nat → Int32} {hs : Nat → (Nat → Int32) × (Nat → Nat → Int32)} {tx : Nat → Int32} {tl : Int32} {hc : Int32} {hn : Int32} {v : Nat → Int32} {pa : Nat → Int32} {mt : Nat → Int32} {pm : Int32} {ty : Int32} {ra : Int32} {a1 : Int32} {p : (Nat → Int32)} (hF : F_X8_leaves v a1 = some p) : tv_E g l yX8_leaves cX8_leaves 3 none 6 0 0 0 [.ref 125, .int a1, .null] [] (HP si sa hs tx tl hc hn v pa mt pm ty ra) none (HP si sa hs tx tl hc hn p pa mt pm ty ra) := by
  unfold F_X8_leaves at hF
  refine ev_aload_n (i := 0) 1 dX8_leaves_0 rfl rfl rfl ?_
  refine ev_getfield 4 dX8_leaves_1 rfl okf_X8_7 (Nat.le_of_ble_eq_true rfl) HPg_125 rfl ?_
  refine ev_iload_n (i := 1) 5 dX8_leaves_4 rfl rfl rfl ?_
  refine ev_iconst 6 dX8_leaves_5 rfl kI_1 ?_
  refine ev_callSi 9 [.int a1, .int 1] [.ref 126] dX8_leaves_6 rfl okS_X8_27 rfl rfl (Nat.le_of_ble_eq_true rfl) rfl (Nat.le_of_ble_eq_true rfl) (Nat.le_of_ble_eq_true rfl) (R_X8_at rfl) ?_
  refine ev_iconst 10 dX8_leaves_9 rfl kI_0 ?_
  obtain ⟨x1, hx1, hF⟩ := tv_bind hF
  refine ev_iastore 11 dX8_leaves_10 rfl (Nat.le_of_ble_eq_true rfl) HPg_126 hx1 HPa_126 ?_
  refine ev_aload_n (i := 0) 12 dX8_leaves_11 rfl rfl rfl ?_
  refine ev_getfield 15 dX8_leaves_12 rfl okf_X8_7 (Nat.le_of_ble_eq_true rfl) HPg_125 rfl ?_
  refine ev_iload_n (i := 1) 16 dX8_leaves_15 rfl rfl rfl ?_
  refine ev_iconst 17 dX8_leaves_16 rfl kI_2 ?_
  refine ev_callSi 20 [.int a1, .int 2] [.ref 126] dX8_leaves_17 rfl okS_X8_27 rfl rfl (Nat.le_of_ble_eq_true rfl) rfl (Nat.le_of_ble_eq_true rfl) (Nat.le_of_ble_eq_true rfl) (R_X8_at rfl) ?_
  refine ev_iconst 21 dX8_leaves_20 rfl kI_0 ?_
  obtain ⟨x2, hx2, hF⟩ := tv_bind hF
  refine ev_iastore 22 dX8_leaves_21 rfl (Nat.le_of_ble_eq_true rfl) HPg_126 hx2 HPa_126 ?_
  refine ev_aload_n (i := 0) 23 dX8_leaves_22 rfl rfl rfl ?_
  refine ev_getfield 26 dX8_leaves_23 rfl okf_X8_7 (Nat.le_of_ble_eq_true rfl) HPg_125 rfl ?_
  refine ev_iload_n (i := 1) 27 dX8_leaves_26 rfl rfl rfl ?_
  refine ev_iconst 28 dX8_leaves_27 rfl kI_4 ?_
  refine ev_callSi 31 [.int a1, .int 4] [.ref 126] dX8_leaves_28 rfl okS_X8_27 rfl rfl (Nat.le_of_ble_eq_true rfl) rfl (Nat.le_of_ble_eq_true rfl) (Nat.le_of_ble_eq_true rfl) (R_X8_at rfl) ?_
  refine ev_iconst 32 dX8_leaves_31 rfl kI_0 ?_
  obtain ⟨x3, hx3, hF⟩ := tv_bind hF
  refine ev_iastore 33 dX8_leaves_32 rfl (Nat.le_of_ble_eq_true rfl) HPg_126 hx3 HPa_126 ?_
  refine ev_iconst 34 dX8_leaves_33 rfl kI_0 ?_
  refine ev_istore_n (i := 2) (L2 := [.ref 125, .int a1, .int 0]) 35 dX8_leaves_34 rfl rfl (Nat.le_of_ble_eq_true rfl) rfl ?_
  obtain ⟨x6, hx6, hF⟩ := tv_bind hF
  refine R_X8_leaves_L35 _ _ _ _ hx6 ?_
  refine ev_aload_n (i := 0) 59 dX8_leaves_58 rfl rfl rfl ?_
  refine ev_getfield 62 dX8_leaves_59 rfl okf_X8_7 (Nat.le_of_ble_eq_true rfl) HPg_125 rfl ?_
  refine ev_bipush 64 dX8_leaves_62 rfl kB_8 ?_
  obtain ⟨x7, hx7, hF⟩ := tv_bind hF
  refine ev_iaload 65 dX8_leaves_64 rfl (Nat.le_of_ble_eq_true rfl) HPg_126 hx7 ?_
  refine ev_iload_n (i := 1) 66 dX8_leaves_65 rfl rfl rfl ?_
  refine ev_icmp_ne 88 69 dX8_leaves_66 rfl rfl (fun hc240 => ?_) (fun hc240 => ?_)
  · rw [if_neg hc240] at hF
    refine ev_aload_n (i := 0) 89 dX8_leaves_88 rfl rfl rfl ?_
    refine ev_getfield 92 dX8_leaves_89 rfl okf_X8_7 (Nat.le_of_ble_eq_true rfl) HPg_125 rfl ?_
    refine ev_bipush 94 dX8_leaves_92 rfl kB_8 ?_
    obtain ⟨x8, hx8, hF⟩ := tv_bind hF
    refine ev_iaload 95 dX8_leaves_94 rfl (Nat.le_of_ble_eq_true rfl) HPg_126 hx8 ?_
    refine ev_iload_n (i := 1) 96 dX8_leaves_95 rfl rfl rfl ?_
    refine ev_icmp_ne 116 99 dX8_leaves_96 rfl rfl (fun hc241 => ?_) (fun hc241 => ?_)
    · rw [if_neg hc241] at hF
      have hF := Option.some.inj hF
      subst hF
      exact ev_return dX8_leaves_116 rfl
    · rw [if_pos hc241] at hF
      refine ev_aload_n (i := 0) 100 dX8_leaves_99 rfl rfl rfl ?_
      refine ev_getfield 103 dX8_leaves_100 rfl okf_X8_7 (Nat.le_of_ble_eq_true rfl) HPg_125 rfl ?_
      refine ev_bipush 105 dX8_leaves_103 rfl kB_7 ?_
      obtain ⟨x9, hx9, hF⟩ := tv_bind hF
      refine ev_iaload 106 dX8_leaves_105 rfl (Nat.le_of_ble_eq_true rfl) HPg_126 hx9 ?_
      refine ev_iconst 107 dX8_leaves_106 rfl kI_1 ?_
      refine ev_icmp_ne 116 110 dX8_leaves_107 rfl rfl (fun hc242 => ?_) (fun hc242 => ?_)
      · rw [if_neg hc242] at hF
        have hF := Option.some.inj hF
        subst hF
        exact ev_return dX8_leaves_116 rfl
      · rw [if_pos hc242] at hF
        refine ev_aload_n (i := 0) 111 dX8_leaves_110 rfl rfl rfl ?_
        refine ev_bipush 113 dX8_leaves_111 rfl kB_m9 ?_
        obtain ⟨x10, hx10, hF⟩ := tv_bind hF
        refine ev_callVv (i := 125) 116 [.int (-9)] [] dX8_leaves_113 rfl okV_X8_55 rfl rfl (Nat.le_of_ble_eq_true rfl) (Nat.le_of_ble_eq_true rfl) HPg_125 rfl (Nat.le_of_ble_eq_true rfl) (Nat.le_of_ble_eq_true rfl) (R_X8_appoints hx10) ?_
        have hF := Option.some.inj hF
        subst hF
        exact ev_return dX8_leaves_116 rfl
  · rw [if_pos hc240] at hF
    refine ev_aload_n (i := 0) 70 dX8_leaves_69 rfl rfl rfl ?_
    refine ev_getfield 73 dX8_leaves_70 rfl okf_X8_7 (Nat.le_of_ble_eq_true rfl) HPg_125 rfl ?_
    refine ev_bipush 75 dX8_leaves_73 rfl kB_7 ?_
    obtain ⟨x11, hx11, hF⟩ := tv_bind hF
    refine ev_iaload 76 dX8_leaves_75 rfl (Nat.le_of_ble_eq_true rfl) HPg_126 hx11 ?_
    refine ev_iconst 77 dX8_leaves_76 rfl kI_2 ?_
    refine ev_icmp_ne 88 80 dX8_leaves_77 rfl rfl (fun hc243 => ?_) (fun hc243 => ?_)
    · rw [if_neg hc243] at hF
      refine ev_aload_n (i := 0) 89 dX8_leaves_88 rfl rfl rfl ?_
      refine ev_getfield 92 dX8_leaves_89 rfl okf_X8_7 (Nat.le_of_ble_eq_true rfl) HPg_125 rfl ?_
      refine ev_bipush 94 dX8_leaves_92 rfl kB_8 ?_
      obtain ⟨x12, hx12, hF⟩ := tv_bind hF
      refine ev_iaload 95 dX8_leaves_94 rfl (Nat.le_of_ble_eq_true rfl) HPg_126 hx12 ?_
      refine ev_iload_n (i := 1) 96 dX8_leaves_95 rfl rfl rfl ?_
      refine ev_icmp_ne 116 99 dX8_leaves_96 rfl rfl (fun hc244 => ?_) (fun hc244 => ?_)
      · rw [if_neg hc244] at hF
        have hF := Option.some.inj hF
        subst hF
        exact ev_return dX8_leaves_116 rfl
      · rw [if_pos hc244] at hF
        refine ev_aload_n (i := 0) 100 dX8_leaves_99 rfl rfl rfl ?_
        refine ev_getfield 103 dX8_leaves_100 rfl okf_X8_7 (Nat.le_of_ble_eq_true rfl) HPg_125 rfl ?_
        refine ev_bipush 105 dX8_leaves_103 rfl kB_7 ?_
        obtain ⟨x13, hx13, hF⟩ := tv_bind hF
        refine ev_iaload 106 dX8_leaves_105 rfl (Nat.le_of_ble_eq_true rfl) HPg_126 hx13 ?_
        refine ev_iconst 107 dX8_leaves_106 rfl kI_1 ?_
        refine ev_icmp_ne 116 110 dX8_leaves_107 rfl rfl (fun hc245 => ?_) (fun hc245 => ?_)
        · rw [if_neg hc245] at hF
          have hF := Option.some.inj hF
          subst hF
          exact ev_return dX8_leaves_116 rfl
        · rw [if_pos hc245] at hF
          refine ev_aload_n (i := 0) 111 dX8_leaves_110 rfl rfl rfl ?_
          refine ev_bipush 113 dX8_leaves_111 rfl kB_m9 ?_
          obtain ⟨x14, hx14, hF⟩ := tv_bind hF
          refine ev_callVv (i := 125) 116 [.int (-9)] [] dX8_leaves_113 rfl okV_X8_55 rfl rfl (Nat.le_of_ble_eq_true rfl) (Nat.le_of_ble_eq_true rfl) HPg_125 rfl (Nat.le_of_ble_eq_true rfl) (Nat.le_of_ble_eq_true rfl) (R_X8_appoints hx14) ?_
          have hF := Option.some.inj hF
          subst hF
          exact ev_return dX8_leaves_116 rfl
    · rw [if_pos hc243] at hF
      refine ev_aload_n (i := 0) 81 dX8_leaves_80 rfl rfl rfl ?_
      refine ev_iconst 82 dX8_leaves_81 rfl kI_4 ?_
      obtain ⟨x15, hx15, hF⟩ := tv_bind hF
      refine ev_callVv (i := 125) 85 [.int 4] [] dX8_leaves_82 rfl okV_X8_66 rfl rfl (Nat.le_of_ble_eq_true rfl) (Nat.le_of_ble_eq_true rfl) HPg_125 rfl (Nat.le_of_ble_eq_true rfl) (Nat.le_of_ble_eq_true rfl) (R_X8_ends hx15) ?_
      refine ev_goto 116 dX8_leaves_85 rfl ?_
      have hF := Option.some.inj hF
      subst hF
      exact ev_return dX8_leaves_116 rfl

set_option maxRecDepth 100000 in
set_option maxHeartbeats 4000000 in
theorem R_X8_setPresent {g : tv_G} {l : Launch} {si : Nat → Int32} {sa : Nat → Nat → Int32} {hs : Nat → (Nat → Int32) × (Nat → Nat → Int32)} {tx : Nat → Int32} {tl : Int32} {hc : Int32} {hn : Int32} {v : Nat → Int32} {pa : Nat → Int32} {mt : Nat → Int32} {pm : Int32} {ty : Int32} {ra : Int32} {a1 : Int32} {a2 : Int32} {p : Int32 × (Nat → Int32) × (Nat → Int32) × Int32} (hF : F_X8_setPresent v pa pm a1 a2 = some p) : tv_E g l yX8_setPresent cX8_setPresent 4 (some .int) 7 0 0 0 [.ref 125, .int a1, .int a2, .null] [] (HP si sa hs tx tl hc hn v pa mt pm ty ra) (some (.int p.1)) (HP si sa hs tx tl hc hn p.2.1 p.2.2.1 mt p.2.2.2 ty ra) := by
  unfold F_X8_setPresent at hF
  refine ev_aload_n (i := 0) 1 dX8_setPresent_0 rfl rfl rfl ?_
  refine ev_iload_n (i := 1) 2 dX8_setPresent_1 rfl rfl rfl ?_
  obtain ⟨x1, hx1, hF⟩ := tv_bind hF
  refine ev_callVi (i := 125) 5 [.int a1] [] dX8_setPresent_2 rfl okV_X8_82 rfl rfl (Nat.le_of_ble_eq_true rfl) (Nat.le_of_ble_eq_true rfl) HPg_125 rfl (Nat.le_of_ble_eq_true rfl) (Nat.le_of_ble_eq_true rfl) (R_X8_isMember hx1) ?_
  refine ev_if_ne 10 8 dX8_setPresent_5 rfl rfl (fun hc246 => ?_) (fun hc246 => ?_)
  · rw [if_neg hc246] at hF
    refine ev_aload_n (i := 0) 11 dX8_setPresent_10 rfl rfl rfl ?_
    obtain ⟨x2, hx2, hF⟩ := tv_bind hF
    refine ev_callVv (i := 125) 14 [] [] dX8_setPresent_11 rfl okV_X8_73 rfl rfl (Nat.le_of_ble_eq_true rfl) (Nat.le_of_ble_eq_true rfl) HPg_125 rfl (Nat.le_of_ble_eq_true rfl) (Nat.le_of_ble_eq_true rfl) (R_X8_act hx2) ?_
    refine ev_aload_n (i := 0) 15 dX8_setPresent_14 rfl rfl rfl ?_
    refine ev_getfield 18 dX8_setPresent_15 rfl okf_X8_7 (Nat.le_of_ble_eq_true rfl) HPg_125 rfl ?_
    refine ev_iload_n (i := 1) 19 dX8_setPresent_18 rfl rfl rfl ?_
    refine ev_iconst 20 dX8_setPresent_19 rfl kI_1 ?_
    refine ev_callSi 23 [.int a1, .int 1] [.ref 126] dX8_setPresent_20 rfl okS_X8_27 rfl rfl (Nat.le_of_ble_eq_true rfl) rfl (Nat.le_of_ble_eq_true rfl) (Nat.le_of_ble_eq_true rfl) (R_X8_at rfl) ?_
    obtain ⟨x3, hx3, hF⟩ := tv_bind hF
    refine ev_iaload 24 dX8_setPresent_23 rfl (Nat.le_of_ble_eq_true rfl) HPg_126 hx3 ?_
    refine ev_istore_n (i := 3) (L2 := [.ref 125, .int a1, .int a2, .int x3]) 25 dX8_setPresent_24 rfl rfl (Nat.le_of_ble_eq_true rfl) rfl ?_
    refine ev_iload_n (i := 2) 26 dX8_setPresent_25 rfl rfl rfl ?_
    refine ev_if_eq 51 29 dX8_setPresent_26 rfl rfl (fun hc247 => ?_) (fun hc247 => ?_)
    · rw [if_pos hc247] at hF
      refine ev_iload_n (i := 2) 52 dX8_setPresent_51 rfl rfl rfl ?_
      refine ev_if_ne 69 55 dX8_setPresent_52 rfl rfl (fun hc248 => ?_) (fun hc248 => ?_)
      · rw [if_neg hc248] at hF
        refine ev_iload_n (i := 3) 70 dX8_setPresent_69 rfl rfl rfl ?_
        have hF := Option.some.inj hF
        subst hF
        exact ev_ireturn dX8_setPresent_70 rfl rfl
      · rw [if_pos hc248] at hF
        refine ev_iload_n (i := 3) 56 dX8_setPresent_55 rfl rfl rfl ?_
        refine ev_iconst 57 dX8_setPresent_56 rfl kI_1 ?_
        refine ev_icmp_ne 69 60 dX8_setPresent_57 rfl rfl (fun hc249 => ?_) (fun hc249 => ?_)
        · rw [if_neg hc249] at hF
          refine ev_iload_n (i := 3) 70 dX8_setPresent_69 rfl rfl rfl ?_
          have hF := Option.some.inj hF
          subst hF
          exact ev_ireturn dX8_setPresent_70 rfl rfl
        · rw [if_pos hc249] at hF
          refine ev_aload_n (i := 0) 61 dX8_setPresent_60 rfl rfl rfl ?_
          refine ev_iload_n (i := 1) 62 dX8_setPresent_61 rfl rfl rfl ?_
          obtain ⟨x4, hx4, hF⟩ := tv_bind hF
          refine ev_callVv (i := 125) 65 [.int a1] [] dX8_setPresent_62 rfl okV_X8_85 rfl rfl (Nat.le_of_ble_eq_true rfl) (Nat.le_of_ble_eq_true rfl) HPg_125 rfl (Nat.le_of_ble_eq_true rfl) (Nat.le_of_ble_eq_true rfl) (R_X8_leaves hx4) ?_
          refine ev_aload_n (i := 0) 66 dX8_setPresent_65 rfl rfl rfl ?_
          obtain ⟨x5, hx5, hF⟩ := tv_bind hF
          refine ev_callVv (i := 125) 69 [] [] dX8_setPresent_66 rfl okV_X8_76 rfl rfl (Nat.le_of_ble_eq_true rfl) (Nat.le_of_ble_eq_true rfl) HPg_125 rfl (Nat.le_of_ble_eq_true rfl) (Nat.le_of_ble_eq_true rfl) (R_X8_looks hx5) ?_
          refine ev_iload_n (i := 3) 70 dX8_setPresent_69 rfl rfl rfl ?_
          have hF := Option.some.inj hF
          subst hF
          exact ev_ireturn dX8_setPresent_70 rfl rfl
    · rw [if_neg hc247] at hF
      refine ev_iload_n (i := 3) 30 dX8_setPresent_29 rfl rfl rfl ?_
      refine ev_if_ne 51 33 dX8_setPresent_30 rfl rfl (fun hc250 => ?_) (fun hc250 => ?_)
      · rw [if_neg hc250] at hF
        refine ev_iload_n (i := 2) 52 dX8_setPresent_51 rfl rfl rfl ?_
        refine ev_if_ne 69 55 dX8_setPresent_52 rfl rfl (fun hc251 => ?_) (fun hc251 => ?_)
        · rw [if_neg hc251] at hF
          refine ev_iload_n (i := 3) 70 dX8_setPresent_69 rfl rfl rfl ?_
          have hF := Option.some.inj hF
          subst hF
          exact ev_ireturn dX8_setPresent_70 rfl rfl
        · rw [if_pos hc251] at hF
          refine ev_iload_n (i := 3) 56 dX8_setPresent_55 rfl rfl rfl ?_
          refine ev_iconst 57 dX8_setPresent_56 rfl kI_1 ?_
          refine ev_icmp_ne 69 60 dX8_setPresent_57 rfl rfl (fun hc252 => ?_) (fun hc252 => ?_)
          · rw [if_neg hc252] at hF
            refine ev_iload_n (i := 3) 70 dX8_setPresent_69 rfl rfl rfl ?_
            have hF := Option.some.inj hF
            subst hF
            exact ev_ireturn dX8_setPresent_70 rfl rfl
          · rw [if_pos hc252] at hF
            refine ev_aload_n (i := 0) 61 dX8_setPresent_60 rfl rfl rfl ?_
            refine ev_iload_n (i := 1) 62 dX8_setPresent_61 rfl rfl rfl ?_
            obtain ⟨x6, hx6, hF⟩ := tv_bind hF
            refine ev_callVv (i := 125) 65 [.int a1] [] dX8_setPresent_62 rfl okV_X8_85 rfl rfl (Nat.le_of_ble_eq_true rfl) (Nat.le_of_ble_eq_true rfl) HPg_125 rfl (Nat.le_of_ble_eq_true rfl) (Nat.le_of_ble_eq_true rfl) (R_X8_leaves hx6) ?_
            refine ev_aload_n (i := 0) 66 dX8_setPresent_65 rfl rfl rfl ?_
            obtain ⟨x7, hx7, hF⟩ := tv_bind hF
            refine ev_callVv (i := 125) 69 [] [] dX8_setPresent_66 rfl okV_X8_76 rfl rfl (Nat.le_of_ble_eq_true rfl) (Nat.le_of_ble_eq_true rfl) HPg_125 rfl (Nat.le_of_ble_eq_true rfl) (Nat.le_of_ble_eq_true rfl) (R_X8_looks hx7) ?_
            refine ev_iload_n (i := 3) 70 dX8_setPresent_69 rfl rfl rfl ?_
            have hF := Option.some.inj hF
            subst hF
            exact ev_ireturn dX8_setPresent_70 rfl rfl
      · rw [if_pos hc250] at hF
        refine ev_aload_n (i := 0) 34 dX8_setPresent_33 rfl rfl rfl ?_
        refine ev_getfield 37 dX8_setPresent_34 rfl okf_X8_7 (Nat.le_of_ble_eq_true rfl) HPg_125 rfl ?_
        refine ev_iload_n (i := 1) 38 dX8_setPresent_37 rfl rfl rfl ?_
        refine ev_iconst 39 dX8_setPresent_38 rfl kI_1 ?_
        refine ev_callSi 42 [.int a1, .int 1] [.ref 126] dX8_setPresent_39 rfl okS_X8_27 rfl rfl (Nat.le_of_ble_eq_true rfl) rfl (Nat.le_of_ble_eq_true rfl) (Nat.le_of_ble_eq_true rfl) (R_X8_at rfl) ?_
        refine ev_iconst 43 dX8_setPresent_42 rfl kI_1 ?_
        obtain ⟨x8, hx8, hF⟩ := tv_bind hF
        refine ev_iastore 44 dX8_setPresent_43 rfl (Nat.le_of_ble_eq_true rfl) HPg_126 hx8 HPa_126 ?_
        refine ev_aload_n (i := 0) 45 dX8_setPresent_44 rfl rfl rfl ?_
        obtain ⟨x9, hx9, hF⟩ := tv_bind hF
        refine ev_callVv (i := 125) 48 [] [] dX8_setPresent_45 rfl okV_X8_76 rfl rfl (Nat.le_of_ble_eq_true rfl) (Nat.le_of_ble_eq_true rfl) HPg_125 rfl (Nat.le_of_ble_eq_true rfl) (Nat.le_of_ble_eq_true rfl) (R_X8_looks hx9) ?_
        refine ev_goto 69 dX8_setPresent_48 rfl ?_
        refine ev_iload_n (i := 3) 70 dX8_setPresent_69 rfl rfl rfl ?_
        have hF := Option.some.inj hF
        subst hF
        exact ev_ireturn dX8_setPresent_70 rfl rfl
  · rw [if_pos hc246] at hF
    refine ev_iconst 9 dX8_setPresent_8 rfl kI_m1 ?_
    have hF := Option.some.inj hF
    subst hF
    exact ev_ireturn dX8_setPresent_9 rfl rfl
