set_option maxRecDepth 100000 in
set_option maxHeartbeats 4000000 in
theorem R_X8_pass {g : tv_G} {l : Launch} {si : Nat → Int32} {sa : Nat → Nat → Int32} {hs : Nat → (Nat → Int32) × (Nat → Nat → Int32)} {tx : Nat → Int32} {tl : Int32} {hc : Int32} {hn : Int32} {v : Nat → Int32} {pa : Nat → Int32} {mt : Nat → Int32} {pm : Int32} {ty : Int32} {ra : Int32} {a1 : Int32} {p : Int32 × (Nat → Int32) × (Nat → Int32) × Int32} (hF : F_X8_pass v pa pm a1 = some p) : tv_E g l yX8_pass cX8_pass 3 (some .int) 6 0 0 0 [.ref 125, .int a1, .null] [] (HP si sa hs tx tl hc hn v pa mt pm ty ra) (some (.int p.1)) (HP si sa hs tx tl hc hn p.2.1 p.2.2.1 mt p.2.2.2 ty ra) := by
  unfold F_X8_pass at hF
  refine ev_iload_n (i := 1) 1 dX8_pass_0 rfl rfl rfl ?_
  refine ev_iconst 2 dX8_pass_1 rfl kI_1 ?_
  refine ev_sipush 5 dX8_pass_2 rfl kS_1000 ?_
  refine ev_callSi 8 [.int a1, .int 1, .int 1000] [] dX8_pass_5 rfl okS_X8_23 rfl rfl (Nat.le_of_ble_eq_true rfl) rfl (Nat.le_of_ble_eq_true rfl) (Nat.le_of_ble_eq_true rfl) (R_X8_in rfl) ?_
  refine ev_if_ne 13 11 dX8_pass_8 rfl rfl (fun hc253 => ?_) (fun hc253 => ?_)
  · rw [if_neg hc253] at hF
    refine ev_aload_n (i := 0) 14 dX8_pass_13 rfl rfl rfl ?_
    refine ev_getfield 17 dX8_pass_14 rfl okf_X8_7 (Nat.le_of_ble_eq_true rfl) HPg_125 rfl ?_
    refine ev_bipush 19 dX8_pass_17 rfl kB_6 ?_
    obtain ⟨x1, hx1, hF⟩ := tv_bind hF
    refine ev_iaload 20 dX8_pass_19 rfl (Nat.le_of_ble_eq_true rfl) HPg_126 hx1 ?_
    refine ev_iload_n (i := 1) 21 dX8_pass_20 rfl rfl rfl ?_
    refine ev_iadd 22 dX8_pass_21 rfl ?_
    refine ev_ldc 24 dX8_pass_22 rfl kc_X8_88 ?_
    refine ev_icmp_le 30 27 dX8_pass_24 rfl rfl (fun hc254 => ?_) (fun hc254 => ?_)
    · rw [if_pos hc254] at hF
      refine ev_aload_n (i := 0) 31 dX8_pass_30 rfl rfl rfl ?_
      obtain ⟨x2, hx2, hF⟩ := tv_bind hF
      refine ev_callVv (i := 125) 34 [] [] dX8_pass_31 rfl okV_X8_73 rfl rfl (Nat.le_of_ble_eq_true rfl) (Nat.le_of_ble_eq_true rfl) HPg_125 rfl (Nat.le_of_ble_eq_true rfl) (Nat.le_of_ble_eq_true rfl) (R_X8_act hx2) ?_
      refine ev_aload_n (i := 0) 35 dX8_pass_34 rfl rfl rfl ?_
      refine ev_getfield 38 dX8_pass_35 rfl okf_X8_7 (Nat.le_of_ble_eq_true rfl) HPg_125 rfl ?_
      refine ev_bipush 40 dX8_pass_38 rfl kB_6 ?_
      obtain ⟨x3, hx3, hF⟩ := tv_bind hF
      refine ev_iaload 41 dX8_pass_40 rfl (Nat.le_of_ble_eq_true rfl) HPg_126 hx3 ?_
      refine ev_iload_n (i := 1) 42 dX8_pass_41 rfl rfl rfl ?_
      refine ev_iadd 43 dX8_pass_42 rfl ?_
      refine ev_istore_n (i := 2) (L2 := [.ref 125, .int a1, .int (x3 + a1)]) 44 dX8_pass_43 rfl rfl (Nat.le_of_ble_eq_true rfl) rfl ?_
      refine ev_aload_n (i := 0) 45 dX8_pass_44 rfl rfl rfl ?_
      refine ev_getfield 48 dX8_pass_45 rfl okf_X8_7 (Nat.le_of_ble_eq_true rfl) HPg_125 rfl ?_
      refine ev_bipush 50 dX8_pass_48 rfl kB_7 ?_
      obtain ⟨x4, hx4, hF⟩ := tv_bind hF
      refine ev_iaload 51 dX8_pass_50 rfl (Nat.le_of_ble_eq_true rfl) HPg_126 hx4 ?_
      refine ev_iconst 52 dX8_pass_51 rfl kI_2 ?_
      obtain ⟨x11, hBx11, hF⟩ := tv_bind hF
      have Jx11 : tv_E g l yX8_pass cX8_pass 3 (some .int) 6 0 0 103 [.ref 125, .null, .int (x3 + a1)] [] (HP si sa hs tx tl hc hn x11 x2.1 mt x2.2 ty ra) (some (.int p.1)) (HP si sa hs tx tl hc hn p.2.1 p.2.2.1 mt p.2.2.2 ty ra) := by
        refine ev_aload_n (i := 0) 104 dX8_pass_103 rfl rfl rfl ?_
        refine ev_getfield 107 dX8_pass_104 rfl okf_X8_7 (Nat.le_of_ble_eq_true rfl) HPg_125 rfl ?_
        refine ev_bipush 109 dX8_pass_107 rfl kB_6 ?_
        refine ev_iload_n (i := 2) 110 dX8_pass_109 rfl rfl rfl ?_
        obtain ⟨x12, hx12, hF⟩ := tv_bind hF
        refine ev_iastore 111 dX8_pass_110 rfl (Nat.le_of_ble_eq_true rfl) HPg_126 hx12 HPa_126 ?_
        refine ev_iload_n (i := 2) 112 dX8_pass_111 rfl rfl rfl ?_
        have hF := Option.some.inj hF
        subst hF
        exact ev_ireturn dX8_pass_112 rfl rfl
      clear hF
      refine ev_icmp_ne 103 55 dX8_pass_52 rfl rfl (fun hc255 => ?_) (fun hc255 => ?_)
      · rw [if_neg hc255] at hBx11
        have hBx11 := Option.some.inj hBx11
        subst hBx11
        refine ev_weak [.ref 125, .null, .int (x3 + a1)] ⟨Or.inr rfl, ⟨Or.inl rfl, ⟨Or.inr rfl, trivial⟩⟩⟩ ?_
        exact Jx11
      · rw [if_pos hc255] at hBx11
        refine ev_aload_n (i := 0) 56 dX8_pass_55 rfl rfl rfl ?_
        refine ev_getfield 59 dX8_pass_56 rfl okf_X8_7 (Nat.le_of_ble_eq_true rfl) HPg_125 rfl ?_
        refine ev_aload_n (i := 0) 60 dX8_pass_59 rfl rfl rfl ?_
        refine ev_getfield 63 dX8_pass_60 rfl okf_X8_7 (Nat.le_of_ble_eq_true rfl) HPg_125 rfl ?_
        refine ev_bipush 65 dX8_pass_63 rfl kB_9 ?_
        obtain ⟨x5, hx5, hBx11⟩ := tv_bind hBx11
        refine ev_iaload 66 dX8_pass_65 rfl (Nat.le_of_ble_eq_true rfl) HPg_126 hx5 ?_
        refine ev_iconst 67 dX8_pass_66 rfl kI_2 ?_
        refine ev_callSi 70 [.int x5, .int 2] [.ref 126] dX8_pass_67 rfl okS_X8_31 rfl rfl (Nat.le_of_ble_eq_true rfl) rfl (Nat.le_of_ble_eq_true rfl) (Nat.le_of_ble_eq_true rfl) (R_X8_of rfl) ?_
        obtain ⟨x6, hx6, hBx11⟩ := tv_bind hBx11
        refine ev_iaload 71 dX8_pass_70 rfl (Nat.le_of_ble_eq_true rfl) HPg_126 hx6 ?_
        refine ev_iload_n (i := 2) 72 dX8_pass_71 rfl rfl rfl ?_
        refine ev_icmp_gt 103 75 dX8_pass_72 rfl rfl (fun hc256 => ?_) (fun hc256 => ?_)
        · rw [if_pos hc256] at hBx11
          have hBx11 := Option.some.inj hBx11
          subst hBx11
          refine ev_weak [.ref 125, .null, .int (x3 + a1)] ⟨Or.inr rfl, ⟨Or.inl rfl, ⟨Or.inr rfl, trivial⟩⟩⟩ ?_
          exact Jx11
        · rw [if_neg hc256] at hBx11
          refine ev_aload_n (i := 0) 76 dX8_pass_75 rfl rfl rfl ?_
          refine ev_getfield 79 dX8_pass_76 rfl okf_X8_7 (Nat.le_of_ble_eq_true rfl) HPg_125 rfl ?_
          refine ev_bipush 81 dX8_pass_79 rfl kB_6 ?_
          refine ev_aload_n (i := 0) 82 dX8_pass_81 rfl rfl rfl ?_
          refine ev_getfield 85 dX8_pass_82 rfl okf_X8_7 (Nat.le_of_ble_eq_true rfl) HPg_125 rfl ?_
          refine ev_aload_n (i := 0) 86 dX8_pass_85 rfl rfl rfl ?_
          refine ev_getfield 89 dX8_pass_86 rfl okf_X8_7 (Nat.le_of_ble_eq_true rfl) HPg_125 rfl ?_
          refine ev_bipush 91 dX8_pass_89 rfl kB_9 ?_
          obtain ⟨x7, hx7, hBx11⟩ := tv_bind hBx11
          refine ev_iaload 92 dX8_pass_91 rfl (Nat.le_of_ble_eq_true rfl) HPg_126 hx7 ?_
          refine ev_iconst 93 dX8_pass_92 rfl kI_2 ?_
          refine ev_callSi 96 [.int x7, .int 2] [.ref 126, .int 6, .ref 126] dX8_pass_93 rfl okS_X8_31 rfl rfl (Nat.le_of_ble_eq_true rfl) rfl (Nat.le_of_ble_eq_true rfl) (Nat.le_of_ble_eq_true rfl) (R_X8_of rfl) ?_
          obtain ⟨x8, hx8, hBx11⟩ := tv_bind hBx11
          refine ev_iaload 97 dX8_pass_96 rfl (Nat.le_of_ble_eq_true rfl) HPg_126 hx8 ?_
          obtain ⟨x9, hx9, hBx11⟩ := tv_bind hBx11
          refine ev_iastore 98 dX8_pass_97 rfl (Nat.le_of_ble_eq_true rfl) HPg_126 hx9 HPa_126 ?_
          refine ev_aload_n (i := 0) 99 dX8_pass_98 rfl rfl rfl ?_
          refine ev_iconst 100 dX8_pass_99 rfl kI_2 ?_
          obtain ⟨x10, hx10, hBx11⟩ := tv_bind hBx11
          refine ev_callVv (i := 125) 103 [.int 2] [] dX8_pass_100 rfl okV_X8_66 rfl rfl (Nat.le_of_ble_eq_true rfl) (Nat.le_of_ble_eq_true rfl) HPg_125 rfl (Nat.le_of_ble_eq_true rfl) (Nat.le_of_ble_eq_true rfl) (R_X8_ends hx10) ?_
          have hBx11 := Option.some.inj hBx11
          subst hBx11
          refine ev_weak [.ref 125, .null, .int (x3 + a1)] ⟨Or.inr rfl, ⟨Or.inl rfl, ⟨Or.inr rfl, trivial⟩⟩⟩ ?_
          exact Jx11
    · rw [if_neg hc254] at hF
      refine ev_bipush 29 dX8_pass_27 rfl kB_m2 ?_
      have hF := Option.some.inj hF
      subst hF
      exact ev_ireturn dX8_pass_29 rfl rfl
  · rw [if_pos hc253] at hF
    refine ev_iconst 12 dX8_pass_11 rfl kI_m1 ?_
    have hF := Option.some.inj hF
    subst hF
    exact ev_ireturn dX8_pass_12 rfl rfl

set_option maxRecDepth 100000 in
set_option maxHeartbeats 4000000 in
theorem R_X8_open {g : tv_G} {l : Launch} {si : Nat → Int32} {sa : Nat → Nat → Int32} {hs : Nat → (Nat → Int32) × (Nat → Nat → Int32)} {tx : Nat → Int32} {tl : Int32} {hc : Int32} {hn : Int32} {v : Nat → Int32} {pa : Nat → Int32} {mt : Nat → Int32} {pm : Int32} {ty : Int32} {ra : Int32}  {p : Int32 × (Nat → Int32) × (Nat → Int32) × Int32} (hF : F_X8_open v pa pm = some p) : tv_E g l yX8_open cX8_open 1 (some .int) 1 0 0 0 [.ref 125] [] (HP si sa hs tx tl hc hn v pa mt pm ty ra) (some (.int p.1)) (HP si sa hs tx tl hc hn p.2.1 p.2.2.1 mt p.2.2.2 ty ra) := by
  unfold F_X8_open at hF
  refine ev_aload_n (i := 0) 1 dX8_open_0 rfl rfl rfl ?_
  refine ev_getfield 4 dX8_open_1 rfl okf_X8_7 (Nat.le_of_ble_eq_true rfl) HPg_125 rfl ?_
  refine ev_bipush 6 dX8_open_4 rfl kB_11 ?_
  obtain ⟨x1, hx1, hF⟩ := tv_bind hF
  refine ev_iaload 7 dX8_open_6 rfl (Nat.le_of_ble_eq_true rfl) HPg_126 hx1 ?_
  refine ev_iconst 8 dX8_open_7 rfl kI_1 ?_
  refine ev_icmp_eq 22 11 dX8_open_8 rfl rfl (fun hc257 => ?_) (fun hc257 => ?_)
  · rw [if_pos hc257] at hF
    refine ev_bipush 24 dX8_open_22 rfl kB_m2 ?_
    have hF := Option.some.inj hF
    subst hF
    exact ev_ireturn dX8_open_24 rfl rfl
  · rw [if_neg hc257] at hF
    refine ev_aload_n (i := 0) 12 dX8_open_11 rfl rfl rfl ?_
    refine ev_getfield 15 dX8_open_12 rfl okf_X8_7 (Nat.le_of_ble_eq_true rfl) HPg_125 rfl ?_
    refine ev_bipush 17 dX8_open_15 rfl kB_7 ?_
    obtain ⟨x2, hx2, hF⟩ := tv_bind hF
    refine ev_iaload 18 dX8_open_17 rfl (Nat.le_of_ble_eq_true rfl) HPg_126 hx2 ?_
    refine ev_iconst 19 dX8_open_18 rfl kI_2 ?_
    refine ev_icmp_ne 25 22 dX8_open_19 rfl rfl (fun hc258 => ?_) (fun hc258 => ?_)
    · rw [if_neg hc258] at hF
      refine ev_aload_n (i := 0) 26 dX8_open_25 rfl rfl rfl ?_
      refine ev_getfield 29 dX8_open_26 rfl okf_X8_7 (Nat.le_of_ble_eq_true rfl) HPg_125 rfl ?_
      refine ev_bipush 31 dX8_open_29 rfl kB_9 ?_
      obtain ⟨x3, hx3, hF⟩ := tv_bind hF
      refine ev_iaload 32 dX8_open_31 rfl (Nat.le_of_ble_eq_true rfl) HPg_126 hx3 ?_
      refine ev_bipush 34 dX8_open_32 rfl kB_40 ?_
      refine ev_icmp_ne 40 37 dX8_open_34 rfl rfl (fun hc259 => ?_) (fun hc259 => ?_)
      · rw [if_neg hc259] at hF
        refine ev_aload_n (i := 0) 41 dX8_open_40 rfl rfl rfl ?_
        obtain ⟨x4, hx4, hF⟩ := tv_bind hF
        refine ev_callVv (i := 125) 44 [] [] dX8_open_41 rfl okV_X8_73 rfl rfl (Nat.le_of_ble_eq_true rfl) (Nat.le_of_ble_eq_true rfl) HPg_125 rfl (Nat.le_of_ble_eq_true rfl) (Nat.le_of_ble_eq_true rfl) (R_X8_act hx4) ?_
        refine ev_aload_n (i := 0) 45 dX8_open_44 rfl rfl rfl ?_
        refine ev_getfield 48 dX8_open_45 rfl okf_X8_7 (Nat.le_of_ble_eq_true rfl) HPg_125 rfl ?_
        refine ev_bipush 50 dX8_open_48 rfl kB_11 ?_
        refine ev_iconst 51 dX8_open_50 rfl kI_1 ?_
        obtain ⟨x5, hx5, hF⟩ := tv_bind hF
        refine ev_iastore 52 dX8_open_51 rfl (Nat.le_of_ble_eq_true rfl) HPg_126 hx5 HPa_126 ?_
        refine ev_aload_n (i := 0) 53 dX8_open_52 rfl rfl rfl ?_
        refine ev_getfield 56 dX8_open_53 rfl okf_X8_7 (Nat.le_of_ble_eq_true rfl) HPg_125 rfl ?_
        refine ev_bipush 58 dX8_open_56 rfl kB_9 ?_
        obtain ⟨x6, hx6, hF⟩ := tv_bind hF
        refine ev_iaload 59 dX8_open_58 rfl (Nat.le_of_ble_eq_true rfl) HPg_126 hx6 ?_
        refine ev_iconst 60 dX8_open_59 rfl kI_1 ?_
        refine ev_iadd 61 dX8_open_60 rfl ?_
        have hF := Option.some.inj hF
        subst hF
        exact ev_ireturn dX8_open_61 rfl rfl
      · rw [if_pos hc259] at hF
        refine ev_bipush 39 dX8_open_37 rfl kB_m3 ?_
        have hF := Option.some.inj hF
        subst hF
        exact ev_ireturn dX8_open_39 rfl rfl
    · rw [if_pos hc258] at hF
      refine ev_bipush 24 dX8_open_22 rfl kB_m2 ?_
      have hF := Option.some.inj hF
      subst hF
      exact ev_ireturn dX8_open_24 rfl rfl

set_option maxRecDepth 100000 in
set_option maxHeartbeats 4000000 in
theorem R_X8_canLead_L10 {g : tv_G} {l : Launch} {si : Nat → Int32} {sa : Nat → Nat → Int32} {hs : Nat → (Nat → Int32) × (Nat → Nat → Int32)} {tx : Nat → Int32} {tl : Int32} {hc : Int32} {hn : Int32} {v : Nat → Int32} {pa : Nat → Int32} {mt : Nat → Int32} {pm : Int32} {ty : Int32} {ra : Int32} {l1 : Int32} {r : Option Value} {h' : tv_Hp} : ∀ (n : Nat) (l2 : Int32) (l3 : Int32)  (x : Int32), F_X8_canLead_L10 v l1 n l2 l3 = some x → tv_E g l yX8_canLead cX8_canLead 4 (some .boolean) 2 0 0 38 [.ref 125, .int l1, .int x, .null] [] (HP si sa hs tx tl hc hn v pa mt pm ty ra) r h' → tv_E g l yX8_canLead cX8_canLead 4 (some .boolean) 2 0 0 10 [.ref 125, .int l1, .int l2, .int l3] [] (HP si sa hs tx tl hc hn v pa mt pm ty ra) r h' := by
  intro n
  induction n with
  | zero => intro l2 l3 x hF k; cases hF
  | succ n ih =>
      intro l2 l3 x hF k
      rw [F_X8_canLead_L10] at hF
      refine ev_iload_n (i := 3) 11 dX8_canLead_10 rfl rfl rfl ?_
      refine ev_iconst 12 dX8_canLead_11 rfl kI_1 ?_
      refine ev_icmp_lt 38 15 dX8_canLead_12 rfl rfl (fun hc260 => ?_) (fun hc260 => ?_)
      · rw [if_pos hc260] at hF
        have hF := Option.some.inj hF
        subst hF
        refine ev_weak [.ref 125, .int l1, .int l2, .null] ⟨Or.inr rfl, ⟨Or.inr rfl, ⟨Or.inr rfl, ⟨Or.inl rfl, trivial⟩⟩⟩⟩ ?_
        exact k
      · rw [if_neg hc260] at hF
        refine ev_aload_n (i := 0) 16 dX8_canLead_15 rfl rfl rfl ?_
        refine ev_getfield 19 dX8_canLead_16 rfl okf_X8_7 (Nat.le_of_ble_eq_true rfl) HPg_125 rfl ?_
        refine ev_iload_n (i := 3) 20 dX8_canLead_19 rfl rfl rfl ?_
        refine ev_iconst 21 dX8_canLead_20 rfl kI_0 ?_
        refine ev_callSi 24 [.int l3, .int 0] [.ref 126] dX8_canLead_21 rfl okS_X8_31 rfl rfl (Nat.le_of_ble_eq_true rfl) rfl (Nat.le_of_ble_eq_true rfl) (Nat.le_of_ble_eq_true rfl) (R_X8_of rfl) ?_
        obtain ⟨x2, hx2, hF⟩ := tv_bind hF
        refine ev_iaload 25 dX8_canLead_24 rfl (Nat.le_of_ble_eq_true rfl) HPg_126 hx2 ?_
        refine ev_iload_n (i := 1) 26 dX8_canLead_25 rfl rfl rfl ?_
        refine ev_icmp_ne 38 29 dX8_canLead_26 rfl rfl (fun hc261 => ?_) (fun hc261 => ?_)
        · rw [if_neg hc261] at hF
          have hF := Option.some.inj hF
          subst hF
          refine ev_weak [.ref 125, .int l1, .int l2, .null] ⟨Or.inr rfl, ⟨Or.inr rfl, ⟨Or.inr rfl, ⟨Or.inl rfl, trivial⟩⟩⟩⟩ ?_
          exact k
        · rw [if_pos hc261] at hF
          refine ev_iinc (L2 := [.ref 125, .int l1, .int (l2 + 1), .int l3]) 32 dX8_canLead_29 rfl rfl (kA_1 _) (Nat.le_of_ble_eq_true rfl) rfl ?_
          refine ev_iinc (L2 := [.ref 125, .int l1, .int (l2 + 1), .int (l3 + (-1))]) 35 dX8_canLead_32 rfl rfl (kA_m1 _) (Nat.le_of_ble_eq_true rfl) rfl ?_
          refine ev_goto 10 dX8_canLead_35 rfl ?_
          exact ih _ _ _ hF k

set_option maxRecDepth 100000 in
set_option maxHeartbeats 4000000 in
theorem R_X8_canLead {g : tv_G} {l : Launch} {si : Nat → Int32} {sa : Nat → Nat → Int32} {hs : Nat → (Nat → Int32) × (Nat → Nat → Int32)} {tx : Nat → Int32} {tl : Int32} {hc : Int32} {hn : Int32} {v : Nat → Int32} {pa : Nat → Int32} {mt : Nat → Int32} {pm : Int32} {ty : Int32} {ra : Int32} {a1 : Int32} {p : Int32} (hF : F_X8_canLead v a1 = some p) : tv_E g l yX8_canLead cX8_canLead 4 (some .boolean) 2 0 0 0 [.ref 125, .int a1, .null, .null] [] (HP si sa hs tx tl hc hn v pa mt pm ty ra) (some (.int p)) (HP si sa hs tx tl hc hn v pa mt pm ty ra) := by
  unfold F_X8_canLead at hF
  refine ev_iconst 1 dX8_canLead_0 rfl kI_0 ?_
  refine ev_istore_n (i := 2) (L2 := [.ref 125, .int a1, .int 0, .null]) 2 dX8_canLead_1 rfl rfl (Nat.le_of_ble_eq_true rfl) rfl ?_
  refine ev_aload_n (i := 0) 3 dX8_canLead_2 rfl rfl rfl ?_
  refine ev_getfield 6 dX8_canLead_3 rfl okf_X8_7 (Nat.le_of_ble_eq_true rfl) HPg_125 rfl ?_
  refine ev_bipush 8 dX8_canLead_6 rfl kB_9 ?_
  obtain ⟨x1, hx1, hF⟩ := tv_bind hF
  refine ev_iaload 9 dX8_canLead_8 rfl (Nat.le_of_ble_eq_true rfl) HPg_126 hx1 ?_
  refine ev_istore_n (i := 3) (L2 := [.ref 125, .int a1, .int 0, .int x1]) 10 dX8_canLead_9 rfl rfl (Nat.le_of_ble_eq_true rfl) rfl ?_
  obtain ⟨x3, hx3, hF⟩ := tv_bind hF
  refine R_X8_canLead_L10 _ _ _ _ hx3 ?_
  refine ev_aload_n (i := 0) 39 dX8_canLead_38 rfl rfl rfl ?_
  refine ev_iload_n (i := 1) 40 dX8_canLead_39 rfl rfl rfl ?_
  obtain ⟨x4, hx4, hF⟩ := tv_bind hF
  refine ev_callVi (i := 125) 43 [.int a1] [] dX8_canLead_40 rfl okV_X8_41 rfl rfl (Nat.le_of_ble_eq_true rfl) (Nat.le_of_ble_eq_true rfl) HPg_125 rfl (Nat.le_of_ble_eq_true rfl) (Nat.le_of_ble_eq_true rfl) (R_X8_isPresent hx4) ?_
  refine ev_if_eq 74 46 dX8_canLead_43 rfl rfl (fun hc262 => ?_) (fun hc262 => ?_)
  · rw [if_pos hc262] at hF
    refine ev_iconst 75 dX8_canLead_74 rfl kI_0 ?_
    have hF := Option.some.inj hF
    subst hF
    exact ev_ireturn dX8_canLead_75 rfl rfl
  · rw [if_neg hc262] at hF
    refine ev_aload_n (i := 0) 47 dX8_canLead_46 rfl rfl rfl ?_
    refine ev_iload_n (i := 1) 48 dX8_canLead_47 rfl rfl rfl ?_
    obtain ⟨x5, hx5, hF⟩ := tv_bind hF
    refine ev_callVi (i := 125) 51 [.int a1] [] dX8_canLead_48 rfl okV_X8_45 rfl rfl (Nat.le_of_ble_eq_true rfl) (Nat.le_of_ble_eq_true rfl) HPg_125 rfl (Nat.le_of_ble_eq_true rfl) (Nat.le_of_ble_eq_true rfl) (R_X8_led hx5) ?_
    refine ev_aload_n (i := 0) 52 dX8_canLead_51 rfl rfl rfl ?_
    refine ev_getfield 55 dX8_canLead_52 rfl okf_X8_7 (Nat.le_of_ble_eq_true rfl) HPg_125 rfl ?_
    refine ev_iconst 56 dX8_canLead_55 rfl kI_1 ?_
    obtain ⟨x6, hx6, hF⟩ := tv_bind hF
    refine ev_iaload 57 dX8_canLead_56 rfl (Nat.le_of_ble_eq_true rfl) HPg_126 hx6 ?_
    refine ev_icmp_ge 74 60 dX8_canLead_57 rfl rfl (fun hc263 => ?_) (fun hc263 => ?_)
    · rw [if_pos hc263] at hF
      refine ev_iconst 75 dX8_canLead_74 rfl kI_0 ?_
      have hF := Option.some.inj hF
      subst hF
      exact ev_ireturn dX8_canLead_75 rfl rfl
    · rw [if_neg hc263] at hF
      refine ev_iload_n (i := 2) 61 dX8_canLead_60 rfl rfl rfl ?_
      refine ev_aload_n (i := 0) 62 dX8_canLead_61 rfl rfl rfl ?_
      refine ev_getfield 65 dX8_canLead_62 rfl okf_X8_7 (Nat.le_of_ble_eq_true rfl) HPg_125 rfl ?_
      refine ev_iconst 66 dX8_canLead_65 rfl kI_2 ?_
      obtain ⟨x7, hx7, hF⟩ := tv_bind hF
      refine ev_iaload 67 dX8_canLead_66 rfl (Nat.le_of_ble_eq_true rfl) HPg_126 hx7 ?_
      refine ev_icmp_ge 74 70 dX8_canLead_67 rfl rfl (fun hc264 => ?_) (fun hc264 => ?_)
      · rw [if_pos hc264] at hF
        refine ev_iconst 75 dX8_canLead_74 rfl kI_0 ?_
        have hF := Option.some.inj hF
        subst hF
        exact ev_ireturn dX8_canLead_75 rfl rfl
      · rw [if_neg hc264] at hF
        refine ev_iconst 71 dX8_canLead_70 rfl kI_1 ?_
        refine ev_goto 75 dX8_canLead_71 rfl ?_
        have hF := Option.some.inj hF
        subst hF
        exact ev_ireturn dX8_canLead_75 rfl rfl

set_option maxRecDepth 100000 in
set_option maxHeartbeats 4000000 in
theorem R_X8_candidates_L4 {g : tv_G} {l : Launch} {si : Nat → Int32} {sa : Nat → Nat → Int32} {hs : Nat → (Nat → Int32) × (Nat → Nat → Int32)} {tx : Nat → Int32} {tl : Int32} {hc : Int32} {hn : Int32} {v : Nat → Int32} {pa : Nat → Int32} {mt : Nat → Int32} {pm : Int32} {ty : Int32} {ra : Int32}  {r : Option Value} {h' : tv_Hp} : ∀ (n : Nat) (l1 : Int32) (l2 : Int32)  (x : Int32), F_X8_candidates_L4 v n l1 l2 = some x → tv_E g l yX8_candidates cX8_candidates 3 (some .int) 1 0 0 34 [.null, .int x, .null] [] (HP si sa hs tx tl hc hn v pa mt pm ty ra) r h' → tv_E g l yX8_candidates cX8_candidates 3 (some .int) 1 0 0 4 [.ref 125, .int l1, .int l2] [] (HP si sa hs tx tl hc hn v pa mt pm ty ra) r h' := by
  intro n
  induction n with
  | zero => intro l1 l2 x hF k; cases hF
  | succ n ih =>
      intro l1 l2 x hF k
      rw [F_X8_candidates_L4] at hF
      refine ev_iload_n (i := 2) 5 dX8_candidates_4 rfl rfl rfl ?_
      refine ev_aload_n (i := 0) 6 dX8_candidates_5 rfl rfl rfl ?_
      refine ev_getfield 9 dX8_candidates_6 rfl okf_X8_7 (Nat.le_of_ble_eq_true rfl) HPg_125 rfl ?_
      refine ev_bipush 11 dX8_candidates_9 rfl kB_10 ?_
      obtain ⟨x1, hx1, hF⟩ := tv_bind hF
      refine ev_iaload 12 dX8_candidates_11 rfl (Nat.le_of_ble_eq_true rfl) HPg_126 hx1 ?_
      refine ev_icmp_ge 34 15 dX8_candidates_12 rfl rfl (fun hc265 => ?_) (fun hc265 => ?_)
      · rw [if_pos hc265] at hF
        have hF := Option.some.inj hF
        subst hF
        refine ev_weak [.null, .int l1, .null] ⟨Or.inl rfl, ⟨Or.inr rfl, ⟨Or.inl rfl, trivial⟩⟩⟩ ?_
        exact k
      · rw [if_neg hc265] at hF
        refine ev_iload_n (i := 1) 16 dX8_candidates_15 rfl rfl rfl ?_
        refine ev_aload_n (i := 0) 17 dX8_candidates_16 rfl rfl rfl ?_
        refine ev_getfield 20 dX8_candidates_17 rfl okf_X8_7 (Nat.le_of_ble_eq_true rfl) HPg_125 rfl ?_
        refine ev_iload_n (i := 2) 21 dX8_candidates_20 rfl rfl rfl ?_
        refine ev_iconst 22 dX8_candidates_21 rfl kI_2 ?_
        refine ev_callSi 25 [.int l2, .int 2] [.ref 126, .int l1] dX8_candidates_22 rfl okS_X8_27 rfl rfl (Nat.le_of_ble_eq_true rfl) rfl (Nat.le_of_ble_eq_true rfl) (Nat.le_of_ble_eq_true rfl) (R_X8_at rfl) ?_
        obtain ⟨x2, hx2, hF⟩ := tv_bind hF
        refine ev_iaload 26 dX8_candidates_25 rfl (Nat.le_of_ble_eq_true rfl) HPg_126 hx2 ?_
        refine ev_iadd 27 dX8_candidates_26 rfl ?_
        refine ev_istore_n (i := 1) (L2 := [.ref 125, .int (l1 + x2), .int l2]) 28 dX8_candidates_27 rfl rfl (Nat.le_of_ble_eq_true rfl) rfl ?_
        refine ev_iinc (L2 := [.ref 125, .int (l1 + x2), .int (l2 + 1)]) 31 dX8_candidates_28 rfl rfl (kA_1 _) (Nat.le_of_ble_eq_true rfl) rfl ?_
        refine ev_goto 4 dX8_candidates_31 rfl ?_
        exact ih _ _ _ hF k

set_option maxRecDepth 100000 in
set_option maxHeartbeats 4000000 in
theorem R_X8_candidates {g : tv_G} {l : Launch} {si : Nat → Int32} {sa : Nat → Nat → Int32} {hs : Nat → (Nat → Int32) × (Nat → Nat → Int32)} {tx : Nat → Int32} {tl : Int32} {hc : Int32} {hn : Int32} {v : Nat → Int32} {pa : Nat → Int32} {mt : Nat → Int32} {pm : Int32} {ty : Int32} {ra : Int32}  {p : Int32} (hF : F_X8_candidates v = some p) : tv_E g l yX8_candidates cX8_candidates 3 (some .int) 1 0 0 0 [.ref 125, .null, .null] [] (HP si sa hs tx tl hc hn v pa mt pm ty ra) (some (.int p)) (HP si sa hs tx tl hc hn v pa mt pm ty ra) := by
  unfold F_X8_candidates at hF
  refine ev_iconst 1 dX8_candidates_0 rfl kI_0 ?_
  refine ev_istore_n (i := 1) (L2 := [.ref 125, .int 0, .null]) 2 dX8_candidates_1 rfl rfl (Nat.le_of_ble_eq_true rfl) rfl ?_
  refine ev_iconst 3 dX8_candidates_2 rfl kI_0 ?_
  refine ev_istore_n (i := 2) (L2 := [.ref 125, .int 0, .int 0]) 4 dX8_candidates_3 rfl rfl (Nat.le_of_ble_eq_true rfl) rfl ?_
  obtain ⟨x3, hx3, hF⟩ := tv_bind hF
  refine R_X8_candidates_L4 _ _ _ _ hx3 ?_
  refine ev_iload_n (i := 1) 35 dX8_candidates_34 rfl rfl rfl ?_
  have hF := Option.some.inj hF
  subst hF
  exact ev_ireturn dX8_candidates_35 rfl rfl

set_option maxRecDepth 100000 in
set_option maxHeartbeats 4000000 in
theorem R_X8_nominate {g : tv_G} {l : Launch} {si : Nat → Int32} {sa : Nat → Nat → Int32} {hs : Nat → (Nat → Int32) × (Nat → Nat → Int32)} {tx : Nat → Int32} {tl : Int32} {hc : Int32} {hn : Int32} {v : Nat → Int32} {pa : Nat → Int32} {mt : Nat → Int32} {pm : Int32} {ty : Int32} {ra : Int32} {a1 : Int32} {p : Int32 × (Nat → Int32) × (Nat → Int32) × Int32} (hF : F_X8_nominate v pa pm a1 = some p) : tv_E g l yX8_nominate cX8_nominate 2 (some .int) 3 0 0 0 [.ref 125, .int a1] [] (HP si sa hs tx tl hc hn v pa mt pm ty ra) (some (.int p.1)) (HP si sa hs tx tl hc hn p.2.1 p.2.2.1 mt p.2.2.2 ty ra) := by
  unfold F_X8_nominate at hF
  refine ev_aload_n (i := 0) 1 dX8_nominate_0 rfl rfl rfl ?_
  refine ev_iload_n (i := 1) 2 dX8_nominate_1 rfl rfl rfl ?_
  obtain ⟨x1, hx1, hF⟩ := tv_bind hF
  refine ev_callVi (i := 125) 5 [.int a1] [] dX8_nominate_2 rfl okV_X8_82 rfl rfl (Nat.le_of_ble_eq_true rfl) (Nat.le_of_ble_eq_true rfl) HPg_125 rfl (Nat.le_of_ble_eq_true rfl) (Nat.le_of_ble_eq_true rfl) (R_X8_isMember hx1) ?_
  refine ev_if_ne 10 8 dX8_nominate_5 rfl rfl (fun hc266 => ?_) (fun hc266 => ?_)
  · rw [if_neg hc266] at hF
    refine ev_aload_n (i := 0) 11 dX8_nominate_10 rfl rfl rfl ?_
    refine ev_getfield 14 dX8_nominate_11 rfl okf_X8_7 (Nat.le_of_ble_eq_true rfl) HPg_125 rfl ?_
    refine ev_bipush 16 dX8_nominate_14 rfl kB_11 ?_
    obtain ⟨x2, hx2, hF⟩ := tv_bind hF
    refine ev_iaload 17 dX8_nominate_16 rfl (Nat.le_of_ble_eq_true rfl) HPg_126 hx2 ?_
    refine ev_if_eq 34 20 dX8_nominate_17 rfl rfl (fun hc267 => ?_) (fun hc267 => ?_)
    · rw [if_pos hc267] at hF
      refine ev_bipush 36 dX8_nominate_34 rfl kB_m2 ?_
      have hF := Option.some.inj hF
      subst hF
      exact ev_ireturn dX8_nominate_36 rfl rfl
    · rw [if_neg hc267] at hF
      refine ev_aload_n (i := 0) 21 dX8_nominate_20 rfl rfl rfl ?_
      refine ev_getfield 24 dX8_nominate_21 rfl okf_X8_7 (Nat.le_of_ble_eq_true rfl) HPg_125 rfl ?_
      refine ev_iload_n (i := 1) 25 dX8_nominate_24 rfl rfl rfl ?_
      refine ev_iconst 26 dX8_nominate_25 rfl kI_2 ?_
      refine ev_callSi 29 [.int a1, .int 2] [.ref 126] dX8_nominate_26 rfl okS_X8_27 rfl rfl (Nat.le_of_ble_eq_true rfl) rfl (Nat.le_of_ble_eq_true rfl) (Nat.le_of_ble_eq_true rfl) (R_X8_at rfl) ?_
      obtain ⟨x3, hx3, hF⟩ := tv_bind hF
      refine ev_iaload 30 dX8_nominate_29 rfl (Nat.le_of_ble_eq_true rfl) HPg_126 hx3 ?_
      refine ev_iconst 31 dX8_nominate_30 rfl kI_1 ?_
      refine ev_icmp_ne 37 34 dX8_nominate_31 rfl rfl (fun hc268 => ?_) (fun hc268 => ?_)
      · rw [if_neg hc268] at hF
        refine ev_aload_n (i := 0) 38 dX8_nominate_37 rfl rfl rfl ?_
        refine ev_iload_n (i := 1) 39 dX8_nominate_38 rfl rfl rfl ?_
        obtain ⟨x4, hx4, hF⟩ := tv_bind hF
        refine ev_callVi (i := 125) 42 [.int a1] [] dX8_nominate_39 rfl okV_X8_89 rfl rfl (Nat.le_of_ble_eq_true rfl) (Nat.le_of_ble_eq_true rfl) HPg_125 rfl (Nat.le_of_ble_eq_true rfl) (Nat.le_of_ble_eq_true rfl) (R_X8_canLead hx4) ?_
        refine ev_if_ne 48 45 dX8_nominate_42 rfl rfl (fun hc269 => ?_) (fun hc269 => ?_)
        · rw [if_neg hc269] at hF
          refine ev_aload_n (i := 0) 49 dX8_nominate_48 rfl rfl rfl ?_
          obtain ⟨x5, hx5, hF⟩ := tv_bind hF
          refine ev_callVv (i := 125) 52 [] [] dX8_nominate_49 rfl okV_X8_73 rfl rfl (Nat.le_of_ble_eq_true rfl) (Nat.le_of_ble_eq_true rfl) HPg_125 rfl (Nat.le_of_ble_eq_true rfl) (Nat.le_of_ble_eq_true rfl) (R_X8_act hx5) ?_
          refine ev_aload_n (i := 0) 53 dX8_nominate_52 rfl rfl rfl ?_
          refine ev_getfield 56 dX8_nominate_53 rfl okf_X8_7 (Nat.le_of_ble_eq_true rfl) HPg_125 rfl ?_
          refine ev_iload_n (i := 1) 57 dX8_nominate_56 rfl rfl rfl ?_
          refine ev_iconst 58 dX8_nominate_57 rfl kI_2 ?_
          refine ev_callSi 61 [.int a1, .int 2] [.ref 126] dX8_nominate_58 rfl okS_X8_27 rfl rfl (Nat.le_of_ble_eq_true rfl) rfl (Nat.le_of_ble_eq_true rfl) (Nat.le_of_ble_eq_true rfl) (R_X8_at rfl) ?_
          refine ev_iconst 62 dX8_nominate_61 rfl kI_1 ?_
          obtain ⟨x6, hx6, hF⟩ := tv_bind hF
          refine ev_iastore 63 dX8_nominate_62 rfl (Nat.le_of_ble_eq_true rfl) HPg_126 hx6 HPa_126 ?_
          refine ev_aload_n (i := 0) 64 dX8_nominate_63 rfl rfl rfl ?_
          obtain ⟨x7, hx7, hF⟩ := tv_bind hF
          refine ev_callVi (i := 125) 67 [] [] dX8_nominate_64 rfl okV_X8_92 rfl rfl (Nat.le_of_ble_eq_true rfl) (Nat.le_of_ble_eq_true rfl) HPg_125 rfl (Nat.le_of_ble_eq_true rfl) (Nat.le_of_ble_eq_true rfl) (R_X8_candidates hx7) ?_
          have hF := Option.some.inj hF
          subst hF
          exact ev_ireturn dX8_nominate_67 rfl rfl
        · rw [if_pos hc269] at hF
          refine ev_bipush 47 dX8_nominate_45 rfl kB_m4 ?_
          have hF := Option.some.inj hF
          subst hF
          exact ev_ireturn dX8_nominate_47 rfl rfl
      · rw [if_pos hc268] at hF
        refine ev_bipush 36 dX8_nominate_34 rfl kB_m2 ?_
        have hF := Option.some.inj hF
        subst hF
        exact ev_ireturn dX8_nominate_36 rfl rfl
  · rw [if_pos hc266] at hF
    refine ev_iconst 9 dX8_nominate_8 rfl kI_m1 ?_
    have hF := Option.some.inj hF
    subst hF
    exact ev_ireturn dX8_nominate_9 rfl rfl

set_option maxRecDepth 100000 in
set_option maxHeartbeats 4000000 in
theorem R_X8_wrongAt_L4 {g : tv_G} {l : Launch} {si : Nat → Int32} {sa : Nat → Nat → Int32} {hs : Nat → (Nat → Int32) × (Nat → Nat → Int32)} {tx : Nat → Int32} {tl : Int32} {hc : Int32} {hn : Int32} {v : Nat → Int32} {pa : Nat → Int32} {mt : Nat → Int32} {pm : Int32} {ty : Int32} {ra : Int32}  : ∀ (n : Nat) (l1 : Int32) (l2 : Int32)  (p : Int32), F_X8_wrongAt_L4 v mt ty n l1 l2 = some p → tv_E g l yX8_wrongAt cX8_wrongAt 4 (some .int) 2 0 0 4 [.ref 125, .int l1, .int l2, .null] [] (HP si sa hs tx tl hc hn v pa mt pm ty ra) (some (.int p)) (HP si sa hs tx tl hc hn v pa mt pm ty ra) := by
  intro n
  induction n with
  | zero => intro l1 l2 p hF; cases hF
  | succ n ih =>
      intro l1 l2 p hF
      rw [F_X8_wrongAt_L4] at hF
      refine ev_iload_n (i := 2) 5 dX8_wrongAt_4 rfl rfl rfl ?_
      refine ev_aload_n (i := 0) 6 dX8_wrongAt_5 rfl rfl rfl ?_
      refine ev_getfield 9 dX8_wrongAt_6 rfl okf_X8_95 (Nat.le_of_ble_eq_true rfl) HPg_125 rfl ?_
      refine ev_icmp_ge 92 12 dX8_wrongAt_9 rfl rfl (fun hc270 => ?_) (fun hc270 => ?_)
      · rw [if_pos hc270] at hF
        refine ev_aload_n (i := 0) 93 dX8_wrongAt_92 rfl rfl rfl ?_
        refine ev_getfield 96 dX8_wrongAt_93 rfl okf_X8_95 (Nat.le_of_ble_eq_true rfl) HPg_125 rfl ?_
        refine ev_iconst 97 dX8_wrongAt_96 rfl kI_2 ?_
        refine ev_irem 98 dX8_wrongAt_97 rfl (by decide) ?_
        refine ev_iconst 99 dX8_wrongAt_98 rfl kI_1 ?_
        refine ev_icmp_ne 106 102 dX8_wrongAt_99 rfl rfl (fun hc271 => ?_) (fun hc271 => ?_)
        · rw [if_neg hc271] at hF
          refine ev_aload_n (i := 0) 107 dX8_wrongAt_106 rfl rfl rfl ?_
          refine ev_getfield 110 dX8_wrongAt_107 rfl okf_X8_95 (Nat.le_of_ble_eq_true rfl) HPg_125 rfl ?_
          have hF := Option.some.inj hF
          subst hF
          exact ev_ireturn dX8_wrongAt_110 rfl rfl
        · rw [if_pos hc271] at hF
          refine ev_iconst 103 dX8_wrongAt_102 rfl kI_m1 ?_
          refine ev_goto 110 dX8_wrongAt_103 rfl ?_
          have hF := Option.some.inj hF
          subst hF
          exact ev_ireturn dX8_wrongAt_110 rfl rfl
      · rw [if_neg hc270] at hF
        refine ev_aload_n (i := 0) 13 dX8_wrongAt_12 rfl rfl rfl ?_
        refine ev_getfield 16 dX8_wrongAt_13 rfl okf_X8_16 (Nat.le_of_ble_eq_true rfl) HPg_125 rfl ?_
        refine ev_iload_n (i := 2) 17 dX8_wrongAt_16 rfl rfl rfl ?_
        obtain ⟨x1, hx1, hF⟩ := tv_bind hF
        refine ev_iaload 18 dX8_wrongAt_17 rfl (Nat.le_of_ble_eq_true rfl) HPg_128 hx1 ?_
        refine ev_bipush 20 dX8_wrongAt_18 rfl kB_48 ?_
        refine ev_isub 21 dX8_wrongAt_20 rfl ?_
        refine ev_istore_n (i := 3) (L2 := [.ref 125, .int l1, .int l2, .int (x1 - 48)]) 22 dX8_wrongAt_21 rfl rfl (Nat.le_of_ble_eq_true rfl) rfl ?_
        refine ev_iload_n (i := 2) 23 dX8_wrongAt_22 rfl rfl rfl ?_
        refine ev_iconst 24 dX8_wrongAt_23 rfl kI_2 ?_
        refine ev_irem 25 dX8_wrongAt_24 rfl (by decide) ?_
        refine ev_iconst 26 dX8_wrongAt_25 rfl kI_1 ?_
        refine ev_icmp_ne 42 29 dX8_wrongAt_26 rfl rfl (fun hc272 => ?_) (fun hc272 => ?_)
        · rw [if_neg hc272] at hF
          refine ev_iload_n (i := 2) 43 dX8_wrongAt_42 rfl rfl rfl ?_
          refine ev_iconst 44 dX8_wrongAt_43 rfl kI_2 ?_
          refine ev_irem 45 dX8_wrongAt_44 rfl (by decide) ?_
          refine ev_if_ne 86 48 dX8_wrongAt_45 rfl rfl (fun hc273 => ?_) (fun hc273 => ?_)
          · rw [if_neg hc273] at hF
            refine ev_iinc (L2 := [.ref 125, .int l1, .int (l2 + 1), .int (x1 - 48)]) 89 dX8_wrongAt_86 rfl rfl (kA_1 _) (Nat.le_of_ble_eq_true rfl) rfl ?_
            refine ev_goto 4 dX8_wrongAt_89 rfl ?_
            refine ev_weak [.ref 125, .int l1, .int (l2 + 1), .null] ⟨Or.inr rfl, ⟨Or.inr rfl, ⟨Or.inr rfl, ⟨Or.inl rfl, trivial⟩⟩⟩⟩ ?_
            exact ih _ _ _ hF
          · rw [if_pos hc273] at hF
            refine ev_aload_n (i := 0) 49 dX8_wrongAt_48 rfl rfl rfl ?_
            refine ev_iload_n (i := 3) 50 dX8_wrongAt_49 rfl rfl rfl ?_
            obtain ⟨x2, hx2, hF⟩ := tv_bind hF
            refine ev_callVi (i := 125) 53 [.int (x1 - 48)] [] dX8_wrongAt_50 rfl okV_X8_82 rfl rfl (Nat.le_of_ble_eq_true rfl) (Nat.le_of_ble_eq_true rfl) HPg_125 rfl (Nat.le_of_ble_eq_true rfl) (Nat.le_of_ble_eq_true rfl) (R_X8_isMember hx2) ?_
            refine ev_if_eq 78 56 dX8_wrongAt_53 rfl rfl (fun hc274 => ?_) (fun hc274 => ?_)
            · rw [if_pos hc274] at hF
              refine ev_iload_n (i := 2) 79 dX8_wrongAt_78 rfl rfl rfl ?_
              have hF := Option.some.inj hF
              subst hF
              exact ev_ireturn dX8_wrongAt_79 rfl rfl
            · rw [if_neg hc274] at hF
              refine ev_aload_n (i := 0) 57 dX8_wrongAt_56 rfl rfl rfl ?_
              refine ev_getfield 60 dX8_wrongAt_57 rfl okf_X8_7 (Nat.le_of_ble_eq_true rfl) HPg_125 rfl ?_
              refine ev_iload_n (i := 3) 61 dX8_wrongAt_60 rfl rfl rfl ?_
              refine ev_iconst 62 dX8_wrongAt_61 rfl kI_2 ?_
              refine ev_callSi 65 [.int (x1 - 48), .int 2] [.ref 126] dX8_wrongAt_62 rfl okS_X8_27 rfl rfl (Nat.le_of_ble_eq_true rfl) rfl (Nat.le_of_ble_eq_true rfl) (Nat.le_of_ble_eq_true rfl) (R_X8_at rfl) ?_
              obtain ⟨x3, hx3, hF⟩ := tv_bind hF
              refine ev_iaload 66 dX8_wrongAt_65 rfl (Nat.le_of_ble_eq_true rfl) HPg_126 hx3 ?_
              refine ev_if_eq 78 69 dX8_wrongAt_66 rfl rfl (fun hc275 => ?_) (fun hc275 => ?_)
              · rw [if_pos hc275] at hF
                refine ev_iload_n (i := 2) 79 dX8_wrongAt_78 rfl rfl rfl ?_
                have hF := Option.some.inj hF
                subst hF
                exact ev_ireturn dX8_wrongAt_79 rfl rfl
              · rw [if_neg hc275] at hF
                refine ev_iload_n (i := 1) 70 dX8_wrongAt_69 rfl rfl rfl ?_
                refine ev_iload_n (i := 3) 71 dX8_wrongAt_70 rfl rfl rfl ?_
                refine ev_ishr 72 dX8_wrongAt_71 rfl ?_
                refine ev_iconst 73 dX8_wrongAt_72 rfl kI_1 ?_
                refine ev_iand 74 dX8_wrongAt_73 rfl ?_
                refine ev_iconst 75 dX8_wrongAt_74 rfl kI_1 ?_
                refine ev_icmp_ne 80 78 dX8_wrongAt_75 rfl rfl (fun hc276 => ?_) (fun hc276 => ?_)
                · rw [if_neg hc276] at hF
                  refine ev_iload_n (i := 1) 81 dX8_wrongAt_80 rfl rfl rfl ?_
                  refine ev_iconst 82 dX8_wrongAt_81 rfl kI_1 ?_
                  refine ev_iload_n (i := 3) 83 dX8_wrongAt_82 rfl rfl rfl ?_
                  refine ev_ishl 84 dX8_wrongAt_83 rfl ?_
                  refine ev_ior 85 dX8_wrongAt_84 rfl ?_
                  refine ev_istore_n (i := 1) (L2 := [.ref 125, .int (l1 ||| (1 <<< ((x1 - 48) &&& 31))), .int l2, .int (x1 - 48)]) 86 dX8_wrongAt_85 rfl rfl (Nat.le_of_ble_eq_true rfl) rfl ?_
                  refine ev_iinc (L2 := [.ref 125, .int (l1 ||| (1 <<< ((x1 - 48) &&& 31))), .int (l2 + 1), .int (x1 - 48)]) 89 dX8_wrongAt_86 rfl rfl (kA_1 _) (Nat.le_of_ble_eq_true rfl) rfl ?_
                  refine ev_goto 4 dX8_wrongAt_89 rfl ?_
                  refine ev_weak [.ref 125, .int (l1 ||| (1 <<< ((x1 - 48) &&& 31))), .int (l2 + 1), .null] ⟨Or.inr rfl, ⟨Or.inr rfl, ⟨Or.inr rfl, ⟨Or.inl rfl, trivial⟩⟩⟩⟩ ?_
                  exact ih _ _ _ hF
                · rw [if_pos hc276] at hF
                  refine ev_iload_n (i := 2) 79 dX8_wrongAt_78 rfl rfl rfl ?_
                  have hF := Option.some.inj hF
                  subst hF
                  exact ev_ireturn dX8_wrongAt_79 rfl rfl
        · rw [if_pos hc272] at hF
          refine ev_aload_n (i := 0) 30 dX8_wrongAt_29 rfl rfl rfl ?_
          refine ev_getfield 33 dX8_wrongAt_30 rfl okf_X8_16 (Nat.le_of_ble_eq_true rfl) HPg_125 rfl ?_
          refine ev_iload_n (i := 2) 34 dX8_wrongAt_33 rfl rfl rfl ?_
          obtain ⟨x4, hx4, hF⟩ := tv_bind hF
          refine ev_iaload 35 dX8_wrongAt_34 rfl (Nat.le_of_ble_eq_true rfl) HPg_128 hx4 ?_
          refine ev_bipush 37 dX8_wrongAt_35 rfl kB_62 ?_
          refine ev_icmp_eq 42 40 dX8_wrongAt_37 rfl rfl (fun hc277 => ?_) (fun hc277 => ?_)
          · rw [if_pos hc277] at hF
            refine ev_iload_n (i := 2) 43 dX8_wrongAt_42 rfl rfl rfl ?_
            refine ev_iconst 44 dX8_wrongAt_43 rfl kI_2 ?_
            refine ev_irem 45 dX8_wrongAt_44 rfl (by decide) ?_
            refine ev_if_ne 86 48 dX8_wrongAt_45 rfl rfl (fun hc278 => ?_) (fun hc278 => ?_)
            · rw [if_neg hc278] at hF
              refine ev_iinc (L2 := [.ref 125, .int l1, .int (l2 + 1), .int (x1 - 48)]) 89 dX8_wrongAt_86 rfl rfl (kA_1 _) (Nat.le_of_ble_eq_true rfl) rfl ?_
              refine ev_goto 4 dX8_wrongAt_89 rfl ?_
              refine ev_weak [.ref 125, .int l1, .int (l2 + 1), .null] ⟨Or.inr rfl, ⟨Or.inr rfl, ⟨Or.inr rfl, ⟨Or.inl rfl, trivial⟩⟩⟩⟩ ?_
              exact ih _ _ _ hF
            · rw [if_pos hc278] at hF
              refine ev_aload_n (i := 0) 49 dX8_wrongAt_48 rfl rfl rfl ?_
              refine ev_iload_n (i := 3) 50 dX8_wrongAt_49 rfl rfl rfl ?_
              obtain ⟨x5, hx5, hF⟩ := tv_bind hF
              refine ev_callVi (i := 125) 53 [.int (x1 - 48)] [] dX8_wrongAt_50 rfl okV_X8_82 rfl rfl (Nat.le_of_ble_eq_true rfl) (Nat.le_of_ble_eq_true rfl) HPg_125 rfl (Nat.le_of_ble_eq_true rfl) (Nat.le_of_ble_eq_true rfl) (R_X8_isMember hx5) ?_
              refine ev_if_eq 78 56 dX8_wrongAt_53 rfl rfl (fun hc279 => ?_) (fun hc279 => ?_)
              · rw [if_pos hc279] at hF
                refine ev_iload_n (i := 2) 79 dX8_wrongAt_78 rfl rfl rfl ?_
                have hF := Option.some.inj hF
                subst hF
                exact ev_ireturn dX8_wrongAt_79 rfl rfl
              · rw [if_neg hc279] at hF
                refine ev_aload_n (i := 0) 57 dX8_wrongAt_56 rfl rfl rfl ?_
                refine ev_getfield 60 dX8_wrongAt_57 rfl okf_X8_7 (Nat.le_of_ble_eq_true rfl) HPg_125 rfl ?_
                refine ev_iload_n (i := 3) 61 dX8_wrongAt_60 rfl rfl rfl ?_
                refine ev_iconst 62 dX8_wrongAt_61 rfl kI_2 ?_
                refine ev_callSi 65 [.int (x1 - 48), .int 2] [.ref 126] dX8_wrongAt_62 rfl okS_X8_27 rfl rfl (Nat.le_of_ble_eq_true rfl) rfl (Nat.le_of_ble_eq_true rfl) (Nat.le_of_ble_eq_true rfl) (R_X8_at rfl) ?_
                obtain ⟨x6, hx6, hF⟩ := tv_bind hF
                refine ev_iaload 66 dX8_wrongAt_65 rfl (Nat.le_of_ble_eq_true rfl) HPg_126 hx6 ?_
                refine ev_if_eq 78 69 dX8_wrongAt_66 rfl rfl (fun hc280 => ?_) (fun hc280 => ?_)
                · rw [if_pos hc280] at hF
                  refine ev_iload_n (i := 2) 79 dX8_wrongAt_78 rfl rfl rfl ?_
                  have hF := Option.some.inj hF
                  subst hF
                  exact ev_ireturn dX8_wrongAt_79 rfl rfl
                · rw [if_neg hc280] at hF
                  refine ev_iload_n (i := 1) 70 dX8_wrongAt_69 rfl rfl rfl ?_
                  refine ev_iload_n (i := 3) 71 dX8_wrongAt_70 rfl rfl rfl ?_
                  refine ev_ishr 72 dX8_wrongAt_71 rfl ?_
                  refine ev_iconst 73 dX8_wrongAt_72 rfl kI_1 ?_
                  refine ev_iand 74 dX8_wrongAt_73 rfl ?_
                  refine ev_iconst 75 dX8_wrongAt_74 rfl kI_1 ?_
                  refine ev_icmp_ne 80 78 dX8_wrongAt_75 rfl rfl (fun hc281 => ?_) (fun hc281 => ?_)
                  · rw [if_neg hc281] at hF
                    refine ev_iload_n (i := 1) 81 dX8_wrongAt_80 rfl rfl rfl ?_
                    refine ev_iconst 82 dX8_wrongAt_81 rfl kI_1 ?_
                    refine ev_iload_n (i := 3) 83 dX8_wrongAt_82 rfl rfl rfl ?_
                    refine ev_ishl 84 dX8_wrongAt_83 rfl ?_
                    refine ev_ior 85 dX8_wrongAt_84 rfl ?_
                    refine ev_istore_n (i := 1) (L2 := [.ref 125, .int (l1 ||| (1 <<< ((x1 - 48) &&& 31))), .int l2, .int (x1 - 48)]) 86 dX8_wrongAt_85 rfl rfl (Nat.le_of_ble_eq_true rfl) rfl ?_
                    refine ev_iinc (L2 := [.ref 125, .int (l1 ||| (1 <<< ((x1 - 48) &&& 31))), .int (l2 + 1), .int (x1 - 48)]) 89 dX8_wrongAt_86 rfl rfl (kA_1 _) (Nat.le_of_ble_eq_true rfl) rfl ?_
                    refine ev_goto 4 dX8_wrongAt_89 rfl ?_
                    refine ev_weak [.ref 125, .int (l1 ||| (1 <<< ((x1 - 48) &&& 31))), .int (l2 + 1), .null] ⟨Or.inr rfl, ⟨Or.inr rfl, ⟨Or.inr rfl, ⟨Or.inl rfl, trivial⟩⟩⟩⟩ ?_
                    exact ih _ _ _ hF
                  · rw [if_pos hc281] at hF
                    refine ev_iload_n (i := 2) 79 dX8_wrongAt_78 rfl rfl rfl ?_
                    have hF := Option.some.inj hF
                    subst hF
                    exact ev_ireturn dX8_wrongAt_79 rfl rfl
          · rw [if_neg hc277] at hF
            refine ev_iload_n (i := 2) 41 dX8_wrongAt_40 rfl rfl rfl ?_
            have hF := Option.some.inj hF
            subst hF
            exact ev_ireturn dX8_wrongAt_41 rfl rfl

set_option maxRecDepth 100000 in
set_option maxHeartbeats 4000000 in
theorem R_X8_wrongAt {g : tv_G} {l : Launch} {si : Nat → Int32} {sa : Nat → Nat → Int32} {hs : Nat → (Nat → Int32) × (Nat → Nat → Int32)} {tx : Nat → Int32} {tl : Int32} {hc : Int32} {hn : Int32} {v : Nat → Int32} {pa : Nat → Int32} {mt : Nat → Int32} {pm : Int32} {ty : Int32} {ra : Int32}  {p : Int32} (hF : F_X8_wrongAt v mt ty = some p) : tv_E g l yX8_wrongAt cX8_wrongAt 4 (some .int) 2 0 0 0 [.ref 125, .null, .null, .null] [] (HP si sa hs tx tl hc hn v pa mt pm ty ra) (some (.int p)) (HP si sa hs tx tl hc hn v pa mt pm ty ra) := by
  unfold F_X8_wrongAt at hF
  refine ev_iconst 1 dX8_wrongAt_0 rfl kI_0 ?_
  refine ev_istore_n (i := 1) (L2 := [.ref 125, .int 0, .null, .null]) 2 dX8_wrongAt_1 rfl rfl (Nat.le_of_ble_eq_true rfl) rfl ?_
  refine ev_iconst 3 dX8_wrongAt_2 rfl kI_0 ?_
  refine ev_istore_n (i := 2) (L2 := [.ref 125, .int 0, .int 0, .null]) 4 dX8_wrongAt_3 rfl rfl (Nat.le_of_ble_eq_true rfl) rfl ?_
  exact R_X8_wrongAt_L4 _ _ _ _ hF

set_option maxRecDepth 100000 in
set_option maxHeartbeats 4000000 in
theorem R_X8_ballots_L4 {g : tv_G} {l : Launch} {si : Nat → Int32} {sa : Nat → Nat → Int32} {hs : Nat → (Nat → Int32) × (Nat → Nat → Int32)} {tx : Nat → Int32} {tl : Int32} {hc : Int32} {hn : Int32} {v : Nat → Int32} {pa : Nat → Int32} {mt : Nat → Int32} {pm : Int32} {ty : Int32} {ra : Int32}  {r : Option Value} {h' : tv_Hp} : ∀ (n : Nat) (l1 : Int32) (l2 : Int32)  (x : Int32), F_X8_ballots_L4 v n l1 l2 = some x → tv_E g l yX8_ballots cX8_ballots 3 (some .int) 1 0 0 42 [.null, .int x, .null] [] (HP si sa hs tx tl hc hn v pa mt pm ty ra) r h' → tv_E g l yX8_ballots cX8_ballots 3 (some .int) 1 0 0 4 [.ref 125, .int l1, .int l2] [] (HP si sa hs tx tl hc hn v pa mt pm ty ra) r h' := by
  intro n
  induction n with
  | zero => intro l1 l2 x hF k; cases hF
  | succ n ih =>
      intro l1 l2 x hF k
      rw [F_X8_ballots_L4] at hF
      refine ev_iload_n (i := 2) 5 dX8_ballots_4 rfl rfl rfl ?_
      refine ev_aload_n (i := 0) 6 dX8_ballots_5 rfl rfl rfl ?_
      refine ev_getfield 9 dX8_ballots_6 rfl okf_X8_7 (Nat.le_of_ble_eq_true rfl) HPg_125 rfl ?_
      refine ev_bipush 11 dX8_ballots_9 rfl kB_10 ?_
      obtain ⟨x1, hx1, hF⟩ := tv_bind hF
      refine ev_iaload 12 dX8_ballots_11 rfl (Nat.le_of_ble_eq_true rfl) HPg_126 hx1 ?_
      refine ev_icmp_ge 42 15 dX8_ballots_12 rfl rfl (fun hc282 => ?_) (fun hc282 => ?_)
      · rw [if_pos hc282] at hF
        have hF := Option.some.inj hF
        subst hF
        refine ev_weak [.null, .int l1, .null] ⟨Or.inl rfl, ⟨Or.inr rfl, ⟨Or.inl rfl, trivial⟩⟩⟩ ?_
        exact k
      · rw [if_neg hc282] at hF
        refine ev_iload_n (i := 1) 16 dX8_ballots_15 rfl rfl rfl ?_
        refine ev_aload_n (i := 0) 17 dX8_ballots_16 rfl rfl rfl ?_
        refine ev_getfield 20 dX8_ballots_17 rfl okf_X8_7 (Nat.le_of_ble_eq_true rfl) HPg_125 rfl ?_
        refine ev_iload_n (i := 2) 21 dX8_ballots_20 rfl rfl rfl ?_
        refine ev_iconst 22 dX8_ballots_21 rfl kI_4 ?_
        refine ev_callSi 25 [.int l2, .int 4] [.ref 126, .int l1] dX8_ballots_22 rfl okS_X8_27 rfl rfl (Nat.le_of_ble_eq_true rfl) rfl (Nat.le_of_ble_eq_true rfl) (Nat.le_of_ble_eq_true rfl) (R_X8_at rfl) ?_
        obtain ⟨x2, hx2, hF⟩ := tv_bind hF
        refine ev_iaload 26 dX8_ballots_25 rfl (Nat.le_of_ble_eq_true rfl) HPg_126 hx2 ?_
        refine ev_if_le 33 29 dX8_ballots_26 rfl rfl (fun hc283 => ?_) (fun hc283 => ?_)
        · rw [if_pos hc283] at hF
          refine ev_iconst 34 dX8_ballots_33 rfl kI_0 ?_
          refine ev_iadd 35 dX8_ballots_34 rfl ?_
          refine ev_istore_n (i := 1) (L2 := [.ref 125, .int (l1 + 0), .int l2]) 36 dX8_ballots_35 rfl rfl (Nat.le_of_ble_eq_true rfl) rfl ?_
          refine ev_iinc (L2 := [.ref 125, .int (l1 + 0), .int (l2 + 1)]) 39 dX8_ballots_36 rfl rfl (kA_1 _) (Nat.le_of_ble_eq_true rfl) rfl ?_
          refine ev_goto 4 dX8_ballots_39 rfl ?_
          exact ih _ _ _ hF k
        · rw [if_neg hc283] at hF
          refine ev_iconst 30 dX8_ballots_29 rfl kI_1 ?_
          refine ev_goto 34 dX8_ballots_30 rfl ?_
          refine ev_iadd 35 dX8_ballots_34 rfl ?_
          refine ev_istore_n (i := 1) (L2 := [.ref 125, .int (l1 + 1), .int l2]) 36 dX8_ballots_35 rfl rfl (Nat.le_of_ble_eq_true rfl) rfl ?_
          refine ev_iinc (L2 := [.ref 125, .int (l1 + 1), .int (l2 + 1)]) 39 dX8_ballots_36 rfl rfl (kA_1 _) (Nat.le_of_ble_eq_true rfl) rfl ?_
          refine ev_goto 4 dX8_ballots_39 rfl ?_
          exact ih _ _ _ hF k

set_option maxRecDepth 100000 in
set_option maxHeartbeats 4000000 in
theorem R_X8_ballots {g : tv_G} {l : Launch} {si : Nat → Int32} {sa : Nat → Nat → Int32} {hs : Nat → (Nat → Int32) × (Nat → Nat → Int32)} {tx : Nat → Int32} {tl : Int32} {hc : Int32} {hn : Int32} {v : Nat → Int32} {pa : Nat → Int32} {mt : Nat → Int32} {pm : Int32} {ty : Int32} {ra : Int32}  {p : Int32} (hF : F_X8_ballots v = some p) : tv_E g l yX8_ballots cX8_ballots 3 (some .int) 1 0 0 0 [.ref 125, .null, .null] [] (HP si sa hs tx tl hc hn v pa mt pm ty ra) (some (.int p)) (HP si sa hs tx tl hc hn v pa mt pm ty ra) := by
  unfold F_X8_ballots at hF
  refine ev_iconst 1 dX8_ballots_0 rfl kI_0 ?_
  refine ev_istore_n (i := 1) (L2 := [.ref 125, .int 0, .null]) 2 dX8_ballots_1 rfl rfl (Nat.le_of_ble_eq_true rfl) rfl ?_
  refine ev_iconst 3 dX8_ballots_2 rfl kI_0 ?_
  refine ev_istore_n (i := 2) (L2 := [.ref 125, .int 0, .int 0]) 4 dX8_ballots_3 rfl rfl (Nat.le_of_ble_eq_true rfl) rfl ?_
  obtain ⟨x3, hx3, hF⟩ := tv_bind hF
  refine R_X8_ballots_L4 _ _ _ _ hx3 ?_
  refine ev_iload_n (i := 1) 43 dX8_ballots_42 rfl rfl rfl ?_
  have hF := Option.some.inj hF
  subst hF
  exact ev_ireturn dX8_ballots_43 rfl rfl

set_option maxRecDepth 100000 in
set_option maxHeartbeats 4000000 in
theorem R_X8_cast_L69 {g : tv_G} {l : Launch} {si : Nat → Int32} {sa : Nat → Nat → Int32} {hs : Nat → (Nat → Int32) × (Nat → Nat → Int32)} {tx : Nat → Int32} {tl : Int32} {hc : Int32} {hn : Int32} {pa : Nat → Int32} {mt : Nat → Int32} {pm : Int32} {ty : Int32} {ra : Int32} {l1 : Int32} {r : Option Value} {h' : tv_Hp} : ∀ (n : Nat) (l3 : Int32) (v : Nat → Int32) (x : (Nat → Int32)), F_X8_cast_L69 mt l1 n l3 v = some x → tv_E g l yX8_cast cX8_cast 4 (some .int) 3 0 0 112 [.ref 125, .null, .null, .null] [] (HP si sa hs tx tl hc hn x pa mt pm ty ra) r h' → tv_E g l yX8_cast cX8_cast 4 (some .int) 3 0 0 69 [.ref 125, .int l1, .null, .int l3] [] (HP si sa hs tx tl hc hn v pa mt pm ty ra) r h' := by
  intro n
  induction n with
  | zero => intro l3 v x hF k; cases hF
  | succ n ih =>
      intro l3 v x hF k
      rw [F_X8_cast_L69] at hF
      refine ev_iload_n (i := 3) 70 dX8_cast_69 rfl rfl rfl ?_
      refine ev_aload_n (i := 0) 71 dX8_cast_70 rfl rfl rfl ?_
      refine ev_getfield 74 dX8_cast_71 rfl okf_X8_7 (Nat.le_of_ble_eq_true rfl) HPg_125 rfl ?_
      refine ev_iload_n (i := 1) 75 dX8_cast_74 rfl rfl rfl ?_
      refine ev_iconst 76 dX8_cast_75 rfl kI_4 ?_
      refine ev_callSi 79 [.int l1, .int 4] [.ref 126, .int l3] dX8_cast_76 rfl okS_X8_27 rfl rfl (Nat.le_of_ble_eq_true rfl) rfl (Nat.le_of_ble_eq_true rfl) (Nat.le_of_ble_eq_true rfl) (R_X8_at rfl) ?_
      obtain ⟨x7, hx7, hF⟩ := tv_bind hF
      refine ev_iaload 80 dX8_cast_79 rfl (Nat.le_of_ble_eq_true rfl) HPg_126 hx7 ?_
      refine ev_icmp_ge 112 83 dX8_cast_80 rfl rfl (fun hc284 => ?_) (fun hc284 => ?_)
      · rw [if_pos hc284] at hF
        have hF := Option.some.inj hF
        subst hF
        refine ev_weak [.ref 125, .null, .null, .null] ⟨Or.inr rfl, ⟨Or.inl rfl, ⟨Or.inl rfl, ⟨Or.inl rfl, trivial⟩⟩⟩⟩ ?_
        exact k
      · rw [if_neg hc284] at hF
        refine ev_aload_n (i := 0) 84 dX8_cast_83 rfl rfl rfl ?_
        refine ev_getfield 87 dX8_cast_84 rfl okf_X8_7 (Nat.le_of_ble_eq_true rfl) HPg_125 rfl ?_
        refine ev_iload_n (i := 1) 88 dX8_cast_87 rfl rfl rfl ?_
        refine ev_iconst 89 dX8_cast_88 rfl kI_5 ?_
        refine ev_iload_n (i := 3) 90 dX8_cast_89 rfl rfl rfl ?_
        refine ev_iadd 91 dX8_cast_90 rfl ?_
        refine ev_callSi 94 [.int l1, .int (5 + l3)] [.ref 126] dX8_cast_91 rfl okS_X8_27 rfl rfl (Nat.le_of_ble_eq_true rfl) rfl (Nat.le_of_ble_eq_true rfl) (Nat.le_of_ble_eq_true rfl) (R_X8_at rfl) ?_
        refine ev_aload_n (i := 0) 95 dX8_cast_94 rfl rfl rfl ?_
        refine ev_getfield 98 dX8_cast_95 rfl okf_X8_16 (Nat.le_of_ble_eq_true rfl) HPg_125 rfl ?_
        refine ev_iconst 99 dX8_cast_98 rfl kI_2 ?_
        refine ev_iload_n (i := 3) 100 dX8_cast_99 rfl rfl rfl ?_
        refine ev_imul 101 dX8_cast_100 rfl ?_
        obtain ⟨x8, hx8, hF⟩ := tv_bind hF
        refine ev_iaload 102 dX8_cast_101 rfl (Nat.le_of_ble_eq_true rfl) HPg_128 hx8 ?_
        refine ev_bipush 104 dX8_cast_102 rfl kB_48 ?_
        refine ev_isub 105 dX8_cast_104 rfl ?_
        obtain ⟨x9, hx9, hF⟩ := tv_bind hF
        refine ev_iastore 106 dX8_cast_105 rfl (Nat.le_of_ble_eq_true rfl) HPg_126 hx9 HPa_126 ?_
        refine ev_iinc (L2 := [.ref 125, .int l1, .null, .int (l3 + 1)]) 109 dX8_cast_106 rfl rfl (kA_1 _) (Nat.le_of_ble_eq_true rfl) rfl ?_
        refine ev_goto 69 dX8_cast_109 rfl ?_
        exact ih _ _ _ hF k

set_option maxRecDepth 100000 in
set_option maxHeartbeats 4000000 in
theorem R_X8_cast {g : tv_G} {l : Launch} {si : Nat → Int32} {sa : Nat → Nat → Int32} {hs : Nat → (Nat → Int32) × (Nat → Nat → Int32)} {tx : Nat → Int32} {tl : Int32} {hc : Int32} {hn : Int32} {v : Nat → Int32} {pa : Nat → Int32} {mt : Nat → Int32} {pm : Int32} {ty : Int32} {ra : Int32} {a1 : Int32} {p : Int32 × (Nat → Int32) × (Nat → Int32) × Int32 × Int32} (hF : F_X8_cast v pa mt pm ty a1 = some p) : tv_E g l yX8_cast cX8_cast 4 (some .int) 3 0 0 0 [.ref 125, .int a1, .null, .null] [] (HP si sa hs tx tl hc hn v pa mt pm ty ra) (some (.int p.1)) (HP si sa hs tx tl hc hn p.2.1 p.2.2.1 mt p.2.2.2.1 p.2.2.2.2 ra) := by
  unfold F_X8_cast at hF
  refine ev_aload_n (i := 0) 1 dX8_cast_0 rfl rfl rfl ?_
  refine ev_iload_n (i := 1) 2 dX8_cast_1 rfl rfl rfl ?_
  obtain ⟨x1, hx1, hF⟩ := tv_bind hF
  refine ev_callVi (i := 125) 5 [.int a1] [] dX8_cast_2 rfl okV_X8_82 rfl rfl (Nat.le_of_ble_eq_true rfl) (Nat.le_of_ble_eq_true rfl) HPg_125 rfl (Nat.le_of_ble_eq_true rfl) (Nat.le_of_ble_eq_true rfl) (R_X8_isMember hx1) ?_
  refine ev_if_ne 10 8 dX8_cast_5 rfl rfl (fun hc285 => ?_) (fun hc285 => ?_)
  · rw [if_neg hc285] at hF
    refine ev_aload_n (i := 0) 11 dX8_cast_10 rfl rfl rfl ?_
    refine ev_getfield 14 dX8_cast_11 rfl okf_X8_7 (Nat.le_of_ble_eq_true rfl) HPg_125 rfl ?_
    refine ev_bipush 16 dX8_cast_14 rfl kB_11 ?_
    obtain ⟨x2, hx2, hF⟩ := tv_bind hF
    refine ev_iaload 17 dX8_cast_16 rfl (Nat.le_of_ble_eq_true rfl) HPg_126 hx2 ?_
    refine ev_if_eq 28 20 dX8_cast_17 rfl rfl (fun hc286 => ?_) (fun hc286 => ?_)
    · rw [if_pos hc286] at hF
      refine ev_bipush 30 dX8_cast_28 rfl kB_m2 ?_
      have hF := Option.some.inj hF
      subst hF
      exact ev_ireturn dX8_cast_30 rfl rfl
    · rw [if_neg hc286] at hF
      refine ev_aload_n (i := 0) 21 dX8_cast_20 rfl rfl rfl ?_
      refine ev_iload_n (i := 1) 22 dX8_cast_21 rfl rfl rfl ?_
      obtain ⟨x3, hx3, hF⟩ := tv_bind hF
      refine ev_callVi (i := 125) 25 [.int a1] [] dX8_cast_22 rfl okV_X8_41 rfl rfl (Nat.le_of_ble_eq_true rfl) (Nat.le_of_ble_eq_true rfl) HPg_125 rfl (Nat.le_of_ble_eq_true rfl) (Nat.le_of_ble_eq_true rfl) (R_X8_isPresent hx3) ?_
      refine ev_if_ne 31 28 dX8_cast_25 rfl rfl (fun hc287 => ?_) (fun hc287 => ?_)
      · rw [if_neg hc287] at hF
        refine ev_aload_n (i := 0) 32 dX8_cast_31 rfl rfl rfl ?_
        obtain ⟨x4, hx4, hF⟩ := tv_bind hF
        refine ev_callVi (i := 125) 35 [] [] dX8_cast_32 rfl okV_X8_98 rfl rfl (Nat.le_of_ble_eq_true rfl) (Nat.le_of_ble_eq_true rfl) HPg_125 rfl (Nat.le_of_ble_eq_true rfl) (Nat.le_of_ble_eq_true rfl) (R_X8_wrongAt hx4) ?_
        refine ev_istore_n (i := 2) (L2 := [.ref 125, .int a1, .int x4, .null]) 36 dX8_cast_35 rfl rfl (Nat.le_of_ble_eq_true rfl) rfl ?_
        refine ev_iload_n (i := 2) 37 dX8_cast_36 rfl rfl rfl ?_
        refine ev_if_lt 45 40 dX8_cast_37 rfl rfl (fun hc288 => ?_) (fun hc288 => ?_)
        · rw [if_pos hc288] at hF
          refine ev_aload_n (i := 0) 46 dX8_cast_45 rfl rfl rfl ?_
          obtain ⟨x5, hx5, hF⟩ := tv_bind hF
          refine ev_callVv (i := 125) 49 [] [] dX8_cast_46 rfl okV_X8_73 rfl rfl (Nat.le_of_ble_eq_true rfl) (Nat.le_of_ble_eq_true rfl) HPg_125 rfl (Nat.le_of_ble_eq_true rfl) (Nat.le_of_ble_eq_true rfl) (R_X8_act hx5) ?_
          refine ev_aload_n (i := 0) 50 dX8_cast_49 rfl rfl rfl ?_
          refine ev_getfield 53 dX8_cast_50 rfl okf_X8_7 (Nat.le_of_ble_eq_true rfl) HPg_125 rfl ?_
          refine ev_iload_n (i := 1) 54 dX8_cast_53 rfl rfl rfl ?_
          refine ev_iconst 55 dX8_cast_54 rfl kI_4 ?_
          refine ev_callSi 58 [.int a1, .int 4] [.ref 126] dX8_cast_55 rfl okS_X8_27 rfl rfl (Nat.le_of_ble_eq_true rfl) rfl (Nat.le_of_ble_eq_true rfl) (Nat.le_of_ble_eq_true rfl) (R_X8_at rfl) ?_
          refine ev_aload_n (i := 0) 59 dX8_cast_58 rfl rfl rfl ?_
          refine ev_getfield 62 dX8_cast_59 rfl okf_X8_95 (Nat.le_of_ble_eq_true rfl) HPg_125 rfl ?_
          refine ev_iconst 63 dX8_cast_62 rfl kI_1 ?_
          refine ev_iadd 64 dX8_cast_63 rfl ?_
          refine ev_iconst 65 dX8_cast_64 rfl kI_2 ?_
          refine ev_idiv 66 dX8_cast_65 rfl (by decide) ?_
          obtain ⟨x6, hx6, hF⟩ := tv_bind hF
          refine ev_iastore 67 dX8_cast_66 rfl (Nat.le_of_ble_eq_true rfl) HPg_126 hx6 HPa_126 ?_
          refine ev_iconst 68 dX8_cast_67 rfl kI_0 ?_
          refine ev_istore_n (i := 3) (L2 := [.ref 125, .int a1, .int x4, .int 0]) 69 dX8_cast_68 rfl rfl (Nat.le_of_ble_eq_true rfl) rfl ?_
          obtain ⟨x10, hx10, hF⟩ := tv_bind hF
          refine ev_weak [.ref 125, .int a1, .null, .int 0] ⟨Or.inr rfl, ⟨Or.inr rfl, ⟨Or.inl rfl, ⟨Or.inr rfl, trivial⟩⟩⟩⟩ ?_
          refine R_X8_cast_L69 _ _ _ _ hx10 ?_
          refine ev_aload_n (i := 0) 113 dX8_cast_112 rfl rfl rfl ?_
          refine ev_iconst 114 dX8_cast_113 rfl kI_0 ?_
          refine ev_putfield 117 dX8_cast_114 rfl okf_X8_95 (Nat.le_of_ble_eq_true rfl) HPg_125 (Nat.le_of_ble_eq_true rfl) rfl rfl HPs_125_4 ?_
          refine ev_aload_n (i := 0) 118 dX8_cast_117 rfl rfl rfl ?_
          obtain ⟨x11, hx11, hF⟩ := tv_bind hF
          refine ev_callVi (i := 125) 121 [] [] dX8_cast_118 rfl okV_X8_101 rfl rfl (Nat.le_of_ble_eq_true rfl) (Nat.le_of_ble_eq_true rfl) HPg_125 rfl (Nat.le_of_ble_eq_true rfl) (Nat.le_of_ble_eq_true rfl) (R_X8_ballots hx11) ?_
          have hF := Option.some.inj hF
          subst hF
          exact ev_ireturn dX8_cast_121 rfl rfl
        · rw [if_neg hc288] at hF
          refine ev_bipush 42 dX8_cast_40 rfl kB_m100 ?_
          refine ev_iload_n (i := 2) 43 dX8_cast_42 rfl rfl rfl ?_
          refine ev_isub 44 dX8_cast_43 rfl ?_
          have hF := Option.some.inj hF
          subst hF
          exact ev_ireturn dX8_cast_44 rfl rfl
      · rw [if_pos hc287] at hF
        refine ev_bipush 30 dX8_cast_28 rfl kB_m2 ?_
        have hF := Option.some.inj hF
        subst hF
        exact ev_ireturn dX8_cast_30 rfl rfl
  · rw [if_pos hc285] at hF
    refine ev_iconst 9 dX8_cast_8 rfl kI_m1 ?_
    have hF := Option.some.inj hF
    subst hF
    exact ev_ireturn dX8_cast_9 rfl rfl

set_option maxRecDepth 100000 in
set_option maxHeartbeats 4000000 in
theorem R_X8_tallyAt {g : tv_G} {l : Launch} {si : Nat → Int32} {sa : Nat → Nat → Int32} {hs : Nat → (Nat → Int32) × (Nat → Nat → Int32)} {tx : Nat → Int32} {tl : Int32} {hc : Int32} {hn : Int32} {v : Nat → Int32} {pa : Nat → Int32} {mt : Nat → Int32} {pm : Int32} {ty : Int32} {ra : Int32} {a1 : Int32} {a2 : Int32} {p : Int32} (hF : some (F_X8_tallyAt a1 a2) = some p) : tv_E g l yX8_tallyAt cX8_tallyAt 3 (some .int) 0 0 0 0 [.ref 125, .int a1, .int a2] [] (HP si sa hs tx tl hc hn v pa mt pm ty ra) (some (.int p)) (HP si sa hs tx tl hc hn v pa mt pm ty ra) := by
  unfold F_X8_tallyAt at hF
  refine ev_sipush 3 dX8_tallyAt_0 rfl kS_980 ?_
  refine ev_bipush 5 dX8_tallyAt_3 rfl kB_10 ?_
  refine ev_iload_n (i := 1) 6 dX8_tallyAt_5 rfl rfl rfl ?_
  refine ev_imul 7 dX8_tallyAt_6 rfl ?_
  refine ev_iadd 8 dX8_tallyAt_7 rfl ?_
  refine ev_iload_n (i := 2) 9 dX8_tallyAt_8 rfl rfl rfl ?_
  refine ev_iadd 10 dX8_tallyAt_9 rfl ?_
  have hF := Option.some.inj hF
  subst hF
  exact ev_ireturn dX8_tallyAt_10 rfl rfl

set_option maxRecDepth 100000 in
set_option maxHeartbeats 4000000 in
theorem R_X8_firstOf_L2 {g : tv_G} {l : Launch} {si : Nat → Int32} {sa : Nat → Nat → Int32} {hs : Nat → (Nat → Int32) × (Nat → Nat → Int32)} {tx : Nat → Int32} {tl : Int32} {hc : Int32} {hn : Int32} {v : Nat → Int32} {pa : Nat → Int32} {mt : Nat → Int32} {pm : Int32} {ty : Int32} {ra : Int32} {l1 : Int32} : ∀ (n : Nat) (l2 : Int32)  (p : Int32), F_X8_firstOf_L2 v ra l1 n l2 = some p → tv_E g l yX8_firstOf cX8_firstOf 4 (some .int) 1 0 0 2 [.ref 125, .int l1, .int l2, .null] [] (HP si sa hs tx tl hc hn v pa mt pm ty ra) (some (.int p)) (HP si sa hs tx tl hc hn v pa mt pm ty ra) := by
  intro n
  induction n with
  | zero => intro l2 p hF; cases hF
  | succ n ih =>
      intro l2 p hF
      rw [F_X8_firstOf_L2] at hF
      refine ev_iload_n (i := 2) 3 dX8_firstOf_2 rfl rfl rfl ?_
      refine ev_aload_n (i := 0) 4 dX8_firstOf_3 rfl rfl rfl ?_
      refine ev_getfield 7 dX8_firstOf_4 rfl okf_X8_7 (Nat.le_of_ble_eq_true rfl) HPg_125 rfl ?_
      refine ev_iload_n (i := 1) 8 dX8_firstOf_7 rfl rfl rfl ?_
      refine ev_iconst 9 dX8_firstOf_8 rfl kI_4 ?_
      refine ev_callSi 12 [.int l1, .int 4] [.ref 126, .int l2] dX8_firstOf_9 rfl okS_X8_27 rfl rfl (Nat.le_of_ble_eq_true rfl) rfl (Nat.le_of_ble_eq_true rfl) (Nat.le_of_ble_eq_true rfl) (R_X8_at rfl) ?_
      obtain ⟨x1, hx1, hF⟩ := tv_bind hF
      refine ev_iaload 13 dX8_firstOf_12 rfl (Nat.le_of_ble_eq_true rfl) HPg_126 hx1 ?_
      refine ev_icmp_ge 49 16 dX8_firstOf_13 rfl rfl (fun hc289 => ?_) (fun hc289 => ?_)
      · rw [if_pos hc289] at hF
        refine ev_bipush 51 dX8_firstOf_49 rfl kB_m9 ?_
        have hF := Option.some.inj hF
        subst hF
        exact ev_ireturn dX8_firstOf_51 rfl rfl
      · rw [if_neg hc289] at hF
        refine ev_aload_n (i := 0) 17 dX8_firstOf_16 rfl rfl rfl ?_
        refine ev_getfield 20 dX8_firstOf_17 rfl okf_X8_7 (Nat.le_of_ble_eq_true rfl) HPg_125 rfl ?_
        refine ev_iload_n (i := 1) 21 dX8_firstOf_20 rfl rfl rfl ?_
        refine ev_iconst 22 dX8_firstOf_21 rfl kI_5 ?_
        refine ev_iload_n (i := 2) 23 dX8_firstOf_22 rfl rfl rfl ?_
        refine ev_iadd 24 dX8_firstOf_23 rfl ?_
        refine ev_callSi 27 [.int l1, .int (5 + l2)] [.ref 126] dX8_firstOf_24 rfl okS_X8_27 rfl rfl (Nat.le_of_ble_eq_true rfl) rfl (Nat.le_of_ble_eq_true rfl) (Nat.le_of_ble_eq_true rfl) (R_X8_at rfl) ?_
        obtain ⟨x2, hx2, hF⟩ := tv_bind hF
        refine ev_iaload 28 dX8_firstOf_27 rfl (Nat.le_of_ble_eq_true rfl) HPg_126 hx2 ?_
        refine ev_istore_n (i := 3) (L2 := [.ref 125, .int l1, .int l2, .int x2]) 29 dX8_firstOf_28 rfl rfl (Nat.le_of_ble_eq_true rfl) rfl ?_
        refine ev_aload_n (i := 0) 30 dX8_firstOf_29 rfl rfl rfl ?_
        refine ev_getfield 33 dX8_firstOf_30 rfl okf_X8_104 (Nat.le_of_ble_eq_true rfl) HPg_125 rfl ?_
        refine ev_iload_n (i := 3) 34 dX8_firstOf_33 rfl rfl rfl ?_
        refine ev_ishr 35 dX8_firstOf_34 rfl ?_
        refine ev_iconst 36 dX8_firstOf_35 rfl kI_1 ?_
        refine ev_iand 37 dX8_firstOf_36 rfl ?_
        refine ev_iconst 38 dX8_firstOf_37 rfl kI_1 ?_
        refine ev_icmp_ne 43 41 dX8_firstOf_38 rfl rfl (fun hc290 => ?_) (fun hc290 => ?_)
        · rw [if_neg hc290] at hF
          refine ev_iinc (L2 := [.ref 125, .int l1, .int (l2 + 1), .int x2]) 46 dX8_firstOf_43 rfl rfl (kA_1 _) (Nat.le_of_ble_eq_true rfl) rfl ?_
          refine ev_goto 2 dX8_firstOf_46 rfl ?_
          refine ev_weak [.ref 125, .int l1, .int (l2 + 1), .null] ⟨Or.inr rfl, ⟨Or.inr rfl, ⟨Or.inr rfl, ⟨Or.inl rfl, trivial⟩⟩⟩⟩ ?_
          exact ih _ _ hF
        · rw [if_pos hc290] at hF
          refine ev_iload_n (i := 3) 42 dX8_firstOf_41 rfl rfl rfl ?_
          have hF := Option.some.inj hF
          subst hF
          exact ev_ireturn dX8_firstOf_42 rfl rfl

set_option maxRecDepth 100000 in
set_option maxHeartbeats 4000000 in
theorem R_X8_firstOf {g : tv_G} {l : Launch} {si : Nat → Int32} {sa : Nat → Nat → Int32} {hs : Nat → (Nat → Int32) × (Nat → Nat → Int32)} {tx : Nat → Int32} {tl : Int32} {hc : Int32} {hn : Int32} {v : Nat → Int32} {pa : Nat → Int32} {mt : Nat → Int32} {pm : Int32} {ty : Int32} {ra : Int32} {a1 : Int32} {p : Int32} (hF : F_X8_firstOf v ra a1 = some p) : tv_E g l yX8_firstOf cX8_firstOf 4 (some .int) 1 0 0 0 [.ref 125, .int a1, .null, .null] [] (HP si sa hs tx tl hc hn v pa mt pm ty ra) (some (.int p)) (HP si sa hs tx tl hc hn v pa mt pm ty ra) := by
  unfold F_X8_firstOf at hF
  refine ev_iconst 1 dX8_firstOf_0 rfl kI_0 ?_
  refine ev_istore_n (i := 2) (L2 := [.ref 125, .int a1, .int 0, .null]) 2 dX8_firstOf_1 rfl rfl (Nat.le_of_ble_eq_true rfl) rfl ?_
  exact R_X8_firstOf_L2 _ _ _ hF

set_option maxRecDepth 100000 in
set_option maxHeartbeats 4000000 in
theorem R_X8_raceMany_L4 {g : tv_G} {l : Launch} {si : Nat → Int32} {sa : Nat → Nat → Int32} {hs : Nat → (Nat → Int32) × (Nat → Nat → Int32)} {tx : Nat → Int32} {tl : Int32} {hc : Int32} {hn : Int32} {v : Nat → Int32} {pa : Nat → Int32} {mt : Nat → Int32} {pm : Int32} {ty : Int32} {ra : Int32}  {r : Option Value} {h' : tv_Hp} : ∀ (n : Nat) (l1 : Int32) (l2 : Int32)  (x : Int32), F_X8_raceMany_L4 ra n l1 l2 = some x → tv_E g l yX8_raceMany cX8_raceMany 3 (some .int) 0 0 0 27 [.null, .int x, .null] [] (HP si sa hs tx tl hc hn v pa mt pm ty ra) r h' → tv_E g l yX8_raceMany cX8_raceMany 3 (some .int) 0 0 0 4 [.ref 125, .int l1, .int l2] [] (HP si sa hs tx tl hc hn v pa mt pm ty ra) r h' := by
  intro n
  induction n with
  | zero => intro l1 l2 x hF k; cases hF
  | succ n ih =>
      intro l1 l2 x hF k
      rw [F_X8_raceMany_L4] at hF
      refine ev_iload_n (i := 2) 5 dX8_raceMany_4 rfl rfl rfl ?_
      refine ev_bipush 7 dX8_raceMany_5 rfl kB_10 ?_
      refine ev_icmp_ge 27 10 dX8_raceMany_7 rfl rfl (fun hc291 => ?_) (fun hc291 => ?_)
      · rw [if_pos hc291] at hF
        have hF := Option.some.inj hF
        subst hF
        refine ev_weak [.null, .int l1, .null] ⟨Or.inl rfl, ⟨Or.inr rfl, ⟨Or.inl rfl, trivial⟩⟩⟩ ?_
        exact k
      · rw [if_neg hc291] at hF
        refine ev_iload_n (i := 1) 11 dX8_raceMany_10 rfl rfl rfl ?_
        refine ev_aload_n (i := 0) 12 dX8_raceMany_11 rfl rfl rfl ?_
        refine ev_getfield 15 dX8_raceMany_12 rfl okf_X8_104 (Nat.le_of_ble_eq_true rfl) HPg_125 rfl ?_
        refine ev_iload_n (i := 2) 16 dX8_raceMany_15 rfl rfl rfl ?_
        refine ev_ishr 17 dX8_raceMany_16 rfl ?_
        refine ev_iconst 18 dX8_raceMany_17 rfl kI_1 ?_
        refine ev_iand 19 dX8_raceMany_18 rfl ?_
        refine ev_iadd 20 dX8_raceMany_19 rfl ?_
        refine ev_istore_n (i := 1) (L2 := [.ref 125, .int (l1 + ((ra >>> (l2 &&& 31)) &&& 1)), .int l2]) 21 dX8_raceMany_20 rfl rfl (Nat.le_of_ble_eq_true rfl) rfl ?_
        refine ev_iinc (L2 := [.ref 125, .int (l1 + ((ra >>> (l2 &&& 31)) &&& 1)), .int (l2 + 1)]) 24 dX8_raceMany_21 rfl rfl (kA_1 _) (Nat.le_of_ble_eq_true rfl) rfl ?_
        refine ev_goto 4 dX8_raceMany_24 rfl ?_
        exact ih _ _ _ hF k

set_option maxRecDepth 100000 in
set_option maxHeartbeats 4000000 in
theorem R_X8_raceMany {g : tv_G} {l : Launch} {si : Nat → Int32} {sa : Nat → Nat → Int32} {hs : Nat → (Nat → Int32) × (Nat → Nat → Int32)} {tx : Nat → Int32} {tl : Int32} {hc : Int32} {hn : Int32} {v : Nat → Int32} {pa : Nat → Int32} {mt : Nat → Int32} {pm : Int32} {ty : Int32} {ra : Int32}  {p : Int32} (hF : F_X8_raceMany ra = some p) : tv_E g l yX8_raceMany cX8_raceMany 3 (some .int) 0 0 0 0 [.ref 125, .null, .null] [] (HP si sa hs tx tl hc hn v pa mt pm ty ra) (some (.int p)) (HP si sa hs tx tl hc hn v pa mt pm ty ra) := by
  unfold F_X8_raceMany at hF
  refine ev_iconst 1 dX8_raceMany_0 rfl kI_0 ?_
  refine ev_istore_n (i := 1) (L2 := [.ref 125, .int 0, .null]) 2 dX8_raceMany_1 rfl rfl (Nat.le_of_ble_eq_true rfl) rfl ?_
  refine ev_iconst 3 dX8_raceMany_2 rfl kI_0 ?_
  refine ev_istore_n (i := 2) (L2 := [.ref 125, .int 0, .int 0]) 4 dX8_raceMany_3 rfl rfl (Nat.le_of_ble_eq_true rfl) rfl ?_
  obtain ⟨x1, hx1, hF⟩ := tv_bind hF
  refine R_X8_raceMany_L4 _ _ _ _ hx1 ?_
  refine ev_iload_n (i := 1) 28 dX8_raceMany_27 rfl rfl rfl ?_
  have hF := Option.some.inj hF
  subst hF
  exact ev_ireturn dX8_raceMany_28 rfl rfl

set_option maxRecDepth 100000 in
set_option maxHeartbeats 4000000 in
theorem R_X8_isWeaker {g : tv_G} {l : Launch} {si : Nat → Int32} {sa : Nat → Nat → Int32} {hs : Nat → (Nat → Int32) × (Nat → Nat → Int32)} {tx : Nat → Int32} {tl : Int32} {hc : Int32} {hn : Int32} {v : Nat → Int32} {pa : Nat → Int32} {mt : Nat → Int32} {pm : Int32} {ty : Int32} {ra : Int32} {a1 : Int32} {a2 : Int32} {a3 : Int32} {p : Int32} (hF : F_X8_isWeaker v a1 a2 a3 = some p) : tv_E g l yX8_isWeaker cX8_isWeaker 5 (some .boolean) 4 0 0 0 [.ref 125, .int a1, .int a2, .int a3, .null] [] (HP si sa hs tx tl hc hn v pa mt pm ty ra) (some (.int p)) (HP si sa hs tx tl hc hn v pa mt pm ty ra) := by
  unfold F_X8_isWeaker at hF
  refine ev_aload_n (i := 0) 1 dX8_isWeaker_0 rfl rfl rfl ?_
  refine ev_getfield 4 dX8_isWeaker_1 rfl okf_X8_7 (Nat.le_of_ble_eq_true rfl) HPg_125 rfl ?_
  refine ev_aload_n (i := 0) 5 dX8_isWeaker_4 rfl rfl rfl ?_
  refine ev_iload_n (i := 1) 6 dX8_isWeaker_5 rfl rfl rfl ?_
  refine ev_iload_n (i := 3) 7 dX8_isWeaker_6 rfl rfl rfl ?_
  refine ev_callVi (i := 125) 10 [.int a1, .int a3] [.ref 126] dX8_isWeaker_7 rfl okV_X8_107 rfl rfl (Nat.le_of_ble_eq_true rfl) (Nat.le_of_ble_eq_true rfl) HPg_125 rfl (Nat.le_of_ble_eq_true rfl) (Nat.le_of_ble_eq_true rfl) (R_X8_tallyAt rfl) ?_
  obtain ⟨x1, hx1, hF⟩ := tv_bind hF
  refine ev_iaload 11 dX8_isWeaker_10 rfl (Nat.le_of_ble_eq_true rfl) HPg_126 hx1 ?_
  refine ev_aload_n (i := 0) 12 dX8_isWeaker_11 rfl rfl rfl ?_
  refine ev_getfield 15 dX8_isWeaker_12 rfl okf_X8_7 (Nat.le_of_ble_eq_true rfl) HPg_125 rfl ?_
  refine ev_aload_n (i := 0) 16 dX8_isWeaker_15 rfl rfl rfl ?_
  refine ev_iload_n (i := 1) 17 dX8_isWeaker_16 rfl rfl rfl ?_
  refine ev_iload_n (i := 2) 18 dX8_isWeaker_17 rfl rfl rfl ?_
  refine ev_callVi (i := 125) 21 [.int a1, .int a2] [.ref 126, .int x1] dX8_isWeaker_18 rfl okV_X8_107 rfl rfl (Nat.le_of_ble_eq_true rfl) (Nat.le_of_ble_eq_true rfl) HPg_125 rfl (Nat.le_of_ble_eq_true rfl) (Nat.le_of_ble_eq_true rfl) (R_X8_tallyAt rfl) ?_
  obtain ⟨x2, hx2, hF⟩ := tv_bind hF
  refine ev_iaload 22 dX8_isWeaker_21 rfl (Nat.le_of_ble_eq_true rfl) HPg_126 hx2 ?_
  refine ev_isub 23 dX8_isWeaker_22 rfl ?_
  refine ev_istore (L2 := [.ref 125, .int a1, .int a2, .int a3, .int (x1 - x2)]) 25 dX8_isWeaker_23 rfl (Nat.le_of_ble_eq_true rfl) rfl ?_
  refine ev_iload 27 dX8_isWeaker_25 rfl rfl ?_
  obtain ⟨x5, hBx5, hF⟩ := tv_bind hF
  have Jx5 : tv_E g l yX8_isWeaker cX8_isWeaker 5 (some .boolean) 4 0 0 46 [.ref 125, .null, .int a2, .int a3, .null] [.int x5] (HP si sa hs tx tl hc hn v pa mt pm ty ra) (some (.int p)) (HP si sa hs tx tl hc hn v pa mt pm ty ra) := by
    refine ev_istore (L2 := [.ref 125, .null, .int a2, .int a3, .int x5]) 48 dX8_isWeaker_46 rfl (Nat.le_of_ble_eq_true rfl) rfl ?_
    refine ev_iload 50 dX8_isWeaker_48 rfl rfl ?_
    obtain ⟨x8, hBx8, hF⟩ := tv_bind hF
    have Jx8 : tv_E g l yX8_isWeaker cX8_isWeaker 5 (some .boolean) 4 0 0 69 [.null, .null, .int a2, .int a3, .null] [.int x8] (HP si sa hs tx tl hc hn v pa mt pm ty ra) (some (.int p)) (HP si sa hs tx tl hc hn v pa mt pm ty ra) := by
      refine ev_istore (L2 := [.null, .null, .int a2, .int a3, .int x8]) 71 dX8_isWeaker_69 rfl (Nat.le_of_ble_eq_true rfl) rfl ?_
      refine ev_iload 73 dX8_isWeaker_71 rfl rfl ?_
      refine ev_if_ne 89 76 dX8_isWeaker_73 rfl rfl (fun hc292 => ?_) (fun hc292 => ?_)
      · rw [if_neg hc292] at hF
        refine ev_iload 91 dX8_isWeaker_89 rfl rfl ?_
        refine ev_if_le 98 94 dX8_isWeaker_91 rfl rfl (fun hc293 => ?_) (fun hc293 => ?_)
        · rw [if_pos hc293] at hF
          refine ev_iconst 99 dX8_isWeaker_98 rfl kI_0 ?_
          have hF := Option.some.inj hF
          subst hF
          exact ev_ireturn dX8_isWeaker_99 rfl rfl
        · rw [if_neg hc293] at hF
          refine ev_iconst 95 dX8_isWeaker_94 rfl kI_1 ?_
          refine ev_goto 99 dX8_isWeaker_95 rfl ?_
          have hF := Option.some.inj hF
          subst hF
          exact ev_ireturn dX8_isWeaker_99 rfl rfl
      · rw [if_pos hc292] at hF
        refine ev_iload_n (i := 2) 77 dX8_isWeaker_76 rfl rfl rfl ?_
        refine ev_iload_n (i := 3) 78 dX8_isWeaker_77 rfl rfl rfl ?_
        refine ev_icmp_le 85 81 dX8_isWeaker_78 rfl rfl (fun hc294 => ?_) (fun hc294 => ?_)
        · rw [if_pos hc294] at hF
          refine ev_iconst 86 dX8_isWeaker_85 rfl kI_0 ?_
          refine ev_goto 99 dX8_isWeaker_86 rfl ?_
          have hF := Option.some.inj hF
          subst hF
          exact ev_ireturn dX8_isWeaker_99 rfl rfl
        · rw [if_neg hc294] at hF
          refine ev_iconst 82 dX8_isWeaker_81 rfl kI_1 ?_
          refine ev_goto 99 dX8_isWeaker_82 rfl ?_
          have hF := Option.some.inj hF
          subst hF
          exact ev_ireturn dX8_isWeaker_99 rfl rfl
    clear hF
    refine ev_if_ne 67 53 dX8_isWeaker_50 rfl rfl (fun hc295 => ?_) (fun hc295 => ?_)
    · rw [if_neg hc295] at hBx8
      refine ev_iload 69 dX8_isWeaker_67 rfl rfl ?_
      have hBx8 := Option.some.inj hBx8
      subst hBx8
      refine ev_weak [.null, .null, .int a2, .int a3, .null] ⟨Or.inl rfl, ⟨Or.inl rfl, ⟨Or.inr rfl, ⟨Or.inr rfl, ⟨Or.inl rfl, trivial⟩⟩⟩⟩⟩ ?_
      exact Jx8
    · rw [if_pos hc295] at hBx8
      refine ev_aload_n (i := 0) 54 dX8_isWeaker_53 rfl rfl rfl ?_
      refine ev_iload_n (i := 2) 55 dX8_isWeaker_54 rfl rfl rfl ?_
      obtain ⟨x6, hx6, hBx8⟩ := tv_bind hBx8
      refine ev_callVi (i := 125) 58 [.int a2] [] dX8_isWeaker_55 rfl okV_X8_45 rfl rfl (Nat.le_of_ble_eq_true rfl) (Nat.le_of_ble_eq_true rfl) HPg_125 rfl (Nat.le_of_ble_eq_true rfl) (Nat.le_of_ble_eq_true rfl) (R_X8_led hx6) ?_
      refine ev_aload_n (i := 0) 59 dX8_isWeaker_58 rfl rfl rfl ?_
      refine ev_iload_n (i := 3) 60 dX8_isWeaker_59 rfl rfl rfl ?_
      obtain ⟨x7, hx7, hBx8⟩ := tv_bind hBx8
      refine ev_callVi (i := 125) 63 [.int a3] [.int x6] dX8_isWeaker_60 rfl okV_X8_45 rfl rfl (Nat.le_of_ble_eq_true rfl) (Nat.le_of_ble_eq_true rfl) HPg_125 rfl (Nat.le_of_ble_eq_true rfl) (Nat.le_of_ble_eq_true rfl) (R_X8_led hx7) ?_
      refine ev_isub 64 dX8_isWeaker_63 rfl ?_
      refine ev_goto 69 dX8_isWeaker_64 rfl ?_
      have hBx8 := Option.some.inj hBx8
      subst hBx8
      refine ev_weak [.null, .null, .int a2, .int a3, .null] ⟨Or.inl rfl, ⟨Or.inl rfl, ⟨Or.inr rfl, ⟨Or.inr rfl, ⟨Or.inl rfl, trivial⟩⟩⟩⟩⟩ ?_
      exact Jx8
  clear hF
  refine ev_if_ne 44 30 dX8_isWeaker_27 rfl rfl (fun hc296 => ?_) (fun hc296 => ?_)
  · rw [if_neg hc296] at hBx5
    refine ev_iload 46 dX8_isWeaker_44 rfl rfl ?_
    have hBx5 := Option.some.inj hBx5
    subst hBx5
    refine ev_weak [.ref 125, .null, .int a2, .int a3, .null] ⟨Or.inr rfl, ⟨Or.inl rfl, ⟨Or.inr rfl, ⟨Or.inr rfl, ⟨Or.inl rfl, trivial⟩⟩⟩⟩⟩ ?_
    exact Jx5
  · rw [if_pos hc296] at hBx5
    refine ev_aload_n (i := 0) 31 dX8_isWeaker_30 rfl rfl rfl ?_
    refine ev_iload_n (i := 3) 32 dX8_isWeaker_31 rfl rfl rfl ?_
    obtain ⟨x3, hx3, hBx5⟩ := tv_bind hBx5
    refine ev_callVi (i := 125) 35 [.int a3] [] dX8_isWeaker_32 rfl okV_X8_48 rfl rfl (Nat.le_of_ble_eq_true rfl) (Nat.le_of_ble_eq_true rfl) HPg_125 rfl (Nat.le_of_ble_eq_true rfl) (Nat.le_of_ble_eq_true rfl) (R_X8_reputation hx3) ?_
    refine ev_aload_n (i := 0) 36 dX8_isWeaker_35 rfl rfl rfl ?_
    refine ev_iload_n (i := 2) 37 dX8_isWeaker_36 rfl rfl rfl ?_
    obtain ⟨x4, hx4, hBx5⟩ := tv_bind hBx5
    refine ev_callVi (i := 125) 40 [.int a2] [.int x3] dX8_isWeaker_37 rfl okV_X8_48 rfl rfl (Nat.le_of_ble_eq_true rfl) (Nat.le_of_ble_eq_true rfl) HPg_125 rfl (Nat.le_of_ble_eq_true rfl) (Nat.le_of_ble_eq_true rfl) (R_X8_reputation hx4) ?_
    refine ev_isub 41 dX8_isWeaker_40 rfl ?_
    refine ev_goto 46 dX8_isWeaker_41 rfl ?_
    have hBx5 := Option.some.inj hBx5
    subst hBx5
    refine ev_weak [.ref 125, .null, .int a2, .int a3, .null] ⟨Or.inr rfl, ⟨Or.inl rfl, ⟨Or.inr rfl, ⟨Or.inr rfl, ⟨Or.inl rfl, trivial⟩⟩⟩⟩⟩ ?_
    exact Jx5

set_option maxRecDepth 100000 in
set_option maxHeartbeats 4000000 in
theorem R_X8_holdsRound_L4 {g : tv_G} {l : Launch} {si : Nat → Int32} {sa : Nat → Nat → Int32} {hs : Nat → (Nat → Int32) × (Nat → Nat → Int32)} {tx : Nat → Int32} {tl : Int32} {hc : Int32} {hn : Int32} {pa : Nat → Int32} {mt : Nat → Int32} {pm : Int32} {ty : Int32} {ra : Int32} {l1 : Int32} {l2 : Int32} {r : Option Value} {h' : tv_Hp} : ∀ (n : Nat) (l3 : Int32) (v : Nat → Int32) (x : (Nat → Int32)), F_X8_holdsRound_L4 ra l1 l2 n l3 v = some x → tv_E g l yX8_holdsRound cX8_holdsRound 5 (some .int) 5 0 0 45 [.ref 125, .int l1, .int l2, .null, .null] [] (HP si sa hs tx tl hc hn x pa mt pm ty ra) r h' → tv_E g l yX8_holdsRound cX8_holdsRound 5 (some .int) 5 0 0 4 [.ref 125, .int l1, .int l2, .int l3, .null] [] (HP si sa hs tx tl hc hn v pa mt pm ty ra) r h' := by
  intro n
  induction n with
  | zero => intro l3 v x hF k; cases hF
  | succ n ih =>
      intro l3 v x hF k
      rw [F_X8_holdsRound_L4] at hF
      refine ev_iload_n (i := 3) 5 dX8_holdsRound_4 rfl rfl rfl ?_
      refine ev_bipush 7 dX8_holdsRound_5 rfl kB_10 ?_
      refine ev_icmp_ge 45 10 dX8_holdsRound_7 rfl rfl (fun hc297 => ?_) (fun hc297 => ?_)
      · rw [if_pos hc297] at hF
        have hF := Option.some.inj hF
        subst hF
        refine ev_weak [.ref 125, .int l1, .int l2, .null, .null] ⟨Or.inr rfl, ⟨Or.inr rfl, ⟨Or.inr rfl, ⟨Or.inl rfl, ⟨Or.inl rfl, trivial⟩⟩⟩⟩⟩ ?_
        exact k
      · rw [if_neg hc297] at hF
        refine ev_aload_n (i := 0) 11 dX8_holdsRound_10 rfl rfl rfl ?_
        refine ev_getfield 14 dX8_holdsRound_11 rfl okf_X8_7 (Nat.le_of_ble_eq_true rfl) HPg_125 rfl ?_
        refine ev_aload_n (i := 0) 15 dX8_holdsRound_14 rfl rfl rfl ?_
        refine ev_iload_n (i := 1) 16 dX8_holdsRound_15 rfl rfl rfl ?_
        refine ev_iload_n (i := 3) 17 dX8_holdsRound_16 rfl rfl rfl ?_
        refine ev_callVi (i := 125) 20 [.int l1, .int l3] [.ref 126] dX8_holdsRound_17 rfl okV_X8_107 rfl rfl (Nat.le_of_ble_eq_true rfl) (Nat.le_of_ble_eq_true rfl) HPg_125 rfl (Nat.le_of_ble_eq_true rfl) (Nat.le_of_ble_eq_true rfl) (R_X8_tallyAt rfl) ?_
        refine ev_aload_n (i := 0) 21 dX8_holdsRound_20 rfl rfl rfl ?_
        refine ev_getfield 24 dX8_holdsRound_21 rfl okf_X8_104 (Nat.le_of_ble_eq_true rfl) HPg_125 rfl ?_
        refine ev_iload_n (i := 3) 25 dX8_holdsRound_24 rfl rfl rfl ?_
        refine ev_ishr 26 dX8_holdsRound_25 rfl ?_
        refine ev_iconst 27 dX8_holdsRound_26 rfl kI_1 ?_
        refine ev_iand 28 dX8_holdsRound_27 rfl ?_
        refine ev_iconst 29 dX8_holdsRound_28 rfl kI_1 ?_
        obtain ⟨x1, hBx1, hF⟩ := tv_bind hF
        have Jx1 : tv_E g l yX8_holdsRound cX8_holdsRound 5 (some .int) 5 0 0 38 [.ref 125, .int l1, .int l2, .int l3, .null] [.int x1, .int (F_X8_tallyAt l1 l3), .ref 126] (HP si sa hs tx tl hc hn v pa mt pm ty ra) r h' := by
          obtain ⟨x2, hx2, hF⟩ := tv_bind hF
          refine ev_iastore 39 dX8_holdsRound_38 rfl (Nat.le_of_ble_eq_true rfl) HPg_126 hx2 HPa_126 ?_
          refine ev_iinc (L2 := [.ref 125, .int l1, .int l2, .int (l3 + 1), .null]) 42 dX8_holdsRound_39 rfl rfl (kA_1 _) (Nat.le_of_ble_eq_true rfl) rfl ?_
          refine ev_goto 4 dX8_holdsRound_42 rfl ?_
          exact ih _ _ _ hF k
        clear hF
        refine ev_icmp_ne 36 32 dX8_holdsRound_29 rfl rfl (fun hc298 => ?_) (fun hc298 => ?_)
        · rw [if_neg hc298] at hBx1
          refine ev_bipush 38 dX8_holdsRound_36 rfl kB_m9 ?_
          have hBx1 := Option.some.inj hBx1
          subst hBx1
          exact Jx1
        · rw [if_pos hc298] at hBx1
          refine ev_iconst 33 dX8_holdsRound_32 rfl kI_0 ?_
          refine ev_goto 38 dX8_holdsRound_33 rfl ?_
          have hBx1 := Option.some.inj hBx1
          subst hBx1
          exact Jx1

set_option maxRecDepth 100000 in
set_option maxHeartbeats 4000000 in
theorem R_X8_holdsRound_L47 {g : tv_G} {l : Launch} {si : Nat → Int32} {sa : Nat → Nat → Int32} {hs : Nat → (Nat → Int32) × (Nat → Nat → Int32)} {tx : Nat → Int32} {tl : Int32} {hc : Int32} {hn : Int32} {pa : Nat → Int32} {mt : Nat → Int32} {pm : Int32} {ty : Int32} {ra : Int32} {l1 : Int32} {r : Option Value} {h' : tv_Hp} : ∀ (n : Nat) (l2 : Int32) (l3 : Int32) (v : Nat → Int32) (x : Int32 × (Nat → Int32)), F_X8_holdsRound_L47 ra l1 n l2 l3 v = some x → tv_E g l yX8_holdsRound cX8_holdsRound 5 (some .int) 5 0 0 95 [.ref 125, .int l1, .int x.1, .null, .null] [] (HP si sa hs tx tl hc hn x.2 pa mt pm ty ra) r h' → tv_E g l yX8_holdsRound cX8_holdsRound 5 (some .int) 5 0 0 47 [.ref 125, .int l1, .int l2, .int l3, .null] [] (HP si sa hs tx tl hc hn v pa mt pm ty ra) r h' := by
  intro n
  induction n with
  | zero => intro l2 l3 v x hF k; cases hF
  | succ n ih =>
      intro l2 l3 v x hF k
      rw [F_X8_holdsRound_L47] at hF
      refine ev_iload_n (i := 3) 48 dX8_holdsRound_47 rfl rfl rfl ?_
      refine ev_aload_n (i := 0) 49 dX8_holdsRound_48 rfl rfl rfl ?_
      refine ev_getfield 52 dX8_holdsRound_49 rfl okf_X8_7 (Nat.le_of_ble_eq_true rfl) HPg_125 rfl ?_
      refine ev_bipush 54 dX8_holdsRound_52 rfl kB_10 ?_
      obtain ⟨x4, hx4, hF⟩ := tv_bind hF
      refine ev_iaload 55 dX8_holdsRound_54 rfl (Nat.le_of_ble_eq_true rfl) HPg_126 hx4 ?_
      refine ev_icmp_ge 95 58 dX8_holdsRound_55 rfl rfl (fun hc299 => ?_) (fun hc299 => ?_)
      · rw [if_pos hc299] at hF
        have hF := Option.some.inj hF
        subst hF
        refine ev_weak [.ref 125, .int l1, .int l2, .null, .null] ⟨Or.inr rfl, ⟨Or.inr rfl, ⟨Or.inr rfl, ⟨Or.inl rfl, ⟨Or.inl rfl, trivial⟩⟩⟩⟩⟩ ?_
        exact k
      · rw [if_neg hc299] at hF
        refine ev_aload_n (i := 0) 59 dX8_holdsRound_58 rfl rfl rfl ?_
        refine ev_iload_n (i := 3) 60 dX8_holdsRound_59 rfl rfl rfl ?_
        obtain ⟨x5, hx5, hF⟩ := tv_bind hF
        refine ev_callVi (i := 125) 63 [.int l3] [] dX8_holdsRound_60 rfl okV_X8_110 rfl rfl (Nat.le_of_ble_eq_true rfl) (Nat.le_of_ble_eq_true rfl) HPg_125 rfl (Nat.le_of_ble_eq_true rfl) (Nat.le_of_ble_eq_true rfl) (R_X8_firstOf hx5) ?_
        refine ev_istore (L2 := [.ref 125, .int l1, .int l2, .int l3, .int x5]) 65 dX8_holdsRound_63 rfl (Nat.le_of_ble_eq_true rfl) rfl ?_
        refine ev_iload 67 dX8_holdsRound_65 rfl rfl ?_
        refine ev_if_lt 89 70 dX8_holdsRound_67 rfl rfl (fun hc300 => ?_) (fun hc300 => ?_)
        · rw [if_pos hc300] at hF
          refine ev_iinc (L2 := [.ref 125, .int l1, .int l2, .int (l3 + 1), .int x5]) 92 dX8_holdsRound_89 rfl rfl (kA_1 _) (Nat.le_of_ble_eq_true rfl) rfl ?_
          refine ev_goto 47 dX8_holdsRound_92 rfl ?_
          refine ev_weak [.ref 125, .int l1, .int l2, .int (l3 + 1), .null] ⟨Or.inr rfl, ⟨Or.inr rfl, ⟨Or.inr rfl, ⟨Or.inr rfl, ⟨Or.inl rfl, trivial⟩⟩⟩⟩⟩ ?_
          exact ih _ _ _ _ hF k
        · rw [if_neg hc300] at hF
          refine ev_aload_n (i := 0) 71 dX8_holdsRound_70 rfl rfl rfl ?_
          refine ev_getfield 74 dX8_holdsRound_71 rfl okf_X8_7 (Nat.le_of_ble_eq_true rfl) HPg_125 rfl ?_
          refine ev_aload_n (i := 0) 75 dX8_holdsRound_74 rfl rfl rfl ?_
          refine ev_iload_n (i := 1) 76 dX8_holdsRound_75 rfl rfl rfl ?_
          refine ev_iload 78 dX8_holdsRound_76 rfl rfl ?_
          refine ev_callVi (i := 125) 81 [.int l1, .int x5] [.ref 126] dX8_holdsRound_78 rfl okV_X8_107 rfl rfl (Nat.le_of_ble_eq_true rfl) (Nat.le_of_ble_eq_true rfl) HPg_125 rfl (Nat.le_of_ble_eq_true rfl) (Nat.le_of_ble_eq_true rfl) (R_X8_tallyAt rfl) ?_
          refine ev_dup2 82 dX8_holdsRound_81 rfl rfl rfl ?_
          obtain ⟨x6, hx6, hF⟩ := tv_bind hF
          refine ev_iaload 83 dX8_holdsRound_82 rfl (Nat.le_of_ble_eq_true rfl) HPg_126 hx6 ?_
          refine ev_iconst 84 dX8_holdsRound_83 rfl kI_1 ?_
          refine ev_iadd 85 dX8_holdsRound_84 rfl ?_
          obtain ⟨x7, hx7, hF⟩ := tv_bind hF
          refine ev_iastore 86 dX8_holdsRound_85 rfl (Nat.le_of_ble_eq_true rfl) HPg_126 hx7 HPa_126 ?_
          refine ev_iinc (L2 := [.ref 125, .int l1, .int (l2 + 1), .int l3, .int x5]) 89 dX8_holdsRound_86 rfl rfl (kA_1 _) (Nat.le_of_ble_eq_true rfl) rfl ?_
          refine ev_iinc (L2 := [.ref 125, .int l1, .int (l2 + 1), .int (l3 + 1), .int x5]) 92 dX8_holdsRound_89 rfl rfl (kA_1 _) (Nat.le_of_ble_eq_true rfl) rfl ?_
          refine ev_goto 47 dX8_holdsRound_92 rfl ?_
          refine ev_weak [.ref 125, .int l1, .int (l2 + 1), .int (l3 + 1), .null] ⟨Or.inr rfl, ⟨Or.inr rfl, ⟨Or.inr rfl, ⟨Or.inr rfl, ⟨Or.inl rfl, trivial⟩⟩⟩⟩⟩ ?_
          exact ih _ _ _ _ hF k

set_option maxRecDepth 100000 in
set_option maxHeartbeats 4000000 in
theorem R_X8_holdsRound_L101 {g : tv_G} {l : Launch} {si : Nat → Int32} {sa : Nat → Nat → Int32} {hs : Nat → (Nat → Int32) × (Nat → Nat → Int32)} {tx : Nat → Int32} {tl : Int32} {hc : Int32} {hn : Int32} {pa : Nat → Int32} {mt : Nat → Int32} {pm : Int32} {ty : Int32} {l1 : Int32} {l2 : Int32} : ∀ (n : Nat) (l3 : Int32) (l4 : Int32) (v : Nat → Int32) (ra : Int32) (p : Int32 × (Nat → Int32) × Int32), F_X8_holdsRound_L101 l1 l2 n l3 l4 v ra = some p → tv_E g l yX8_holdsRound cX8_holdsRound 5 (some .int) 5 0 0 101 [.ref 125, .int l1, .int l2, .int l3, .int l4] [] (HP si sa hs tx tl hc hn v pa mt pm ty ra) (some (.int p.1)) (HP si sa hs tx tl hc hn p.2.1 pa mt pm ty p.2.2) := by
  intro n
  induction n with
  | zero => intro l3 l4 v ra p hF; cases hF
  | succ n ih =>
      intro l3 l4 v ra p hF
      rw [F_X8_holdsRound_L101] at hF
      refine ev_iload 103 dX8_holdsRound_101 rfl rfl ?_
      refine ev_bipush 105 dX8_holdsRound_103 rfl kB_10 ?_
      refine ev_icmp_ge 178 108 dX8_holdsRound_105 rfl rfl (fun hc301 => ?_) (fun hc301 => ?_)
      · rw [if_pos hc301] at hF
        refine ev_aload_n (i := 0) 179 dX8_holdsRound_178 rfl rfl rfl ?_
        refine ev_dup 180 dX8_holdsRound_179 rfl rfl ?_
        refine ev_getfield 183 dX8_holdsRound_180 rfl okf_X8_104 (Nat.le_of_ble_eq_true rfl) HPg_125 rfl ?_
        refine ev_iconst 184 dX8_holdsRound_183 rfl kI_1 ?_
        refine ev_iload_n (i := 3) 185 dX8_holdsRound_184 rfl rfl rfl ?_
        refine ev_ishl 186 dX8_holdsRound_185 rfl ?_
        refine ev_iconst 187 dX8_holdsRound_186 rfl kI_m1 ?_
        refine ev_ixor 188 dX8_holdsRound_187 rfl ?_
        refine ev_iand 189 dX8_holdsRound_188 rfl ?_
        refine ev_putfield 192 dX8_holdsRound_189 rfl okf_X8_104 (Nat.le_of_ble_eq_true rfl) HPg_125 (Nat.le_of_ble_eq_true rfl) rfl rfl HPs_125_5 ?_
        refine ev_bipush 194 dX8_holdsRound_192 rfl kB_m9 ?_
        have hF := Option.some.inj hF
        subst hF
        exact ev_ireturn dX8_holdsRound_194 rfl rfl
      · rw [if_neg hc301] at hF
        refine ev_aload_n (i := 0) 109 dX8_holdsRound_108 rfl rfl rfl ?_
        refine ev_getfield 112 dX8_holdsRound_109 rfl okf_X8_104 (Nat.le_of_ble_eq_true rfl) HPg_125 rfl ?_
        refine ev_iload 114 dX8_holdsRound_112 rfl rfl ?_
        refine ev_ishr 115 dX8_holdsRound_114 rfl ?_
        refine ev_iconst 116 dX8_holdsRound_115 rfl kI_1 ?_
        refine ev_iand 117 dX8_holdsRound_116 rfl ?_
        refine ev_iconst 118 dX8_holdsRound_117 rfl kI_1 ?_
        refine ev_icmp_ne 172 121 dX8_holdsRound_118 rfl rfl (fun hc302 => ?_) (fun hc302 => ?_)
        · rw [if_neg hc302] at hF
          refine ev_iinc (L2 := [.ref 125, .int l1, .int l2, .int l3, .int (l4 + 1)]) 175 dX8_holdsRound_172 rfl rfl (kA_1 _) (Nat.le_of_ble_eq_true rfl) rfl ?_
          refine ev_goto 101 dX8_holdsRound_175 rfl ?_
          exact ih _ _ _ _ _ hF
        · rw [if_pos hc302] at hF
          refine ev_iconst 122 dX8_holdsRound_121 rfl kI_2 ?_
          refine ev_aload_n (i := 0) 123 dX8_holdsRound_122 rfl rfl rfl ?_
          refine ev_getfield 126 dX8_holdsRound_123 rfl okf_X8_7 (Nat.le_of_ble_eq_true rfl) HPg_125 rfl ?_
          refine ev_aload_n (i := 0) 127 dX8_holdsRound_126 rfl rfl rfl ?_
          refine ev_iload_n (i := 1) 128 dX8_holdsRound_127 rfl rfl rfl ?_
          refine ev_iload 130 dX8_holdsRound_128 rfl rfl ?_
          refine ev_callVi (i := 125) 133 [.int l1, .int l4] [.ref 126, .int 2] dX8_holdsRound_130 rfl okV_X8_107 rfl rfl (Nat.le_of_ble_eq_true rfl) (Nat.le_of_ble_eq_true rfl) HPg_125 rfl (Nat.le_of_ble_eq_true rfl) (Nat.le_of_ble_eq_true rfl) (R_X8_tallyAt rfl) ?_
          obtain ⟨x9, hx9, hF⟩ := tv_bind hF
          refine ev_iaload 134 dX8_holdsRound_133 rfl (Nat.le_of_ble_eq_true rfl) HPg_126 hx9 ?_
          refine ev_imul 135 dX8_holdsRound_134 rfl ?_
          refine ev_iload_n (i := 2) 136 dX8_holdsRound_135 rfl rfl rfl ?_
          refine ev_icmp_gt 147 139 dX8_holdsRound_136 rfl rfl (fun hc303 => ?_) (fun hc303 => ?_)
          · rw [if_pos hc303] at hF
            refine ev_iload 149 dX8_holdsRound_147 rfl rfl ?_
            have hF := Option.some.inj hF
            subst hF
            exact ev_ireturn dX8_holdsRound_149 rfl rfl
          · rw [if_neg hc303] at hF
            refine ev_aload_n (i := 0) 140 dX8_holdsRound_139 rfl rfl rfl ?_
            obtain ⟨x10, hx10, hF⟩ := tv_bind hF
            refine ev_callVi (i := 125) 143 [] [] dX8_holdsRound_140 rfl okV_X8_113 rfl rfl (Nat.le_of_ble_eq_true rfl) (Nat.le_of_ble_eq_true rfl) HPg_125 rfl (Nat.le_of_ble_eq_true rfl) (Nat.le_of_ble_eq_true rfl) (R_X8_raceMany hx10) ?_
            refine ev_iconst 144 dX8_holdsRound_143 rfl kI_1 ?_
            refine ev_icmp_ne 150 147 dX8_holdsRound_144 rfl rfl (fun hc304 => ?_) (fun hc304 => ?_)
            · rw [if_neg hc304] at hF
              refine ev_iload_n (i := 3) 151 dX8_holdsRound_150 rfl rfl rfl ?_
              refine ev_if_lt 165 154 dX8_holdsRound_151 rfl rfl (fun hc305 => ?_) (fun hc305 => ?_)
              · rw [if_pos hc305] at hF
                refine ev_iload 167 dX8_holdsRound_165 rfl rfl ?_
                refine ev_goto 171 dX8_holdsRound_167 rfl ?_
                refine ev_istore_n (i := 3) (L2 := [.ref 125, .int l1, .int l2, .int l4, .int l4]) 172 dX8_holdsRound_171 rfl rfl (Nat.le_of_ble_eq_true rfl) rfl ?_
                refine ev_iinc (L2 := [.ref 125, .int l1, .int l2, .int l4, .int (l4 + 1)]) 175 dX8_holdsRound_172 rfl rfl (kA_1 _) (Nat.le_of_ble_eq_true rfl) rfl ?_
                refine ev_goto 101 dX8_holdsRound_175 rfl ?_
                exact ih _ _ _ _ _ hF
              · rw [if_neg hc305] at hF
                refine ev_aload_n (i := 0) 155 dX8_holdsRound_154 rfl rfl rfl ?_
                refine ev_iload_n (i := 1) 156 dX8_holdsRound_155 rfl rfl rfl ?_
                refine ev_iload 158 dX8_holdsRound_156 rfl rfl ?_
                refine ev_iload_n (i := 3) 159 dX8_holdsRound_158 rfl rfl rfl ?_
                obtain ⟨x11, hx11, hF⟩ := tv_bind hF
                refine ev_callVi (i := 125) 162 [.int l1, .int l4, .int l3] [] dX8_holdsRound_159 rfl okV_X8_116 rfl rfl (Nat.le_of_ble_eq_true rfl) (Nat.le_of_ble_eq_true rfl) HPg_125 rfl (Nat.le_of_ble_eq_true rfl) (Nat.le_of_ble_eq_true rfl) (R_X8_isWeaker hx11) ?_
                refine ev_if_eq 170 165 dX8_holdsRound_162 rfl rfl (fun hc306 => ?_) (fun hc306 => ?_)
                · rw [if_pos hc306] at hF
                  refine ev_iload_n (i := 3) 171 dX8_holdsRound_170 rfl rfl rfl ?_
                  refine ev_istore_n (i := 3) (L2 := [.ref 125, .int l1, .int l2, .int l3, .int l4]) 172 dX8_holdsRound_171 rfl rfl (Nat.le_of_ble_eq_true rfl) rfl ?_
                  refine ev_iinc (L2 := [.ref 125, .int l1, .int l2, .int l3, .int (l4 + 1)]) 175 dX8_holdsRound_172 rfl rfl (kA_1 _) (Nat.le_of_ble_eq_true rfl) rfl ?_
                  refine ev_goto 101 dX8_holdsRound_175 rfl ?_
                  exact ih _ _ _ _ _ hF
                · rw [if_neg hc306] at hF
                  refine ev_iload 167 dX8_holdsRound_165 rfl rfl ?_
                  refine ev_goto 171 dX8_holdsRound_167 rfl ?_
                  refine ev_istore_n (i := 3) (L2 := [.ref 125, .int l1, .int l2, .int l4, .int l4]) 172 dX8_holdsRound_171 rfl rfl (Nat.le_of_ble_eq_true rfl) rfl ?_
                  refine ev_iinc (L2 := [.ref 125, .int l1, .int l2, .int l4, .int (l4 + 1)]) 175 dX8_holdsRound_172 rfl rfl (kA_1 _) (Nat.le_of_ble_eq_true rfl) rfl ?_
                  refine ev_goto 101 dX8_holdsRound_175 rfl ?_
                  exact ih _ _ _ _ _ hF
            · rw [if_pos hc304] at hF
              refine ev_iload 149 dX8_holdsRound_147 rfl rfl ?_
              have hF := Option.some.inj hF
              subst hF
              exact ev_ireturn dX8_holdsRound_149 rfl rfl

set_option maxRecDepth 100000 in
set_option maxHeartbeats 4000000 in
theorem R_X8_holdsRound {g : tv_G} {l : Launch} {si : Nat → Int32} {sa : Nat → Nat → Int32} {hs : Nat → (Nat → Int32) × (Nat → Nat → Int32)} {tx : Nat → Int32} {tl : Int32} {hc : Int32} {hn : Int32} {v : Nat → Int32} {pa : Nat → Int32} {mt : Nat → Int32} {pm : Int32} {ty : Int32} {ra : Int32} {a1 : Int32} {p : Int32 × (Nat → Int32) × Int32} (hF : F_X8_holdsRound v ra a1 = some p) : tv_E g l yX8_holdsRound cX8_holdsRound 5 (some .int) 5 0 0 0 [.ref 125, .int a1, .null, .null, .null] [] (HP si sa hs tx tl hc hn v pa mt pm ty ra) (some (.int p.1)) (HP si sa hs tx tl hc hn p.2.1 pa mt pm ty p.2.2) := by
  unfold F_X8_holdsRound at hF
  refine ev_iconst 1 dX8_holdsRound_0 rfl kI_0 ?_
  refine ev_istore_n (i := 2) (L2 := [.ref 125, .int a1, .int 0, .null, .null]) 2 dX8_holdsRound_1 rfl rfl (Nat.le_of_ble_eq_true rfl) rfl ?_
  refine ev_iconst 3 dX8_holdsRound_2 rfl kI_0 ?_
  refine ev_istore_n (i := 3) (L2 := [.ref 125, .int a1, .int 0, .int 0, .null]) 4 dX8_holdsRound_3 rfl rfl (Nat.le_of_ble_eq_true rfl) rfl ?_
  obtain ⟨x3, hx3, hF⟩ := tv_bind hF
  refine R_X8_holdsRound_L4 _ _ _ _ hx3 ?_
  refine ev_iconst 46 dX8_holdsRound_45 rfl kI_0 ?_
  refine ev_istore_n (i := 3) (L2 := [.ref 125, .int a1, .int 0, .int 0, .null]) 47 dX8_holdsRound_46 rfl rfl (Nat.le_of_ble_eq_true rfl) rfl ?_
  obtain ⟨x8, hx8, hF⟩ := tv_bind hF
  refine R_X8_holdsRound_L47 _ _ _ _ _ hx8 ?_
  refine ev_bipush 97 dX8_holdsRound_95 rfl kB_m9 ?_
  refine ev_istore_n (i := 3) (L2 := [.ref 125, .int a1, .int x8.1, .int (-9), .null]) 98 dX8_holdsRound_97 rfl rfl (Nat.le_of_ble_eq_true rfl) rfl ?_
  refine ev_iconst 99 dX8_holdsRound_98 rfl kI_0 ?_
  refine ev_istore (L2 := [.ref 125, .int a1, .int x8.1, .int (-9), .int 0]) 101 dX8_holdsRound_99 rfl (Nat.le_of_ble_eq_true rfl) rfl ?_
  exact R_X8_holdsRound_L101 _ _ _ _ _ _ hF

set_option maxRecDepth 100000 in
set_option maxHeartbeats 4000000 in
theorem R_X8_begins_L21 {g : tv_G} {l : Launch} {si : Nat → Int32} {sa : Nat → Nat → Int32} {hs : Nat → (Nat → Int32) × (Nat → Nat → Int32)} {tx : Nat → Int32} {tl : Int32} {hc : Int32} {hn : Int32} {pa : Nat → Int32} {mt : Nat → Int32} {pm : Int32} {ty : Int32} {ra : Int32} {l1 : Int32} {l2 : Int32} {r : Option Value} {h' : tv_Hp} : ∀ (n : Nat) (l3 : Int32) (v : Nat → Int32) (x : (Nat → Int32)), F_X8_begins_L21 l1 l2 n l3 v = some x → tv_E g l yX8_begins cX8_begins 4 none 1 0 0 44 [.ref 125, .int l1, .int l2, .null] [] (HP si sa hs tx tl hc hn x pa mt pm ty ra) r h' → tv_E g l yX8_begins cX8_begins 4 none 1 0 0 21 [.ref 125, .int l1, .int l2, .int l3] [] (HP si sa hs tx tl hc hn v pa mt pm ty ra) r h' := by
  intro n
  induction n with
  | zero => intro l3 v x hF k; cases hF
  | succ n ih =>
      intro l3 v x hF k
      rw [F_X8_begins_L21] at hF
      refine ev_iload_n (i := 3) 22 dX8_begins_21 rfl rfl rfl ?_
      refine ev_bipush 24 dX8_begins_22 rfl kB_18 ?_
      refine ev_icmp_ge 44 27 dX8_begins_24 rfl rfl (fun hc307 => ?_) (fun hc307 => ?_)
      · rw [if_pos hc307] at hF
        have hF := Option.some.inj hF
        subst hF
        refine ev_weak [.ref 125, .int l1, .int l2, .null] ⟨Or.inr rfl, ⟨Or.inr rfl, ⟨Or.inr rfl, ⟨Or.inl rfl, trivial⟩⟩⟩⟩ ?_
        exact k
      · rw [if_neg hc307] at hF
        refine ev_aload_n (i := 0) 28 dX8_begins_27 rfl rfl rfl ?_
        refine ev_getfield 31 dX8_begins_28 rfl okf_X8_7 (Nat.le_of_ble_eq_true rfl) HPg_125 rfl ?_
        refine ev_iload_n (i := 2) 32 dX8_begins_31 rfl rfl rfl ?_
        refine ev_iload_n (i := 3) 33 dX8_begins_32 rfl rfl rfl ?_
        refine ev_callSi 36 [.int l2, .int l3] [.ref 126] dX8_begins_33 rfl okS_X8_31 rfl rfl (Nat.le_of_ble_eq_true rfl) rfl (Nat.le_of_ble_eq_true rfl) (Nat.le_of_ble_eq_true rfl) (R_X8_of rfl) ?_
        refine ev_iconst 37 dX8_begins_36 rfl kI_0 ?_
        obtain ⟨x4, hx4, hF⟩ := tv_bind hF
        refine ev_iastore 38 dX8_begins_37 rfl (Nat.le_of_ble_eq_true rfl) HPg_126 hx4 HPa_126 ?_
        refine ev_iinc (L2 := [.ref 125, .int l1, .int l2, .int (l3 + 1)]) 41 dX8_begins_38 rfl rfl (kA_1 _) (Nat.le_of_ble_eq_true rfl) rfl ?_
        refine ev_goto 21 dX8_begins_41 rfl ?_
        exact ih _ _ _ hF k

set_option maxRecDepth 100000 in
set_option maxHeartbeats 4000000 in
theorem R_X8_begins_L110 {g : tv_G} {l : Launch} {si : Nat → Int32} {sa : Nat → Nat → Int32} {hs : Nat → (Nat → Int32) × (Nat → Nat → Int32)} {tx : Nat → Int32} {tl : Int32} {hc : Int32} {hn : Int32} {pa : Nat → Int32} {mt : Nat → Int32} {pm : Int32} {ty : Int32} {ra : Int32} {l1 : Int32} {l2 : Int32} {r : Option Value} {h' : tv_Hp} : ∀ (n : Nat) (l3 : Int32) (v : Nat → Int32) (x : (Nat → Int32)), F_X8_begins_L110 l1 l2 n l3 v = some x → tv_E g l yX8_begins cX8_begins 4 none 1 0 0 153 [.ref 125, .int l1, .null, .null] [] (HP si sa hs tx tl hc hn x pa mt pm ty ra) r h' → tv_E g l yX8_begins cX8_begins 4 none 1 0 0 110 [.ref 125, .int l1, .int l2, .int l3] [] (HP si sa hs tx tl hc hn v pa mt pm ty ra) r h' := by
  intro n
  induction n with
  | zero => intro l3 v x hF k; cases hF
  | succ n ih =>
      intro l3 v x hF k
      rw [F_X8_begins_L110] at hF
      refine ev_iload_n (i := 3) 111 dX8_begins_110 rfl rfl rfl ?_
      refine ev_aload_n (i := 0) 112 dX8_begins_111 rfl rfl rfl ?_
      refine ev_getfield 115 dX8_begins_112 rfl okf_X8_7 (Nat.le_of_ble_eq_true rfl) HPg_125 rfl ?_
      refine ev_bipush 117 dX8_begins_115 rfl kB_10 ?_
      obtain ⟨x13, hx13, hF⟩ := tv_bind hF
      refine ev_iaload 118 dX8_begins_117 rfl (Nat.le_of_ble_eq_true rfl) HPg_126 hx13 ?_
      refine ev_icmp_ge 153 121 dX8_begins_118 rfl rfl (fun hc308 => ?_) (fun hc308 => ?_)
      · rw [if_pos hc308] at hF
        have hF := Option.some.inj hF
        subst hF
        refine ev_weak [.ref 125, .int l1, .null, .null] ⟨Or.inr rfl, ⟨Or.inr rfl, ⟨Or.inl rfl, ⟨Or.inl rfl, trivial⟩⟩⟩⟩ ?_
        exact k
      · rw [if_neg hc308] at hF
        refine ev_aload_n (i := 0) 122 dX8_begins_121 rfl rfl rfl ?_
        refine ev_getfield 125 dX8_begins_122 rfl okf_X8_7 (Nat.le_of_ble_eq_true rfl) HPg_125 rfl ?_
        refine ev_iload_n (i := 2) 126 dX8_begins_125 rfl rfl rfl ?_
        refine ev_bipush 128 dX8_begins_126 rfl kB_6 ?_
        refine ev_callSi 131 [.int l2, .int 6] [.ref 126] dX8_begins_128 rfl okS_X8_31 rfl rfl (Nat.le_of_ble_eq_true rfl) rfl (Nat.le_of_ble_eq_true rfl) (Nat.le_of_ble_eq_true rfl) (R_X8_of rfl) ?_
        refine ev_dup2 132 dX8_begins_131 rfl rfl rfl ?_
        obtain ⟨x14, hx14, hF⟩ := tv_bind hF
        refine ev_iaload 133 dX8_begins_132 rfl (Nat.le_of_ble_eq_true rfl) HPg_126 hx14 ?_
        refine ev_aload_n (i := 0) 134 dX8_begins_133 rfl rfl rfl ?_
        refine ev_getfield 137 dX8_begins_134 rfl okf_X8_7 (Nat.le_of_ble_eq_true rfl) HPg_125 rfl ?_
        refine ev_iload_n (i := 3) 138 dX8_begins_137 rfl rfl rfl ?_
        refine ev_iconst 139 dX8_begins_138 rfl kI_1 ?_
        refine ev_callSi 142 [.int l3, .int 1] [.ref 126, .int x14, .int (F_X8_of l2 6), .ref 126] dX8_begins_139 rfl okS_X8_27 rfl rfl (Nat.le_of_ble_eq_true rfl) rfl (Nat.le_of_ble_eq_true rfl) (Nat.le_of_ble_eq_true rfl) (R_X8_at rfl) ?_
        obtain ⟨x15, hx15, hF⟩ := tv_bind hF
        refine ev_iaload 143 dX8_begins_142 rfl (Nat.le_of_ble_eq_true rfl) HPg_126 hx15 ?_
        refine ev_iload_n (i := 3) 144 dX8_begins_143 rfl rfl rfl ?_
        refine ev_ishl 145 dX8_begins_144 rfl ?_
        refine ev_ior 146 dX8_begins_145 rfl ?_
        obtain ⟨x16, hx16, hF⟩ := tv_bind hF
        refine ev_iastore 147 dX8_begins_146 rfl (Nat.le_of_ble_eq_true rfl) HPg_126 hx16 HPa_126 ?_
        refine ev_iinc (L2 := [.ref 125, .int l1, .int l2, .int (l3 + 1)]) 150 dX8_begins_147 rfl rfl (kA_1 _) (Nat.le_of_ble_eq_true rfl) rfl ?_
        refine ev_goto 110 dX8_begins_150 rfl ?_
        exact ih _ _ _ hF k

set_option maxRecDepth 100000 in
set_option maxHeartbeats 4000000 in
theorem R_X8_begins {g : tv_G} {l : Launch} {si : Nat → Int32} {sa : Nat → Nat → Int32} {hs : Nat → (Nat → Int32) × (Nat → Nat → Int32)} {tx : Nat → Int32} {tl : Int32} {hc : Int32} {hn : Int32} {v : Nat → Int32} {pa : Nat → Int32} {mt : Nat → Int32} {pm : Int32} {ty : Int32} {ra : Int32} {a1 : Int32} {p : (Nat → Int32)} (hF : F_X8_begins v a1 = some p) : tv_E g l yX8_begins cX8_begins 4 none 1 0 0 0 [.ref 125, .int a1, .null, .null] [] (HP si sa hs tx tl hc hn v pa mt pm ty ra) none (HP si sa hs tx tl hc hn p pa mt pm ty ra) := by
  unfold F_X8_begins at hF
  refine ev_aload_n (i := 0) 1 dX8_begins_0 rfl rfl rfl ?_
  refine ev_getfield 4 dX8_begins_1 rfl okf_X8_7 (Nat.le_of_ble_eq_true rfl) HPg_125 rfl ?_
  refine ev_bipush 6 dX8_begins_4 rfl kB_9 ?_
  refine ev_dup2 7 dX8_begins_6 rfl rfl rfl ?_
  obtain ⟨x1, hx1, hF⟩ := tv_bind hF
  refine ev_iaload 8 dX8_begins_7 rfl (Nat.le_of_ble_eq_true rfl) HPg_126 hx1 ?_
  refine ev_iconst 9 dX8_begins_8 rfl kI_1 ?_
  refine ev_iadd 10 dX8_begins_9 rfl ?_
  obtain ⟨x2, hx2, hF⟩ := tv_bind hF
  refine ev_iastore 11 dX8_begins_10 rfl (Nat.le_of_ble_eq_true rfl) HPg_126 hx2 HPa_126 ?_
  refine ev_aload_n (i := 0) 12 dX8_begins_11 rfl rfl rfl ?_
  refine ev_getfield 15 dX8_begins_12 rfl okf_X8_7 (Nat.le_of_ble_eq_true rfl) HPg_125 rfl ?_
  refine ev_bipush 17 dX8_begins_15 rfl kB_9 ?_
  obtain ⟨x3, hx3, hF⟩ := tv_bind hF
  refine ev_iaload 18 dX8_begins_17 rfl (Nat.le_of_ble_eq_true rfl) HPg_126 hx3 ?_
  refine ev_istore_n (i := 2) (L2 := [.ref 125, .int a1, .int x3, .null]) 19 dX8_begins_18 rfl rfl (Nat.le_of_ble_eq_true rfl) rfl ?_
  refine ev_iconst 20 dX8_begins_19 rfl kI_0 ?_
  refine ev_istore_n (i := 3) (L2 := [.ref 125, .int a1, .int x3, .int 0]) 21 dX8_begins_20 rfl rfl (Nat.le_of_ble_eq_true rfl) rfl ?_
  obtain ⟨x5, hx5, hF⟩ := tv_bind hF
  refine R_X8_begins_L21 _ _ _ _ hx5 ?_
  refine ev_aload_n (i := 0) 45 dX8_begins_44 rfl rfl rfl ?_
  refine ev_getfield 48 dX8_begins_45 rfl okf_X8_7 (Nat.le_of_ble_eq_true rfl) HPg_125 rfl ?_
  refine ev_iload_n (i := 2) 49 dX8_begins_48 rfl rfl rfl ?_
  refine ev_iconst 50 dX8_begins_49 rfl kI_0 ?_
  refine ev_callSi 53 [.int x3, .int 0] [.ref 126] dX8_begins_50 rfl okS_X8_31 rfl rfl (Nat.le_of_ble_eq_true rfl) rfl (Nat.le_of_ble_eq_true rfl) (Nat.le_of_ble_eq_true rfl) (R_X8_of rfl) ?_
  refine ev_iload_n (i := 1) 54 dX8_begins_53 rfl rfl rfl ?_
  obtain ⟨x6, hx6, hF⟩ := tv_bind hF
  refine ev_iastore 55 dX8_begins_54 rfl (Nat.le_of_ble_eq_true rfl) HPg_126 hx6 HPa_126 ?_
  refine ev_aload_n (i := 0) 56 dX8_begins_55 rfl rfl rfl ?_
  refine ev_getfield 59 dX8_begins_56 rfl okf_X8_7 (Nat.le_of_ble_eq_true rfl) HPg_125 rfl ?_
  refine ev_iload_n (i := 2) 60 dX8_begins_59 rfl rfl rfl ?_
  refine ev_iconst 61 dX8_begins_60 rfl kI_1 ?_
  refine ev_callSi 64 [.int x3, .int 1] [.ref 126] dX8_begins_61 rfl okS_X8_31 rfl rfl (Nat.le_of_ble_eq_true rfl) rfl (Nat.le_of_ble_eq_true rfl) (Nat.le_of_ble_eq_true rfl) (R_X8_of rfl) ?_
  refine ev_aload_n (i := 0) 65 dX8_begins_64 rfl rfl rfl ?_
  refine ev_getfield 68 dX8_begins_65 rfl okf_X8_7 (Nat.le_of_ble_eq_true rfl) HPg_125 rfl ?_
  refine ev_bipush 70 dX8_begins_68 rfl kB_6 ?_
  obtain ⟨x7, hx7, hF⟩ := tv_bind hF
  refine ev_iaload 71 dX8_begins_70 rfl (Nat.le_of_ble_eq_true rfl) HPg_126 hx7 ?_
  obtain ⟨x8, hx8, hF⟩ := tv_bind hF
  refine ev_iastore 72 dX8_begins_71 rfl (Nat.le_of_ble_eq_true rfl) HPg_126 hx8 HPa_126 ?_
  refine ev_aload_n (i := 0) 73 dX8_begins_72 rfl rfl rfl ?_
  refine ev_getfield 76 dX8_begins_73 rfl okf_X8_7 (Nat.le_of_ble_eq_true rfl) HPg_125 rfl ?_
  refine ev_iload_n (i := 2) 77 dX8_begins_76 rfl rfl rfl ?_
  refine ev_iconst 78 dX8_begins_77 rfl kI_2 ?_
  refine ev_callSi 81 [.int x3, .int 2] [.ref 126] dX8_begins_78 rfl okS_X8_31 rfl rfl (Nat.le_of_ble_eq_true rfl) rfl (Nat.le_of_ble_eq_true rfl) (Nat.le_of_ble_eq_true rfl) (R_X8_of rfl) ?_
  refine ev_aload_n (i := 0) 82 dX8_begins_81 rfl rfl rfl ?_
  refine ev_getfield 85 dX8_begins_82 rfl okf_X8_7 (Nat.le_of_ble_eq_true rfl) HPg_125 rfl ?_
  refine ev_bipush 87 dX8_begins_85 rfl kB_6 ?_
  obtain ⟨x9, hx9, hF⟩ := tv_bind hF
  refine ev_iaload 88 dX8_begins_87 rfl (Nat.le_of_ble_eq_true rfl) HPg_126 hx9 ?_
  refine ev_aload_n (i := 0) 89 dX8_begins_88 rfl rfl rfl ?_
  refine ev_getfield 92 dX8_begins_89 rfl okf_X8_7 (Nat.le_of_ble_eq_true rfl) HPg_125 rfl ?_
  refine ev_iconst 93 dX8_begins_92 rfl kI_0 ?_
  obtain ⟨x10, hx10, hF⟩ := tv_bind hF
  refine ev_iaload 94 dX8_begins_93 rfl (Nat.le_of_ble_eq_true rfl) HPg_126 hx10 ?_
  refine ev_iadd 95 dX8_begins_94 rfl ?_
  obtain ⟨x11, hx11, hF⟩ := tv_bind hF
  refine ev_iastore 96 dX8_begins_95 rfl (Nat.le_of_ble_eq_true rfl) HPg_126 hx11 HPa_126 ?_
  refine ev_aload_n (i := 0) 97 dX8_begins_96 rfl rfl rfl ?_
  refine ev_getfield 100 dX8_begins_97 rfl okf_X8_7 (Nat.le_of_ble_eq_true rfl) HPg_125 rfl ?_
  refine ev_iload_n (i := 2) 101 dX8_begins_100 rfl rfl rfl ?_
  refine ev_iconst 102 dX8_begins_101 rfl kI_3 ?_
  refine ev_callSi 105 [.int x3, .int 3] [.ref 126] dX8_begins_102 rfl okS_X8_31 rfl rfl (Nat.le_of_ble_eq_true rfl) rfl (Nat.le_of_ble_eq_true rfl) (Nat.le_of_ble_eq_true rfl) (R_X8_of rfl) ?_
  refine ev_bipush 107 dX8_begins_105 rfl kB_m9 ?_
  obtain ⟨x12, hx12, hF⟩ := tv_bind hF
  refine ev_iastore 108 dX8_begins_107 rfl (Nat.le_of_ble_eq_true rfl) HPg_126 hx12 HPa_126 ?_
  refine ev_iconst 109 dX8_begins_108 rfl kI_0 ?_
  refine ev_istore_n (i := 3) (L2 := [.ref 125, .int a1, .int x3, .int 0]) 110 dX8_begins_109 rfl rfl (Nat.le_of_ble_eq_true rfl) rfl ?_
  obtain ⟨x17, hx17, hF⟩ := tv_bind hF
  refine R_X8_begins_L110 _ _ _ _ hx17 ?_
  refine ev_aload_n (i := 0) 154 dX8_begins_153 rfl rfl rfl ?_
  refine ev_getfield 157 dX8_begins_154 rfl okf_X8_7 (Nat.le_of_ble_eq_true rfl) HPg_125 rfl ?_
  refine ev_bipush 159 dX8_begins_157 rfl kB_7 ?_
  refine ev_iconst 160 dX8_begins_159 rfl kI_2 ?_
  obtain ⟨x18, hx18, hF⟩ := tv_bind hF
  refine ev_iastore 161 dX8_begins_160 rfl (Nat.le_of_ble_eq_true rfl) HPg_126 hx18 HPa_126 ?_
  refine ev_aload_n (i := 0) 162 dX8_begins_161 rfl rfl rfl ?_
  refine ev_getfield 165 dX8_begins_162 rfl okf_X8_7 (Nat.le_of_ble_eq_true rfl) HPg_125 rfl ?_
  refine ev_bipush 167 dX8_begins_165 rfl kB_8 ?_
  refine ev_iload_n (i := 1) 168 dX8_begins_167 rfl rfl rfl ?_
  obtain ⟨x19, hx19, hF⟩ := tv_bind hF
  refine ev_iastore 169 dX8_begins_168 rfl (Nat.le_of_ble_eq_true rfl) HPg_126 hx19 HPa_126 ?_
  refine ev_aload_n (i := 0) 170 dX8_begins_169 rfl rfl rfl ?_
  refine ev_iconst 171 dX8_begins_170 rfl kI_1 ?_
  refine ev_iload_n (i := 1) 172 dX8_begins_171 rfl rfl rfl ?_
  obtain ⟨x20, hx20, hF⟩ := tv_bind hF
  refine ev_callVv (i := 125) 175 [.int 1, .int a1] [] dX8_begins_172 rfl okV_X8_51 rfl rfl (Nat.le_of_ble_eq_true rfl) (Nat.le_of_ble_eq_true rfl) HPg_125 rfl (Nat.le_of_ble_eq_true rfl) (Nat.le_of_ble_eq_true rfl) (R_X8_tells hx20) ?_
  have hF := Option.some.inj hF
  subst hF
  exact ev_return dX8_begins_175 rfl

set_option maxRecDepth 100000 in
set_option maxHeartbeats 4000000 in
theorem R_X8_close_L42 {g : tv_G} {l : Launch} {si : Nat → Int32} {sa : Nat → Nat → Int32} {hs : Nat → (Nat → Int32) × (Nat → Nat → Int32)} {tx : Nat → Int32} {tl : Int32} {hc : Int32} {hn : Int32} {v : Nat → Int32} {pa : Nat → Int32} {mt : Nat → Int32} {pm : Int32} {ty : Int32} {l1 : Int32} {r : Option Value} {h' : tv_Hp} : ∀ (n : Nat) (l2 : Int32) (ra : Int32) (x : Int32), F_X8_close_L42 v l1 n l2 ra = some x → tv_E g l yX8_close cX8_close 4 (some .int) 6 0 0 80 [.ref 125, .int l1, .null, .null] [] (HP si sa hs tx tl hc hn v pa mt pm ty x) r h' → tv_E g l yX8_close cX8_close 4 (some .int) 6 0 0 42 [.ref 125, .int l1, .int l2, .null] [] (HP si sa hs tx tl hc hn v pa mt pm ty ra) r h' := by
  intro n
  induction n with
  | zero => intro l2 ra x hF k; cases hF
  | succ n ih =>
      intro l2 ra x hF k
      rw [F_X8_close_L42] at hF
      refine ev_iload_n (i := 2) 43 dX8_close_42 rfl rfl rfl ?_
      refine ev_aload_n (i := 0) 44 dX8_close_43 rfl rfl rfl ?_
      refine ev_getfield 47 dX8_close_44 rfl okf_X8_7 (Nat.le_of_ble_eq_true rfl) HPg_125 rfl ?_
      refine ev_bipush 49 dX8_close_47 rfl kB_10 ?_
      obtain ⟨x5, hx5, hF⟩ := tv_bind hF
      refine ev_iaload 50 dX8_close_49 rfl (Nat.le_of_ble_eq_true rfl) HPg_126 hx5 ?_
      refine ev_icmp_ge 80 53 dX8_close_50 rfl rfl (fun hc309 => ?_) (fun hc309 => ?_)
      · rw [if_pos hc309] at hF
        have hF := Option.some.inj hF
        subst hF
        refine ev_weak [.ref 125, .int l1, .null, .null] ⟨Or.inr rfl, ⟨Or.inr rfl, ⟨Or.inl rfl, ⟨Or.inl rfl, trivial⟩⟩⟩⟩ ?_
        exact k
      · rw [if_neg hc309] at hF
        refine ev_aload_n (i := 0) 54 dX8_close_53 rfl rfl rfl ?_
        refine ev_dup 55 dX8_close_54 rfl rfl ?_
        refine ev_getfield 58 dX8_close_55 rfl okf_X8_104 (Nat.le_of_ble_eq_true rfl) HPg_125 rfl ?_
        refine ev_aload_n (i := 0) 59 dX8_close_58 rfl rfl rfl ?_
        refine ev_getfield 62 dX8_close_59 rfl okf_X8_7 (Nat.le_of_ble_eq_true rfl) HPg_125 rfl ?_
        refine ev_iload_n (i := 2) 63 dX8_close_62 rfl rfl rfl ?_
        refine ev_iconst 64 dX8_close_63 rfl kI_2 ?_
        refine ev_callSi 67 [.int l2, .int 2] [.ref 126, .int ra, .ref 125] dX8_close_64 rfl okS_X8_27 rfl rfl (Nat.le_of_ble_eq_true rfl) rfl (Nat.le_of_ble_eq_true rfl) (Nat.le_of_ble_eq_true rfl) (R_X8_at rfl) ?_
        obtain ⟨x6, hx6, hF⟩ := tv_bind hF
        refine ev_iaload 68 dX8_close_67 rfl (Nat.le_of_ble_eq_true rfl) HPg_126 hx6 ?_
        refine ev_iload_n (i := 2) 69 dX8_close_68 rfl rfl rfl ?_
        refine ev_ishl 70 dX8_close_69 rfl ?_
        refine ev_ior 71 dX8_close_70 rfl ?_
        refine ev_putfield 74 dX8_close_71 rfl okf_X8_104 (Nat.le_of_ble_eq_true rfl) HPg_125 (Nat.le_of_ble_eq_true rfl) rfl rfl HPs_125_5 ?_
        refine ev_iinc (L2 := [.ref 125, .int l1, .int (l2 + 1), .null]) 77 dX8_close_74 rfl rfl (kA_1 _) (Nat.le_of_ble_eq_true rfl) rfl ?_
        refine ev_goto 42 dX8_close_77 rfl ?_
        exact ih _ _ _ hF k

set_option maxRecDepth 100000 in
set_option maxHeartbeats 4000000 in
theorem R_X8_close_L107 {g : tv_G} {l : Launch} {si : Nat → Int32} {sa : Nat → Nat → Int32} {hs : Nat → (Nat → Int32) × (Nat → Nat → Int32)} {tx : Nat → Int32} {tl : Int32} {hc : Int32} {hn : Int32} {pa : Nat → Int32} {mt : Nat → Int32} {pm : Int32} {ty : Int32} {l2 : Int32} {r : Option Value} {h' : tv_Hp} : ∀ (n : Nat) (l1 : Int32) (v : Nat → Int32) (ra : Int32) (x : Int32 × (Nat → Int32) × Int32), F_X8_close_L107 l2 n l1 v ra = some x → tv_E g l yX8_close cX8_close 4 (some .int) 6 0 0 141 [.ref 125, .int x.1, .null, .null] [] (HP si sa hs tx tl hc hn x.2.1 pa mt pm ty x.2.2) r h' → tv_E g l yX8_close cX8_close 4 (some .int) 6 0 0 107 [.ref 125, .int l1, .int l2, .null] [] (HP si sa hs tx tl hc hn v pa mt pm ty ra) r h' := by
  intro n
  induction n with
  | zero => intro l1 v ra x hF k; cases hF
  | succ n ih =>
      intro l1 v ra x hF k
      rw [F_X8_close_L107] at hF
      refine ev_iload_n (i := 2) 108 dX8_close_107 rfl rfl rfl ?_
      refine ev_if_eq 141 111 dX8_close_108 rfl rfl (fun hc310 => ?_) (fun hc310 => ?_)
      · rw [if_pos hc310] at hF
        have hF := Option.some.inj hF
        subst hF
        refine ev_weak [.ref 125, .int l1, .null, .null] ⟨Or.inr rfl, ⟨Or.inr rfl, ⟨Or.inl rfl, ⟨Or.inl rfl, trivial⟩⟩⟩⟩ ?_
        exact k
      · rw [if_neg hc310] at hF
        refine ev_iload_n (i := 1) 112 dX8_close_111 rfl rfl rfl ?_
        refine ev_if_ge 141 115 dX8_close_112 rfl rfl (fun hc311 => ?_) (fun hc311 => ?_)
        · rw [if_pos hc311] at hF
          have hF := Option.some.inj hF
          subst hF
          refine ev_weak [.ref 125, .int l1, .null, .null] ⟨Or.inr rfl, ⟨Or.inr rfl, ⟨Or.inl rfl, ⟨Or.inl rfl, trivial⟩⟩⟩⟩ ?_
          exact k
        · rw [if_neg hc311] at hF
          refine ev_aload_n (i := 0) 116 dX8_close_115 rfl rfl rfl ?_
          refine ev_aload_n (i := 0) 117 dX8_close_116 rfl rfl rfl ?_
          refine ev_getfield 120 dX8_close_117 rfl okf_X8_7 (Nat.le_of_ble_eq_true rfl) HPg_125 rfl ?_
          refine ev_bipush 122 dX8_close_120 rfl kB_13 ?_
          obtain ⟨x12, hx12, hF⟩ := tv_bind hF
          refine ev_iaload 123 dX8_close_122 rfl (Nat.le_of_ble_eq_true rfl) HPg_126 hx12 ?_
          obtain ⟨x13, hx13, hF⟩ := tv_bind hF
          refine ev_callVi (i := 125) 126 [.int x12] [] dX8_close_123 rfl okV_X8_119 rfl rfl (Nat.le_of_ble_eq_true rfl) (Nat.le_of_ble_eq_true rfl) HPg_125 rfl (Nat.le_of_ble_eq_true rfl) (Nat.le_of_ble_eq_true rfl) (R_X8_holdsRound hx13) ?_
          refine ev_istore_n (i := 1) (L2 := [.ref 125, .int x13.1, .int l2, .null]) 127 dX8_close_126 rfl rfl (Nat.le_of_ble_eq_true rfl) rfl ?_
          refine ev_aload_n (i := 0) 128 dX8_close_127 rfl rfl rfl ?_
          refine ev_getfield 131 dX8_close_128 rfl okf_X8_7 (Nat.le_of_ble_eq_true rfl) HPg_125 rfl ?_
          refine ev_bipush 133 dX8_close_131 rfl kB_13 ?_
          refine ev_dup2 134 dX8_close_133 rfl rfl rfl ?_
          obtain ⟨x14, hx14, hF⟩ := tv_bind hF
          refine ev_iaload 135 dX8_close_134 rfl (Nat.le_of_ble_eq_true rfl) HPg_126 hx14 ?_
          refine ev_iconst 136 dX8_close_135 rfl kI_1 ?_
          refine ev_iadd 137 dX8_close_136 rfl ?_
          obtain ⟨x15, hx15, hF⟩ := tv_bind hF
          refine ev_iastore 138 dX8_close_137 rfl (Nat.le_of_ble_eq_true rfl) HPg_126 hx15 HPa_126 ?_
          refine ev_goto 107 dX8_close_138 rfl ?_
          exact ih _ _ _ _ hF k
