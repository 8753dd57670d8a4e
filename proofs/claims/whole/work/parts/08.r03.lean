set_option maxRecDepth 100000 in
set_option maxHeartbeats 4000000 in
theorem R_X7_nominate {g : tv_G} {l : Launch} {si : Nat → Int32} {sa : Nat → Nat → Int32} {hs : Nat → (Nat → Int32) × (Nat → Nat → Int32)} {tx : Nat → Int32} {tl : Int32} {hc : Int32} {hn : Int32} {v : Nat → Int32} {pa : Nat → Int32} {mt : Nat → Int32} {pm : Int32} {ty : Int32} {ra : Int32} {a1 : Int32} {p : Int32 × (Nat → Int32) × (Nat → (Nat → Int32) × (Nat → Nat → Int32)) × Int32 × Int32} (hF : F_X7_nominate si sa hs hc hn a1 = some p) : tv_E g l yX7_nominate cX7_nominate 2 (some .int) 5 0 0 0 [.ref 0, .int a1] [] (HP si sa hs tx tl hc hn v pa mt pm ty ra) (some (.int p.1)) (HP p.2.1 sa p.2.2.1 tx tl p.2.2.2.1 p.2.2.2.2 v pa mt pm ty ra) := by
  unfold F_X7_nominate at hF
  refine ev_aload_n (i := 0) 1 dX7_nominate_0 rfl rfl rfl ?_
  refine ev_getfield 4 dX7_nominate_1 rfl okf_X7_19 (Nat.le_of_ble_eq_true rfl) HPg_0 rfl ?_
  refine ev_iload_n (i := 1) 5 dX7_nominate_4 rfl rfl rfl ?_
  refine ev_callVi (i := 3) 8 [.int a1] [] dX7_nominate_5 rfl okV_X7_55 rfl rfl (Nat.le_of_ble_eq_true rfl) (Nat.le_of_ble_eq_true rfl) HPg_3 rfl (Nat.le_of_ble_eq_true rfl) (Nat.le_of_ble_eq_true rfl) (R_X5_isMember rfl) ?_
  refine ev_if_ne 13 11 dX7_nominate_8 rfl rfl (fun hc66 => ?_) (fun hc66 => ?_)
  · rw [if_neg hc66] at hF
    refine ev_aload_n (i := 0) 14 dX7_nominate_13 rfl rfl rfl ?_
    refine ev_getfield 17 dX7_nominate_14 rfl okf_X7_19 (Nat.le_of_ble_eq_true rfl) HPg_0 rfl ?_
    refine ev_getfield 20 dX7_nominate_17 rfl okf_X7_83 (Nat.le_of_ble_eq_true rfl) HPg_3 rfl ?_
    refine ev_getfield 23 dX7_nominate_20 rfl okf_X7_87 (Nat.le_of_ble_eq_true rfl) HPg_6 rfl ?_
    refine ev_if_eq 43 26 dX7_nominate_23 rfl rfl (fun hc67 => ?_) (fun hc67 => ?_)
    · rw [if_pos hc67] at hF
      refine ev_bipush 45 dX7_nominate_43 rfl kB_m2 ?_
      have hF := Option.some.inj hF
      subst hF
      exact ev_ireturn dX7_nominate_45 rfl rfl
    · rw [if_neg hc67] at hF
      refine ev_aload_n (i := 0) 27 dX7_nominate_26 rfl rfl rfl ?_
      refine ev_getfield 30 dX7_nominate_27 rfl okf_X7_19 (Nat.le_of_ble_eq_true rfl) HPg_0 rfl ?_
      refine ev_getfield 33 dX7_nominate_30 rfl okf_X7_83 (Nat.le_of_ble_eq_true rfl) HPg_3 rfl ?_
      refine ev_getfield 36 dX7_nominate_33 rfl okf_X7_105 (Nat.le_of_ble_eq_true rfl) HPg_6 rfl ?_
      refine ev_iload_n (i := 1) 37 dX7_nominate_36 rfl rfl rfl ?_
      refine ev_callSi 40 [.int (si 7), .int a1] [] dX7_nominate_37 rfl okS_X7_108 rfl rfl (Nat.le_of_ble_eq_true rfl) rfl (Nat.le_of_ble_eq_true rfl) (Nat.le_of_ble_eq_true rfl) (R_X7_has rfl) ?_
      refine ev_if_eq 46 43 dX7_nominate_40 rfl rfl (fun hc68 => ?_) (fun hc68 => ?_)
      · rw [if_pos hc68] at hF
        refine ev_aload_n (i := 0) 47 dX7_nominate_46 rfl rfl rfl ?_
        refine ev_getfield 50 dX7_nominate_47 rfl okf_X7_19 (Nat.le_of_ble_eq_true rfl) HPg_0 rfl ?_
        refine ev_iload_n (i := 1) 51 dX7_nominate_50 rfl rfl rfl ?_
        obtain ⟨x1, hx1, hF⟩ := tv_bind hF
        refine ev_callVi (i := 3) 54 [.int a1] [] dX7_nominate_51 rfl okV_X7_112 rfl rfl (Nat.le_of_ble_eq_true rfl) (Nat.le_of_ble_eq_true rfl) HPg_3 rfl (Nat.le_of_ble_eq_true rfl) (Nat.le_of_ble_eq_true rfl) (R_X5_canLead hx1) ?_
        refine ev_if_ne 60 57 dX7_nominate_54 rfl rfl (fun hc69 => ?_) (fun hc69 => ?_)
        · rw [if_neg hc69] at hF
          refine ev_aload_n (i := 0) 61 dX7_nominate_60 rfl rfl rfl ?_
          refine ev_getfield 64 dX7_nominate_61 rfl okf_X7_26 (Nat.le_of_ble_eq_true rfl) HPg_0 rfl ?_
          refine ev_aload_n (i := 0) 65 dX7_nominate_64 rfl rfl rfl ?_
          refine ev_getfield 68 dX7_nominate_65 rfl okf_X7_19 (Nat.le_of_ble_eq_true rfl) HPg_0 rfl ?_
          obtain ⟨x2, hx2, hF⟩ := tv_bind hF
          refine ev_callVv (i := 23) 71 [.ref 3] [] dX7_nominate_68 rfl okV_X7_37 rfl rfl (Nat.le_of_ble_eq_true rfl) (Nat.le_of_ble_eq_true rfl) HPg_23 rfl (Nat.le_of_ble_eq_true rfl) (Nat.le_of_ble_eq_true rfl) (R_X3_keep hx2) ?_
          refine ev_aload_n (i := 0) 72 dX7_nominate_71 rfl rfl rfl ?_
          refine ev_getfield 75 dX7_nominate_72 rfl okf_X7_19 (Nat.le_of_ble_eq_true rfl) HPg_0 rfl ?_
          refine ev_getfield 78 dX7_nominate_75 rfl okf_X7_83 (Nat.le_of_ble_eq_true rfl) HPg_3 rfl ?_
          refine ev_dup 79 dX7_nominate_78 rfl rfl ?_
          refine ev_getfield 82 dX7_nominate_79 rfl okf_X7_105 (Nat.le_of_ble_eq_true rfl) HPg_6 rfl ?_
          refine ev_iload_n (i := 1) 83 dX7_nominate_82 rfl rfl rfl ?_
          refine ev_callSi 86 [.int a1] [.int (si 7), .ref 6] dX7_nominate_83 rfl okS_X7_69 rfl rfl (Nat.le_of_ble_eq_true rfl) rfl (Nat.le_of_ble_eq_true rfl) (Nat.le_of_ble_eq_true rfl) (R_X7_only rfl) ?_
          refine ev_ior 87 dX7_nominate_86 rfl ?_
          refine ev_putfield 90 dX7_nominate_87 rfl okf_X7_105 (Nat.le_of_ble_eq_true rfl) HPg_6 (Nat.le_of_ble_eq_true rfl) rfl rfl HPs_6_1 ?_
          refine ev_aload_n (i := 0) 91 dX7_nominate_90 rfl rfl rfl ?_
          refine ev_getfield 94 dX7_nominate_91 rfl okf_X7_19 (Nat.le_of_ble_eq_true rfl) HPg_0 rfl ?_
          refine ev_getfield 97 dX7_nominate_94 rfl okf_X7_83 (Nat.le_of_ble_eq_true rfl) HPg_3 rfl ?_
          refine ev_getfield 100 dX7_nominate_97 rfl okf_X7_105 (Nat.le_of_ble_eq_true rfl) HPg_6 rfl ?_
          refine ev_callSi 103 [.int ((upd si 7 ((si 7) ||| (F_X7_only a1))) 7)] [] dX7_nominate_100 rfl okS_X7_115 rfl rfl (Nat.le_of_ble_eq_true rfl) rfl (Nat.le_of_ble_eq_true rfl) (Nat.le_of_ble_eq_true rfl) R_bitCount ?_
          have hF := Option.some.inj hF
          subst hF
          exact ev_ireturn dX7_nominate_103 rfl rfl
        · rw [if_pos hc69] at hF
          refine ev_bipush 59 dX7_nominate_57 rfl kB_m4 ?_
          have hF := Option.some.inj hF
          subst hF
          exact ev_ireturn dX7_nominate_59 rfl rfl
      · rw [if_neg hc68] at hF
        refine ev_bipush 45 dX7_nominate_43 rfl kB_m2 ?_
        have hF := Option.some.inj hF
        subst hF
        exact ev_ireturn dX7_nominate_45 rfl rfl
  · rw [if_pos hc66] at hF
    refine ev_iconst 12 dX7_nominate_11 rfl kI_m1 ?_
    have hF := Option.some.inj hF
    subst hF
    exact ev_ireturn dX7_nominate_12 rfl rfl

set_option maxRecDepth 100000 in
set_option maxHeartbeats 4000000 in
theorem R_X0_errorPlace_L4 {g : tv_G} {l : Launch} {si : Nat → Int32} {sa : Nat → Nat → Int32} {hs : Nat → (Nat → Int32) × (Nat → Nat → Int32)} {tx : Nat → Int32} {tl : Int32} {hc : Int32} {hn : Int32} {v : Nat → Int32} {pa : Nat → Int32} {mt : Nat → Int32} {pm : Int32} {ty : Int32} {ra : Int32}  : ∀ (n : Nat) (l2 : Int32) (l3 : Int32)  (p : Int32), F_X0_errorPlace_L4 tx tl n l2 l3 = some p → tv_E g l yX0_errorPlace cX0_errorPlace 5 (some .int) 1 0 0 4 [.ref 1, .null, .int l2, .int l3, .null] [] (HP si sa hs tx tl hc hn v pa mt pm ty ra) (some (.int p)) (HP si sa hs tx tl hc hn v pa mt pm ty ra) := by
  intro n
  induction n with
  | zero => intro l2 l3 p hF; cases hF
  | succ n ih =>
      intro l2 l3 p hF
      rw [F_X0_errorPlace_L4] at hF
      refine ev_iload_n (i := 3) 5 dX0_errorPlace_4 rfl rfl rfl ?_
      refine ev_aload_n (i := 0) 6 dX0_errorPlace_5 rfl rfl rfl ?_
      refine ev_getfield 9 dX0_errorPlace_6 rfl okf_X0_15 (Nat.le_of_ble_eq_true rfl) HPg_1 rfl ?_
      refine ev_icmp_ge 82 12 dX0_errorPlace_9 rfl rfl (fun hc70 => ?_) (fun hc70 => ?_)
      · rw [if_pos hc70] at hF
        refine ev_aload_n (i := 0) 83 dX0_errorPlace_82 rfl rfl rfl ?_
        refine ev_getfield 86 dX0_errorPlace_83 rfl okf_X0_15 (Nat.le_of_ble_eq_true rfl) HPg_1 rfl ?_
        refine ev_iconst 87 dX0_errorPlace_86 rfl kI_2 ?_
        refine ev_irem 88 dX0_errorPlace_87 rfl (by decide) ?_
        refine ev_iconst 89 dX0_errorPlace_88 rfl kI_1 ?_
        refine ev_icmp_ne 97 92 dX0_errorPlace_89 rfl rfl (fun hc71 => ?_) (fun hc71 => ?_)
        · rw [if_neg hc71] at hF
          refine ev_aload_n (i := 0) 98 dX0_errorPlace_97 rfl rfl rfl ?_
          refine ev_getfield 101 dX0_errorPlace_98 rfl okf_X0_15 (Nat.le_of_ble_eq_true rfl) HPg_1 rfl ?_
          have hF := Option.some.inj hF
          subst hF
          exact ev_ireturn dX0_errorPlace_101 rfl rfl
        · rw [if_pos hc71] at hF
          refine ev_bipush 94 dX0_errorPlace_92 rfl kB_m9 ?_
          refine ev_goto 101 dX0_errorPlace_94 rfl ?_
          have hF := Option.some.inj hF
          subst hF
          exact ev_ireturn dX0_errorPlace_101 rfl rfl
      · rw [if_neg hc70] at hF
        refine ev_iload_n (i := 3) 13 dX0_errorPlace_12 rfl rfl rfl ?_
        refine ev_iconst 14 dX0_errorPlace_13 rfl kI_2 ?_
        refine ev_irem 15 dX0_errorPlace_14 rfl (by decide) ?_
        refine ev_iconst 16 dX0_errorPlace_15 rfl kI_1 ?_
        refine ev_icmp_ne 32 19 dX0_errorPlace_16 rfl rfl (fun hc72 => ?_) (fun hc72 => ?_)
        · rw [if_neg hc72] at hF
          refine ev_aload_n (i := 0) 33 dX0_errorPlace_32 rfl rfl rfl ?_
          refine ev_getfield 36 dX0_errorPlace_33 rfl okf_X0_9 (Nat.le_of_ble_eq_true rfl) HPg_1 rfl ?_
          refine ev_iload_n (i := 3) 37 dX0_errorPlace_36 rfl rfl rfl ?_
          obtain ⟨x1, hx1, hF⟩ := tv_bind hF
          refine ev_iaload 38 dX0_errorPlace_37 rfl (Nat.le_of_ble_eq_true rfl) HPg_2 hx1 ?_
          refine ev_bipush 40 dX0_errorPlace_38 rfl kB_48 ?_
          refine ev_isub 41 dX0_errorPlace_40 rfl ?_
          refine ev_istore (L2 := [.ref 1, .null, .int l2, .int l3, .int (x1 - 48)]) 43 dX0_errorPlace_41 rfl (Nat.le_of_ble_eq_true rfl) rfl ?_
          refine ev_iload 45 dX0_errorPlace_43 rfl rfl ?_
          refine ev_if_lt 64 48 dX0_errorPlace_45 rfl rfl (fun hc73 => ?_) (fun hc73 => ?_)
          · rw [if_pos hc73] at hF
            refine ev_iload_n (i := 3) 65 dX0_errorPlace_64 rfl rfl rfl ?_
            have hF := Option.some.inj hF
            subst hF
            exact ev_ireturn dX0_errorPlace_65 rfl rfl
          · rw [if_neg hc73] at hF
            refine ev_iload 50 dX0_errorPlace_48 rfl rfl ?_
            refine ev_bipush 52 dX0_errorPlace_50 rfl kB_9 ?_
            refine ev_icmp_gt 64 55 dX0_errorPlace_52 rfl rfl (fun hc74 => ?_) (fun hc74 => ?_)
            · rw [if_pos hc74] at hF
              refine ev_iload_n (i := 3) 65 dX0_errorPlace_64 rfl rfl rfl ?_
              have hF := Option.some.inj hF
              subst hF
              exact ev_ireturn dX0_errorPlace_65 rfl rfl
            · rw [if_neg hc74] at hF
              refine ev_iload_n (i := 2) 56 dX0_errorPlace_55 rfl rfl rfl ?_
              refine ev_iload 58 dX0_errorPlace_56 rfl rfl ?_
              refine ev_callSi 61 [.int l2, .int (x1 - 48)] [] dX0_errorPlace_58 rfl okS_X0_19 rfl rfl (Nat.le_of_ble_eq_true rfl) rfl (Nat.le_of_ble_eq_true rfl) (Nat.le_of_ble_eq_true rfl) (R_X7_has rfl) ?_
              refine ev_if_ne 66 64 dX0_errorPlace_61 rfl rfl (fun hc75 => ?_) (fun hc75 => ?_)
              · rw [if_neg hc75] at hF
                refine ev_iload_n (i := 2) 67 dX0_errorPlace_66 rfl rfl rfl ?_
                refine ev_iload 69 dX0_errorPlace_67 rfl rfl ?_
                refine ev_callSi 72 [.int (x1 - 48)] [.int l2] dX0_errorPlace_69 rfl okS_X0_23 rfl rfl (Nat.le_of_ble_eq_true rfl) rfl (Nat.le_of_ble_eq_true rfl) (Nat.le_of_ble_eq_true rfl) (R_X7_only rfl) ?_
                refine ev_iconst 73 dX0_errorPlace_72 rfl kI_m1 ?_
                refine ev_ixor 74 dX0_errorPlace_73 rfl ?_
                refine ev_iand 75 dX0_errorPlace_74 rfl ?_
                refine ev_istore_n (i := 2) (L2 := [.ref 1, .null, .int (l2 &&& ((F_X7_only (x1 - 48)) ^^^ (-1))), .int l3, .int (x1 - 48)]) 76 dX0_errorPlace_75 rfl rfl (Nat.le_of_ble_eq_true rfl) rfl ?_
                refine ev_iinc (L2 := [.ref 1, .null, .int (l2 &&& ((F_X7_only (x1 - 48)) ^^^ (-1))), .int (l3 + 1), .int (x1 - 48)]) 79 dX0_errorPlace_76 rfl rfl (kA_1 _) (Nat.le_of_ble_eq_true rfl) rfl ?_
                refine ev_goto 4 dX0_errorPlace_79 rfl ?_
                refine ev_weak [.ref 1, .null, .int (l2 &&& ((F_X7_only (x1 - 48)) ^^^ (-1))), .int (l3 + 1), .null] ⟨Or.inr rfl, ⟨Or.inl rfl, ⟨Or.inr rfl, ⟨Or.inr rfl, ⟨Or.inl rfl, trivial⟩⟩⟩⟩⟩ ?_
                exact ih _ _ _ hF
              · rw [if_pos hc75] at hF
                refine ev_iload_n (i := 3) 65 dX0_errorPlace_64 rfl rfl rfl ?_
                have hF := Option.some.inj hF
                subst hF
                exact ev_ireturn dX0_errorPlace_65 rfl rfl
        · rw [if_pos hc72] at hF
          refine ev_aload_n (i := 0) 20 dX0_errorPlace_19 rfl rfl rfl ?_
          refine ev_getfield 23 dX0_errorPlace_20 rfl okf_X0_9 (Nat.le_of_ble_eq_true rfl) HPg_1 rfl ?_
          refine ev_iload_n (i := 3) 24 dX0_errorPlace_23 rfl rfl rfl ?_
          obtain ⟨x2, hx2, hF⟩ := tv_bind hF
          refine ev_iaload 25 dX0_errorPlace_24 rfl (Nat.le_of_ble_eq_true rfl) HPg_2 hx2 ?_
          refine ev_bipush 27 dX0_errorPlace_25 rfl kB_62 ?_
          refine ev_icmp_eq 76 30 dX0_errorPlace_27 rfl rfl (fun hc76 => ?_) (fun hc76 => ?_)
          · rw [if_pos hc76] at hF
            refine ev_iinc (L2 := [.ref 1, .null, .int l2, .int (l3 + 1), .null]) 79 dX0_errorPlace_76 rfl rfl (kA_1 _) (Nat.le_of_ble_eq_true rfl) rfl ?_
            refine ev_goto 4 dX0_errorPlace_79 rfl ?_
            exact ih _ _ _ hF
          · rw [if_neg hc76] at hF
            refine ev_iload_n (i := 3) 31 dX0_errorPlace_30 rfl rfl rfl ?_
            have hF := Option.some.inj hF
            subst hF
            exact ev_ireturn dX0_errorPlace_31 rfl rfl

set_option maxRecDepth 100000 in
set_option maxHeartbeats 4000000 in
theorem R_X0_errorPlace {g : tv_G} {l : Launch} {si : Nat → Int32} {sa : Nat → Nat → Int32} {hs : Nat → (Nat → Int32) × (Nat → Nat → Int32)} {tx : Nat → Int32} {tl : Int32} {hc : Int32} {hn : Int32} {v : Nat → Int32} {pa : Nat → Int32} {mt : Nat → Int32} {pm : Int32} {ty : Int32} {ra : Int32} {a1 : Int32} {p : Int32} (hF : F_X0_errorPlace tx tl a1 = some p) : tv_E g l yX0_errorPlace cX0_errorPlace 5 (some .int) 1 0 0 0 [.ref 1, .int a1, .null, .null, .null] [] (HP si sa hs tx tl hc hn v pa mt pm ty ra) (some (.int p)) (HP si sa hs tx tl hc hn v pa mt pm ty ra) := by
  unfold F_X0_errorPlace at hF
  refine ev_iload_n (i := 1) 1 dX0_errorPlace_0 rfl rfl rfl ?_
  refine ev_istore_n (i := 2) (L2 := [.ref 1, .int a1, .int a1, .null, .null]) 2 dX0_errorPlace_1 rfl rfl (Nat.le_of_ble_eq_true rfl) rfl ?_
  refine ev_iconst 3 dX0_errorPlace_2 rfl kI_0 ?_
  refine ev_istore_n (i := 3) (L2 := [.ref 1, .int a1, .int a1, .int 0, .null]) 4 dX0_errorPlace_3 rfl rfl (Nat.le_of_ble_eq_true rfl) rfl ?_
  refine ev_weak [.ref 1, .null, .int a1, .int 0, .null] ⟨Or.inr rfl, ⟨Or.inl rfl, ⟨Or.inr rfl, ⟨Or.inr rfl, ⟨Or.inl rfl, trivial⟩⟩⟩⟩⟩ ?_
  exact R_X0_errorPlace_L4 _ _ _ _ hF

set_option maxRecDepth 100000 in
set_option maxHeartbeats 4000000 in
theorem R_X0_choice {g : tv_G} {l : Launch} {si : Nat → Int32} {sa : Nat → Nat → Int32} {hs : Nat → (Nat → Int32) × (Nat → Nat → Int32)} {tx : Nat → Int32} {tl : Int32} {hc : Int32} {hn : Int32} {v : Nat → Int32} {pa : Nat → Int32} {mt : Nat → Int32} {pm : Int32} {ty : Int32} {ra : Int32} {a1 : Int32} {p : Int32} (hF : F_X0_choice tx tl a1 = some p) : tv_E g l yX0_choice cX0_choice 3 (some .int) 0 0 0 0 [.ref 1, .int a1, .null] [] (HP si sa hs tx tl hc hn v pa mt pm ty ra) (some (.int p)) (HP si sa hs tx tl hc hn v pa mt pm ty ra) := by
  unfold F_X0_choice at hF
  refine ev_iconst 1 dX0_choice_0 rfl kI_2 ?_
  refine ev_iload_n (i := 1) 2 dX0_choice_1 rfl rfl rfl ?_
  refine ev_imul 3 dX0_choice_2 rfl ?_
  refine ev_istore_n (i := 2) (L2 := [.ref 1, .int a1, .int (2 * a1)]) 4 dX0_choice_3 rfl rfl (Nat.le_of_ble_eq_true rfl) rfl ?_
  refine ev_iload_n (i := 2) 5 dX0_choice_4 rfl rfl rfl ?_
  refine ev_aload_n (i := 0) 6 dX0_choice_5 rfl rfl rfl ?_
  refine ev_getfield 9 dX0_choice_6 rfl okf_X0_15 (Nat.le_of_ble_eq_true rfl) HPg_1 rfl ?_
  refine ev_icmp_ge 24 12 dX0_choice_9 rfl rfl (fun hc77 => ?_) (fun hc77 => ?_)
  · rw [if_pos hc77] at hF
    refine ev_bipush 26 dX0_choice_24 rfl kB_m9 ?_
    have hF := Option.some.inj hF
    subst hF
    exact ev_ireturn dX0_choice_26 rfl rfl
  · rw [if_neg hc77] at hF
    refine ev_aload_n (i := 0) 13 dX0_choice_12 rfl rfl rfl ?_
    refine ev_getfield 16 dX0_choice_13 rfl okf_X0_9 (Nat.le_of_ble_eq_true rfl) HPg_1 rfl ?_
    refine ev_iload_n (i := 2) 17 dX0_choice_16 rfl rfl rfl ?_
    obtain ⟨x1, hx1, hF⟩ := tv_bind hF
    refine ev_iaload 18 dX0_choice_17 rfl (Nat.le_of_ble_eq_true rfl) HPg_2 hx1 ?_
    refine ev_bipush 20 dX0_choice_18 rfl kB_48 ?_
    refine ev_isub 21 dX0_choice_20 rfl ?_
    refine ev_goto 26 dX0_choice_21 rfl ?_
    have hF := Option.some.inj hF
    subst hF
    exact ev_ireturn dX0_choice_26 rfl rfl

set_option maxRecDepth 100000 in
set_option maxHeartbeats 4000000 in
theorem R_X2_take_L2 {g : tv_G} {l : Launch} {si : Nat → Int32} {hs : Nat → (Nat → Int32) × (Nat → Nat → Int32)} {tx : Nat → Int32} {tl : Int32} {hc : Int32} {hn : Int32} {v : Nat → Int32} {pa : Nat → Int32} {mt : Nat → Int32} {pm : Int32} {ty : Int32} {ra : Int32} {l1 : Int32} {r : Option Value} {h' : tv_Hp} : ∀ (n : Nat) (l3 : Int32) (sa : Nat → Nat → Int32) (x : (Nat → Nat → Int32)), F_X2_take_L2 tx tl l1 n l3 sa = some x → tv_E g l yX2_take cX2_take 4 none 1 0 0 30 [.null, .null, .null, .null] [] (HP si x hs tx tl hc hn v pa mt pm ty ra) r h' → tv_E g l yX2_take cX2_take 4 none 1 0 0 2 [.ref 6, .int l1, .ref 1, .int l3] [] (HP si sa hs tx tl hc hn v pa mt pm ty ra) r h' := by
  intro n
  induction n with
  | zero => intro l3 sa x hF k; cases hF
  | succ n ih =>
      intro l3 sa x hF k
      rw [F_X2_take_L2] at hF
      refine ev_iload_n (i := 3) 3 dX2_take_2 rfl rfl rfl ?_
      refine ev_bipush 5 dX2_take_3 rfl kB_10 ?_
      refine ev_icmp_ge 30 8 dX2_take_5 rfl rfl (fun hc78 => ?_) (fun hc78 => ?_)
      · rw [if_pos hc78] at hF
        have hF := Option.some.inj hF
        subst hF
        refine ev_weak [.null, .null, .null, .null] ⟨Or.inl rfl, ⟨Or.inl rfl, ⟨Or.inl rfl, ⟨Or.inl rfl, trivial⟩⟩⟩⟩ ?_
        exact k
      · rw [if_neg hc78] at hF
        refine ev_aload_n (i := 0) 9 dX2_take_8 rfl rfl rfl ?_
        refine ev_getfield 12 dX2_take_9 rfl okf_X2_9 (Nat.le_of_ble_eq_true rfl) HPg_6 rfl ?_
        refine ev_iload_n (i := 1) 13 dX2_take_12 rfl rfl rfl ?_
        refine ev_bipush 15 dX2_take_13 rfl kB_10 ?_
        refine ev_imul 16 dX2_take_15 rfl ?_
        refine ev_iload_n (i := 3) 17 dX2_take_16 rfl rfl rfl ?_
        refine ev_iadd 18 dX2_take_17 rfl ?_
        refine ev_aload_n (i := 2) 19 dX2_take_18 rfl rfl rfl ?_
        refine ev_iload_n (i := 3) 20 dX2_take_19 rfl rfl rfl ?_
        obtain ⟨x1, hx1, hF⟩ := tv_bind hF
        refine ev_callVi (i := 1) 23 [.int l3] [.int ((l1 * 10) + l3), .ref 7] dX2_take_20 rfl okV_X2_35 rfl rfl (Nat.le_of_ble_eq_true rfl) (Nat.le_of_ble_eq_true rfl) HPg_1 rfl (Nat.le_of_ble_eq_true rfl) (Nat.le_of_ble_eq_true rfl) (R_X0_choice hx1) ?_
        obtain ⟨x2, hx2, hF⟩ := tv_bind hF
        refine ev_iastore 24 dX2_take_23 rfl (Nat.le_of_ble_eq_true rfl) HPg_7 hx2 HPa_7 ?_
        refine ev_iinc (L2 := [.ref 6, .int l1, .ref 1, .int (l3 + 1)]) 27 dX2_take_24 rfl rfl (kA_1 _) (Nat.le_of_ble_eq_true rfl) rfl ?_
        refine ev_goto 2 dX2_take_27 rfl ?_
        exact ih _ _ _ hF k

set_option maxRecDepth 100000 in
set_option maxHeartbeats 4000000 in
theorem R_X2_take {g : tv_G} {l : Launch} {si : Nat → Int32} {sa : Nat → Nat → Int32} {hs : Nat → (Nat → Int32) × (Nat → Nat → Int32)} {tx : Nat → Int32} {tl : Int32} {hc : Int32} {hn : Int32} {v : Nat → Int32} {pa : Nat → Int32} {mt : Nat → Int32} {pm : Int32} {ty : Int32} {ra : Int32} {a1 : Int32} {p : (Nat → Nat → Int32)} (hF : F_X2_take sa tx tl a1 = some p) : tv_E g l yX2_take cX2_take 4 none 1 0 0 0 [.ref 6, .int a1, .ref 1, .null] [] (HP si sa hs tx tl hc hn v pa mt pm ty ra) none (HP si p hs tx tl hc hn v pa mt pm ty ra) := by
  unfold F_X2_take at hF
  refine ev_iconst 1 dX2_take_0 rfl kI_0 ?_
  refine ev_istore_n (i := 3) (L2 := [.ref 6, .int a1, .ref 1, .int 0]) 2 dX2_take_1 rfl rfl (Nat.le_of_ble_eq_true rfl) rfl ?_
  obtain ⟨x3, hx3, hF⟩ := tv_bind hF
  refine R_X2_take_L2 _ _ _ _ hx3 ?_
  have hF := Option.some.inj hF
  subst hF
  exact ev_return dX2_take_30 rfl

set_option maxRecDepth 100000 in
set_option maxHeartbeats 4000000 in
theorem R_X2_choice {g : tv_G} {l : Launch} {si : Nat → Int32} {sa : Nat → Nat → Int32} {hs : Nat → (Nat → Int32) × (Nat → Nat → Int32)} {tx : Nat → Int32} {tl : Int32} {hc : Int32} {hn : Int32} {v : Nat → Int32} {pa : Nat → Int32} {mt : Nat → Int32} {pm : Int32} {ty : Int32} {ra : Int32} {a1 : Int32} {a2 : Int32} {p : Int32} (hF : F_X2_choice sa a1 a2 = some p) : tv_E g l yX2_choice cX2_choice 3 (some .int) 0 0 0 0 [.ref 6, .int a1, .int a2] [] (HP si sa hs tx tl hc hn v pa mt pm ty ra) (some (.int p)) (HP si sa hs tx tl hc hn v pa mt pm ty ra) := by
  unfold F_X2_choice at hF
  refine ev_aload_n (i := 0) 1 dX2_choice_0 rfl rfl rfl ?_
  refine ev_getfield 4 dX2_choice_1 rfl okf_X2_9 (Nat.le_of_ble_eq_true rfl) HPg_6 rfl ?_
  refine ev_iload_n (i := 1) 5 dX2_choice_4 rfl rfl rfl ?_
  refine ev_bipush 7 dX2_choice_5 rfl kB_10 ?_
  refine ev_imul 8 dX2_choice_7 rfl ?_
  refine ev_iload_n (i := 2) 9 dX2_choice_8 rfl rfl rfl ?_
  refine ev_iadd 10 dX2_choice_9 rfl ?_
  obtain ⟨x1, hx1, hF⟩ := tv_bind hF
  refine ev_iaload 11 dX2_choice_10 rfl (Nat.le_of_ble_eq_true rfl) HPg_7 hx1 ?_
  have hF := Option.some.inj hF
  subst hF
  exact ev_ireturn dX2_choice_11 rfl rfl

set_option maxRecDepth 100000 in
set_option maxHeartbeats 4000000 in
theorem R_X2_countBallots_L4 {g : tv_G} {l : Launch} {si : Nat → Int32} {sa : Nat → Nat → Int32} {hs : Nat → (Nat → Int32) × (Nat → Nat → Int32)} {tx : Nat → Int32} {tl : Int32} {hc : Int32} {hn : Int32} {v : Nat → Int32} {pa : Nat → Int32} {mt : Nat → Int32} {pm : Int32} {ty : Int32} {ra : Int32}  {r : Option Value} {h' : tv_Hp} : ∀ (n : Nat) (l1 : Int32) (l2 : Int32)  (x : Int32), F_X2_countBallots_L4 sa n l1 l2 = some x → tv_E g l yX2_countBallots cX2_countBallots 3 (some .int) 1 0 0 30 [.null, .int x, .null] [] (HP si sa hs tx tl hc hn v pa mt pm ty ra) r h' → tv_E g l yX2_countBallots cX2_countBallots 3 (some .int) 1 0 0 4 [.ref 6, .int l1, .int l2] [] (HP si sa hs tx tl hc hn v pa mt pm ty ra) r h' := by
  intro n
  induction n with
  | zero => intro l1 l2 x hF k; cases hF
  | succ n ih =>
      intro l1 l2 x hF k
      rw [F_X2_countBallots_L4] at hF
      refine ev_iload_n (i := 2) 5 dX2_countBallots_4 rfl rfl rfl ?_
      refine ev_bipush 7 dX2_countBallots_5 rfl kB_10 ?_
      refine ev_icmp_ge 30 10 dX2_countBallots_7 rfl rfl (fun hc79 => ?_) (fun hc79 => ?_)
      · rw [if_pos hc79] at hF
        have hF := Option.some.inj hF
        subst hF
        refine ev_weak [.null, .int l1, .null] ⟨Or.inl rfl, ⟨Or.inr rfl, ⟨Or.inl rfl, trivial⟩⟩⟩ ?_
        exact k
      · rw [if_neg hc79] at hF
        refine ev_aload_n (i := 0) 11 dX2_countBallots_10 rfl rfl rfl ?_
        refine ev_iload_n (i := 2) 12 dX2_countBallots_11 rfl rfl rfl ?_
        refine ev_iconst 13 dX2_countBallots_12 rfl kI_0 ?_
        obtain ⟨x1, hx1, hF⟩ := tv_bind hF
        refine ev_callVi (i := 6) 16 [.int l2, .int 0] [] dX2_countBallots_13 rfl okV_X2_41 rfl rfl (Nat.le_of_ble_eq_true rfl) (Nat.le_of_ble_eq_true rfl) HPg_6 rfl (Nat.le_of_ble_eq_true rfl) (Nat.le_of_ble_eq_true rfl) (R_X2_choice hx1) ?_
        refine ev_bipush 18 dX2_countBallots_16 rfl kB_m9 ?_
        refine ev_icmp_eq 24 21 dX2_countBallots_18 rfl rfl (fun hc80 => ?_) (fun hc80 => ?_)
        · rw [if_pos hc80] at hF
          refine ev_iinc (L2 := [.ref 6, .int l1, .int (l2 + 1)]) 27 dX2_countBallots_24 rfl rfl (kA_1 _) (Nat.le_of_ble_eq_true rfl) rfl ?_
          refine ev_goto 4 dX2_countBallots_27 rfl ?_
          exact ih _ _ _ hF k
        · rw [if_neg hc80] at hF
          refine ev_iinc (L2 := [.ref 6, .int (l1 + 1), .int l2]) 24 dX2_countBallots_21 rfl rfl (kA_1 _) (Nat.le_of_ble_eq_true rfl) rfl ?_
          refine ev_iinc (L2 := [.ref 6, .int (l1 + 1), .int (l2 + 1)]) 27 dX2_countBallots_24 rfl rfl (kA_1 _) (Nat.le_of_ble_eq_true rfl) rfl ?_
          refine ev_goto 4 dX2_countBallots_27 rfl ?_
          exact ih _ _ _ hF k

set_option maxRecDepth 100000 in
set_option maxHeartbeats 4000000 in
theorem R_X2_countBallots {g : tv_G} {l : Launch} {si : Nat → Int32} {sa : Nat → Nat → Int32} {hs : Nat → (Nat → Int32) × (Nat → Nat → Int32)} {tx : Nat → Int32} {tl : Int32} {hc : Int32} {hn : Int32} {v : Nat → Int32} {pa : Nat → Int32} {mt : Nat → Int32} {pm : Int32} {ty : Int32} {ra : Int32}  {p : Int32} (hF : F_X2_countBallots sa = some p) : tv_E g l yX2_countBallots cX2_countBallots 3 (some .int) 1 0 0 0 [.ref 6, .null, .null] [] (HP si sa hs tx tl hc hn v pa mt pm ty ra) (some (.int p)) (HP si sa hs tx tl hc hn v pa mt pm ty ra) := by
  unfold F_X2_countBallots at hF
  refine ev_iconst 1 dX2_countBallots_0 rfl kI_0 ?_
  refine ev_istore_n (i := 1) (L2 := [.ref 6, .int 0, .null]) 2 dX2_countBallots_1 rfl rfl (Nat.le_of_ble_eq_true rfl) rfl ?_
  refine ev_iconst 3 dX2_countBallots_2 rfl kI_0 ?_
  refine ev_istore_n (i := 2) (L2 := [.ref 6, .int 0, .int 0]) 4 dX2_countBallots_3 rfl rfl (Nat.le_of_ble_eq_true rfl) rfl ?_
  obtain ⟨x2, hx2, hF⟩ := tv_bind hF
  refine R_X2_countBallots_L4 _ _ _ _ hx2 ?_
  refine ev_iload_n (i := 1) 31 dX2_countBallots_30 rfl rfl rfl ?_
  have hF := Option.some.inj hF
  subst hF
  exact ev_ireturn dX2_countBallots_31 rfl rfl

set_option maxRecDepth 100000 in
set_option maxHeartbeats 4000000 in
theorem R_X7_cast {g : tv_G} {l : Launch} {si : Nat → Int32} {sa : Nat → Nat → Int32} {hs : Nat → (Nat → Int32) × (Nat → Nat → Int32)} {tx : Nat → Int32} {tl : Int32} {hc : Int32} {hn : Int32} {v : Nat → Int32} {pa : Nat → Int32} {mt : Nat → Int32} {pm : Int32} {ty : Int32} {ra : Int32} {a1 : Int32} {p : Int32 × (Nat → Nat → Int32) × (Nat → (Nat → Int32) × (Nat → Nat → Int32)) × Int32 × Int32 × Int32} (hF : F_X7_cast si sa hs tx tl hc hn a1 = some p) : tv_E g l yX7_cast cX7_cast 3 (some .int) 5 0 0 0 [.ref 0, .int a1, .null] [] (HP si sa hs tx tl hc hn v pa mt pm ty ra) (some (.int p.1)) (HP si p.2.1 p.2.2.1 tx p.2.2.2.1 p.2.2.2.2.1 p.2.2.2.2.2 v pa mt pm ty ra) := by
  unfold F_X7_cast at hF
  refine ev_aload_n (i := 0) 1 dX7_cast_0 rfl rfl rfl ?_
  refine ev_getfield 4 dX7_cast_1 rfl okf_X7_19 (Nat.le_of_ble_eq_true rfl) HPg_0 rfl ?_
  refine ev_iload_n (i := 1) 5 dX7_cast_4 rfl rfl rfl ?_
  refine ev_callVi (i := 3) 8 [.int a1] [] dX7_cast_5 rfl okV_X7_55 rfl rfl (Nat.le_of_ble_eq_true rfl) (Nat.le_of_ble_eq_true rfl) HPg_3 rfl (Nat.le_of_ble_eq_true rfl) (Nat.le_of_ble_eq_true rfl) (R_X5_isMember rfl) ?_
  refine ev_if_ne 13 11 dX7_cast_8 rfl rfl (fun hc81 => ?_) (fun hc81 => ?_)
  · rw [if_neg hc81] at hF
    refine ev_aload_n (i := 0) 14 dX7_cast_13 rfl rfl rfl ?_
    refine ev_getfield 17 dX7_cast_14 rfl okf_X7_19 (Nat.le_of_ble_eq_true rfl) HPg_0 rfl ?_
    refine ev_getfield 20 dX7_cast_17 rfl okf_X7_83 (Nat.le_of_ble_eq_true rfl) HPg_3 rfl ?_
    refine ev_getfield 23 dX7_cast_20 rfl okf_X7_87 (Nat.le_of_ble_eq_true rfl) HPg_6 rfl ?_
    refine ev_if_eq 37 26 dX7_cast_23 rfl rfl (fun hc82 => ?_) (fun hc82 => ?_)
    · rw [if_pos hc82] at hF
      refine ev_bipush 39 dX7_cast_37 rfl kB_m2 ?_
      have hF := Option.some.inj hF
      subst hF
      exact ev_ireturn dX7_cast_39 rfl rfl
    · rw [if_neg hc82] at hF
      refine ev_aload_n (i := 0) 27 dX7_cast_26 rfl rfl rfl ?_
      refine ev_getfield 30 dX7_cast_27 rfl okf_X7_19 (Nat.le_of_ble_eq_true rfl) HPg_0 rfl ?_
      refine ev_iload_n (i := 1) 31 dX7_cast_30 rfl rfl rfl ?_
      obtain ⟨x1, hx1, hF⟩ := tv_bind hF
      refine ev_callVi (i := 3) 34 [.int a1] [] dX7_cast_31 rfl okV_X7_59 rfl rfl (Nat.le_of_ble_eq_true rfl) (Nat.le_of_ble_eq_true rfl) HPg_3 rfl (Nat.le_of_ble_eq_true rfl) (Nat.le_of_ble_eq_true rfl) (R_X5_isPresent hx1) ?_
      refine ev_if_ne 40 37 dX7_cast_34 rfl rfl (fun hc83 => ?_) (fun hc83 => ?_)
      · rw [if_neg hc83] at hF
        refine ev_aload_n (i := 0) 41 dX7_cast_40 rfl rfl rfl ?_
        refine ev_getfield 44 dX7_cast_41 rfl okf_X7_10 (Nat.le_of_ble_eq_true rfl) HPg_0 rfl ?_
        refine ev_aload_n (i := 0) 45 dX7_cast_44 rfl rfl rfl ?_
        refine ev_getfield 48 dX7_cast_45 rfl okf_X7_19 (Nat.le_of_ble_eq_true rfl) HPg_0 rfl ?_
        refine ev_getfield 51 dX7_cast_48 rfl okf_X7_83 (Nat.le_of_ble_eq_true rfl) HPg_3 rfl ?_
        refine ev_getfield 54 dX7_cast_51 rfl okf_X7_105 (Nat.le_of_ble_eq_true rfl) HPg_6 rfl ?_
        obtain ⟨x2, hx2, hF⟩ := tv_bind hF
        refine ev_callVi (i := 1) 57 [.int (si 7)] [] dX7_cast_54 rfl okV_X7_120 rfl rfl (Nat.le_of_ble_eq_true rfl) (Nat.le_of_ble_eq_true rfl) HPg_1 rfl (Nat.le_of_ble_eq_true rfl) (Nat.le_of_ble_eq_true rfl) (R_X0_errorPlace hx2) ?_
        refine ev_istore_n (i := 2) (L2 := [.ref 0, .int a1, .int x2]) 58 dX7_cast_57 rfl rfl (Nat.le_of_ble_eq_true rfl) rfl ?_
        refine ev_iload_n (i := 2) 59 dX7_cast_58 rfl rfl rfl ?_
        refine ev_bipush 61 dX7_cast_59 rfl kB_m9 ?_
        refine ev_icmp_eq 69 64 dX7_cast_61 rfl rfl (fun hc84 => ?_) (fun hc84 => ?_)
        · rw [if_pos hc84] at hF
          refine ev_aload_n (i := 0) 70 dX7_cast_69 rfl rfl rfl ?_
          refine ev_getfield 73 dX7_cast_70 rfl okf_X7_26 (Nat.le_of_ble_eq_true rfl) HPg_0 rfl ?_
          refine ev_aload_n (i := 0) 74 dX7_cast_73 rfl rfl rfl ?_
          refine ev_getfield 77 dX7_cast_74 rfl okf_X7_19 (Nat.le_of_ble_eq_true rfl) HPg_0 rfl ?_
          obtain ⟨x3, hx3, hF⟩ := tv_bind hF
          refine ev_callVv (i := 23) 80 [.ref 3] [] dX7_cast_77 rfl okV_X7_37 rfl rfl (Nat.le_of_ble_eq_true rfl) (Nat.le_of_ble_eq_true rfl) HPg_23 rfl (Nat.le_of_ble_eq_true rfl) (Nat.le_of_ble_eq_true rfl) (R_X3_keep hx3) ?_
          refine ev_aload_n (i := 0) 81 dX7_cast_80 rfl rfl rfl ?_
          refine ev_getfield 84 dX7_cast_81 rfl okf_X7_19 (Nat.le_of_ble_eq_true rfl) HPg_0 rfl ?_
          refine ev_getfield 87 dX7_cast_84 rfl okf_X7_83 (Nat.le_of_ble_eq_true rfl) HPg_3 rfl ?_
          refine ev_iload_n (i := 1) 88 dX7_cast_87 rfl rfl rfl ?_
          refine ev_aload_n (i := 0) 89 dX7_cast_88 rfl rfl rfl ?_
          refine ev_getfield 92 dX7_cast_89 rfl okf_X7_10 (Nat.le_of_ble_eq_true rfl) HPg_0 rfl ?_
          obtain ⟨x4, hx4, hF⟩ := tv_bind hF
          refine ev_callVv (i := 6) 95 [.int a1, .ref 1] [] dX7_cast_92 rfl okV_X7_123 rfl rfl (Nat.le_of_ble_eq_true rfl) (Nat.le_of_ble_eq_true rfl) HPg_6 rfl (Nat.le_of_ble_eq_true rfl) (Nat.le_of_ble_eq_true rfl) (R_X2_take hx4) ?_
          refine ev_aload_n (i := 0) 96 dX7_cast_95 rfl rfl rfl ?_
          refine ev_getfield 99 dX7_cast_96 rfl okf_X7_10 (Nat.le_of_ble_eq_true rfl) HPg_0 rfl ?_
          refine ev_iconst 100 dX7_cast_99 rfl kI_0 ?_
          refine ev_putfield 103 dX7_cast_100 rfl okf_X7_127 (Nat.le_of_ble_eq_true rfl) HPg_1 (Nat.le_of_ble_eq_true rfl) rfl rfl HPs_1_1 ?_
          refine ev_aload_n (i := 0) 104 dX7_cast_103 rfl rfl rfl ?_
          refine ev_getfield 107 dX7_cast_104 rfl okf_X7_19 (Nat.le_of_ble_eq_true rfl) HPg_0 rfl ?_
          refine ev_getfield 110 dX7_cast_107 rfl okf_X7_83 (Nat.le_of_ble_eq_true rfl) HPg_3 rfl ?_
          obtain ⟨x5, hx5, hF⟩ := tv_bind hF
          refine ev_callVi (i := 6) 113 [] [] dX7_cast_110 rfl okV_X7_130 rfl rfl (Nat.le_of_ble_eq_true rfl) (Nat.le_of_ble_eq_true rfl) HPg_6 rfl (Nat.le_of_ble_eq_true rfl) (Nat.le_of_ble_eq_true rfl) (R_X2_countBallots hx5) ?_
          have hF := Option.some.inj hF
          subst hF
          exact ev_ireturn dX7_cast_113 rfl rfl
        · rw [if_neg hc84] at hF
          refine ev_bipush 66 dX7_cast_64 rfl kB_m100 ?_
          refine ev_iload_n (i := 2) 67 dX7_cast_66 rfl rfl rfl ?_
          refine ev_isub 68 dX7_cast_67 rfl ?_
          have hF := Option.some.inj hF
          subst hF
          exact ev_ireturn dX7_cast_68 rfl rfl
      · rw [if_pos hc83] at hF
        refine ev_bipush 39 dX7_cast_37 rfl kB_m2 ?_
        have hF := Option.some.inj hF
        subst hF
        exact ev_ireturn dX7_cast_39 rfl rfl
  · rw [if_pos hc81] at hF
    refine ev_iconst 12 dX7_cast_11 rfl kI_m1 ?_
    have hF := Option.some.inj hF
    subst hF
    exact ev_ireturn dX7_cast_12 rfl rfl

set_option maxRecDepth 100000 in
set_option maxHeartbeats 4000000 in
theorem R_X5_hasQuorum {g : tv_G} {l : Launch} {si : Nat → Int32} {sa : Nat → Nat → Int32} {hs : Nat → (Nat → Int32) × (Nat → Nat → Int32)} {tx : Nat → Int32} {tl : Int32} {hc : Int32} {hn : Int32} {v : Nat → Int32} {pa : Nat → Int32} {mt : Nat → Int32} {pm : Int32} {ty : Int32} {ra : Int32}  {p : Int32} (hF : F_X5_hasQuorum si sa = some p) : tv_E g l yX5_hasQuorum cX5_hasQuorum 1 (some .boolean) 2 0 0 0 [.ref 3] [] (HP si sa hs tx tl hc hn v pa mt pm ty ra) (some (.int p)) (HP si sa hs tx tl hc hn v pa mt pm ty ra) := by
  unfold F_X5_hasQuorum at hF
  refine ev_bipush 2 dX5_hasQuorum_0 rfl kB_100 ?_
  refine ev_aload_n (i := 0) 3 dX5_hasQuorum_2 rfl rfl rfl ?_
  refine ev_getfield 6 dX5_hasQuorum_3 rfl okf_X5_28 (Nat.le_of_ble_eq_true rfl) HPg_3 rfl ?_
  obtain ⟨x1, hx1, hF⟩ := tv_bind hF
  refine ev_callVi (i := 6) 9 [] [.int 100] dX5_hasQuorum_6 rfl okV_X5_155 rfl rfl (Nat.le_of_ble_eq_true rfl) (Nat.le_of_ble_eq_true rfl) HPg_6 rfl (Nat.le_of_ble_eq_true rfl) (Nat.le_of_ble_eq_true rfl) (R_X2_countBallots hx1) ?_
  refine ev_imul 10 dX5_hasQuorum_9 rfl ?_
  refine ev_aload_n (i := 0) 11 dX5_hasQuorum_10 rfl rfl rfl ?_
  refine ev_getfield 14 dX5_hasQuorum_11 rfl okf_X5_9 (Nat.le_of_ble_eq_true rfl) HPg_3 rfl ?_
  refine ev_iconst 15 dX5_hasQuorum_14 rfl kI_4 ?_
  obtain ⟨x2, hx2, hF⟩ := tv_bind hF
  refine ev_iaload 16 dX5_hasQuorum_15 rfl (Nat.le_of_ble_eq_true rfl) HPg_4 hx2 ?_
  refine ev_aload_n (i := 0) 17 dX5_hasQuorum_16 rfl rfl rfl ?_
  refine ev_getfield 20 dX5_hasQuorum_17 rfl okf_X5_68 (Nat.le_of_ble_eq_true rfl) HPg_3 rfl ?_
  refine ev_callSi 23 [.int (si 2)] [.int x2, .int (100 * x1)] dX5_hasQuorum_20 rfl okS_X5_109 rfl rfl (Nat.le_of_ble_eq_true rfl) rfl (Nat.le_of_ble_eq_true rfl) (Nat.le_of_ble_eq_true rfl) R_bitCount ?_
  refine ev_imul 24 dX5_hasQuorum_23 rfl ?_
  refine ev_icmp_lt 31 27 dX5_hasQuorum_24 rfl rfl (fun hc85 => ?_) (fun hc85 => ?_)
  · rw [if_pos hc85] at hF
    refine ev_iconst 32 dX5_hasQuorum_31 rfl kI_0 ?_
    have hF := Option.some.inj hF
    subst hF
    exact ev_ireturn dX5_hasQuorum_32 rfl rfl
  · rw [if_neg hc85] at hF
    refine ev_iconst 28 dX5_hasQuorum_27 rfl kI_1 ?_
    refine ev_goto 32 dX5_hasQuorum_28 rfl ?_
    have hF := Option.some.inj hF
    subst hF
    exact ev_ireturn dX5_hasQuorum_32 rfl rfl

set_option maxRecDepth 100000 in
set_option maxHeartbeats 4000000 in
theorem R_X2_firstAmong_L2 {g : tv_G} {l : Launch} {si : Nat → Int32} {sa : Nat → Nat → Int32} {hs : Nat → (Nat → Int32) × (Nat → Nat → Int32)} {tx : Nat → Int32} {tl : Int32} {hc : Int32} {hn : Int32} {v : Nat → Int32} {pa : Nat → Int32} {mt : Nat → Int32} {pm : Int32} {ty : Int32} {ra : Int32} {l1 : Int32} {l2 : Int32} : ∀ (n : Nat) (l3 : Int32)  (p : Int32), F_X2_firstAmong_L2 sa l1 l2 n l3 = some p → tv_E g l yX2_firstAmong cX2_firstAmong 5 (some .int) 1 0 0 2 [.ref 6, .int l1, .int l2, .int l3, .null] [] (HP si sa hs tx tl hc hn v pa mt pm ty ra) (some (.int p)) (HP si sa hs tx tl hc hn v pa mt pm ty ra) := by
  intro n
  induction n with
  | zero => intro l3 p hF; cases hF
  | succ n ih =>
      intro l3 p hF
      rw [F_X2_firstAmong_L2] at hF
      refine ev_iload_n (i := 3) 3 dX2_firstAmong_2 rfl rfl rfl ?_
      refine ev_bipush 5 dX2_firstAmong_3 rfl kB_10 ?_
      refine ev_icmp_ge 41 8 dX2_firstAmong_5 rfl rfl (fun hc86 => ?_) (fun hc86 => ?_)
      · rw [if_pos hc86] at hF
        refine ev_bipush 43 dX2_firstAmong_41 rfl kB_m9 ?_
        have hF := Option.some.inj hF
        subst hF
        exact ev_ireturn dX2_firstAmong_43 rfl rfl
      · rw [if_neg hc86] at hF
        refine ev_aload_n (i := 0) 9 dX2_firstAmong_8 rfl rfl rfl ?_
        refine ev_iload_n (i := 2) 10 dX2_firstAmong_9 rfl rfl rfl ?_
        refine ev_iload_n (i := 3) 11 dX2_firstAmong_10 rfl rfl rfl ?_
        obtain ⟨x1, hx1, hF⟩ := tv_bind hF
        refine ev_callVi (i := 6) 14 [.int l2, .int l3] [] dX2_firstAmong_11 rfl okV_X2_41 rfl rfl (Nat.le_of_ble_eq_true rfl) (Nat.le_of_ble_eq_true rfl) HPg_6 rfl (Nat.le_of_ble_eq_true rfl) (Nat.le_of_ble_eq_true rfl) (R_X2_choice hx1) ?_
        refine ev_istore (L2 := [.ref 6, .int l1, .int l2, .int l3, .int x1]) 16 dX2_firstAmong_14 rfl (Nat.le_of_ble_eq_true rfl) rfl ?_
        refine ev_iload 18 dX2_firstAmong_16 rfl rfl ?_
        refine ev_bipush 20 dX2_firstAmong_18 rfl kB_m9 ?_
        refine ev_icmp_eq 35 23 dX2_firstAmong_20 rfl rfl (fun hc87 => ?_) (fun hc87 => ?_)
        · rw [if_pos hc87] at hF
          refine ev_iinc (L2 := [.ref 6, .int l1, .int l2, .int (l3 + 1), .int x1]) 38 dX2_firstAmong_35 rfl rfl (kA_1 _) (Nat.le_of_ble_eq_true rfl) rfl ?_
          refine ev_goto 2 dX2_firstAmong_38 rfl ?_
          refine ev_weak [.ref 6, .int l1, .int l2, .int (l3 + 1), .null] ⟨Or.inr rfl, ⟨Or.inr rfl, ⟨Or.inr rfl, ⟨Or.inr rfl, ⟨Or.inl rfl, trivial⟩⟩⟩⟩⟩ ?_
          exact ih _ _ hF
        · rw [if_neg hc87] at hF
          refine ev_iload_n (i := 1) 24 dX2_firstAmong_23 rfl rfl rfl ?_
          refine ev_iload 26 dX2_firstAmong_24 rfl rfl ?_
          refine ev_callSi 29 [.int l1, .int x1] [] dX2_firstAmong_26 rfl okS_X2_51 rfl rfl (Nat.le_of_ble_eq_true rfl) rfl (Nat.le_of_ble_eq_true rfl) (Nat.le_of_ble_eq_true rfl) (R_X7_has rfl) ?_
          refine ev_if_eq 35 32 dX2_firstAmong_29 rfl rfl (fun hc88 => ?_) (fun hc88 => ?_)
          · rw [if_pos hc88] at hF
            refine ev_iinc (L2 := [.ref 6, .int l1, .int l2, .int (l3 + 1), .int x1]) 38 dX2_firstAmong_35 rfl rfl (kA_1 _) (Nat.le_of_ble_eq_true rfl) rfl ?_
            refine ev_goto 2 dX2_firstAmong_38 rfl ?_
            refine ev_weak [.ref 6, .int l1, .int l2, .int (l3 + 1), .null] ⟨Or.inr rfl, ⟨Or.inr rfl, ⟨Or.inr rfl, ⟨Or.inr rfl, ⟨Or.inl rfl, trivial⟩⟩⟩⟩⟩ ?_
            exact ih _ _ hF
          · rw [if_neg hc88] at hF
            refine ev_iload 34 dX2_firstAmong_32 rfl rfl ?_
            have hF := Option.some.inj hF
            subst hF
            exact ev_ireturn dX2_firstAmong_34 rfl rfl

set_option maxRecDepth 100000 in
set_option maxHeartbeats 4000000 in
theorem R_X2_firstAmong {g : tv_G} {l : Launch} {si : Nat → Int32} {sa : Nat → Nat → Int32} {hs : Nat → (Nat → Int32) × (Nat → Nat → Int32)} {tx : Nat → Int32} {tl : Int32} {hc : Int32} {hn : Int32} {v : Nat → Int32} {pa : Nat → Int32} {mt : Nat → Int32} {pm : Int32} {ty : Int32} {ra : Int32} {a1 : Int32} {a2 : Int32} {p : Int32} (hF : F_X2_firstAmong sa a1 a2 = some p) : tv_E g l yX2_firstAmong cX2_firstAmong 5 (some .int) 1 0 0 0 [.ref 6, .int a1, .int a2, .null, .null] [] (HP si sa hs tx tl hc hn v pa mt pm ty ra) (some (.int p)) (HP si sa hs tx tl hc hn v pa mt pm ty ra) := by
  unfold F_X2_firstAmong at hF
  refine ev_iconst 1 dX2_firstAmong_0 rfl kI_0 ?_
  refine ev_istore_n (i := 3) (L2 := [.ref 6, .int a1, .int a2, .int 0, .null]) 2 dX2_firstAmong_1 rfl rfl (Nat.le_of_ble_eq_true rfl) rfl ?_
  exact R_X2_firstAmong_L2 _ _ _ hF

set_option maxRecDepth 100000 in
set_option maxHeartbeats 4000000 in
theorem R_X4_count_L9 {g : tv_G} {l : Launch} {si : Nat → Int32} {hs : Nat → (Nat → Int32) × (Nat → Nat → Int32)} {tx : Nat → Int32} {tl : Int32} {hc : Int32} {hn : Int32} {v : Nat → Int32} {pa : Nat → Int32} {mt : Nat → Int32} {pm : Int32} {ty : Int32} {ra : Int32} {l1 : Int32} {l2 : Int32} {l4 : Int32} {r : Option Value} {h' : tv_Hp} : ∀ (n : Nat) (l5 : Int32) (sa : Nat → Nat → Int32) (x : (Nat → Nat → Int32)), F_X4_count_L9 l1 l2 l4 n l5 sa = some x → tv_E g l yX4_count cX4_count 7 none 2 0 0 47 [.ref 8, .int l1, .int l2, .ref 6, .int l4, .null, .null] [] (HP si x hs tx tl hc hn v pa mt pm ty ra) r h' → tv_E g l yX4_count cX4_count 7 none 2 0 0 9 [.ref 8, .int l1, .int l2, .ref 6, .int l4, .int l5, .null] [] (HP si sa hs tx tl hc hn v pa mt pm ty ra) r h' := by
  intro n
  induction n with
  | zero => intro l5 sa x hF k; cases hF
  | succ n ih =>
      intro l5 sa x hF k
      rw [F_X4_count_L9] at hF
      refine ev_iload 11 dX4_count_9 rfl rfl ?_
      refine ev_bipush 13 dX4_count_11 rfl kB_10 ?_
      refine ev_icmp_ge 47 16 dX4_count_13 rfl rfl (fun hc89 => ?_) (fun hc89 => ?_)
      · rw [if_pos hc89] at hF
        have hF := Option.some.inj hF
        subst hF
        refine ev_weak [.ref 8, .int l1, .int l2, .ref 6, .int l4, .null, .null] ⟨Or.inr rfl, ⟨Or.inr rfl, ⟨Or.inr rfl, ⟨Or.inr rfl, ⟨Or.inr rfl, ⟨Or.inl rfl, ⟨Or.inl rfl, trivial⟩⟩⟩⟩⟩⟩⟩ ?_
        exact k
      · rw [if_neg hc89] at hF
        refine ev_aload_n (i := 0) 17 dX4_count_16 rfl rfl rfl ?_
        refine ev_getfield 20 dX4_count_17 rfl okf_X4_9 (Nat.le_of_ble_eq_true rfl) HPg_8 rfl ?_
        refine ev_iload 22 dX4_count_20 rfl rfl ?_
        refine ev_iload 24 dX4_count_22 rfl rfl ?_
        refine ev_iadd 25 dX4_count_24 rfl ?_
        refine ev_iload_n (i := 2) 26 dX4_count_25 rfl rfl rfl ?_
        refine ev_iload 28 dX4_count_26 rfl rfl ?_
        refine ev_callSi 31 [.int l2, .int l5] [.int (l4 + l5), .ref 9] dX4_count_28 rfl okS_X4_25 rfl rfl (Nat.le_of_ble_eq_true rfl) rfl (Nat.le_of_ble_eq_true rfl) (Nat.le_of_ble_eq_true rfl) (R_X7_has rfl) ?_
        obtain ⟨x1, hBx1, hF⟩ := tv_bind hF
        have Jx1 : tv_E g l yX4_count cX4_count 7 none 2 0 0 40 [.ref 8, .int l1, .int l2, .ref 6, .int l4, .int l5, .null] [.int x1, .int (l4 + l5), .ref 9] (HP si sa hs tx tl hc hn v pa mt pm ty ra) r h' := by
          obtain ⟨x2, hx2, hF⟩ := tv_bind hF
          refine ev_iastore 41 dX4_count_40 rfl (Nat.le_of_ble_eq_true rfl) HPg_9 hx2 HPa_9 ?_
          refine ev_iinc (L2 := [.ref 8, .int l1, .int l2, .ref 6, .int l4, .int (l5 + 1), .null]) 44 dX4_count_41 rfl rfl (kA_1 _) (Nat.le_of_ble_eq_true rfl) rfl ?_
          refine ev_goto 9 dX4_count_44 rfl ?_
          exact ih _ _ _ hF k
        clear hF
        refine ev_if_eq 38 34 dX4_count_31 rfl rfl (fun hc90 => ?_) (fun hc90 => ?_)
        · rw [if_pos hc90] at hBx1
          refine ev_bipush 40 dX4_count_38 rfl kB_m9 ?_
          have hBx1 := Option.some.inj hBx1
          subst hBx1
          exact Jx1
        · rw [if_neg hc90] at hBx1
          refine ev_iconst 35 dX4_count_34 rfl kI_0 ?_
          refine ev_goto 40 dX4_count_35 rfl ?_
          have hBx1 := Option.some.inj hBx1
          subst hBx1
          exact Jx1

set_option maxRecDepth 100000 in
set_option maxHeartbeats 4000000 in
theorem R_X4_count_L50 {g : tv_G} {l : Launch} {si : Nat → Int32} {hs : Nat → (Nat → Int32) × (Nat → Nat → Int32)} {tx : Nat → Int32} {tl : Int32} {hc : Int32} {hn : Int32} {v : Nat → Int32} {pa : Nat → Int32} {mt : Nat → Int32} {pm : Int32} {ty : Int32} {ra : Int32} {l1 : Int32} {l2 : Int32} {l4 : Int32} {r : Option Value} {h' : tv_Hp} : ∀ (n : Nat) (l5 : Int32) (sa : Nat → Nat → Int32) (x : (Nat → Nat → Int32)), F_X4_count_L50 l1 l2 l4 n l5 sa = some x → tv_E g l yX4_count cX4_count 7 none 2 0 0 98 [.ref 8, .int l1, .null, .null, .null, .null, .null] [] (HP si x hs tx tl hc hn v pa mt pm ty ra) r h' → tv_E g l yX4_count cX4_count 7 none 2 0 0 50 [.ref 8, .int l1, .int l2, .ref 6, .int l4, .int l5, .null] [] (HP si sa hs tx tl hc hn v pa mt pm ty ra) r h' := by
  intro n
  induction n with
  | zero => intro l5 sa x hF k; cases hF
  | succ n ih =>
      intro l5 sa x hF k
      rw [F_X4_count_L50] at hF
      refine ev_iload 52 dX4_count_50 rfl rfl ?_
      refine ev_bipush 54 dX4_count_52 rfl kB_10 ?_
      refine ev_icmp_ge 98 57 dX4_count_54 rfl rfl (fun hc91 => ?_) (fun hc91 => ?_)
      · rw [if_pos hc91] at hF
        have hF := Option.some.inj hF
        subst hF
        refine ev_weak [.ref 8, .int l1, .null, .null, .null, .null, .null] ⟨Or.inr rfl, ⟨Or.inr rfl, ⟨Or.inl rfl, ⟨Or.inl rfl, ⟨Or.inl rfl, ⟨Or.inl rfl, ⟨Or.inl rfl, trivial⟩⟩⟩⟩⟩⟩⟩ ?_
        exact k
      · rw [if_neg hc91] at hF
        refine ev_aload_n (i := 3) 58 dX4_count_57 rfl rfl rfl ?_
        refine ev_iload_n (i := 2) 59 dX4_count_58 rfl rfl rfl ?_
        refine ev_iload 61 dX4_count_59 rfl rfl ?_
        obtain ⟨x4, hx4, hF⟩ := tv_bind hF
        refine ev_callVi (i := 6) 64 [.int l2, .int l5] [] dX4_count_61 rfl okV_X4_29 rfl rfl (Nat.le_of_ble_eq_true rfl) (Nat.le_of_ble_eq_true rfl) HPg_6 rfl (Nat.le_of_ble_eq_true rfl) (Nat.le_of_ble_eq_true rfl) (R_X2_firstAmong hx4) ?_
        refine ev_istore (L2 := [.ref 8, .int l1, .int l2, .ref 6, .int l4, .int l5, .int x4]) 66 dX4_count_64 rfl (Nat.le_of_ble_eq_true rfl) rfl ?_
        refine ev_iload 68 dX4_count_66 rfl rfl ?_
        refine ev_if_lt 92 71 dX4_count_68 rfl rfl (fun hc92 => ?_) (fun hc92 => ?_)
        · rw [if_pos hc92] at hF
          refine ev_iinc (L2 := [.ref 8, .int l1, .int l2, .ref 6, .int l4, .int (l5 + 1), .int x4]) 95 dX4_count_92 rfl rfl (kA_1 _) (Nat.le_of_ble_eq_true rfl) rfl ?_
          refine ev_goto 50 dX4_count_95 rfl ?_
          refine ev_weak [.ref 8, .int l1, .int l2, .ref 6, .int l4, .int (l5 + 1), .null] ⟨Or.inr rfl, ⟨Or.inr rfl, ⟨Or.inr rfl, ⟨Or.inr rfl, ⟨Or.inr rfl, ⟨Or.inr rfl, ⟨Or.inl rfl, trivial⟩⟩⟩⟩⟩⟩⟩ ?_
          exact ih _ _ _ hF k
        · rw [if_neg hc92] at hF
          refine ev_iload 73 dX4_count_71 rfl rfl ?_
          refine ev_bipush 75 dX4_count_73 rfl kB_10 ?_
          refine ev_icmp_ge 92 78 dX4_count_75 rfl rfl (fun hc93 => ?_) (fun hc93 => ?_)
          · rw [if_pos hc93] at hF
            refine ev_iinc (L2 := [.ref 8, .int l1, .int l2, .ref 6, .int l4, .int (l5 + 1), .int x4]) 95 dX4_count_92 rfl rfl (kA_1 _) (Nat.le_of_ble_eq_true rfl) rfl ?_
            refine ev_goto 50 dX4_count_95 rfl ?_
            refine ev_weak [.ref 8, .int l1, .int l2, .ref 6, .int l4, .int (l5 + 1), .null] ⟨Or.inr rfl, ⟨Or.inr rfl, ⟨Or.inr rfl, ⟨Or.inr rfl, ⟨Or.inr rfl, ⟨Or.inr rfl, ⟨Or.inl rfl, trivial⟩⟩⟩⟩⟩⟩⟩ ?_
            exact ih _ _ _ hF k
          · rw [if_neg hc93] at hF
            refine ev_aload_n (i := 0) 79 dX4_count_78 rfl rfl rfl ?_
            refine ev_getfield 82 dX4_count_79 rfl okf_X4_9 (Nat.le_of_ble_eq_true rfl) HPg_8 rfl ?_
            refine ev_iload 84 dX4_count_82 rfl rfl ?_
            refine ev_iload 86 dX4_count_84 rfl rfl ?_
            refine ev_iadd 87 dX4_count_86 rfl ?_
            refine ev_dup2 88 dX4_count_87 rfl rfl rfl ?_
            obtain ⟨x5, hx5, hF⟩ := tv_bind hF
            refine ev_iaload 89 dX4_count_88 rfl (Nat.le_of_ble_eq_true rfl) HPg_9 hx5 ?_
            refine ev_iconst 90 dX4_count_89 rfl kI_1 ?_
            refine ev_iadd 91 dX4_count_90 rfl ?_
            obtain ⟨x6, hx6, hF⟩ := tv_bind hF
            refine ev_iastore 92 dX4_count_91 rfl (Nat.le_of_ble_eq_true rfl) HPg_9 hx6 HPa_9 ?_
            refine ev_iinc (L2 := [.ref 8, .int l1, .int l2, .ref 6, .int l4, .int (l5 + 1), .int x4]) 95 dX4_count_92 rfl rfl (kA_1 _) (Nat.le_of_ble_eq_true rfl) rfl ?_
            refine ev_goto 50 dX4_count_95 rfl ?_
            refine ev_weak [.ref 8, .int l1, .int l2, .ref 6, .int l4, .int (l5 + 1), .null] ⟨Or.inr rfl, ⟨Or.inr rfl, ⟨Or.inr rfl, ⟨Or.inr rfl, ⟨Or.inr rfl, ⟨Or.inr rfl, ⟨Or.inl rfl, trivial⟩⟩⟩⟩⟩⟩⟩ ?_
            exact ih _ _ _ hF k

set_option maxRecDepth 100000 in
set_option maxHeartbeats 4000000 in
theorem R_X4_count {g : tv_G} {l : Launch} {si : Nat → Int32} {sa : Nat → Nat → Int32} {hs : Nat → (Nat → Int32) × (Nat → Nat → Int32)} {tx : Nat → Int32} {tl : Int32} {hc : Int32} {hn : Int32} {v : Nat → Int32} {pa : Nat → Int32} {mt : Nat → Int32} {pm : Int32} {ty : Int32} {ra : Int32} {a1 : Int32} {a2 : Int32} {p : (Nat → Int32) × (Nat → Nat → Int32)} (hF : F_X4_count si sa a1 a2 = some p) : tv_E g l yX4_count cX4_count 7 none 2 0 0 0 [.ref 8, .int a1, .int a2, .ref 6, .null, .null, .null] [] (HP si sa hs tx tl hc hn v pa mt pm ty ra) none (HP p.1 p.2 hs tx tl hc hn v pa mt pm ty ra) := by
  unfold F_X4_count at hF
  refine ev_iload_n (i := 1) 1 dX4_count_0 rfl rfl rfl ?_
  refine ev_bipush 3 dX4_count_1 rfl kB_10 ?_
  refine ev_imul 4 dX4_count_3 rfl ?_
  refine ev_istore (L2 := [.ref 8, .int a1, .int a2, .ref 6, .int (a1 * 10), .null, .null]) 6 dX4_count_4 rfl (Nat.le_of_ble_eq_true rfl) rfl ?_
  refine ev_iconst 7 dX4_count_6 rfl kI_0 ?_
  refine ev_istore (L2 := [.ref 8, .int a1, .int a2, .ref 6, .int (a1 * 10), .int 0, .null]) 9 dX4_count_7 rfl (Nat.le_of_ble_eq_true rfl) rfl ?_
  obtain ⟨x3, hx3, hF⟩ := tv_bind hF
  refine R_X4_count_L9 _ _ _ _ hx3 ?_
  refine ev_iconst 48 dX4_count_47 rfl kI_0 ?_
  refine ev_istore (L2 := [.ref 8, .int a1, .int a2, .ref 6, .int (a1 * 10), .int 0, .null]) 50 dX4_count_48 rfl (Nat.le_of_ble_eq_true rfl) rfl ?_
  obtain ⟨x7, hx7, hF⟩ := tv_bind hF
  refine R_X4_count_L50 _ _ _ _ hx7 ?_
  refine ev_aload_n (i := 0) 99 dX4_count_98 rfl rfl rfl ?_
  refine ev_iload_n (i := 1) 100 dX4_count_99 rfl rfl rfl ?_
  refine ev_iconst 101 dX4_count_100 rfl kI_1 ?_
  refine ev_iadd 102 dX4_count_101 rfl ?_
  refine ev_putfield 105 dX4_count_102 rfl okf_X4_15 (Nat.le_of_ble_eq_true rfl) HPg_8 (Nat.le_of_ble_eq_true rfl) rfl rfl HPs_8_0 ?_
  have hF := Option.some.inj hF
  subst hF
  exact ev_return dX4_count_105 rfl

set_option maxRecDepth 100000 in
set_option maxHeartbeats 4000000 in
theorem R_X4_votesFor {g : tv_G} {l : Launch} {si : Nat → Int32} {sa : Nat → Nat → Int32} {hs : Nat → (Nat → Int32) × (Nat → Nat → Int32)} {tx : Nat → Int32} {tl : Int32} {hc : Int32} {hn : Int32} {v : Nat → Int32} {pa : Nat → Int32} {mt : Nat → Int32} {pm : Int32} {ty : Int32} {ra : Int32} {a1 : Int32} {a2 : Int32} {p : Int32} (hF : F_X4_votesFor sa a1 a2 = some p) : tv_E g l yX4_votesFor cX4_votesFor 3 (some .int) 0 0 0 0 [.ref 8, .int a1, .int a2] [] (HP si sa hs tx tl hc hn v pa mt pm ty ra) (some (.int p)) (HP si sa hs tx tl hc hn v pa mt pm ty ra) := by
  unfold F_X4_votesFor at hF
  refine ev_aload_n (i := 0) 1 dX4_votesFor_0 rfl rfl rfl ?_
  refine ev_getfield 4 dX4_votesFor_1 rfl okf_X4_9 (Nat.le_of_ble_eq_true rfl) HPg_8 rfl ?_
  refine ev_iload_n (i := 2) 5 dX4_votesFor_4 rfl rfl rfl ?_
  refine ev_bipush 7 dX4_votesFor_5 rfl kB_10 ?_
  refine ev_imul 8 dX4_votesFor_7 rfl ?_
  refine ev_iload_n (i := 1) 9 dX4_votesFor_8 rfl rfl rfl ?_
  refine ev_iadd 10 dX4_votesFor_9 rfl ?_
  obtain ⟨x1, hx1, hF⟩ := tv_bind hF
  refine ev_iaload 11 dX4_votesFor_10 rfl (Nat.le_of_ble_eq_true rfl) HPg_9 hx1 ?_
  have hF := Option.some.inj hF
  subst hF
  exact ev_ireturn dX4_votesFor_11 rfl rfl

set_option maxRecDepth 100000 in
set_option maxHeartbeats 4000000 in
theorem R_X4_countAll_L5 {g : tv_G} {l : Launch} {si : Nat → Int32} {sa : Nat → Nat → Int32} {hs : Nat → (Nat → Int32) × (Nat → Nat → Int32)} {tx : Nat → Int32} {tl : Int32} {hc : Int32} {hn : Int32} {v : Nat → Int32} {pa : Nat → Int32} {mt : Nat → Int32} {pm : Int32} {ty : Int32} {ra : Int32} {l1 : Int32} {l2 : Int32} {r : Option Value} {h' : tv_Hp} : ∀ (n : Nat) (l3 : Int32) (l4 : Int32)  (x : Int32), F_X4_countAll_L5 sa l1 l2 n l3 l4 = some x → tv_E g l yX4_countAll cX4_countAll 5 (some .int) 1 0 0 37 [.null, .null, .null, .int x, .null] [] (HP si sa hs tx tl hc hn v pa mt pm ty ra) r h' → tv_E g l yX4_countAll cX4_countAll 5 (some .int) 1 0 0 5 [.ref 8, .int l1, .int l2, .int l3, .int l4] [] (HP si sa hs tx tl hc hn v pa mt pm ty ra) r h' := by
  intro n
  induction n with
  | zero => intro l3 l4 x hF k; cases hF
  | succ n ih =>
      intro l3 l4 x hF k
      rw [F_X4_countAll_L5] at hF
      refine ev_iload 7 dX4_countAll_5 rfl rfl ?_
      refine ev_bipush 9 dX4_countAll_7 rfl kB_10 ?_
      refine ev_icmp_ge 37 12 dX4_countAll_9 rfl rfl (fun hc94 => ?_) (fun hc94 => ?_)
      · rw [if_pos hc94] at hF
        have hF := Option.some.inj hF
        subst hF
        refine ev_weak [.null, .null, .null, .int l3, .null] ⟨Or.inl rfl, ⟨Or.inl rfl, ⟨Or.inl rfl, ⟨Or.inr rfl, ⟨Or.inl rfl, trivial⟩⟩⟩⟩⟩ ?_
        exact k
      · rw [if_neg hc94] at hF
        refine ev_iload_n (i := 2) 13 dX4_countAll_12 rfl rfl rfl ?_
        refine ev_iload 15 dX4_countAll_13 rfl rfl ?_
        refine ev_callSi 18 [.int l2, .int l4] [] dX4_countAll_15 rfl okS_X4_25 rfl rfl (Nat.le_of_ble_eq_true rfl) rfl (Nat.le_of_ble_eq_true rfl) (Nat.le_of_ble_eq_true rfl) (R_X7_has rfl) ?_
        refine ev_if_eq 31 21 dX4_countAll_18 rfl rfl (fun hc95 => ?_) (fun hc95 => ?_)
        · rw [if_pos hc95] at hF
          refine ev_iinc (L2 := [.ref 8, .int l1, .int l2, .int l3, .int (l4 + 1)]) 34 dX4_countAll_31 rfl rfl (kA_1 _) (Nat.le_of_ble_eq_true rfl) rfl ?_
          refine ev_goto 5 dX4_countAll_34 rfl ?_
          exact ih _ _ _ hF k
        · rw [if_neg hc95] at hF
          refine ev_iload_n (i := 3) 22 dX4_countAll_21 rfl rfl rfl ?_
          refine ev_aload_n (i := 0) 23 dX4_countAll_22 rfl rfl rfl ?_
          refine ev_iload 25 dX4_countAll_23 rfl rfl ?_
          refine ev_iload_n (i := 1) 26 dX4_countAll_25 rfl rfl rfl ?_
          obtain ⟨x1, hx1, hF⟩ := tv_bind hF
          refine ev_callVi (i := 8) 29 [.int l4, .int l1] [.int l3] dX4_countAll_26 rfl okV_X4_44 rfl rfl (Nat.le_of_ble_eq_true rfl) (Nat.le_of_ble_eq_true rfl) HPg_8 rfl (Nat.le_of_ble_eq_true rfl) (Nat.le_of_ble_eq_true rfl) (R_X4_votesFor hx1) ?_
          refine ev_iadd 30 dX4_countAll_29 rfl ?_
          refine ev_istore_n (i := 3) (L2 := [.ref 8, .int l1, .int l2, .int (l3 + x1), .int l4]) 31 dX4_countAll_30 rfl rfl (Nat.le_of_ble_eq_true rfl) rfl ?_
          refine ev_iinc (L2 := [.ref 8, .int l1, .int l2, .int (l3 + x1), .int (l4 + 1)]) 34 dX4_countAll_31 rfl rfl (kA_1 _) (Nat.le_of_ble_eq_true rfl) rfl ?_
          refine ev_goto 5 dX4_countAll_34 rfl ?_
          exact ih _ _ _ hF k

set_option maxRecDepth 100000 in
set_option maxHeartbeats 4000000 in
theorem R_X4_countAll {g : tv_G} {l : Launch} {si : Nat → Int32} {sa : Nat → Nat → Int32} {hs : Nat → (Nat → Int32) × (Nat → Nat → Int32)} {tx : Nat → Int32} {tl : Int32} {hc : Int32} {hn : Int32} {v : Nat → Int32} {pa : Nat → Int32} {mt : Nat → Int32} {pm : Int32} {ty : Int32} {ra : Int32} {a1 : Int32} {a2 : Int32} {p : Int32} (hF : F_X4_countAll sa a1 a2 = some p) : tv_E g l yX4_countAll cX4_countAll 5 (some .int) 1 0 0 0 [.ref 8, .int a1, .int a2, .null, .null] [] (HP si sa hs tx tl hc hn v pa mt pm ty ra) (some (.int p)) (HP si sa hs tx tl hc hn v pa mt pm ty ra) := by
  unfold F_X4_countAll at hF
  refine ev_iconst 1 dX4_countAll_0 rfl kI_0 ?_
  refine ev_istore_n (i := 3) (L2 := [.ref 8, .int a1, .int a2, .int 0, .null]) 2 dX4_countAll_1 rfl rfl (Nat.le_of_ble_eq_true rfl) rfl ?_
  refine ev_iconst 3 dX4_countAll_2 rfl kI_0 ?_
  refine ev_istore (L2 := [.ref 8, .int a1, .int a2, .int 0, .int 0]) 5 dX4_countAll_3 rfl (Nat.le_of_ble_eq_true rfl) rfl ?_
  obtain ⟨x2, hx2, hF⟩ := tv_bind hF
  refine R_X4_countAll_L5 _ _ _ _ hx2 ?_
  refine ev_iload_n (i := 3) 38 dX4_countAll_37 rfl rfl rfl ?_
  have hF := Option.some.inj hF
  subst hF
  exact ev_ireturn dX4_countAll_38 rfl rfl

set_option maxRecDepth 100000 in
set_option maxHeartbeats 4000000 in
theorem R_X4_winner_L25 {g : tv_G} {l : Launch} {si : Nat → Int32} {sa : Nat → Nat → Int32} {hs : Nat → (Nat → Int32) × (Nat → Nat → Int32)} {tx : Nat → Int32} {tl : Int32} {hc : Int32} {hn : Int32} {v : Nat → Int32} {pa : Nat → Int32} {mt : Nat → Int32} {pm : Int32} {ty : Int32} {ra : Int32} {l1 : Int32} {l2 : Int32} {l3 : Int32} {l4 : Int32} : ∀ (n : Nat) (l5 : Int32)  (p : Int32), F_X4_winner_L25 sa l1 l2 l3 l4 n l5 = some p → tv_E g l yX4_winner cX4_winner 6 (some .int) 2 0 0 25 [.ref 8, .int l1, .int l2, .int l3, .int l4, .int l5] [] (HP si sa hs tx tl hc hn v pa mt pm ty ra) (some (.int p)) (HP si sa hs tx tl hc hn v pa mt pm ty ra) := by
  intro n
  induction n with
  | zero => intro l5 p hF; cases hF
  | succ n ih =>
      intro l5 p hF
      rw [F_X4_winner_L25] at hF
      refine ev_iload 27 dX4_winner_25 rfl rfl ?_
      refine ev_bipush 29 dX4_winner_27 rfl kB_10 ?_
      refine ev_icmp_ge 68 32 dX4_winner_29 rfl rfl (fun hc96 => ?_) (fun hc96 => ?_)
      · rw [if_pos hc96] at hF
        refine ev_bipush 70 dX4_winner_68 rfl kB_m9 ?_
        have hF := Option.some.inj hF
        subst hF
        exact ev_ireturn dX4_winner_70 rfl rfl
      · rw [if_neg hc96] at hF
        refine ev_iload_n (i := 2) 33 dX4_winner_32 rfl rfl rfl ?_
        refine ev_iload 35 dX4_winner_33 rfl rfl ?_
        refine ev_callSi 38 [.int l2, .int l5] [] dX4_winner_35 rfl okS_X4_25 rfl rfl (Nat.le_of_ble_eq_true rfl) rfl (Nat.le_of_ble_eq_true rfl) (Nat.le_of_ble_eq_true rfl) (R_X7_has rfl) ?_
        refine ev_if_eq 62 41 dX4_winner_38 rfl rfl (fun hc97 => ?_) (fun hc97 => ?_)
        · rw [if_pos hc97] at hF
          refine ev_iinc (L2 := [.ref 8, .int l1, .int l2, .int l3, .int l4, .int (l5 + 1)]) 65 dX4_winner_62 rfl rfl (kA_1 _) (Nat.le_of_ble_eq_true rfl) rfl ?_
          refine ev_goto 25 dX4_winner_65 rfl ?_
          exact ih _ _ hF
        · rw [if_neg hc97] at hF
          refine ev_iload_n (i := 3) 42 dX4_winner_41 rfl rfl rfl ?_
          refine ev_if_ne 59 45 dX4_winner_42 rfl rfl (fun hc98 => ?_) (fun hc98 => ?_)
          · rw [if_neg hc98] at hF
            refine ev_iload 61 dX4_winner_59 rfl rfl ?_
            have hF := Option.some.inj hF
            subst hF
            exact ev_ireturn dX4_winner_61 rfl rfl
          · rw [if_pos hc98] at hF
            refine ev_iconst 46 dX4_winner_45 rfl kI_2 ?_
            refine ev_aload_n (i := 0) 47 dX4_winner_46 rfl rfl rfl ?_
            refine ev_iload 49 dX4_winner_47 rfl rfl ?_
            refine ev_iload_n (i := 1) 50 dX4_winner_49 rfl rfl rfl ?_
            obtain ⟨x3, hx3, hF⟩ := tv_bind hF
            refine ev_callVi (i := 8) 53 [.int l5, .int l1] [.int 2] dX4_winner_50 rfl okV_X4_44 rfl rfl (Nat.le_of_ble_eq_true rfl) (Nat.le_of_ble_eq_true rfl) HPg_8 rfl (Nat.le_of_ble_eq_true rfl) (Nat.le_of_ble_eq_true rfl) (R_X4_votesFor hx3) ?_
            refine ev_imul 54 dX4_winner_53 rfl ?_
            refine ev_iload 56 dX4_winner_54 rfl rfl ?_
            refine ev_icmp_le 62 59 dX4_winner_56 rfl rfl (fun hc99 => ?_) (fun hc99 => ?_)
            · rw [if_pos hc99] at hF
              refine ev_iinc (L2 := [.ref 8, .int l1, .int l2, .int l3, .int l4, .int (l5 + 1)]) 65 dX4_winner_62 rfl rfl (kA_1 _) (Nat.le_of_ble_eq_true rfl) rfl ?_
              refine ev_goto 25 dX4_winner_65 rfl ?_
              exact ih _ _ hF
            · rw [if_neg hc99] at hF
              refine ev_iload 61 dX4_winner_59 rfl rfl ?_
              have hF := Option.some.inj hF
              subst hF
              exact ev_ireturn dX4_winner_61 rfl rfl

set_option maxRecDepth 100000 in
set_option maxHeartbeats 4000000 in
theorem R_X4_winner {g : tv_G} {l : Launch} {si : Nat → Int32} {sa : Nat → Nat → Int32} {hs : Nat → (Nat → Int32) × (Nat → Nat → Int32)} {tx : Nat → Int32} {tl : Int32} {hc : Int32} {hn : Int32} {v : Nat → Int32} {pa : Nat → Int32} {mt : Nat → Int32} {pm : Int32} {ty : Int32} {ra : Int32} {a1 : Int32} {a2 : Int32} {p : Int32} (hF : F_X4_winner sa a1 a2 = some p) : tv_E g l yX4_winner cX4_winner 6 (some .int) 2 0 0 0 [.ref 8, .int a1, .int a2, .null, .null, .null] [] (HP si sa hs tx tl hc hn v pa mt pm ty ra) (some (.int p)) (HP si sa hs tx tl hc hn v pa mt pm ty ra) := by
  unfold F_X4_winner at hF
  refine ev_iload_n (i := 2) 1 dX4_winner_0 rfl rfl rfl ?_
  refine ev_callSi 4 [.int a2] [] dX4_winner_1 rfl okS_X4_35 rfl rfl (Nat.le_of_ble_eq_true rfl) rfl (Nat.le_of_ble_eq_true rfl) (Nat.le_of_ble_eq_true rfl) R_bitCount ?_
  refine ev_iconst 5 dX4_winner_4 rfl kI_1 ?_
  obtain ⟨x1, hBx1, hF⟩ := tv_bind hF
  have Jx1 : tv_E g l yX4_winner cX4_winner 6 (some .int) 2 0 0 13 [.ref 8, .int a1, .int a2, .null, .null, .null] [.int x1] (HP si sa hs tx tl hc hn v pa mt pm ty ra) (some (.int p)) (HP si sa hs tx tl hc hn v pa mt pm ty ra) := by
    refine ev_istore_n (i := 3) (L2 := [.ref 8, .int a1, .int a2, .int x1, .null, .null]) 14 dX4_winner_13 rfl rfl (Nat.le_of_ble_eq_true rfl) rfl ?_
    refine ev_aload_n (i := 0) 15 dX4_winner_14 rfl rfl rfl ?_
    refine ev_iload_n (i := 1) 16 dX4_winner_15 rfl rfl rfl ?_
    refine ev_iload_n (i := 2) 17 dX4_winner_16 rfl rfl rfl ?_
    obtain ⟨x2, hx2, hF⟩ := tv_bind hF
    refine ev_callVi (i := 8) 20 [.int a1, .int a2] [] dX4_winner_17 rfl okV_X4_41 rfl rfl (Nat.le_of_ble_eq_true rfl) (Nat.le_of_ble_eq_true rfl) HPg_8 rfl (Nat.le_of_ble_eq_true rfl) (Nat.le_of_ble_eq_true rfl) (R_X4_countAll hx2) ?_
    refine ev_istore (L2 := [.ref 8, .int a1, .int a2, .int x1, .int x2, .null]) 22 dX4_winner_20 rfl (Nat.le_of_ble_eq_true rfl) rfl ?_
    refine ev_iconst 23 dX4_winner_22 rfl kI_0 ?_
    refine ev_istore (L2 := [.ref 8, .int a1, .int a2, .int x1, .int x2, .int 0]) 25 dX4_winner_23 rfl (Nat.le_of_ble_eq_true rfl) rfl ?_
    exact R_X4_winner_L25 _ _ _ hF
  clear hF
  refine ev_icmp_ne 12 8 dX4_winner_5 rfl rfl (fun hc100 => ?_) (fun hc100 => ?_)
  · rw [if_neg hc100] at hBx1
    refine ev_iconst 13 dX4_winner_12 rfl kI_0 ?_
    have hBx1 := Option.some.inj hBx1
    subst hBx1
    exact Jx1
  · rw [if_pos hc100] at hBx1
    refine ev_iconst 9 dX4_winner_8 rfl kI_1 ?_
    refine ev_goto 13 dX4_winner_9 rfl ?_
    have hBx1 := Option.some.inj hBx1
    subst hBx1
    exact Jx1

set_option maxRecDepth 100000 in
set_option maxHeartbeats 4000000 in
theorem R_X5_leavesRather {g : tv_G} {l : Launch} {si : Nat → Int32} {sa : Nat → Nat → Int32} {hs : Nat → (Nat → Int32) × (Nat → Nat → Int32)} {tx : Nat → Int32} {tl : Int32} {hc : Int32} {hn : Int32} {v : Nat → Int32} {pa : Nat → Int32} {mt : Nat → Int32} {pm : Int32} {ty : Int32} {ra : Int32} {a1 : Int32} {a2 : Int32} {a3 : Int32} {p : Int32} (hF : F_X5_leavesRather si sa a1 a2 a3 = some p) : tv_E g l yX5_leavesRather cX5_leavesRather 6 (some .boolean) 2 0 0 0 [.ref 3, .int a1, .int a2, .int a3, .null, .null] [] (HP si sa hs tx tl hc hn v pa mt pm ty ra) (some (.int p)) (HP si sa hs tx tl hc hn v pa mt pm ty ra) := by
  unfold F_X5_leavesRather at hF
  refine ev_aload_n (i := 0) 1 dX5_leavesRather_0 rfl rfl rfl ?_
  refine ev_getfield 4 dX5_leavesRather_1 rfl okf_X5_9 (Nat.le_of_ble_eq_true rfl) HPg_3 rfl ?_
  refine ev_iconst 5 dX5_leavesRather_4 rfl kI_5 ?_
  obtain ⟨x1, hx1, hF⟩ := tv_bind hF
  refine ev_iaload 6 dX5_leavesRather_5 rfl (Nat.le_of_ble_eq_true rfl) HPg_4 hx1 ?_
  refine ev_istore (L2 := [.ref 3, .int a1, .int a2, .int a3, .int x1, .null]) 8 dX5_leavesRather_6 rfl (Nat.le_of_ble_eq_true rfl) rfl ?_
  refine ev_aload_n (i := 0) 9 dX5_leavesRather_8 rfl rfl rfl ?_
  refine ev_getfield 12 dX5_leavesRather_9 rfl okf_X5_35 (Nat.le_of_ble_eq_true rfl) HPg_3 rfl ?_
  refine ev_iload_n (i := 1) 13 dX5_leavesRather_12 rfl rfl rfl ?_
  refine ev_iload_n (i := 3) 14 dX5_leavesRather_13 rfl rfl rfl ?_
  obtain ⟨x2, hx2, hF⟩ := tv_bind hF
  refine ev_callVi (i := 8) 17 [.int a1, .int a3] [] dX5_leavesRather_14 rfl okV_X5_175 rfl rfl (Nat.le_of_ble_eq_true rfl) (Nat.le_of_ble_eq_true rfl) HPg_8 rfl (Nat.le_of_ble_eq_true rfl) (Nat.le_of_ble_eq_true rfl) (R_X4_votesFor hx2) ?_
  refine ev_aload_n (i := 0) 18 dX5_leavesRather_17 rfl rfl rfl ?_
  refine ev_getfield 21 dX5_leavesRather_18 rfl okf_X5_35 (Nat.le_of_ble_eq_true rfl) HPg_3 rfl ?_
  refine ev_iload_n (i := 2) 22 dX5_leavesRather_21 rfl rfl rfl ?_
  refine ev_iload_n (i := 3) 23 dX5_leavesRather_22 rfl rfl rfl ?_
  obtain ⟨x3, hx3, hF⟩ := tv_bind hF
  refine ev_callVi (i := 8) 26 [.int a2, .int a3] [.int x2] dX5_leavesRather_23 rfl okV_X5_175 rfl rfl (Nat.le_of_ble_eq_true rfl) (Nat.le_of_ble_eq_true rfl) HPg_8 rfl (Nat.le_of_ble_eq_true rfl) (Nat.le_of_ble_eq_true rfl) (R_X4_votesFor hx3) ?_
  refine ev_isub 27 dX5_leavesRather_26 rfl ?_
  refine ev_istore (L2 := [.ref 3, .int a1, .int a2, .int a3, .int x1, .int (x2 - x3)]) 29 dX5_leavesRather_27 rfl (Nat.le_of_ble_eq_true rfl) rfl ?_
  refine ev_iload 31 dX5_leavesRather_29 rfl rfl ?_
  obtain ⟨x6, hBx6, hF⟩ := tv_bind hF
  have Jx6 : tv_E g l yX5_leavesRather cX5_leavesRather 6 (some .boolean) 2 0 0 57 [.ref 3, .int a1, .int a2, .null, .null, .int x6] [] (HP si sa hs tx tl hc hn v pa mt pm ty ra) (some (.int p)) (HP si sa hs tx tl hc hn v pa mt pm ty ra) := by
    refine ev_iload 59 dX5_leavesRather_57 rfl rfl ?_
    obtain ⟨x9, hBx9, hF⟩ := tv_bind hF
    have Jx9 : tv_E g l yX5_leavesRather cX5_leavesRather 6 (some .boolean) 2 0 0 81 [.null, .null, .null, .null, .null, .int x9] [] (HP si sa hs tx tl hc hn v pa mt pm ty ra) (some (.int p)) (HP si sa hs tx tl hc hn v pa mt pm ty ra) := by
      refine ev_iload 83 dX5_leavesRather_81 rfl rfl ?_
      refine ev_if_gt 90 86 dX5_leavesRather_83 rfl rfl (fun hc101 => ?_) (fun hc101 => ?_)
      · rw [if_pos hc101] at hF
        refine ev_iconst 91 dX5_leavesRather_90 rfl kI_0 ?_
        have hF := Option.some.inj hF
        subst hF
        exact ev_ireturn dX5_leavesRather_91 rfl rfl
      · rw [if_neg hc101] at hF
        refine ev_iconst 87 dX5_leavesRather_86 rfl kI_1 ?_
        refine ev_goto 91 dX5_leavesRather_87 rfl ?_
        have hF := Option.some.inj hF
        subst hF
        exact ev_ireturn dX5_leavesRather_91 rfl rfl
    clear hF
    refine ev_if_ne 81 62 dX5_leavesRather_59 rfl rfl (fun hc102 => ?_) (fun hc102 => ?_)
    · rw [if_neg hc102] at hBx9
      have hBx9 := Option.some.inj hBx9
      subst hBx9
      refine ev_weak [.null, .null, .null, .null, .null, .int x6] ⟨Or.inl rfl, ⟨Or.inl rfl, ⟨Or.inl rfl, ⟨Or.inl rfl, ⟨Or.inl rfl, ⟨Or.inr rfl, trivial⟩⟩⟩⟩⟩⟩ ?_
      exact Jx9
    · rw [if_pos hc102] at hBx9
      refine ev_aload_n (i := 0) 63 dX5_leavesRather_62 rfl rfl rfl ?_
      refine ev_getfield 66 dX5_leavesRather_63 rfl okf_X5_42 (Nat.le_of_ble_eq_true rfl) HPg_3 rfl ?_
      refine ev_iload_n (i := 2) 67 dX5_leavesRather_66 rfl rfl rfl ?_
      obtain ⟨x7, hx7, hBx9⟩ := tv_bind hBx9
      refine ev_callVi (i := 10) 70 [.int a2] [] dX5_leavesRather_67 rfl okV_X5_136 rfl rfl (Nat.le_of_ble_eq_true rfl) (Nat.le_of_ble_eq_true rfl) HPg_10 rfl (Nat.le_of_ble_eq_true rfl) (Nat.le_of_ble_eq_true rfl) (R_X6_countLed hx7) ?_
      refine ev_aload_n (i := 0) 71 dX5_leavesRather_70 rfl rfl rfl ?_
      refine ev_getfield 74 dX5_leavesRather_71 rfl okf_X5_42 (Nat.le_of_ble_eq_true rfl) HPg_3 rfl ?_
      refine ev_iload_n (i := 1) 75 dX5_leavesRather_74 rfl rfl rfl ?_
      obtain ⟨x8, hx8, hBx9⟩ := tv_bind hBx9
      refine ev_callVi (i := 10) 78 [.int a1] [.int x7] dX5_leavesRather_75 rfl okV_X5_136 rfl rfl (Nat.le_of_ble_eq_true rfl) (Nat.le_of_ble_eq_true rfl) HPg_10 rfl (Nat.le_of_ble_eq_true rfl) (Nat.le_of_ble_eq_true rfl) (R_X6_countLed hx8) ?_
      refine ev_isub 79 dX5_leavesRather_78 rfl ?_
      refine ev_istore (L2 := [.ref 3, .int a1, .int a2, .null, .null, .int (x7 - x8)]) 81 dX5_leavesRather_79 rfl (Nat.le_of_ble_eq_true rfl) rfl ?_
      have hBx9 := Option.some.inj hBx9
      subst hBx9
      refine ev_weak [.null, .null, .null, .null, .null, .int (x7 - x8)] ⟨Or.inl rfl, ⟨Or.inl rfl, ⟨Or.inl rfl, ⟨Or.inl rfl, ⟨Or.inl rfl, ⟨Or.inr rfl, trivial⟩⟩⟩⟩⟩⟩ ?_
      exact Jx9
  clear hF
  refine ev_if_ne 57 34 dX5_leavesRather_31 rfl rfl (fun hc103 => ?_) (fun hc103 => ?_)
  · rw [if_neg hc103] at hBx6
    have hBx6 := Option.some.inj hBx6
    subst hBx6
    refine ev_weak [.ref 3, .int a1, .int a2, .null, .null, .int (x2 - x3)] ⟨Or.inr rfl, ⟨Or.inr rfl, ⟨Or.inr rfl, ⟨Or.inl rfl, ⟨Or.inl rfl, ⟨Or.inr rfl, trivial⟩⟩⟩⟩⟩⟩ ?_
    exact Jx6
  · rw [if_pos hc103] at hBx6
    refine ev_aload_n (i := 0) 35 dX5_leavesRather_34 rfl rfl rfl ?_
    refine ev_getfield 38 dX5_leavesRather_35 rfl okf_X5_42 (Nat.le_of_ble_eq_true rfl) HPg_3 rfl ?_
    refine ev_iload_n (i := 1) 39 dX5_leavesRather_38 rfl rfl rfl ?_
    refine ev_iload 41 dX5_leavesRather_39 rfl rfl ?_
    obtain ⟨x4, hx4, hBx6⟩ := tv_bind hBx6
    refine ev_callVi (i := 10) 44 [.int a1, .int x1] [] dX5_leavesRather_41 rfl okV_X5_132 rfl rfl (Nat.le_of_ble_eq_true rfl) (Nat.le_of_ble_eq_true rfl) HPg_10 rfl (Nat.le_of_ble_eq_true rfl) (Nat.le_of_ble_eq_true rfl) (R_X6_reputation hx4) ?_
    refine ev_aload_n (i := 0) 45 dX5_leavesRather_44 rfl rfl rfl ?_
    refine ev_getfield 48 dX5_leavesRather_45 rfl okf_X5_42 (Nat.le_of_ble_eq_true rfl) HPg_3 rfl ?_
    refine ev_iload_n (i := 2) 49 dX5_leavesRather_48 rfl rfl rfl ?_
    refine ev_iload 51 dX5_leavesRather_49 rfl rfl ?_
    obtain ⟨x5, hx5, hBx6⟩ := tv_bind hBx6
    refine ev_callVi (i := 10) 54 [.int a2, .int x1] [.int x4] dX5_leavesRather_51 rfl okV_X5_132 rfl rfl (Nat.le_of_ble_eq_true rfl) (Nat.le_of_ble_eq_true rfl) HPg_10 rfl (Nat.le_of_ble_eq_true rfl) (Nat.le_of_ble_eq_true rfl) (R_X6_reputation hx5) ?_
    refine ev_isub 55 dX5_leavesRather_54 rfl ?_
    refine ev_istore (L2 := [.ref 3, .int a1, .int a2, .int a3, .int x1, .int (x4 - x5)]) 57 dX5_leavesRather_55 rfl (Nat.le_of_ble_eq_true rfl) rfl ?_
    have hBx6 := Option.some.inj hBx6
    subst hBx6
    refine ev_weak [.ref 3, .int a1, .int a2, .null, .null, .int (x4 - x5)] ⟨Or.inr rfl, ⟨Or.inr rfl, ⟨Or.inr rfl, ⟨Or.inl rfl, ⟨Or.inl rfl, ⟨Or.inr rfl, trivial⟩⟩⟩⟩⟩⟩ ?_
    exact Jx6

set_option maxRecDepth 100000 in
set_option maxHeartbeats 4000000 in
theorem R_X5_weakest_L6 {g : tv_G} {l : Launch} {si : Nat → Int32} {sa : Nat → Nat → Int32} {hs : Nat → (Nat → Int32) × (Nat → Nat → Int32)} {tx : Nat → Int32} {tl : Int32} {hc : Int32} {hn : Int32} {v : Nat → Int32} {pa : Nat → Int32} {mt : Nat → Int32} {pm : Int32} {ty : Int32} {ra : Int32} {l1 : Int32} {l2 : Int32} {r : Option Value} {h' : tv_Hp} : ∀ (n : Nat) (l3 : Int32) (l4 : Int32)  (x : Int32), F_X5_weakest_L6 si sa l1 l2 n l3 l4 = some x → tv_E g l yX5_weakest cX5_weakest 5 (some .int) 3 0 0 48 [.null, .null, .null, .int x, .null] [] (HP si sa hs tx tl hc hn v pa mt pm ty ra) r h' → tv_E g l yX5_weakest cX5_weakest 5 (some .int) 3 0 0 6 [.ref 3, .int l1, .int l2, .int l3, .int l4] [] (HP si sa hs tx tl hc hn v pa mt pm ty ra) r h' := by
  intro n
  induction n with
  | zero => intro l3 l4 x hF k; cases hF
  | succ n ih =>
      intro l3 l4 x hF k
      rw [F_X5_weakest_L6] at hF
      refine ev_iload 8 dX5_weakest_6 rfl rfl ?_
      refine ev_bipush 10 dX5_weakest_8 rfl kB_10 ?_
      refine ev_icmp_ge 48 13 dX5_weakest_10 rfl rfl (fun hc104 => ?_) (fun hc104 => ?_)
      · rw [if_pos hc104] at hF
        have hF := Option.some.inj hF
        subst hF
        refine ev_weak [.null, .null, .null, .int l3, .null] ⟨Or.inl rfl, ⟨Or.inl rfl, ⟨Or.inl rfl, ⟨Or.inr rfl, ⟨Or.inl rfl, trivial⟩⟩⟩⟩⟩ ?_
        exact k
      · rw [if_neg hc104] at hF
        refine ev_iload_n (i := 2) 14 dX5_weakest_13 rfl rfl rfl ?_
        refine ev_iload 16 dX5_weakest_14 rfl rfl ?_
        refine ev_callSi 19 [.int l2, .int l4] [] dX5_weakest_16 rfl okS_X5_87 rfl rfl (Nat.le_of_ble_eq_true rfl) rfl (Nat.le_of_ble_eq_true rfl) (Nat.le_of_ble_eq_true rfl) (R_X7_has rfl) ?_
        refine ev_if_eq 42 22 dX5_weakest_19 rfl rfl (fun hc105 => ?_) (fun hc105 => ?_)
        · rw [if_pos hc105] at hF
          refine ev_iinc (L2 := [.ref 3, .int l1, .int l2, .int l3, .int (l4 + 1)]) 45 dX5_weakest_42 rfl rfl (kA_1 _) (Nat.le_of_ble_eq_true rfl) rfl ?_
          refine ev_goto 6 dX5_weakest_45 rfl ?_
          exact ih _ _ _ hF k
        · rw [if_neg hc105] at hF
          refine ev_iload_n (i := 3) 23 dX5_weakest_22 rfl rfl rfl ?_
          refine ev_bipush 25 dX5_weakest_23 rfl kB_m9 ?_
          refine ev_icmp_eq 39 28 dX5_weakest_25 rfl rfl (fun hc106 => ?_) (fun hc106 => ?_)
          · rw [if_pos hc106] at hF
            refine ev_iload 41 dX5_weakest_39 rfl rfl ?_
            refine ev_istore_n (i := 3) (L2 := [.ref 3, .int l1, .int l2, .int l4, .int l4]) 42 dX5_weakest_41 rfl rfl (Nat.le_of_ble_eq_true rfl) rfl ?_
            refine ev_iinc (L2 := [.ref 3, .int l1, .int l2, .int l4, .int (l4 + 1)]) 45 dX5_weakest_42 rfl rfl (kA_1 _) (Nat.le_of_ble_eq_true rfl) rfl ?_
            refine ev_goto 6 dX5_weakest_45 rfl ?_
            exact ih _ _ _ hF k
          · rw [if_neg hc106] at hF
            refine ev_aload_n (i := 0) 29 dX5_weakest_28 rfl rfl rfl ?_
            refine ev_iload 31 dX5_weakest_29 rfl rfl ?_
            refine ev_iload_n (i := 3) 32 dX5_weakest_31 rfl rfl rfl ?_
            refine ev_iload_n (i := 1) 33 dX5_weakest_32 rfl rfl rfl ?_
            obtain ⟨x1, hx1, hF⟩ := tv_bind hF
            refine ev_callVi (i := 3) 36 [.int l4, .int l3, .int l1] [] dX5_weakest_33 rfl okV_X5_171 rfl rfl (Nat.le_of_ble_eq_true rfl) (Nat.le_of_ble_eq_true rfl) HPg_3 rfl (Nat.le_of_ble_eq_true rfl) (Nat.le_of_ble_eq_true rfl) (R_X5_leavesRather hx1) ?_
            refine ev_if_eq 42 39 dX5_weakest_36 rfl rfl (fun hc107 => ?_) (fun hc107 => ?_)
            · rw [if_pos hc107] at hF
              refine ev_iinc (L2 := [.ref 3, .int l1, .int l2, .int l3, .int (l4 + 1)]) 45 dX5_weakest_42 rfl rfl (kA_1 _) (Nat.le_of_ble_eq_true rfl) rfl ?_
              refine ev_goto 6 dX5_weakest_45 rfl ?_
              exact ih _ _ _ hF k
            · rw [if_neg hc107] at hF
              refine ev_iload 41 dX5_weakest_39 rfl rfl ?_
              refine ev_istore_n (i := 3) (L2 := [.ref 3, .int l1, .int l2, .int l4, .int l4]) 42 dX5_weakest_41 rfl rfl (Nat.le_of_ble_eq_true rfl) rfl ?_
              refine ev_iinc (L2 := [.ref 3, .int l1, .int l2, .int l4, .int (l4 + 1)]) 45 dX5_weakest_42 rfl rfl (kA_1 _) (Nat.le_of_ble_eq_true rfl) rfl ?_
              refine ev_goto 6 dX5_weakest_45 rfl ?_
              exact ih _ _ _ hF k

set_option maxRecDepth 100000 in
set_option maxHeartbeats 4000000 in
theorem R_X5_weakest {g : tv_G} {l : Launch} {si : Nat → Int32} {sa : Nat → Nat → Int32} {hs : Nat → (Nat → Int32) × (Nat → Nat → Int32)} {tx : Nat → Int32} {tl : Int32} {hc : Int32} {hn : Int32} {v : Nat → Int32} {pa : Nat → Int32} {mt : Nat → Int32} {pm : Int32} {ty : Int32} {ra : Int32} {a1 : Int32} {a2 : Int32} {p : Int32} (hF : F_X5_weakest si sa a1 a2 = some p) : tv_E g l yX5_weakest cX5_weakest 5 (some .int) 3 0 0 0 [.ref 3, .int a1, .int a2, .null, .null] [] (HP si sa hs tx tl hc hn v pa mt pm ty ra) (some (.int p)) (HP si sa hs tx tl hc hn v pa mt pm ty ra) := by
  unfold F_X5_weakest at hF
  refine ev_bipush 2 dX5_weakest_0 rfl kB_m9 ?_
  refine ev_istore_n (i := 3) (L2 := [.ref 3, .int a1, .int a2, .int (-9), .null]) 3 dX5_weakest_2 rfl rfl (Nat.le_of_ble_eq_true rfl) rfl ?_
  refine ev_iconst 4 dX5_weakest_3 rfl kI_0 ?_
  refine ev_istore (L2 := [.ref 3, .int a1, .int a2, .int (-9), .int 0]) 6 dX5_weakest_4 rfl (Nat.le_of_ble_eq_true rfl) rfl ?_
  obtain ⟨x2, hx2, hF⟩ := tv_bind hF
  refine R_X5_weakest_L6 _ _ _ _ hx2 ?_
  refine ev_iload_n (i := 3) 49 dX5_weakest_48 rfl rfl rfl ?_
  have hF := Option.some.inj hF
  subst hF
  exact ev_ireturn dX5_weakest_49 rfl rfl

set_option maxRecDepth 100000 in
set_option maxHeartbeats 4000000 in
theorem R_X5_holdRounds_L10 {g : tv_G} {l : Launch} {hs : Nat → (Nat → Int32) × (Nat → Nat → Int32)} {tx : Nat → Int32} {tl : Int32} {hc : Int32} {hn : Int32} {v : Nat → Int32} {pa : Nat → Int32} {mt : Nat → Int32} {pm : Int32} {ty : Int32} {ra : Int32}  : ∀ (n : Nat) (l1 : Int32) (l2 : Int32) (si : Nat → Int32) (sa : Nat → Nat → Int32) (p : Int32 × (Nat → Int32) × (Nat → Nat → Int32)), F_X5_holdRounds_L10 n l1 l2 si sa = some p → tv_E g l yX5_holdRounds cX5_holdRounds 4 (some .int) 4 0 0 10 [.ref 3, .int l1, .int l2, .null] [] (HP si sa hs tx tl hc hn v pa mt pm ty ra) (some (.int p.1)) (HP p.2.1 p.2.2 hs tx tl hc hn v pa mt pm ty ra) := by
  intro n
  induction n with
  | zero => intro l1 l2 si sa p hF; cases hF
  | succ n ih =>
      intro l1 l2 si sa p hF
      rw [F_X5_holdRounds_L10] at hF
      refine ev_iload_n (i := 2) 11 dX5_holdRounds_10 rfl rfl rfl ?_
      refine ev_bipush 13 dX5_holdRounds_11 rfl kB_10 ?_
      refine ev_icmp_ge 67 16 dX5_holdRounds_13 rfl rfl (fun hc108 => ?_) (fun hc108 => ?_)
      · rw [if_pos hc108] at hF
        refine ev_bipush 69 dX5_holdRounds_67 rfl kB_m9 ?_
        have hF := Option.some.inj hF
        subst hF
        exact ev_ireturn dX5_holdRounds_69 rfl rfl
      · rw [if_neg hc108] at hF
        refine ev_aload_n (i := 0) 17 dX5_holdRounds_16 rfl rfl rfl ?_
        refine ev_getfield 20 dX5_holdRounds_17 rfl okf_X5_35 (Nat.le_of_ble_eq_true rfl) HPg_3 rfl ?_
        refine ev_iload_n (i := 2) 21 dX5_holdRounds_20 rfl rfl rfl ?_
        refine ev_iload_n (i := 1) 22 dX5_holdRounds_21 rfl rfl rfl ?_
        refine ev_aload_n (i := 0) 23 dX5_holdRounds_22 rfl rfl rfl ?_
        refine ev_getfield 26 dX5_holdRounds_23 rfl okf_X5_28 (Nat.le_of_ble_eq_true rfl) HPg_3 rfl ?_
        obtain ⟨x1, hx1, hF⟩ := tv_bind hF
        refine ev_callVv (i := 8) 29 [.int l2, .int l1, .ref 6] [] dX5_holdRounds_26 rfl okV_X5_161 rfl rfl (Nat.le_of_ble_eq_true rfl) (Nat.le_of_ble_eq_true rfl) HPg_8 rfl (Nat.le_of_ble_eq_true rfl) (Nat.le_of_ble_eq_true rfl) (R_X4_count hx1) ?_
        refine ev_aload_n (i := 0) 30 dX5_holdRounds_29 rfl rfl rfl ?_
        refine ev_getfield 33 dX5_holdRounds_30 rfl okf_X5_35 (Nat.le_of_ble_eq_true rfl) HPg_3 rfl ?_
        refine ev_iload_n (i := 2) 34 dX5_holdRounds_33 rfl rfl rfl ?_
        refine ev_iload_n (i := 1) 35 dX5_holdRounds_34 rfl rfl rfl ?_
        obtain ⟨x2, hx2, hF⟩ := tv_bind hF
        refine ev_callVi (i := 8) 38 [.int l2, .int l1] [] dX5_holdRounds_35 rfl okV_X5_165 rfl rfl (Nat.le_of_ble_eq_true rfl) (Nat.le_of_ble_eq_true rfl) HPg_8 rfl (Nat.le_of_ble_eq_true rfl) (Nat.le_of_ble_eq_true rfl) (R_X4_winner hx2) ?_
        refine ev_istore_n (i := 3) (L2 := [.ref 3, .int l1, .int l2, .int x2]) 39 dX5_holdRounds_38 rfl rfl (Nat.le_of_ble_eq_true rfl) rfl ?_
        refine ev_iload_n (i := 3) 40 dX5_holdRounds_39 rfl rfl rfl ?_
        refine ev_bipush 42 dX5_holdRounds_40 rfl kB_m9 ?_
        refine ev_icmp_eq 47 45 dX5_holdRounds_42 rfl rfl (fun hc109 => ?_) (fun hc109 => ?_)
        · rw [if_pos hc109] at hF
          refine ev_iload_n (i := 1) 48 dX5_holdRounds_47 rfl rfl rfl ?_
          refine ev_aload_n (i := 0) 49 dX5_holdRounds_48 rfl rfl rfl ?_
          refine ev_iload_n (i := 2) 50 dX5_holdRounds_49 rfl rfl rfl ?_
          refine ev_iload_n (i := 1) 51 dX5_holdRounds_50 rfl rfl rfl ?_
          obtain ⟨x3, hx3, hF⟩ := tv_bind hF
          refine ev_callVi (i := 3) 54 [.int l2, .int l1] [.int l1] dX5_holdRounds_51 rfl okV_X5_168 rfl rfl (Nat.le_of_ble_eq_true rfl) (Nat.le_of_ble_eq_true rfl) HPg_3 rfl (Nat.le_of_ble_eq_true rfl) (Nat.le_of_ble_eq_true rfl) (R_X5_weakest hx3) ?_
          refine ev_callSi 57 [.int x3] [.int l1] dX5_holdRounds_54 rfl okS_X5_91 rfl rfl (Nat.le_of_ble_eq_true rfl) rfl (Nat.le_of_ble_eq_true rfl) (Nat.le_of_ble_eq_true rfl) (R_X7_only rfl) ?_
          refine ev_iconst 58 dX5_holdRounds_57 rfl kI_m1 ?_
          refine ev_ixor 59 dX5_holdRounds_58 rfl ?_
          refine ev_iand 60 dX5_holdRounds_59 rfl ?_
          refine ev_istore_n (i := 1) (L2 := [.ref 3, .int (l1 &&& ((F_X7_only x3) ^^^ (-1))), .int l2, .int x2]) 61 dX5_holdRounds_60 rfl rfl (Nat.le_of_ble_eq_true rfl) rfl ?_
          refine ev_iinc (L2 := [.ref 3, .int (l1 &&& ((F_X7_only x3) ^^^ (-1))), .int (l2 + 1), .int x2]) 64 dX5_holdRounds_61 rfl rfl (kA_1 _) (Nat.le_of_ble_eq_true rfl) rfl ?_
          refine ev_goto 10 dX5_holdRounds_64 rfl ?_
          refine ev_weak [.ref 3, .int (l1 &&& ((F_X7_only x3) ^^^ (-1))), .int (l2 + 1), .null] ⟨Or.inr rfl, ⟨Or.inr rfl, ⟨Or.inr rfl, ⟨Or.inl rfl, trivial⟩⟩⟩⟩ ?_
          exact ih _ _ _ _ _ hF
        · rw [if_neg hc109] at hF
          refine ev_iload_n (i := 3) 46 dX5_holdRounds_45 rfl rfl rfl ?_
          have hF := Option.some.inj hF
          subst hF
          exact ev_ireturn dX5_holdRounds_46 rfl rfl

set_option maxRecDepth 100000 in
set_option maxHeartbeats 4000000 in
theorem R_X5_holdRounds {g : tv_G} {l : Launch} {si : Nat → Int32} {sa : Nat → Nat → Int32} {hs : Nat → (Nat → Int32) × (Nat → Nat → Int32)} {tx : Nat → Int32} {tl : Int32} {hc : Int32} {hn : Int32} {v : Nat → Int32} {pa : Nat → Int32} {mt : Nat → Int32} {pm : Int32} {ty : Int32} {ra : Int32}  {p : Int32 × (Nat → Int32) × (Nat → Nat → Int32)} (hF : F_X5_holdRounds si sa = some p) : tv_E g l yX5_holdRounds cX5_holdRounds 4 (some .int) 4 0 0 0 [.ref 3, .null, .null, .null] [] (HP si sa hs tx tl hc hn v pa mt pm ty ra) (some (.int p.1)) (HP p.2.1 p.2.2 hs tx tl hc hn v pa mt pm ty ra) := by
  unfold F_X5_holdRounds at hF
  refine ev_aload_n (i := 0) 1 dX5_holdRounds_0 rfl rfl rfl ?_
  refine ev_getfield 4 dX5_holdRounds_1 rfl okf_X5_28 (Nat.le_of_ble_eq_true rfl) HPg_3 rfl ?_
  refine ev_getfield 7 dX5_holdRounds_4 rfl okf_X5_158 (Nat.le_of_ble_eq_true rfl) HPg_6 rfl ?_
  refine ev_istore_n (i := 1) (L2 := [.ref 3, .int (si 7), .null, .null]) 8 dX5_holdRounds_7 rfl rfl (Nat.le_of_ble_eq_true rfl) rfl ?_
  refine ev_iconst 9 dX5_holdRounds_8 rfl kI_0 ?_
  refine ev_istore_n (i := 2) (L2 := [.ref 3, .int (si 7), .int 0, .null]) 10 dX5_holdRounds_9 rfl rfl (Nat.le_of_ble_eq_true rfl) rfl ?_
  exact R_X5_holdRounds_L10 _ _ _ _ _ _ hF

set_option maxRecDepth 100000 in
set_option maxHeartbeats 4000000 in
theorem R_X2_finish {g : tv_G} {l : Launch} {si : Nat → Int32} {sa : Nat → Nat → Int32} {hs : Nat → (Nat → Int32) × (Nat → Nat → Int32)} {tx : Nat → Int32} {tl : Int32} {hc : Int32} {hn : Int32} {v : Nat → Int32} {pa : Nat → Int32} {mt : Nat → Int32} {pm : Int32} {ty : Int32} {ra : Int32}  {p : (Nat → Int32) × (Nat → Nat → Int32)} (hF : F_X2_finish si sa = some p) : tv_E g l yX2_finish cX2_finish 1 none 1 0 0 0 [.ref 6] [] (HP si sa hs tx tl hc hn v pa mt pm ty ra) none (HP p.1 p.2 hs tx tl hc hn v pa mt pm ty ra) := by
  unfold F_X2_finish at hF
  refine ev_aload_n (i := 0) 1 dX2_finish_0 rfl rfl rfl ?_
  refine ev_iconst 2 dX2_finish_1 rfl kI_0 ?_
  refine ev_putfield 5 dX2_finish_2 rfl okf_X2_21 (Nat.le_of_ble_eq_true rfl) HPg_6 (Nat.le_of_ble_eq_true rfl) rfl rfl HPs_6_0 ?_
  refine ev_aload_n (i := 0) 6 dX2_finish_5 rfl rfl rfl ?_
  refine ev_iconst 7 dX2_finish_6 rfl kI_0 ?_
  refine ev_putfield 10 dX2_finish_7 rfl okf_X2_25 (Nat.le_of_ble_eq_true rfl) HPg_6 (Nat.le_of_ble_eq_true rfl) rfl rfl HPs_6_1 ?_
  refine ev_aload_n (i := 0) 11 dX2_finish_10 rfl rfl rfl ?_
  refine ev_getfield 14 dX2_finish_11 rfl okf_X2_9 (Nat.le_of_ble_eq_true rfl) HPg_6 rfl ?_
  refine ev_bipush 16 dX2_finish_14 rfl kB_m9 ?_
  refine ev_callSv 19 [.ref 7, .int (-9)] [] dX2_finish_16 rfl okS_X2_15 rfl rfl (Nat.le_of_ble_eq_true rfl) rfl (Nat.le_of_ble_eq_true rfl) (Nat.le_of_ble_eq_true rfl) (R_fill (Nat.le_of_ble_eq_true rfl) (Nat.le_of_ble_eq_true rfl) HPg_7 HPa_7) ?_
  have hF := Option.some.inj hF
  subst hF
  exact ev_return dX2_finish_19 rfl

set_option maxRecDepth 100000 in
set_option maxHeartbeats 4000000 in
theorem R_X6_begin_L97 {g : tv_G} {l : Launch} {si : Nat → Int32} {hs : Nat → (Nat → Int32) × (Nat → Nat → Int32)} {tx : Nat → Int32} {tl : Int32} {hc : Int32} {hn : Int32} {v : Nat → Int32} {pa : Nat → Int32} {mt : Nat → Int32} {pm : Int32} {ty : Int32} {ra : Int32}  {r : Option Value} {h' : tv_Hp} : ∀ (n : Nat) (l5 : Int32) (sa : Nat → Nat → Int32) (x : (Nat → Nat → Int32)), F_X6_begin_L97 si n l5 sa = some x → tv_E g l yX6_begin cX6_begin 6 none 0 0 0 127 [.null, .null, .null, .null, .null, .null] [] (HP si x hs tx tl hc hn v pa mt pm ty ra) r h' → tv_E g l yX6_begin cX6_begin 6 none 0 0 0 97 [.ref 10, .null, .null, .null, .null, .int l5] [] (HP si sa hs tx tl hc hn v pa mt pm ty ra) r h' := by
  intro n
  induction n with
  | zero => intro l5 sa x hF k; cases hF
  | succ n ih =>
      intro l5 sa x hF k
      rw [F_X6_begin_L97] at hF
      refine ev_iload 99 dX6_begin_97 rfl rfl ?_
      refine ev_bipush 101 dX6_begin_99 rfl kB_10 ?_
      refine ev_icmp_ge 127 104 dX6_begin_101 rfl rfl (fun hc110 => ?_) (fun hc110 => ?_)
      · rw [if_pos hc110] at hF
        have hF := Option.some.inj hF
        subst hF
        refine ev_weak [.null, .null, .null, .null, .null, .null] ⟨Or.inl rfl, ⟨Or.inl rfl, ⟨Or.inl rfl, ⟨Or.inl rfl, ⟨Or.inl rfl, ⟨Or.inl rfl, trivial⟩⟩⟩⟩⟩⟩ ?_
        exact k
      · rw [if_neg hc110] at hF
        refine ev_aload_n (i := 0) 105 dX6_begin_104 rfl rfl rfl ?_
        refine ev_getfield 108 dX6_begin_105 rfl okf_X6_33 (Nat.le_of_ble_eq_true rfl) HPg_10 rfl ?_
        refine ev_aload_n (i := 0) 109 dX6_begin_108 rfl rfl rfl ?_
        refine ev_getfield 112 dX6_begin_109 rfl okf_X6_36 (Nat.le_of_ble_eq_true rfl) HPg_10 rfl ?_
        refine ev_bipush 114 dX6_begin_112 rfl kB_10 ?_
        refine ev_imul 115 dX6_begin_114 rfl ?_
        refine ev_iload 117 dX6_begin_115 rfl rfl ?_
        refine ev_iadd 118 dX6_begin_117 rfl ?_
        refine ev_bipush 120 dX6_begin_118 rfl kB_m9 ?_
        obtain ⟨x8, hx8, hF⟩ := tv_bind hF
        refine ev_iastore 121 dX6_begin_120 rfl (Nat.le_of_ble_eq_true rfl) HPg_18 hx8 HPa_18 ?_
        refine ev_iinc (L2 := [.ref 10, .null, .null, .null, .null, .int (l5 + 1)]) 124 dX6_begin_121 rfl rfl (kA_1 _) (Nat.le_of_ble_eq_true rfl) rfl ?_
        refine ev_goto 97 dX6_begin_124 rfl ?_
        exact ih _ _ _ hF k

set_option maxRecDepth 100000 in
set_option maxHeartbeats 4000000 in
theorem R_X6_begin {g : tv_G} {l : Launch} {si : Nat → Int32} {sa : Nat → Nat → Int32} {hs : Nat → (Nat → Int32) × (Nat → Nat → Int32)} {tx : Nat → Int32} {tl : Int32} {hc : Int32} {hn : Int32} {v : Nat → Int32} {pa : Nat → Int32} {mt : Nat → Int32} {pm : Int32} {ty : Int32} {ra : Int32} {a1 : Int32} {a2 : Int32} {a3 : Int32} {a4 : Int32} {p : (Nat → Int32) × (Nat → Nat → Int32)} (hF : F_X6_begin si sa a1 a2 a3 a4 = some p) : tv_E g l yX6_begin cX6_begin 6 none 0 0 0 0 [.ref 10, .int a1, .int a2, .int a3, .int a4, .null] [] (HP si sa hs tx tl hc hn v pa mt pm ty ra) none (HP p.1 p.2 hs tx tl hc hn v pa mt pm ty ra) := by
  unfold F_X6_begin at hF
  refine ev_aload_n (i := 0) 1 dX6_begin_0 rfl rfl rfl ?_
  refine ev_getfield 4 dX6_begin_1 rfl okf_X6_36 (Nat.le_of_ble_eq_true rfl) HPg_10 rfl ?_
  refine ev_bipush 6 dX6_begin_4 rfl kB_40 ?_
  refine ev_icmp_lt 10 9 dX6_begin_6 rfl rfl (fun hc111 => ?_) (fun hc111 => ?_)
  · rw [if_pos hc111] at hF
    refine ev_aload_n (i := 0) 11 dX6_begin_10 rfl rfl rfl ?_
    refine ev_dup 12 dX6_begin_11 rfl rfl ?_
    refine ev_getfield 15 dX6_begin_12 rfl okf_X6_36 (Nat.le_of_ble_eq_true rfl) HPg_10 rfl ?_
    refine ev_iconst 16 dX6_begin_15 rfl kI_1 ?_
    refine ev_iadd 17 dX6_begin_16 rfl ?_
    refine ev_putfield 20 dX6_begin_17 rfl okf_X6_36 (Nat.le_of_ble_eq_true rfl) HPg_10 (Nat.le_of_ble_eq_true rfl) rfl rfl HPs_10_0 ?_
    refine ev_aload_n (i := 0) 21 dX6_begin_20 rfl rfl rfl ?_
    refine ev_getfield 24 dX6_begin_21 rfl okf_X6_9 (Nat.le_of_ble_eq_true rfl) HPg_10 rfl ?_
    refine ev_aload_n (i := 0) 25 dX6_begin_24 rfl rfl rfl ?_
    refine ev_getfield 28 dX6_begin_25 rfl okf_X6_36 (Nat.le_of_ble_eq_true rfl) HPg_10 rfl ?_
    refine ev_iload_n (i := 1) 29 dX6_begin_28 rfl rfl rfl ?_
    obtain ⟨x1, hx1, hF⟩ := tv_bind hF
    refine ev_iastore 30 dX6_begin_29 rfl (Nat.le_of_ble_eq_true rfl) HPg_11 hx1 HPa_11 ?_
    refine ev_aload_n (i := 0) 31 dX6_begin_30 rfl rfl rfl ?_
    refine ev_getfield 34 dX6_begin_31 rfl okf_X6_15 (Nat.le_of_ble_eq_true rfl) HPg_10 rfl ?_
    refine ev_aload_n (i := 0) 35 dX6_begin_34 rfl rfl rfl ?_
    refine ev_getfield 38 dX6_begin_35 rfl okf_X6_36 (Nat.le_of_ble_eq_true rfl) HPg_10 rfl ?_
    refine ev_iload_n (i := 2) 39 dX6_begin_38 rfl rfl rfl ?_
    obtain ⟨x2, hx2, hF⟩ := tv_bind hF
    refine ev_iastore 40 dX6_begin_39 rfl (Nat.le_of_ble_eq_true rfl) HPg_12 hx2 HPa_12 ?_
    refine ev_aload_n (i := 0) 41 dX6_begin_40 rfl rfl rfl ?_
    refine ev_getfield 44 dX6_begin_41 rfl okf_X6_18 (Nat.le_of_ble_eq_true rfl) HPg_10 rfl ?_
    refine ev_aload_n (i := 0) 45 dX6_begin_44 rfl rfl rfl ?_
    refine ev_getfield 48 dX6_begin_45 rfl okf_X6_36 (Nat.le_of_ble_eq_true rfl) HPg_10 rfl ?_
    refine ev_iload_n (i := 2) 49 dX6_begin_48 rfl rfl rfl ?_
    refine ev_iload_n (i := 3) 50 dX6_begin_49 rfl rfl rfl ?_
    refine ev_iadd 51 dX6_begin_50 rfl ?_
    obtain ⟨x3, hx3, hF⟩ := tv_bind hF
    refine ev_iastore 52 dX6_begin_51 rfl (Nat.le_of_ble_eq_true rfl) HPg_13 hx3 HPa_13 ?_
    refine ev_aload_n (i := 0) 53 dX6_begin_52 rfl rfl rfl ?_
    refine ev_getfield 56 dX6_begin_53 rfl okf_X6_21 (Nat.le_of_ble_eq_true rfl) HPg_10 rfl ?_
    refine ev_aload_n (i := 0) 57 dX6_begin_56 rfl rfl rfl ?_
    refine ev_getfield 60 dX6_begin_57 rfl okf_X6_36 (Nat.le_of_ble_eq_true rfl) HPg_10 rfl ?_
    refine ev_bipush 62 dX6_begin_60 rfl kB_m9 ?_
    obtain ⟨x4, hx4, hF⟩ := tv_bind hF
    refine ev_iastore 63 dX6_begin_62 rfl (Nat.le_of_ble_eq_true rfl) HPg_14 hx4 HPa_14 ?_
    refine ev_aload_n (i := 0) 64 dX6_begin_63 rfl rfl rfl ?_
    refine ev_getfield 67 dX6_begin_64 rfl okf_X6_24 (Nat.le_of_ble_eq_true rfl) HPg_10 rfl ?_
    refine ev_aload_n (i := 0) 68 dX6_begin_67 rfl rfl rfl ?_
    refine ev_getfield 71 dX6_begin_68 rfl okf_X6_36 (Nat.le_of_ble_eq_true rfl) HPg_10 rfl ?_
    refine ev_iconst 72 dX6_begin_71 rfl kI_0 ?_
    obtain ⟨x5, hx5, hF⟩ := tv_bind hF
    refine ev_iastore 73 dX6_begin_72 rfl (Nat.le_of_ble_eq_true rfl) HPg_15 hx5 HPa_15 ?_
    refine ev_aload_n (i := 0) 74 dX6_begin_73 rfl rfl rfl ?_
    refine ev_getfield 77 dX6_begin_74 rfl okf_X6_27 (Nat.le_of_ble_eq_true rfl) HPg_10 rfl ?_
    refine ev_aload_n (i := 0) 78 dX6_begin_77 rfl rfl rfl ?_
    refine ev_getfield 81 dX6_begin_78 rfl okf_X6_36 (Nat.le_of_ble_eq_true rfl) HPg_10 rfl ?_
    refine ev_iconst 82 dX6_begin_81 rfl kI_0 ?_
    obtain ⟨x6, hx6, hF⟩ := tv_bind hF
    refine ev_iastore 83 dX6_begin_82 rfl (Nat.le_of_ble_eq_true rfl) HPg_16 hx6 HPa_16 ?_
    refine ev_aload_n (i := 0) 84 dX6_begin_83 rfl rfl rfl ?_
    refine ev_getfield 87 dX6_begin_84 rfl okf_X6_30 (Nat.le_of_ble_eq_true rfl) HPg_10 rfl ?_
    refine ev_aload_n (i := 0) 88 dX6_begin_87 rfl rfl rfl ?_
    refine ev_getfield 91 dX6_begin_88 rfl okf_X6_36 (Nat.le_of_ble_eq_true rfl) HPg_10 rfl ?_
    refine ev_iload 93 dX6_begin_91 rfl rfl ?_
    obtain ⟨x7, hx7, hF⟩ := tv_bind hF
    refine ev_iastore 94 dX6_begin_93 rfl (Nat.le_of_ble_eq_true rfl) HPg_17 hx7 HPa_17 ?_
    refine ev_iconst 95 dX6_begin_94 rfl kI_0 ?_
    refine ev_istore (L2 := [.ref 10, .int a1, .int a2, .int a3, .int a4, .int 0]) 97 dX6_begin_95 rfl (Nat.le_of_ble_eq_true rfl) rfl ?_
    obtain ⟨x9, hx9, hF⟩ := tv_bind hF
    refine ev_weak [.ref 10, .null, .null, .null, .null, .int 0] ⟨Or.inr rfl, ⟨Or.inl rfl, ⟨Or.inl rfl, ⟨Or.inl rfl, ⟨Or.inl rfl, ⟨Or.inr rfl, trivial⟩⟩⟩⟩⟩⟩ ?_
    refine R_X6_begin_L97 _ _ _ _ hx9 ?_
    have hF := Option.some.inj hF
    subst hF
    exact ev_return dX6_begin_127 rfl
  · rw [if_neg hc111] at hF
    have hF := Option.some.inj hF
    subst hF
    exact ev_return dX6_begin_9 rfl

set_option maxRecDepth 100000 in
set_option maxHeartbeats 4000000 in
theorem R_X5_beginTerm {g : tv_G} {l : Launch} {si : Nat → Int32} {sa : Nat → Nat → Int32} {hs : Nat → (Nat → Int32) × (Nat → Nat → Int32)} {tx : Nat → Int32} {tl : Int32} {hc : Int32} {hn : Int32} {v : Nat → Int32} {pa : Nat → Int32} {mt : Nat → Int32} {pm : Int32} {ty : Int32} {ra : Int32} {a1 : Int32} {p : (Nat → Int32) × (Nat → Nat → Int32)} (hF : F_X5_beginTerm si sa a1 = some p) : tv_E g l yX5_beginTerm cX5_beginTerm 2 none 1 0 0 0 [.ref 3, .int a1] [] (HP si sa hs tx tl hc hn v pa mt pm ty ra) none (HP p.1 p.2 hs tx tl hc hn v pa mt pm ty ra) := by
  unfold F_X5_beginTerm at hF
  refine ev_aload_n (i := 0) 1 dX5_beginTerm_0 rfl rfl rfl ?_
  refine ev_getfield 4 dX5_beginTerm_1 rfl okf_X5_42 (Nat.le_of_ble_eq_true rfl) HPg_3 rfl ?_
  refine ev_iload_n (i := 1) 5 dX5_beginTerm_4 rfl rfl rfl ?_
  refine ev_aload_n (i := 0) 6 dX5_beginTerm_5 rfl rfl rfl ?_
  refine ev_getfield 9 dX5_beginTerm_6 rfl okf_X5_62 (Nat.le_of_ble_eq_true rfl) HPg_3 rfl ?_
  refine ev_aload_n (i := 0) 10 dX5_beginTerm_9 rfl rfl rfl ?_
  refine ev_getfield 13 dX5_beginTerm_10 rfl okf_X5_9 (Nat.le_of_ble_eq_true rfl) HPg_3 rfl ?_
  refine ev_iconst 14 dX5_beginTerm_13 rfl kI_0 ?_
  obtain ⟨x1, hx1, hF⟩ := tv_bind hF
  refine ev_iaload 15 dX5_beginTerm_14 rfl (Nat.le_of_ble_eq_true rfl) HPg_4 hx1 ?_
  refine ev_aload_n (i := 0) 16 dX5_beginTerm_15 rfl rfl rfl ?_
  refine ev_getfield 19 dX5_beginTerm_16 rfl okf_X5_68 (Nat.le_of_ble_eq_true rfl) HPg_3 rfl ?_
  obtain ⟨x2, hx2, hF⟩ := tv_bind hF
  refine ev_callVv (i := 10) 22 [.int a1, .int (si 0), .int x1, .int (si 2)] [] dX5_beginTerm_19 rfl okV_X5_117 rfl rfl (Nat.le_of_ble_eq_true rfl) (Nat.le_of_ble_eq_true rfl) HPg_10 rfl (Nat.le_of_ble_eq_true rfl) (Nat.le_of_ble_eq_true rfl) (R_X6_begin hx2) ?_
  refine ev_aload_n (i := 0) 23 dX5_beginTerm_22 rfl rfl rfl ?_
  refine ev_iconst 24 dX5_beginTerm_23 rfl kI_2 ?_
  refine ev_putfield 27 dX5_beginTerm_24 rfl okf_X5_18 (Nat.le_of_ble_eq_true rfl) HPg_3 (Nat.le_of_ble_eq_true rfl) rfl rfl HPs_3_6 ?_
  refine ev_aload_n (i := 0) 28 dX5_beginTerm_27 rfl rfl rfl ?_
  refine ev_iload_n (i := 1) 29 dX5_beginTerm_28 rfl rfl rfl ?_
  refine ev_putfield 32 dX5_beginTerm_29 rfl okf_X5_22 (Nat.le_of_ble_eq_true rfl) HPg_3 (Nat.le_of_ble_eq_true rfl) rfl rfl HPs_3_7 ?_
  refine ev_aload_n (i := 0) 33 dX5_beginTerm_32 rfl rfl rfl ?_
  refine ev_getfield 36 dX5_beginTerm_33 rfl okf_X5_49 (Nat.le_of_ble_eq_true rfl) HPg_3 rfl ?_
  refine ev_aload_n (i := 0) 37 dX5_beginTerm_36 rfl rfl rfl ?_
  refine ev_getfield 40 dX5_beginTerm_37 rfl okf_X5_62 (Nat.le_of_ble_eq_true rfl) HPg_3 rfl ?_
  refine ev_iconst 41 dX5_beginTerm_40 rfl kI_1 ?_
  refine ev_iload_n (i := 1) 42 dX5_beginTerm_41 rfl rfl rfl ?_
  obtain ⟨x3, hx3, hF⟩ := tv_bind hF
  refine ev_callVv (i := 19) 45 [.int ((upd (upd x2.1 4 2) 5 a1) 0), .int 1, .int a1] [] dX5_beginTerm_42 rfl okV_X5_121 rfl rfl (Nat.le_of_ble_eq_true rfl) (Nat.le_of_ble_eq_true rfl) HPg_19 rfl (Nat.le_of_ble_eq_true rfl) (Nat.le_of_ble_eq_true rfl) (R_X1_tell hx3) ?_
  have hF := Option.some.inj hF
  subst hF
  exact ev_return dX5_beginTerm_45 rfl

set_option maxRecDepth 100000 in
set_option maxHeartbeats 4000000 in
theorem R_X5_elect {g : tv_G} {l : Launch} {si : Nat → Int32} {sa : Nat → Nat → Int32} {hs : Nat → (Nat → Int32) × (Nat → Nat → Int32)} {tx : Nat → Int32} {tl : Int32} {hc : Int32} {hn : Int32} {v : Nat → Int32} {pa : Nat → Int32} {mt : Nat → Int32} {pm : Int32} {ty : Int32} {ra : Int32}  {p : Int32 × (Nat → Int32) × (Nat → Nat → Int32)} (hF : F_X5_elect si sa = some p) : tv_E g l yX5_elect cX5_elect 2 (some .int) 5 0 0 0 [.ref 3, .null] [] (HP si sa hs tx tl hc hn v pa mt pm ty ra) (some (.int p.1)) (HP p.2.1 p.2.2 hs tx tl hc hn v pa mt pm ty ra) := by
  unfold F_X5_elect at hF
  refine ev_aload_n (i := 0) 1 dX5_elect_0 rfl rfl rfl ?_
  refine ev_getfield 4 dX5_elect_1 rfl okf_X5_35 (Nat.le_of_ble_eq_true rfl) HPg_3 rfl ?_
  refine ev_iconst 5 dX5_elect_4 rfl kI_0 ?_
  refine ev_putfield 8 dX5_elect_5 rfl okf_X5_139 (Nat.le_of_ble_eq_true rfl) HPg_8 (Nat.le_of_ble_eq_true rfl) rfl rfl HPs_8_0 ?_
  refine ev_aload_n (i := 0) 9 dX5_elect_8 rfl rfl rfl ?_
  obtain ⟨x1, hx1, hF⟩ := tv_bind hF
  refine ev_callVi (i := 3) 12 [] [] dX5_elect_9 rfl okV_X5_142 rfl rfl (Nat.le_of_ble_eq_true rfl) (Nat.le_of_ble_eq_true rfl) HPg_3 rfl (Nat.le_of_ble_eq_true rfl) (Nat.le_of_ble_eq_true rfl) (R_X5_hasQuorum hx1) ?_
  obtain ⟨x3, hBx3, hF⟩ := tv_bind hF
  have Jx3 : tv_E g l yX5_elect cX5_elect 2 (some .int) 5 0 0 24 [.ref 3, .null] [.int x3.1] (HP x3.2.1 x3.2.2 hs tx tl hc hn v pa mt pm ty ra) (some (.int p.1)) (HP p.2.1 p.2.2 hs tx tl hc hn v pa mt pm ty ra) := by
    refine ev_istore_n (i := 1) (L2 := [.ref 3, .int x3.1]) 25 dX5_elect_24 rfl rfl (Nat.le_of_ble_eq_true rfl) rfl ?_
    refine ev_aload_n (i := 0) 26 dX5_elect_25 rfl rfl rfl ?_
    refine ev_getfield 29 dX5_elect_26 rfl okf_X5_28 (Nat.le_of_ble_eq_true rfl) HPg_3 rfl ?_
    obtain ⟨x4, hx4, hF⟩ := tv_bind hF
    refine ev_callVv (i := 6) 32 [] [] dX5_elect_29 rfl okV_X5_149 rfl rfl (Nat.le_of_ble_eq_true rfl) (Nat.le_of_ble_eq_true rfl) HPg_6 rfl (Nat.le_of_ble_eq_true rfl) (Nat.le_of_ble_eq_true rfl) (R_X2_finish hx4) ?_
    refine ev_iload_n (i := 1) 33 dX5_elect_32 rfl rfl rfl ?_
    refine ev_bipush 35 dX5_elect_33 rfl kB_m9 ?_
    refine ev_icmp_ne 56 38 dX5_elect_35 rfl rfl (fun hc112 => ?_) (fun hc112 => ?_)
    · rw [if_neg hc112] at hF
      refine ev_aload_n (i := 0) 57 dX5_elect_56 rfl rfl rfl ?_
      refine ev_iload_n (i := 1) 58 dX5_elect_57 rfl rfl rfl ?_
      obtain ⟨x5, hx5, hF⟩ := tv_bind hF
      refine ev_callVv (i := 3) 61 [.int x3.1] [] dX5_elect_58 rfl okV_X5_152 rfl rfl (Nat.le_of_ble_eq_true rfl) (Nat.le_of_ble_eq_true rfl) HPg_3 rfl (Nat.le_of_ble_eq_true rfl) (Nat.le_of_ble_eq_true rfl) (R_X5_beginTerm hx5) ?_
      refine ev_iload_n (i := 1) 62 dX5_elect_61 rfl rfl rfl ?_
      have hF := Option.some.inj hF
      subst hF
      exact ev_ireturn dX5_elect_62 rfl rfl
    · rw [if_pos hc112] at hF
      refine ev_aload_n (i := 0) 39 dX5_elect_38 rfl rfl rfl ?_
      refine ev_getfield 42 dX5_elect_39 rfl okf_X5_49 (Nat.le_of_ble_eq_true rfl) HPg_3 rfl ?_
      refine ev_aload_n (i := 0) 43 dX5_elect_42 rfl rfl rfl ?_
      refine ev_getfield 46 dX5_elect_43 rfl okf_X5_62 (Nat.le_of_ble_eq_true rfl) HPg_3 rfl ?_
      refine ev_bipush 48 dX5_elect_46 rfl kB_6 ?_
      refine ev_bipush 50 dX5_elect_48 rfl kB_m9 ?_
      obtain ⟨x6, hx6, hF⟩ := tv_bind hF
      refine ev_callVv (i := 19) 53 [.int (x4.1 0), .int 6, .int (-9)] [] dX5_elect_50 rfl okV_X5_121 rfl rfl (Nat.le_of_ble_eq_true rfl) (Nat.le_of_ble_eq_true rfl) HPg_19 rfl (Nat.le_of_ble_eq_true rfl) (Nat.le_of_ble_eq_true rfl) (R_X1_tell hx6) ?_
      refine ev_goto 61 dX5_elect_53 rfl ?_
      refine ev_iload_n (i := 1) 62 dX5_elect_61 rfl rfl rfl ?_
      have hF := Option.some.inj hF
      subst hF
      exact ev_ireturn dX5_elect_62 rfl rfl
  clear hF
  refine ev_if_eq 22 15 dX5_elect_12 rfl rfl (fun hc113 => ?_) (fun hc113 => ?_)
  · rw [if_pos hc113] at hBx3
    refine ev_bipush 24 dX5_elect_22 rfl kB_m9 ?_
    have hBx3 := Option.some.inj hBx3
    subst hBx3
    exact Jx3
  · rw [if_neg hc113] at hBx3
    refine ev_aload_n (i := 0) 16 dX5_elect_15 rfl rfl rfl ?_
    obtain ⟨x2, hx2, hBx3⟩ := tv_bind hBx3
    refine ev_callVi (i := 3) 19 [] [] dX5_elect_16 rfl okV_X5_146 rfl rfl (Nat.le_of_ble_eq_true rfl) (Nat.le_of_ble_eq_true rfl) HPg_3 rfl (Nat.le_of_ble_eq_true rfl) (Nat.le_of_ble_eq_true rfl) (R_X5_holdRounds hx2) ?_
    refine ev_goto 24 dX5_elect_19 rfl ?_
    have hBx3 := Option.some.inj hBx3
    subst hBx3
    exact Jx3

set_option maxRecDepth 100000 in
set_option maxHeartbeats 4000000 in
theorem R_X7_close {g : tv_G} {l : Launch} {si : Nat → Int32} {sa : Nat → Nat → Int32} {hs : Nat → (Nat → Int32) × (Nat → Nat → Int32)} {tx : Nat → Int32} {tl : Int32} {hc : Int32} {hn : Int32} {v : Nat → Int32} {pa : Nat → Int32} {mt : Nat → Int32} {pm : Int32} {ty : Int32} {ra : Int32}  {p : Int32 × (Nat → Int32) × (Nat → Nat → Int32) × (Nat → (Nat → Int32) × (Nat → Nat → Int32)) × Int32 × Int32} (hF : F_X7_close si sa hs hc hn = some p) : tv_E g l yX7_close cX7_close 1 (some .int) 6 0 0 0 [.ref 0] [] (HP si sa hs tx tl hc hn v pa mt pm ty ra) (some (.int p.1)) (HP p.2.1 p.2.2.1 p.2.2.2.1 tx tl p.2.2.2.2.1 p.2.2.2.2.2 v pa mt pm ty ra) := by
  unfold F_X7_close at hF
  refine ev_aload_n (i := 0) 1 dX7_close_0 rfl rfl rfl ?_
  refine ev_getfield 4 dX7_close_1 rfl okf_X7_19 (Nat.le_of_ble_eq_true rfl) HPg_0 rfl ?_
  refine ev_getfield 7 dX7_close_4 rfl okf_X7_83 (Nat.le_of_ble_eq_true rfl) HPg_3 rfl ?_
  refine ev_getfield 10 dX7_close_7 rfl okf_X7_87 (Nat.le_of_ble_eq_true rfl) HPg_6 rfl ?_
  refine ev_if_eq 26 13 dX7_close_10 rfl rfl (fun hc114 => ?_) (fun hc114 => ?_)
  · rw [if_pos hc114] at hF
    refine ev_bipush 28 dX7_close_26 rfl kB_m2 ?_
    have hF := Option.some.inj hF
    subst hF
    exact ev_ireturn dX7_close_28 rfl rfl
  · rw [if_neg hc114] at hF
    refine ev_aload_n (i := 0) 14 dX7_close_13 rfl rfl rfl ?_
    refine ev_getfield 17 dX7_close_14 rfl okf_X7_19 (Nat.le_of_ble_eq_true rfl) HPg_0 rfl ?_
    refine ev_getfield 20 dX7_close_17 rfl okf_X7_83 (Nat.le_of_ble_eq_true rfl) HPg_3 rfl ?_
    refine ev_getfield 23 dX7_close_20 rfl okf_X7_105 (Nat.le_of_ble_eq_true rfl) HPg_6 rfl ?_
    refine ev_if_ne 29 26 dX7_close_23 rfl rfl (fun hc115 => ?_) (fun hc115 => ?_)
    · rw [if_neg hc115] at hF
      refine ev_aload_n (i := 0) 30 dX7_close_29 rfl rfl rfl ?_
      refine ev_getfield 33 dX7_close_30 rfl okf_X7_26 (Nat.le_of_ble_eq_true rfl) HPg_0 rfl ?_
      refine ev_aload_n (i := 0) 34 dX7_close_33 rfl rfl rfl ?_
      refine ev_getfield 37 dX7_close_34 rfl okf_X7_19 (Nat.le_of_ble_eq_true rfl) HPg_0 rfl ?_
      obtain ⟨x1, hx1, hF⟩ := tv_bind hF
      refine ev_callVv (i := 23) 40 [.ref 3] [] dX7_close_37 rfl okV_X7_37 rfl rfl (Nat.le_of_ble_eq_true rfl) (Nat.le_of_ble_eq_true rfl) HPg_23 rfl (Nat.le_of_ble_eq_true rfl) (Nat.le_of_ble_eq_true rfl) (R_X3_keep hx1) ?_
      refine ev_aload_n (i := 0) 41 dX7_close_40 rfl rfl rfl ?_
      refine ev_getfield 44 dX7_close_41 rfl okf_X7_19 (Nat.le_of_ble_eq_true rfl) HPg_0 rfl ?_
      obtain ⟨x2, hx2, hF⟩ := tv_bind hF
      refine ev_callVi (i := 3) 47 [] [] dX7_close_44 rfl okV_X7_134 rfl rfl (Nat.le_of_ble_eq_true rfl) (Nat.le_of_ble_eq_true rfl) HPg_3 rfl (Nat.le_of_ble_eq_true rfl) (Nat.le_of_ble_eq_true rfl) (R_X5_elect hx2) ?_
      have hF := Option.some.inj hF
      subst hF
      exact ev_ireturn dX7_close_47 rfl rfl
    · rw [if_pos hc115] at hF
      refine ev_bipush 28 dX7_close_26 rfl kB_m2 ?_
      have hF := Option.some.inj hF
      subst hF
      exact ev_ireturn dX7_close_28 rfl rfl

set_option maxRecDepth 100000 in
set_option maxHeartbeats 4000000 in
theorem R_X7_rounds {g : tv_G} {l : Launch} {si : Nat → Int32} {sa : Nat → Nat → Int32} {hs : Nat → (Nat → Int32) × (Nat → Nat → Int32)} {tx : Nat → Int32} {tl : Int32} {hc : Int32} {hn : Int32} {v : Nat → Int32} {pa : Nat → Int32} {mt : Nat → Int32} {pm : Int32} {ty : Int32} {ra : Int32}  {p : Int32} (hF : some (F_X7_rounds si) = some p) : tv_E g l yX7_rounds cX7_rounds 1 (some .int) 0 0 0 0 [.ref 0] [] (HP si sa hs tx tl hc hn v pa mt pm ty ra) (some (.int p)) (HP si sa hs tx tl hc hn v pa mt pm ty ra) := by
  unfold F_X7_rounds at hF
  refine ev_aload_n (i := 0) 1 dX7_rounds_0 rfl rfl rfl ?_
  refine ev_getfield 4 dX7_rounds_1 rfl okf_X7_19 (Nat.le_of_ble_eq_true rfl) HPg_0 rfl ?_
  refine ev_getfield 7 dX7_rounds_4 rfl okf_X7_137 (Nat.le_of_ble_eq_true rfl) HPg_3 rfl ?_
  refine ev_getfield 10 dX7_rounds_7 rfl okf_X7_141 (Nat.le_of_ble_eq_true rfl) HPg_8 rfl ?_
  have hF := Option.some.inj hF
  subst hF
  exact ev_ireturn dX7_rounds_10 rfl rfl

set_option maxRecDepth 100000 in
set_option maxHeartbeats 4000000 in
theorem R_X7_tally {g : tv_G} {l : Launch} {si : Nat → Int32} {sa : Nat → Nat → Int32} {hs : Nat → (Nat → Int32) × (Nat → Nat → Int32)} {tx : Nat → Int32} {tl : Int32} {hc : Int32} {hn : Int32} {v : Nat → Int32} {pa : Nat → Int32} {mt : Nat → Int32} {pm : Int32} {ty : Int32} {ra : Int32} {a1 : Int32} {a2 : Int32} {p : Int32} (hF : F_X7_tally si sa a1 a2 = some p) : tv_E g l yX7_tally cX7_tally 3 (some .int) 1 0 0 0 [.ref 0, .int a1, .int a2] [] (HP si sa hs tx tl hc hn v pa mt pm ty ra) (some (.int p)) (HP si sa hs tx tl hc hn v pa mt pm ty ra) := by
  unfold F_X7_tally at hF
  refine ev_iload_n (i := 1) 1 dX7_tally_0 rfl rfl rfl ?_
  refine ev_if_lt 29 4 dX7_tally_1 rfl rfl (fun hc116 => ?_) (fun hc116 => ?_)
  · rw [if_pos hc116] at hF
    refine ev_iconst 30 dX7_tally_29 rfl kI_m1 ?_
    have hF := Option.some.inj hF
    subst hF
    exact ev_ireturn dX7_tally_30 rfl rfl
  · rw [if_neg hc116] at hF
    refine ev_iload_n (i := 1) 5 dX7_tally_4 rfl rfl rfl ?_
    refine ev_aload_n (i := 0) 6 dX7_tally_5 rfl rfl rfl ?_
    refine ev_getfield 9 dX7_tally_6 rfl okf_X7_19 (Nat.le_of_ble_eq_true rfl) HPg_0 rfl ?_
    refine ev_getfield 12 dX7_tally_9 rfl okf_X7_137 (Nat.le_of_ble_eq_true rfl) HPg_3 rfl ?_
    refine ev_getfield 15 dX7_tally_12 rfl okf_X7_141 (Nat.le_of_ble_eq_true rfl) HPg_8 rfl ?_
    refine ev_icmp_ge 29 18 dX7_tally_15 rfl rfl (fun hc117 => ?_) (fun hc117 => ?_)
    · rw [if_pos hc117] at hF
      refine ev_iconst 30 dX7_tally_29 rfl kI_m1 ?_
      have hF := Option.some.inj hF
      subst hF
      exact ev_ireturn dX7_tally_30 rfl rfl
    · rw [if_neg hc117] at hF
      refine ev_aload_n (i := 0) 19 dX7_tally_18 rfl rfl rfl ?_
      refine ev_getfield 22 dX7_tally_19 rfl okf_X7_19 (Nat.le_of_ble_eq_true rfl) HPg_0 rfl ?_
      refine ev_iload_n (i := 2) 23 dX7_tally_22 rfl rfl rfl ?_
      refine ev_callVi (i := 3) 26 [.int a2] [] dX7_tally_23 rfl okV_X7_55 rfl rfl (Nat.le_of_ble_eq_true rfl) (Nat.le_of_ble_eq_true rfl) HPg_3 rfl (Nat.le_of_ble_eq_true rfl) (Nat.le_of_ble_eq_true rfl) (R_X5_isMember rfl) ?_
      refine ev_if_ne 31 29 dX7_tally_26 rfl rfl (fun hc118 => ?_) (fun hc118 => ?_)
      · rw [if_neg hc118] at hF
        refine ev_aload_n (i := 0) 32 dX7_tally_31 rfl rfl rfl ?_
        refine ev_getfield 35 dX7_tally_32 rfl okf_X7_19 (Nat.le_of_ble_eq_true rfl) HPg_0 rfl ?_
        refine ev_getfield 38 dX7_tally_35 rfl okf_X7_137 (Nat.le_of_ble_eq_true rfl) HPg_3 rfl ?_
        refine ev_iload_n (i := 2) 39 dX7_tally_38 rfl rfl rfl ?_
        refine ev_iload_n (i := 1) 40 dX7_tally_39 rfl rfl rfl ?_
        obtain ⟨x1, hx1, hF⟩ := tv_bind hF
        refine ev_callVi (i := 8) 43 [.int a2, .int a1] [] dX7_tally_40 rfl okV_X7_146 rfl rfl (Nat.le_of_ble_eq_true rfl) (Nat.le_of_ble_eq_true rfl) HPg_8 rfl (Nat.le_of_ble_eq_true rfl) (Nat.le_of_ble_eq_true rfl) (R_X4_votesFor hx1) ?_
        have hF := Option.some.inj hF
        subst hF
        exact ev_ireturn dX7_tally_43 rfl rfl
      · rw [if_pos hc118] at hF
        refine ev_iconst 30 dX7_tally_29 rfl kI_m1 ?_
        have hF := Option.some.inj hF
        subst hF
        exact ev_ireturn dX7_tally_30 rfl rfl

set_option maxRecDepth 100000 in
set_option maxHeartbeats 4000000 in
theorem R_X7_ballot {g : tv_G} {l : Launch} {si : Nat → Int32} {sa : Nat → Nat → Int32} {hs : Nat → (Nat → Int32) × (Nat → Nat → Int32)} {tx : Nat → Int32} {tl : Int32} {hc : Int32} {hn : Int32} {v : Nat → Int32} {pa : Nat → Int32} {mt : Nat → Int32} {pm : Int32} {ty : Int32} {ra : Int32} {a1 : Int32} {a2 : Int32} {p : Int32} (hF : F_X7_ballot si sa a1 a2 = some p) : tv_E g l yX7_ballot cX7_ballot 3 (some .int) 1 0 0 0 [.ref 0, .int a1, .int a2] [] (HP si sa hs tx tl hc hn v pa mt pm ty ra) (some (.int p)) (HP si sa hs tx tl hc hn v pa mt pm ty ra) := by
  unfold F_X7_ballot at hF
  refine ev_aload_n (i := 0) 1 dX7_ballot_0 rfl rfl rfl ?_
  refine ev_getfield 4 dX7_ballot_1 rfl okf_X7_19 (Nat.le_of_ble_eq_true rfl) HPg_0 rfl ?_
  refine ev_iload_n (i := 1) 5 dX7_ballot_4 rfl rfl rfl ?_
  refine ev_callVi (i := 3) 8 [.int a1] [] dX7_ballot_5 rfl okV_X7_55 rfl rfl (Nat.le_of_ble_eq_true rfl) (Nat.le_of_ble_eq_true rfl) HPg_3 rfl (Nat.le_of_ble_eq_true rfl) (Nat.le_of_ble_eq_true rfl) (R_X5_isMember rfl) ?_
  refine ev_if_eq 15 11 dX7_ballot_8 rfl rfl (fun hc119 => ?_) (fun hc119 => ?_)
  · rw [if_pos hc119] at hF
    refine ev_iconst 16 dX7_ballot_15 rfl kI_m1 ?_
    have hF := Option.some.inj hF
    subst hF
    exact ev_ireturn dX7_ballot_16 rfl rfl
  · rw [if_neg hc119] at hF
    refine ev_iload_n (i := 2) 12 dX7_ballot_11 rfl rfl rfl ?_
    refine ev_if_ge 17 15 dX7_ballot_12 rfl rfl (fun hc120 => ?_) (fun hc120 => ?_)
    · rw [if_pos hc120] at hF
      refine ev_aload_n (i := 0) 18 dX7_ballot_17 rfl rfl rfl ?_
      refine ev_getfield 21 dX7_ballot_18 rfl okf_X7_19 (Nat.le_of_ble_eq_true rfl) HPg_0 rfl ?_
      refine ev_getfield 24 dX7_ballot_21 rfl okf_X7_83 (Nat.le_of_ble_eq_true rfl) HPg_3 rfl ?_
      refine ev_getfield 27 dX7_ballot_24 rfl okf_X7_87 (Nat.le_of_ble_eq_true rfl) HPg_6 rfl ?_
      refine ev_if_ne 33 30 dX7_ballot_27 rfl rfl (fun hc121 => ?_) (fun hc121 => ?_)
      · rw [if_neg hc121] at hF
        refine ev_iload_n (i := 2) 34 dX7_ballot_33 rfl rfl rfl ?_
        refine ev_bipush 36 dX7_ballot_34 rfl kB_10 ?_
        refine ev_icmp_lt 42 39 dX7_ballot_36 rfl rfl (fun hc122 => ?_) (fun hc122 => ?_)
        · rw [if_pos hc122] at hF
          refine ev_aload_n (i := 0) 43 dX7_ballot_42 rfl rfl rfl ?_
          refine ev_getfield 46 dX7_ballot_43 rfl okf_X7_19 (Nat.le_of_ble_eq_true rfl) HPg_0 rfl ?_
          refine ev_getfield 49 dX7_ballot_46 rfl okf_X7_83 (Nat.le_of_ble_eq_true rfl) HPg_3 rfl ?_
          refine ev_iload_n (i := 1) 50 dX7_ballot_49 rfl rfl rfl ?_
          refine ev_iload_n (i := 2) 51 dX7_ballot_50 rfl rfl rfl ?_
          obtain ⟨x1, hx1, hF⟩ := tv_bind hF
          refine ev_callVi (i := 6) 54 [.int a1, .int a2] [] dX7_ballot_51 rfl okV_X7_150 rfl rfl (Nat.le_of_ble_eq_true rfl) (Nat.le_of_ble_eq_true rfl) HPg_6 rfl (Nat.le_of_ble_eq_true rfl) (Nat.le_of_ble_eq_true rfl) (R_X2_choice hx1) ?_
          have hF := Option.some.inj hF
          subst hF
          exact ev_ireturn dX7_ballot_54 rfl rfl
        · rw [if_neg hc122] at hF
          refine ev_bipush 41 dX7_ballot_39 rfl kB_m9 ?_
          have hF := Option.some.inj hF
          subst hF
          exact ev_ireturn dX7_ballot_41 rfl rfl
      · rw [if_pos hc121] at hF
        refine ev_bipush 32 dX7_ballot_30 rfl kB_m2 ?_
        have hF := Option.some.inj hF
        subst hF
        exact ev_ireturn dX7_ballot_32 rfl rfl
    · rw [if_neg hc120] at hF
      refine ev_iconst 16 dX7_ballot_15 rfl kI_m1 ?_
      have hF := Option.some.inj hF
      subst hF
      exact ev_ireturn dX7_ballot_16 rfl rfl

set_option maxRecDepth 100000 in
set_option maxHeartbeats 4000000 in
theorem R_X7_office {g : tv_G} {l : Launch} {si : Nat → Int32} {sa : Nat → Nat → Int32} {hs : Nat → (Nat → Int32) × (Nat → Nat → Int32)} {tx : Nat → Int32} {tl : Int32} {hc : Int32} {hn : Int32} {v : Nat → Int32} {pa : Nat → Int32} {mt : Nat → Int32} {pm : Int32} {ty : Int32} {ra : Int32}  {p : Int32} (hF : some (F_X7_office si) = some p) : tv_E g l yX7_office cX7_office 1 (some .int) 0 0 0 0 [.ref 0] [] (HP si sa hs tx tl hc hn v pa mt pm ty ra) (some (.int p)) (HP si sa hs tx tl hc hn v pa mt pm ty ra) := by
  unfold F_X7_office at hF
  refine ev_aload_n (i := 0) 1 dX7_office_0 rfl rfl rfl ?_
  refine ev_getfield 4 dX7_office_1 rfl okf_X7_19 (Nat.le_of_ble_eq_true rfl) HPg_0 rfl ?_
  refine ev_getfield 7 dX7_office_4 rfl okf_X7_93 (Nat.le_of_ble_eq_true rfl) HPg_3 rfl ?_
  have hF := Option.some.inj hF
  subst hF
  exact ev_ireturn dX7_office_7 rfl rfl

set_option maxRecDepth 100000 in
set_option maxHeartbeats 4000000 in
theorem R_X7_holder {g : tv_G} {l : Launch} {si : Nat → Int32} {sa : Nat → Nat → Int32} {hs : Nat → (Nat → Int32) × (Nat → Nat → Int32)} {tx : Nat → Int32} {tl : Int32} {hc : Int32} {hn : Int32} {v : Nat → Int32} {pa : Nat → Int32} {mt : Nat → Int32} {pm : Int32} {ty : Int32} {ra : Int32}  {p : Int32} (hF : some (F_X7_holder si) = some p) : tv_E g l yX7_holder cX7_holder 1 (some .int) 0 0 0 0 [.ref 0] [] (HP si sa hs tx tl hc hn v pa mt pm ty ra) (some (.int p)) (HP si sa hs tx tl hc hn v pa mt pm ty ra) := by
  unfold F_X7_holder at hF
  refine ev_aload_n (i := 0) 1 dX7_holder_0 rfl rfl rfl ?_
  refine ev_getfield 4 dX7_holder_1 rfl okf_X7_19 (Nat.le_of_ble_eq_true rfl) HPg_0 rfl ?_
  refine ev_getfield 7 dX7_holder_4 rfl okf_X7_153 (Nat.le_of_ble_eq_true rfl) HPg_3 rfl ?_
  have hF := Option.some.inj hF
  subst hF
  exact ev_ireturn dX7_holder_7 rfl rfl
