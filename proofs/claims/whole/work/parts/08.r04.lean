set_option maxRecDepth 100000 in
set_option maxHeartbeats 4000000 in
theorem R_X6_latestDeeds {g : tv_G} {l : Launch} {si : Nat → Int32} {sa : Nat → Nat → Int32} {hs : Nat → (Nat → Int32) × (Nat → Nat → Int32)} {tx : Nat → Int32} {tl : Int32} {hc : Int32} {hn : Int32} {v : Nat → Int32} {pa : Nat → Int32} {mt : Nat → Int32} {pm : Int32} {ty : Int32} {ra : Int32}  {p : Int32} (hF : F_X6_latestDeeds si sa = some p) : tv_E g l yX6_latestDeeds cX6_latestDeeds 1 (some .int) 0 0 0 0 [.ref 10] [] (HP si sa hs tx tl hc hn v pa mt pm ty ra) (some (.int p)) (HP si sa hs tx tl hc hn v pa mt pm ty ra) := by
  unfold F_X6_latestDeeds at hF
  refine ev_aload_n (i := 0) 1 dX6_latestDeeds_0 rfl rfl rfl ?_
  refine ev_getfield 4 dX6_latestDeeds_1 rfl okf_X6_24 (Nat.le_of_ble_eq_true rfl) HPg_10 rfl ?_
  refine ev_aload_n (i := 0) 5 dX6_latestDeeds_4 rfl rfl rfl ?_
  refine ev_getfield 8 dX6_latestDeeds_5 rfl okf_X6_36 (Nat.le_of_ble_eq_true rfl) HPg_10 rfl ?_
  obtain ⟨x1, hx1, hF⟩ := tv_bind hF
  refine ev_iaload 9 dX6_latestDeeds_8 rfl (Nat.le_of_ble_eq_true rfl) HPg_15 hx1 ?_
  have hF := Option.some.inj hF
  subst hF
  exact ev_ireturn dX6_latestDeeds_9 rfl rfl

set_option maxRecDepth 100000 in
set_option maxHeartbeats 4000000 in
theorem R_X6_setLatestDeeds {g : tv_G} {l : Launch} {si : Nat → Int32} {sa : Nat → Nat → Int32} {hs : Nat → (Nat → Int32) × (Nat → Nat → Int32)} {tx : Nat → Int32} {tl : Int32} {hc : Int32} {hn : Int32} {v : Nat → Int32} {pa : Nat → Int32} {mt : Nat → Int32} {pm : Int32} {ty : Int32} {ra : Int32} {a1 : Int32} {p : (Nat → Nat → Int32)} (hF : F_X6_setLatestDeeds si sa a1 = some p) : tv_E g l yX6_setLatestDeeds cX6_setLatestDeeds 2 none 0 0 0 0 [.ref 10, .int a1] [] (HP si sa hs tx tl hc hn v pa mt pm ty ra) none (HP si p hs tx tl hc hn v pa mt pm ty ra) := by
  unfold F_X6_setLatestDeeds at hF
  refine ev_aload_n (i := 0) 1 dX6_setLatestDeeds_0 rfl rfl rfl ?_
  refine ev_getfield 4 dX6_setLatestDeeds_1 rfl okf_X6_24 (Nat.le_of_ble_eq_true rfl) HPg_10 rfl ?_
  refine ev_aload_n (i := 0) 5 dX6_setLatestDeeds_4 rfl rfl rfl ?_
  refine ev_getfield 8 dX6_setLatestDeeds_5 rfl okf_X6_36 (Nat.le_of_ble_eq_true rfl) HPg_10 rfl ?_
  refine ev_iload_n (i := 1) 9 dX6_setLatestDeeds_8 rfl rfl rfl ?_
  obtain ⟨x1, hx1, hF⟩ := tv_bind hF
  refine ev_iastore 10 dX6_setLatestDeeds_9 rfl (Nat.le_of_ble_eq_true rfl) HPg_15 hx1 HPa_15 ?_
  have hF := Option.some.inj hF
  subst hF
  exact ev_return dX6_setLatestDeeds_10 rfl

set_option maxRecDepth 100000 in
set_option maxHeartbeats 4000000 in
theorem R_X7_deed {g : tv_G} {l : Launch} {si : Nat → Int32} {sa : Nat → Nat → Int32} {hs : Nat → (Nat → Int32) × (Nat → Nat → Int32)} {tx : Nat → Int32} {tl : Int32} {hc : Int32} {hn : Int32} {v : Nat → Int32} {pa : Nat → Int32} {mt : Nat → Int32} {pm : Int32} {ty : Int32} {ra : Int32} {a1 : Int32} {p : Int32 × (Nat → Nat → Int32) × (Nat → (Nat → Int32) × (Nat → Nat → Int32)) × Int32 × Int32} (hF : F_X7_deed si sa hs hc hn a1 = some p) : tv_E g l yX7_deed cX7_deed 3 (some .int) 5 0 0 0 [.ref 0, .int a1, .null] [] (HP si sa hs tx tl hc hn v pa mt pm ty ra) (some (.int p.1)) (HP si p.2.1 p.2.2.1 tx tl p.2.2.2.1 p.2.2.2.2 v pa mt pm ty ra) := by
  unfold F_X7_deed at hF
  refine ev_aload_n (i := 0) 1 dX7_deed_0 rfl rfl rfl ?_
  refine ev_getfield 4 dX7_deed_1 rfl okf_X7_19 (Nat.le_of_ble_eq_true rfl) HPg_0 rfl ?_
  refine ev_getfield 7 dX7_deed_4 rfl okf_X7_93 (Nat.le_of_ble_eq_true rfl) HPg_3 rfl ?_
  refine ev_iconst 8 dX7_deed_7 rfl kI_2 ?_
  refine ev_icmp_eq 14 11 dX7_deed_8 rfl rfl (fun hc123 => ?_) (fun hc123 => ?_)
  · rw [if_pos hc123] at hF
    refine ev_aload_n (i := 0) 15 dX7_deed_14 rfl rfl rfl ?_
    refine ev_getfield 18 dX7_deed_15 rfl okf_X7_19 (Nat.le_of_ble_eq_true rfl) HPg_0 rfl ?_
    refine ev_getfield 21 dX7_deed_18 rfl okf_X7_96 (Nat.le_of_ble_eq_true rfl) HPg_3 rfl ?_
    obtain ⟨x1, hx1, hF⟩ := tv_bind hF
    refine ev_callVi (i := 10) 24 [] [] dX7_deed_21 rfl okV_X7_156 rfl rfl (Nat.le_of_ble_eq_true rfl) (Nat.le_of_ble_eq_true rfl) HPg_10 rfl (Nat.le_of_ble_eq_true rfl) (Nat.le_of_ble_eq_true rfl) (R_X6_latestDeeds hx1) ?_
    refine ev_iload_n (i := 1) 25 dX7_deed_24 rfl rfl rfl ?_
    obtain ⟨x2, hBx2, hF⟩ := tv_bind hF
    have Jx2 : tv_E g l yX7_deed cX7_deed 3 (some .int) 5 0 0 33 [.ref 0, .null, .null] [.int x2, .int x1] (HP si sa hs tx tl hc hn v pa mt pm ty ra) (some (.int p.1)) (HP si p.2.1 p.2.2.1 tx tl p.2.2.2.1 p.2.2.2.2 v pa mt pm ty ra) := by
      refine ev_iadd 34 dX7_deed_33 rfl ?_
      refine ev_istore_n (i := 2) (L2 := [.ref 0, .null, .int (x1 + x2)]) 35 dX7_deed_34 rfl rfl (Nat.le_of_ble_eq_true rfl) rfl ?_
      refine ev_iload_n (i := 2) 36 dX7_deed_35 rfl rfl rfl ?_
      refine ev_bipush 38 dX7_deed_36 rfl kB_20 ?_
      refine ev_icmp_gt 47 41 dX7_deed_38 rfl rfl (fun hc124 => ?_) (fun hc124 => ?_)
      · rw [if_pos hc124] at hF
        refine ev_bipush 49 dX7_deed_47 rfl kB_m2 ?_
        have hF := Option.some.inj hF
        subst hF
        exact ev_ireturn dX7_deed_49 rfl rfl
      · rw [if_neg hc124] at hF
        refine ev_iload_n (i := 2) 42 dX7_deed_41 rfl rfl rfl ?_
        refine ev_bipush 44 dX7_deed_42 rfl kB_m20 ?_
        refine ev_icmp_ge 50 47 dX7_deed_44 rfl rfl (fun hc125 => ?_) (fun hc125 => ?_)
        · rw [if_pos hc125] at hF
          refine ev_aload_n (i := 0) 51 dX7_deed_50 rfl rfl rfl ?_
          refine ev_getfield 54 dX7_deed_51 rfl okf_X7_26 (Nat.le_of_ble_eq_true rfl) HPg_0 rfl ?_
          refine ev_aload_n (i := 0) 55 dX7_deed_54 rfl rfl rfl ?_
          refine ev_getfield 58 dX7_deed_55 rfl okf_X7_19 (Nat.le_of_ble_eq_true rfl) HPg_0 rfl ?_
          obtain ⟨x3, hx3, hF⟩ := tv_bind hF
          refine ev_callVv (i := 23) 61 [.ref 3] [] dX7_deed_58 rfl okV_X7_37 rfl rfl (Nat.le_of_ble_eq_true rfl) (Nat.le_of_ble_eq_true rfl) HPg_23 rfl (Nat.le_of_ble_eq_true rfl) (Nat.le_of_ble_eq_true rfl) (R_X3_keep hx3) ?_
          refine ev_aload_n (i := 0) 62 dX7_deed_61 rfl rfl rfl ?_
          refine ev_getfield 65 dX7_deed_62 rfl okf_X7_19 (Nat.le_of_ble_eq_true rfl) HPg_0 rfl ?_
          refine ev_getfield 68 dX7_deed_65 rfl okf_X7_96 (Nat.le_of_ble_eq_true rfl) HPg_3 rfl ?_
          refine ev_iload_n (i := 2) 69 dX7_deed_68 rfl rfl rfl ?_
          obtain ⟨x4, hx4, hF⟩ := tv_bind hF
          refine ev_callVv (i := 10) 72 [.int (x1 + x2)] [] dX7_deed_69 rfl okV_X7_159 rfl rfl (Nat.le_of_ble_eq_true rfl) (Nat.le_of_ble_eq_true rfl) HPg_10 rfl (Nat.le_of_ble_eq_true rfl) (Nat.le_of_ble_eq_true rfl) (R_X6_setLatestDeeds hx4) ?_
          refine ev_iload_n (i := 2) 73 dX7_deed_72 rfl rfl rfl ?_
          have hF := Option.some.inj hF
          subst hF
          exact ev_ireturn dX7_deed_73 rfl rfl
        · rw [if_neg hc125] at hF
          refine ev_bipush 49 dX7_deed_47 rfl kB_m2 ?_
          have hF := Option.some.inj hF
          subst hF
          exact ev_ireturn dX7_deed_49 rfl rfl
    clear hF
    refine ev_if_eq 32 28 dX7_deed_25 rfl rfl (fun hc126 => ?_) (fun hc126 => ?_)
    · rw [if_pos hc126] at hBx2
      refine ev_iconst 33 dX7_deed_32 rfl kI_m1 ?_
      have hBx2 := Option.some.inj hBx2
      subst hBx2
      refine ev_weak [.ref 0, .null, .null] ⟨Or.inr rfl, ⟨Or.inl rfl, ⟨Or.inl rfl, trivial⟩⟩⟩ ?_
      exact Jx2
    · rw [if_neg hc126] at hBx2
      refine ev_iconst 29 dX7_deed_28 rfl kI_1 ?_
      refine ev_goto 33 dX7_deed_29 rfl ?_
      have hBx2 := Option.some.inj hBx2
      subst hBx2
      refine ev_weak [.ref 0, .null, .null] ⟨Or.inr rfl, ⟨Or.inl rfl, ⟨Or.inl rfl, trivial⟩⟩⟩ ?_
      exact Jx2
  · rw [if_neg hc123] at hF
    refine ev_bipush 13 dX7_deed_11 rfl kB_m2 ?_
    have hF := Option.some.inj hF
    subst hF
    exact ev_ireturn dX7_deed_13 rfl rfl

set_option maxRecDepth 100000 in
set_option maxHeartbeats 4000000 in
theorem R_X7_sign {g : tv_G} {l : Launch} {si : Nat → Int32} {sa : Nat → Nat → Int32} {hs : Nat → (Nat → Int32) × (Nat → Nat → Int32)} {tx : Nat → Int32} {tl : Int32} {hc : Int32} {hn : Int32} {v : Nat → Int32} {pa : Nat → Int32} {mt : Nat → Int32} {pm : Int32} {ty : Int32} {ra : Int32} {a1 : Int32} {a2 : Int32} {p : Int32 × (Nat → Int32) × (Nat → Nat → Int32) × (Nat → (Nat → Int32) × (Nat → Nat → Int32)) × Int32 × Int32} (hF : F_X7_sign si sa hs hc hn a1 a2 = some p) : tv_E g l yX7_sign cX7_sign 3 (some .int) 6 0 0 0 [.ref 0, .int a1, .int a2] [] (HP si sa hs tx tl hc hn v pa mt pm ty ra) (some (.int p.1)) (HP p.2.1 p.2.2.1 p.2.2.2.1 tx tl p.2.2.2.2.1 p.2.2.2.2.2 v pa mt pm ty ra) := by
  unfold F_X7_sign at hF
  refine ev_aload_n (i := 0) 1 dX7_sign_0 rfl rfl rfl ?_
  refine ev_getfield 4 dX7_sign_1 rfl okf_X7_19 (Nat.le_of_ble_eq_true rfl) HPg_0 rfl ?_
  refine ev_iload_n (i := 1) 5 dX7_sign_4 rfl rfl rfl ?_
  refine ev_callVi (i := 3) 8 [.int a1] [] dX7_sign_5 rfl okV_X7_55 rfl rfl (Nat.le_of_ble_eq_true rfl) (Nat.le_of_ble_eq_true rfl) HPg_3 rfl (Nat.le_of_ble_eq_true rfl) (Nat.le_of_ble_eq_true rfl) (R_X5_isMember rfl) ?_
  refine ev_if_ne 13 11 dX7_sign_8 rfl rfl (fun hc127 => ?_) (fun hc127 => ?_)
  · rw [if_neg hc127] at hF
    refine ev_aload_n (i := 0) 14 dX7_sign_13 rfl rfl rfl ?_
    refine ev_getfield 17 dX7_sign_14 rfl okf_X7_19 (Nat.le_of_ble_eq_true rfl) HPg_0 rfl ?_
    refine ev_getfield 20 dX7_sign_17 rfl okf_X7_93 (Nat.le_of_ble_eq_true rfl) HPg_3 rfl ?_
    refine ev_iconst 21 dX7_sign_20 rfl kI_2 ?_
    refine ev_icmp_ne 46 24 dX7_sign_21 rfl rfl (fun hc128 => ?_) (fun hc128 => ?_)
    · rw [if_neg hc128] at hF
      refine ev_bipush 48 dX7_sign_46 rfl kB_m2 ?_
      have hF := Option.some.inj hF
      subst hF
      exact ev_ireturn dX7_sign_48 rfl rfl
    · rw [if_pos hc128] at hF
      refine ev_aload_n (i := 0) 25 dX7_sign_24 rfl rfl rfl ?_
      refine ev_getfield 28 dX7_sign_25 rfl okf_X7_19 (Nat.le_of_ble_eq_true rfl) HPg_0 rfl ?_
      refine ev_iload_n (i := 1) 29 dX7_sign_28 rfl rfl rfl ?_
      obtain ⟨x1, hx1, hF⟩ := tv_bind hF
      refine ev_callVi (i := 3) 32 [.int a1] [] dX7_sign_29 rfl okV_X7_59 rfl rfl (Nat.le_of_ble_eq_true rfl) (Nat.le_of_ble_eq_true rfl) HPg_3 rfl (Nat.le_of_ble_eq_true rfl) (Nat.le_of_ble_eq_true rfl) (R_X5_isPresent hx1) ?_
      refine ev_if_eq 46 35 dX7_sign_32 rfl rfl (fun hc129 => ?_) (fun hc129 => ?_)
      · rw [if_pos hc129] at hF
        refine ev_bipush 48 dX7_sign_46 rfl kB_m2 ?_
        have hF := Option.some.inj hF
        subst hF
        exact ev_ireturn dX7_sign_48 rfl rfl
      · rw [if_neg hc129] at hF
        refine ev_iload_n (i := 1) 36 dX7_sign_35 rfl rfl rfl ?_
        refine ev_aload_n (i := 0) 37 dX7_sign_36 rfl rfl rfl ?_
        refine ev_getfield 40 dX7_sign_37 rfl okf_X7_19 (Nat.le_of_ble_eq_true rfl) HPg_0 rfl ?_
        refine ev_getfield 43 dX7_sign_40 rfl okf_X7_153 (Nat.le_of_ble_eq_true rfl) HPg_3 rfl ?_
        refine ev_icmp_ne 49 46 dX7_sign_43 rfl rfl (fun hc130 => ?_) (fun hc130 => ?_)
        · rw [if_neg hc130] at hF
          refine ev_aload_n (i := 0) 50 dX7_sign_49 rfl rfl rfl ?_
          refine ev_getfield 53 dX7_sign_50 rfl okf_X7_19 (Nat.le_of_ble_eq_true rfl) HPg_0 rfl ?_
          refine ev_getfield 56 dX7_sign_53 rfl okf_X7_162 (Nat.le_of_ble_eq_true rfl) HPg_3 rfl ?_
          refine ev_iload_n (i := 1) 57 dX7_sign_56 rfl rfl rfl ?_
          refine ev_callSi 60 [.int (si 3), .int a1] [] dX7_sign_57 rfl okS_X7_108 rfl rfl (Nat.le_of_ble_eq_true rfl) rfl (Nat.le_of_ble_eq_true rfl) (Nat.le_of_ble_eq_true rfl) (R_X7_has rfl) ?_
          refine ev_iload_n (i := 2) 61 dX7_sign_60 rfl rfl rfl ?_
          refine ev_icmp_ne 67 64 dX7_sign_61 rfl rfl (fun hc131 => ?_) (fun hc131 => ?_)
          · rw [if_neg hc131] at hF
            refine ev_aload_n (i := 0) 68 dX7_sign_67 rfl rfl rfl ?_
            refine ev_getfield 71 dX7_sign_68 rfl okf_X7_26 (Nat.le_of_ble_eq_true rfl) HPg_0 rfl ?_
            refine ev_aload_n (i := 0) 72 dX7_sign_71 rfl rfl rfl ?_
            refine ev_getfield 75 dX7_sign_72 rfl okf_X7_19 (Nat.le_of_ble_eq_true rfl) HPg_0 rfl ?_
            obtain ⟨x2, hx2, hF⟩ := tv_bind hF
            refine ev_callVv (i := 23) 78 [.ref 3] [] dX7_sign_75 rfl okV_X7_37 rfl rfl (Nat.le_of_ble_eq_true rfl) (Nat.le_of_ble_eq_true rfl) HPg_23 rfl (Nat.le_of_ble_eq_true rfl) (Nat.le_of_ble_eq_true rfl) (R_X3_keep hx2) ?_
            refine ev_iload_n (i := 2) 79 dX7_sign_78 rfl rfl rfl ?_
            obtain ⟨x4, hBx4, hF⟩ := tv_bind hF
            have Jx4 : tv_E g l yX7_sign cX7_sign 3 (some .int) 6 0 0 126 [.ref 0, .null, .null] [] (HP x4.1 x4.2 x2.1 tx tl x2.2.1 x2.2.2 v pa mt pm ty ra) (some (.int p.1)) (HP p.2.1 p.2.2.1 p.2.2.2.1 tx tl p.2.2.2.2.1 p.2.2.2.2.2 v pa mt pm ty ra) := by
              refine ev_aload_n (i := 0) 127 dX7_sign_126 rfl rfl rfl ?_
              refine ev_getfield 130 dX7_sign_127 rfl okf_X7_19 (Nat.le_of_ble_eq_true rfl) HPg_0 rfl ?_
              refine ev_callVi (i := 3) 133 [] [] dX7_sign_130 rfl okV_X7_165 rfl rfl (Nat.le_of_ble_eq_true rfl) (Nat.le_of_ble_eq_true rfl) HPg_3 rfl (Nat.le_of_ble_eq_true rfl) (Nat.le_of_ble_eq_true rfl) (R_X5_countSignatures rfl) ?_
              have hF := Option.some.inj hF
              subst hF
              exact ev_ireturn dX7_sign_133 rfl rfl
            clear hF
            refine ev_if_eq 108 82 dX7_sign_79 rfl rfl (fun hc132 => ?_) (fun hc132 => ?_)
            · rw [if_pos hc132] at hBx4
              refine ev_aload_n (i := 0) 109 dX7_sign_108 rfl rfl rfl ?_
              refine ev_getfield 112 dX7_sign_109 rfl okf_X7_19 (Nat.le_of_ble_eq_true rfl) HPg_0 rfl ?_
              refine ev_dup 113 dX7_sign_112 rfl rfl ?_
              refine ev_getfield 116 dX7_sign_113 rfl okf_X7_162 (Nat.le_of_ble_eq_true rfl) HPg_3 rfl ?_
              refine ev_iload_n (i := 1) 117 dX7_sign_116 rfl rfl rfl ?_
              refine ev_callSi 120 [.int a1] [.int (si 3), .ref 3] dX7_sign_117 rfl okS_X7_69 rfl rfl (Nat.le_of_ble_eq_true rfl) rfl (Nat.le_of_ble_eq_true rfl) (Nat.le_of_ble_eq_true rfl) (R_X7_only rfl) ?_
              refine ev_iconst 121 dX7_sign_120 rfl kI_m1 ?_
              refine ev_ixor 122 dX7_sign_121 rfl ?_
              refine ev_iand 123 dX7_sign_122 rfl ?_
              refine ev_putfield 126 dX7_sign_123 rfl okf_X7_162 (Nat.le_of_ble_eq_true rfl) HPg_3 (Nat.le_of_ble_eq_true rfl) rfl rfl HPs_3_5 ?_
              have hBx4 := Option.some.inj hBx4
              subst hBx4
              refine ev_weak [.ref 0, .null, .null] ⟨Or.inr rfl, ⟨Or.inl rfl, ⟨Or.inl rfl, trivial⟩⟩⟩ ?_
              exact Jx4
            · rw [if_neg hc132] at hBx4
              refine ev_aload_n (i := 0) 83 dX7_sign_82 rfl rfl rfl ?_
              refine ev_getfield 86 dX7_sign_83 rfl okf_X7_19 (Nat.le_of_ble_eq_true rfl) HPg_0 rfl ?_
              refine ev_dup 87 dX7_sign_86 rfl rfl ?_
              refine ev_getfield 90 dX7_sign_87 rfl okf_X7_162 (Nat.le_of_ble_eq_true rfl) HPg_3 rfl ?_
              refine ev_iload_n (i := 1) 91 dX7_sign_90 rfl rfl rfl ?_
              refine ev_callSi 94 [.int a1] [.int (si 3), .ref 3] dX7_sign_91 rfl okS_X7_69 rfl rfl (Nat.le_of_ble_eq_true rfl) rfl (Nat.le_of_ble_eq_true rfl) (Nat.le_of_ble_eq_true rfl) (R_X7_only rfl) ?_
              refine ev_ior 95 dX7_sign_94 rfl ?_
              refine ev_putfield 98 dX7_sign_95 rfl okf_X7_162 (Nat.le_of_ble_eq_true rfl) HPg_3 (Nat.le_of_ble_eq_true rfl) rfl rfl HPs_3_5 ?_
              refine ev_aload_n (i := 0) 99 dX7_sign_98 rfl rfl rfl ?_
              refine ev_getfield 102 dX7_sign_99 rfl okf_X7_19 (Nat.le_of_ble_eq_true rfl) HPg_0 rfl ?_
              obtain ⟨x3, hx3, hBx4⟩ := tv_bind hBx4
              refine ev_callVv (i := 3) 105 [] [] dX7_sign_102 rfl okV_X7_44 rfl rfl (Nat.le_of_ble_eq_true rfl) (Nat.le_of_ble_eq_true rfl) HPg_3 rfl (Nat.le_of_ble_eq_true rfl) (Nat.le_of_ble_eq_true rfl) (R_X5_lookAtPetition hx3) ?_
              refine ev_goto 126 dX7_sign_105 rfl ?_
              have hBx4 := Option.some.inj hBx4
              subst hBx4
              refine ev_weak [.ref 0, .null, .null] ⟨Or.inr rfl, ⟨Or.inl rfl, ⟨Or.inl rfl, trivial⟩⟩⟩ ?_
              exact Jx4
          · rw [if_pos hc131] at hF
            refine ev_bipush 66 dX7_sign_64 rfl kB_m2 ?_
            have hF := Option.some.inj hF
            subst hF
            exact ev_ireturn dX7_sign_66 rfl rfl
        · rw [if_pos hc130] at hF
          refine ev_bipush 48 dX7_sign_46 rfl kB_m2 ?_
          have hF := Option.some.inj hF
          subst hF
          exact ev_ireturn dX7_sign_48 rfl rfl
  · rw [if_pos hc127] at hF
    refine ev_iconst 12 dX7_sign_11 rfl kI_m1 ?_
    have hF := Option.some.inj hF
    subst hF
    exact ev_ireturn dX7_sign_12 rfl rfl

set_option maxRecDepth 100000 in
set_option maxHeartbeats 4000000 in
theorem R_X6_isTerm {g : tv_G} {l : Launch} {si : Nat → Int32} {sa : Nat → Nat → Int32} {hs : Nat → (Nat → Int32) × (Nat → Nat → Int32)} {tx : Nat → Int32} {tl : Int32} {hc : Int32} {hn : Int32} {v : Nat → Int32} {pa : Nat → Int32} {mt : Nat → Int32} {pm : Int32} {ty : Int32} {ra : Int32} {a1 : Int32} {p : Int32} (hF : some (F_X6_isTerm si a1) = some p) : tv_E g l yX6_isTerm cX6_isTerm 2 (some .boolean) 0 0 0 0 [.ref 10, .int a1] [] (HP si sa hs tx tl hc hn v pa mt pm ty ra) (some (.int p)) (HP si sa hs tx tl hc hn v pa mt pm ty ra) := by
  unfold F_X6_isTerm at hF
  refine ev_iload_n (i := 1) 1 dX6_isTerm_0 rfl rfl rfl ?_
  refine ev_iconst 2 dX6_isTerm_1 rfl kI_1 ?_
  refine ev_icmp_lt 17 5 dX6_isTerm_2 rfl rfl (fun hc133 => ?_) (fun hc133 => ?_)
  · rw [if_pos hc133] at hF
    refine ev_iconst 18 dX6_isTerm_17 rfl kI_0 ?_
    have hF := Option.some.inj hF
    subst hF
    exact ev_ireturn dX6_isTerm_18 rfl rfl
  · rw [if_neg hc133] at hF
    refine ev_iload_n (i := 1) 6 dX6_isTerm_5 rfl rfl rfl ?_
    refine ev_aload_n (i := 0) 7 dX6_isTerm_6 rfl rfl rfl ?_
    refine ev_getfield 10 dX6_isTerm_7 rfl okf_X6_36 (Nat.le_of_ble_eq_true rfl) HPg_10 rfl ?_
    refine ev_icmp_gt 17 13 dX6_isTerm_10 rfl rfl (fun hc134 => ?_) (fun hc134 => ?_)
    · rw [if_pos hc134] at hF
      refine ev_iconst 18 dX6_isTerm_17 rfl kI_0 ?_
      have hF := Option.some.inj hF
      subst hF
      exact ev_ireturn dX6_isTerm_18 rfl rfl
    · rw [if_neg hc134] at hF
      refine ev_iconst 14 dX6_isTerm_13 rfl kI_1 ?_
      refine ev_goto 18 dX6_isTerm_14 rfl ?_
      have hF := Option.some.inj hF
      subst hF
      exact ev_ireturn dX6_isTerm_18 rfl rfl

set_option maxRecDepth 100000 in
set_option maxHeartbeats 4000000 in
theorem R_X6_isOver {g : tv_G} {l : Launch} {si : Nat → Int32} {sa : Nat → Nat → Int32} {hs : Nat → (Nat → Int32) × (Nat → Nat → Int32)} {tx : Nat → Int32} {tl : Int32} {hc : Int32} {hn : Int32} {v : Nat → Int32} {pa : Nat → Int32} {mt : Nat → Int32} {pm : Int32} {ty : Int32} {ra : Int32} {a1 : Int32} {p : Int32} (hF : F_X6_isOver sa a1 = some p) : tv_E g l yX6_isOver cX6_isOver 2 (some .boolean) 0 0 0 0 [.ref 10, .int a1] [] (HP si sa hs tx tl hc hn v pa mt pm ty ra) (some (.int p)) (HP si sa hs tx tl hc hn v pa mt pm ty ra) := by
  unfold F_X6_isOver at hF
  refine ev_aload_n (i := 0) 1 dX6_isOver_0 rfl rfl rfl ?_
  refine ev_getfield 4 dX6_isOver_1 rfl okf_X6_21 (Nat.le_of_ble_eq_true rfl) HPg_10 rfl ?_
  refine ev_iload_n (i := 1) 5 dX6_isOver_4 rfl rfl rfl ?_
  obtain ⟨x1, hx1, hF⟩ := tv_bind hF
  refine ev_iaload 6 dX6_isOver_5 rfl (Nat.le_of_ble_eq_true rfl) HPg_14 hx1 ?_
  refine ev_bipush 8 dX6_isOver_6 rfl kB_m9 ?_
  refine ev_icmp_eq 15 11 dX6_isOver_8 rfl rfl (fun hc135 => ?_) (fun hc135 => ?_)
  · rw [if_pos hc135] at hF
    refine ev_iconst 16 dX6_isOver_15 rfl kI_0 ?_
    have hF := Option.some.inj hF
    subst hF
    exact ev_ireturn dX6_isOver_16 rfl rfl
  · rw [if_neg hc135] at hF
    refine ev_iconst 12 dX6_isOver_11 rfl kI_1 ?_
    refine ev_goto 16 dX6_isOver_12 rfl ?_
    have hF := Option.some.inj hF
    subst hF
    exact ev_ireturn dX6_isOver_16 rfl rfl

set_option maxRecDepth 100000 in
set_option maxHeartbeats 4000000 in
theorem R_X6_mayGrade {g : tv_G} {l : Launch} {si : Nat → Int32} {sa : Nat → Nat → Int32} {hs : Nat → (Nat → Int32) × (Nat → Nat → Int32)} {tx : Nat → Int32} {tl : Int32} {hc : Int32} {hn : Int32} {v : Nat → Int32} {pa : Nat → Int32} {mt : Nat → Int32} {pm : Int32} {ty : Int32} {ra : Int32} {a1 : Int32} {a2 : Int32} {a3 : Int32} {p : Int32} (hF : F_X6_mayGrade sa a1 a2 a3 = some p) : tv_E g l yX6_mayGrade cX6_mayGrade 4 (some .boolean) 1 0 0 0 [.ref 10, .int a1, .int a2, .int a3] [] (HP si sa hs tx tl hc hn v pa mt pm ty ra) (some (.int p)) (HP si sa hs tx tl hc hn v pa mt pm ty ra) := by
  unfold F_X6_mayGrade at hF
  refine ev_aload_n (i := 0) 1 dX6_mayGrade_0 rfl rfl rfl ?_
  refine ev_iload_n (i := 2) 2 dX6_mayGrade_1 rfl rfl rfl ?_
  obtain ⟨x1, hx1, hF⟩ := tv_bind hF
  refine ev_callVi (i := 10) 5 [.int a2] [] dX6_mayGrade_2 rfl okV_X6_54 rfl rfl (Nat.le_of_ble_eq_true rfl) (Nat.le_of_ble_eq_true rfl) HPg_10 rfl (Nat.le_of_ble_eq_true rfl) (Nat.le_of_ble_eq_true rfl) (R_X6_isOver hx1) ?_
  refine ev_if_eq 21 8 dX6_mayGrade_5 rfl rfl (fun hc136 => ?_) (fun hc136 => ?_)
  · rw [if_pos hc136] at hF
    refine ev_iconst 22 dX6_mayGrade_21 rfl kI_0 ?_
    have hF := Option.some.inj hF
    subst hF
    exact ev_ireturn dX6_mayGrade_22 rfl rfl
  · rw [if_neg hc136] at hF
    refine ev_iload_n (i := 3) 9 dX6_mayGrade_8 rfl rfl rfl ?_
    refine ev_aload_n (i := 0) 10 dX6_mayGrade_9 rfl rfl rfl ?_
    refine ev_getfield 13 dX6_mayGrade_10 rfl okf_X6_21 (Nat.le_of_ble_eq_true rfl) HPg_10 rfl ?_
    refine ev_iload_n (i := 2) 14 dX6_mayGrade_13 rfl rfl rfl ?_
    obtain ⟨x2, hx2, hF⟩ := tv_bind hF
    refine ev_iaload 15 dX6_mayGrade_14 rfl (Nat.le_of_ble_eq_true rfl) HPg_14 hx2 ?_
    refine ev_isub 16 dX6_mayGrade_15 rfl ?_
    refine ev_bipush 18 dX6_mayGrade_16 rfl kB_50 ?_
    refine ev_icmp_le 23 21 dX6_mayGrade_18 rfl rfl (fun hc137 => ?_) (fun hc137 => ?_)
    · rw [if_pos hc137] at hF
      refine ev_iload_n (i := 1) 24 dX6_mayGrade_23 rfl rfl rfl ?_
      refine ev_aload_n (i := 0) 25 dX6_mayGrade_24 rfl rfl rfl ?_
      refine ev_getfield 28 dX6_mayGrade_25 rfl okf_X6_9 (Nat.le_of_ble_eq_true rfl) HPg_10 rfl ?_
      refine ev_iload_n (i := 2) 29 dX6_mayGrade_28 rfl rfl rfl ?_
      obtain ⟨x3, hx3, hF⟩ := tv_bind hF
      refine ev_iaload 30 dX6_mayGrade_29 rfl (Nat.le_of_ble_eq_true rfl) HPg_11 hx3 ?_
      refine ev_icmp_eq 50 33 dX6_mayGrade_30 rfl rfl (fun hc138 => ?_) (fun hc138 => ?_)
      · rw [if_pos hc138] at hF
        refine ev_iconst 51 dX6_mayGrade_50 rfl kI_0 ?_
        have hF := Option.some.inj hF
        subst hF
        exact ev_ireturn dX6_mayGrade_51 rfl rfl
      · rw [if_neg hc138] at hF
        refine ev_aload_n (i := 0) 34 dX6_mayGrade_33 rfl rfl rfl ?_
        refine ev_getfield 37 dX6_mayGrade_34 rfl okf_X6_30 (Nat.le_of_ble_eq_true rfl) HPg_10 rfl ?_
        refine ev_iload_n (i := 2) 38 dX6_mayGrade_37 rfl rfl rfl ?_
        obtain ⟨x4, hx4, hF⟩ := tv_bind hF
        refine ev_iaload 39 dX6_mayGrade_38 rfl (Nat.le_of_ble_eq_true rfl) HPg_17 hx4 ?_
        refine ev_iload_n (i := 1) 40 dX6_mayGrade_39 rfl rfl rfl ?_
        refine ev_callSi 43 [.int x4, .int a1] [] dX6_mayGrade_40 rfl okS_X6_58 rfl rfl (Nat.le_of_ble_eq_true rfl) rfl (Nat.le_of_ble_eq_true rfl) (Nat.le_of_ble_eq_true rfl) (R_X7_has rfl) ?_
        refine ev_if_eq 50 46 dX6_mayGrade_43 rfl rfl (fun hc139 => ?_) (fun hc139 => ?_)
        · rw [if_pos hc139] at hF
          refine ev_iconst 51 dX6_mayGrade_50 rfl kI_0 ?_
          have hF := Option.some.inj hF
          subst hF
          exact ev_ireturn dX6_mayGrade_51 rfl rfl
        · rw [if_neg hc139] at hF
          refine ev_iconst 47 dX6_mayGrade_46 rfl kI_1 ?_
          refine ev_goto 51 dX6_mayGrade_47 rfl ?_
          have hF := Option.some.inj hF
          subst hF
          exact ev_ireturn dX6_mayGrade_51 rfl rfl
    · rw [if_neg hc137] at hF
      refine ev_iconst 22 dX6_mayGrade_21 rfl kI_0 ?_
      have hF := Option.some.inj hF
      subst hF
      exact ev_ireturn dX6_mayGrade_22 rfl rfl

set_option maxRecDepth 100000 in
set_option maxHeartbeats 4000000 in
theorem R_X6_putGrade {g : tv_G} {l : Launch} {si : Nat → Int32} {sa : Nat → Nat → Int32} {hs : Nat → (Nat → Int32) × (Nat → Nat → Int32)} {tx : Nat → Int32} {tl : Int32} {hc : Int32} {hn : Int32} {v : Nat → Int32} {pa : Nat → Int32} {mt : Nat → Int32} {pm : Int32} {ty : Int32} {ra : Int32} {a1 : Int32} {a2 : Int32} {a3 : Int32} {p : (Nat → Nat → Int32)} (hF : F_X6_putGrade sa a1 a2 a3 = some p) : tv_E g l yX6_putGrade cX6_putGrade 4 none 0 0 0 0 [.ref 10, .int a1, .int a2, .int a3] [] (HP si sa hs tx tl hc hn v pa mt pm ty ra) none (HP si p hs tx tl hc hn v pa mt pm ty ra) := by
  unfold F_X6_putGrade at hF
  refine ev_aload_n (i := 0) 1 dX6_putGrade_0 rfl rfl rfl ?_
  refine ev_getfield 4 dX6_putGrade_1 rfl okf_X6_33 (Nat.le_of_ble_eq_true rfl) HPg_10 rfl ?_
  refine ev_iload_n (i := 2) 5 dX6_putGrade_4 rfl rfl rfl ?_
  refine ev_bipush 7 dX6_putGrade_5 rfl kB_10 ?_
  refine ev_imul 8 dX6_putGrade_7 rfl ?_
  refine ev_iload_n (i := 1) 9 dX6_putGrade_8 rfl rfl rfl ?_
  refine ev_iadd 10 dX6_putGrade_9 rfl ?_
  refine ev_iload_n (i := 3) 11 dX6_putGrade_10 rfl rfl rfl ?_
  obtain ⟨x1, hx1, hF⟩ := tv_bind hF
  refine ev_iastore 12 dX6_putGrade_11 rfl (Nat.le_of_ble_eq_true rfl) HPg_18 hx1 HPa_18 ?_
  have hF := Option.some.inj hF
  subst hF
  exact ev_return dX6_putGrade_12 rfl

set_option maxRecDepth 100000 in
set_option maxHeartbeats 4000000 in
theorem R_X6_givenPoints {g : tv_G} {l : Launch} {si : Nat → Int32} {sa : Nat → Nat → Int32} {hs : Nat → (Nat → Int32) × (Nat → Nat → Int32)} {tx : Nat → Int32} {tl : Int32} {hc : Int32} {hn : Int32} {v : Nat → Int32} {pa : Nat → Int32} {mt : Nat → Int32} {pm : Int32} {ty : Int32} {ra : Int32} {a1 : Int32} {a2 : Int32} {p : Int32} (hF : F_X6_givenPoints sa a1 a2 = some p) : tv_E g l yX6_givenPoints cX6_givenPoints 3 (some .int) 0 0 0 0 [.ref 10, .int a1, .int a2] [] (HP si sa hs tx tl hc hn v pa mt pm ty ra) (some (.int p)) (HP si sa hs tx tl hc hn v pa mt pm ty ra) := by
  unfold F_X6_givenPoints at hF
  refine ev_aload_n (i := 0) 1 dX6_givenPoints_0 rfl rfl rfl ?_
  refine ev_getfield 4 dX6_givenPoints_1 rfl okf_X6_33 (Nat.le_of_ble_eq_true rfl) HPg_10 rfl ?_
  refine ev_iload_n (i := 2) 5 dX6_givenPoints_4 rfl rfl rfl ?_
  refine ev_bipush 7 dX6_givenPoints_5 rfl kB_10 ?_
  refine ev_imul 8 dX6_givenPoints_7 rfl ?_
  refine ev_iload_n (i := 1) 9 dX6_givenPoints_8 rfl rfl rfl ?_
  refine ev_iadd 10 dX6_givenPoints_9 rfl ?_
  obtain ⟨x1, hx1, hF⟩ := tv_bind hF
  refine ev_iaload 11 dX6_givenPoints_10 rfl (Nat.le_of_ble_eq_true rfl) HPg_18 hx1 ?_
  have hF := Option.some.inj hF
  subst hF
  exact ev_ireturn dX6_givenPoints_11 rfl rfl

set_option maxRecDepth 100000 in
set_option maxHeartbeats 4000000 in
theorem R_X6_countGrades_L4 {g : tv_G} {l : Launch} {si : Nat → Int32} {sa : Nat → Nat → Int32} {hs : Nat → (Nat → Int32) × (Nat → Nat → Int32)} {tx : Nat → Int32} {tl : Int32} {hc : Int32} {hn : Int32} {v : Nat → Int32} {pa : Nat → Int32} {mt : Nat → Int32} {pm : Int32} {ty : Int32} {ra : Int32} {l1 : Int32} {r : Option Value} {h' : tv_Hp} : ∀ (n : Nat) (l2 : Int32) (l3 : Int32)  (x : Int32), F_X6_countGrades_L4 sa l1 n l2 l3 = some x → tv_E g l yX6_countGrades cX6_countGrades 4 (some .int) 1 0 0 30 [.null, .null, .int x, .null] [] (HP si sa hs tx tl hc hn v pa mt pm ty ra) r h' → tv_E g l yX6_countGrades cX6_countGrades 4 (some .int) 1 0 0 4 [.ref 10, .int l1, .int l2, .int l3] [] (HP si sa hs tx tl hc hn v pa mt pm ty ra) r h' := by
  intro n
  induction n with
  | zero => intro l2 l3 x hF k; cases hF
  | succ n ih =>
      intro l2 l3 x hF k
      rw [F_X6_countGrades_L4] at hF
      refine ev_iload_n (i := 3) 5 dX6_countGrades_4 rfl rfl rfl ?_
      refine ev_bipush 7 dX6_countGrades_5 rfl kB_10 ?_
      refine ev_icmp_ge 30 10 dX6_countGrades_7 rfl rfl (fun hc140 => ?_) (fun hc140 => ?_)
      · rw [if_pos hc140] at hF
        have hF := Option.some.inj hF
        subst hF
        refine ev_weak [.null, .null, .int l2, .null] ⟨Or.inl rfl, ⟨Or.inl rfl, ⟨Or.inr rfl, ⟨Or.inl rfl, trivial⟩⟩⟩⟩ ?_
        exact k
      · rw [if_neg hc140] at hF
        refine ev_aload_n (i := 0) 11 dX6_countGrades_10 rfl rfl rfl ?_
        refine ev_iload_n (i := 3) 12 dX6_countGrades_11 rfl rfl rfl ?_
        refine ev_iload_n (i := 1) 13 dX6_countGrades_12 rfl rfl rfl ?_
        obtain ⟨x1, hx1, hF⟩ := tv_bind hF
        refine ev_callVi (i := 10) 16 [.int l3, .int l1] [] dX6_countGrades_13 rfl okV_X6_62 rfl rfl (Nat.le_of_ble_eq_true rfl) (Nat.le_of_ble_eq_true rfl) HPg_10 rfl (Nat.le_of_ble_eq_true rfl) (Nat.le_of_ble_eq_true rfl) (R_X6_givenPoints hx1) ?_
        refine ev_bipush 18 dX6_countGrades_16 rfl kB_m9 ?_
        refine ev_icmp_eq 24 21 dX6_countGrades_18 rfl rfl (fun hc141 => ?_) (fun hc141 => ?_)
        · rw [if_pos hc141] at hF
          refine ev_iinc (L2 := [.ref 10, .int l1, .int l2, .int (l3 + 1)]) 27 dX6_countGrades_24 rfl rfl (kA_1 _) (Nat.le_of_ble_eq_true rfl) rfl ?_
          refine ev_goto 4 dX6_countGrades_27 rfl ?_
          exact ih _ _ _ hF k
        · rw [if_neg hc141] at hF
          refine ev_iinc (L2 := [.ref 10, .int l1, .int (l2 + 1), .int l3]) 24 dX6_countGrades_21 rfl rfl (kA_1 _) (Nat.le_of_ble_eq_true rfl) rfl ?_
          refine ev_iinc (L2 := [.ref 10, .int l1, .int (l2 + 1), .int (l3 + 1)]) 27 dX6_countGrades_24 rfl rfl (kA_1 _) (Nat.le_of_ble_eq_true rfl) rfl ?_
          refine ev_goto 4 dX6_countGrades_27 rfl ?_
          exact ih _ _ _ hF k

set_option maxRecDepth 100000 in
set_option maxHeartbeats 4000000 in
theorem R_X6_countGrades {g : tv_G} {l : Launch} {si : Nat → Int32} {sa : Nat → Nat → Int32} {hs : Nat → (Nat → Int32) × (Nat → Nat → Int32)} {tx : Nat → Int32} {tl : Int32} {hc : Int32} {hn : Int32} {v : Nat → Int32} {pa : Nat → Int32} {mt : Nat → Int32} {pm : Int32} {ty : Int32} {ra : Int32} {a1 : Int32} {p : Int32} (hF : F_X6_countGrades sa a1 = some p) : tv_E g l yX6_countGrades cX6_countGrades 4 (some .int) 1 0 0 0 [.ref 10, .int a1, .null, .null] [] (HP si sa hs tx tl hc hn v pa mt pm ty ra) (some (.int p)) (HP si sa hs tx tl hc hn v pa mt pm ty ra) := by
  unfold F_X6_countGrades at hF
  refine ev_iconst 1 dX6_countGrades_0 rfl kI_0 ?_
  refine ev_istore_n (i := 2) (L2 := [.ref 10, .int a1, .int 0, .null]) 2 dX6_countGrades_1 rfl rfl (Nat.le_of_ble_eq_true rfl) rfl ?_
  refine ev_iconst 3 dX6_countGrades_2 rfl kI_0 ?_
  refine ev_istore_n (i := 3) (L2 := [.ref 10, .int a1, .int 0, .int 0]) 4 dX6_countGrades_3 rfl rfl (Nat.le_of_ble_eq_true rfl) rfl ?_
  obtain ⟨x2, hx2, hF⟩ := tv_bind hF
  refine R_X6_countGrades_L4 _ _ _ _ hx2 ?_
  refine ev_iload_n (i := 2) 31 dX6_countGrades_30 rfl rfl rfl ?_
  have hF := Option.some.inj hF
  subst hF
  exact ev_ireturn dX6_countGrades_31 rfl rfl

set_option maxRecDepth 100000 in
set_option maxHeartbeats 4000000 in
theorem R_X7_grade {g : tv_G} {l : Launch} {si : Nat → Int32} {sa : Nat → Nat → Int32} {hs : Nat → (Nat → Int32) × (Nat → Nat → Int32)} {tx : Nat → Int32} {tl : Int32} {hc : Int32} {hn : Int32} {v : Nat → Int32} {pa : Nat → Int32} {mt : Nat → Int32} {pm : Int32} {ty : Int32} {ra : Int32} {a1 : Int32} {a2 : Int32} {a3 : Int32} {a4 : Int32} {p : Int32 × (Nat → Nat → Int32) × (Nat → (Nat → Int32) × (Nat → Nat → Int32)) × Int32 × Int32} (hF : F_X7_grade si sa hs hc hn a1 a2 a3 a4 = some p) : tv_E g l yX7_grade cX7_grade 5 (some .int) 5 0 0 0 [.ref 0, .int a1, .int a2, .int a3, .int a4] [] (HP si sa hs tx tl hc hn v pa mt pm ty ra) (some (.int p.1)) (HP si p.2.1 p.2.2.1 tx tl p.2.2.2.1 p.2.2.2.2 v pa mt pm ty ra) := by
  unfold F_X7_grade at hF
  refine ev_aload_n (i := 0) 1 dX7_grade_0 rfl rfl rfl ?_
  refine ev_getfield 4 dX7_grade_1 rfl okf_X7_19 (Nat.le_of_ble_eq_true rfl) HPg_0 rfl ?_
  refine ev_iload_n (i := 1) 5 dX7_grade_4 rfl rfl rfl ?_
  refine ev_callVi (i := 3) 8 [.int a1] [] dX7_grade_5 rfl okV_X7_55 rfl rfl (Nat.le_of_ble_eq_true rfl) (Nat.le_of_ble_eq_true rfl) HPg_3 rfl (Nat.le_of_ble_eq_true rfl) (Nat.le_of_ble_eq_true rfl) (R_X5_isMember rfl) ?_
  refine ev_if_eq 25 11 dX7_grade_8 rfl rfl (fun hc142 => ?_) (fun hc142 => ?_)
  · rw [if_pos hc142] at hF
    refine ev_iconst 26 dX7_grade_25 rfl kI_m1 ?_
    have hF := Option.some.inj hF
    subst hF
    exact ev_ireturn dX7_grade_26 rfl rfl
  · rw [if_neg hc142] at hF
    refine ev_aload_n (i := 0) 12 dX7_grade_11 rfl rfl rfl ?_
    refine ev_getfield 15 dX7_grade_12 rfl okf_X7_19 (Nat.le_of_ble_eq_true rfl) HPg_0 rfl ?_
    refine ev_getfield 18 dX7_grade_15 rfl okf_X7_96 (Nat.le_of_ble_eq_true rfl) HPg_3 rfl ?_
    refine ev_iload_n (i := 2) 19 dX7_grade_18 rfl rfl rfl ?_
    refine ev_callVi (i := 10) 22 [.int a2] [] dX7_grade_19 rfl okV_X7_168 rfl rfl (Nat.le_of_ble_eq_true rfl) (Nat.le_of_ble_eq_true rfl) HPg_10 rfl (Nat.le_of_ble_eq_true rfl) (Nat.le_of_ble_eq_true rfl) (R_X6_isTerm rfl) ?_
    refine ev_if_ne 27 25 dX7_grade_22 rfl rfl (fun hc143 => ?_) (fun hc143 => ?_)
    · rw [if_neg hc143] at hF
      refine ev_iload_n (i := 3) 28 dX7_grade_27 rfl rfl rfl ?_
      refine ev_if_lt 37 31 dX7_grade_28 rfl rfl (fun hc144 => ?_) (fun hc144 => ?_)
      · rw [if_pos hc144] at hF
        refine ev_iconst 38 dX7_grade_37 rfl kI_m1 ?_
        have hF := Option.some.inj hF
        subst hF
        exact ev_ireturn dX7_grade_38 rfl rfl
      · rw [if_neg hc144] at hF
        refine ev_iload_n (i := 3) 32 dX7_grade_31 rfl rfl rfl ?_
        refine ev_bipush 34 dX7_grade_32 rfl kB_10 ?_
        refine ev_icmp_le 39 37 dX7_grade_34 rfl rfl (fun hc145 => ?_) (fun hc145 => ?_)
        · rw [if_pos hc145] at hF
          refine ev_aload_n (i := 0) 40 dX7_grade_39 rfl rfl rfl ?_
          refine ev_getfield 43 dX7_grade_40 rfl okf_X7_19 (Nat.le_of_ble_eq_true rfl) HPg_0 rfl ?_
          refine ev_getfield 46 dX7_grade_43 rfl okf_X7_96 (Nat.le_of_ble_eq_true rfl) HPg_3 rfl ?_
          refine ev_iload_n (i := 1) 47 dX7_grade_46 rfl rfl rfl ?_
          refine ev_iload_n (i := 2) 48 dX7_grade_47 rfl rfl rfl ?_
          refine ev_aload_n (i := 0) 49 dX7_grade_48 rfl rfl rfl ?_
          refine ev_getfield 52 dX7_grade_49 rfl okf_X7_19 (Nat.le_of_ble_eq_true rfl) HPg_0 rfl ?_
          refine ev_getfield 55 dX7_grade_52 rfl okf_X7_76 (Nat.le_of_ble_eq_true rfl) HPg_3 rfl ?_
          obtain ⟨x1, hx1, hF⟩ := tv_bind hF
          refine ev_callVi (i := 10) 58 [.int a1, .int a2, .int (si 0)] [] dX7_grade_55 rfl okV_X7_171 rfl rfl (Nat.le_of_ble_eq_true rfl) (Nat.le_of_ble_eq_true rfl) HPg_10 rfl (Nat.le_of_ble_eq_true rfl) (Nat.le_of_ble_eq_true rfl) (R_X6_mayGrade hx1) ?_
          refine ev_if_ne 64 61 dX7_grade_58 rfl rfl (fun hc146 => ?_) (fun hc146 => ?_)
          · rw [if_neg hc146] at hF
            refine ev_iload 66 dX7_grade_64 rfl rfl ?_
            refine ev_bipush 68 dX7_grade_66 rfl kB_31 ?_
            refine ev_iload_n (i := 2) 69 dX7_grade_68 rfl rfl rfl ?_
            refine ev_imul 70 dX7_grade_69 rfl ?_
            refine ev_bipush 72 dX7_grade_70 rfl kB_17 ?_
            refine ev_iload_n (i := 1) 73 dX7_grade_72 rfl rfl rfl ?_
            refine ev_imul 74 dX7_grade_73 rfl ?_
            refine ev_iadd 75 dX7_grade_74 rfl ?_
            refine ev_bipush 77 dX7_grade_75 rfl kB_7 ?_
            refine ev_iload_n (i := 3) 78 dX7_grade_77 rfl rfl rfl ?_
            refine ev_imul 79 dX7_grade_78 rfl ?_
            refine ev_iadd 80 dX7_grade_79 rfl ?_
            refine ev_aload_n (i := 0) 81 dX7_grade_80 rfl rfl rfl ?_
            refine ev_getfield 84 dX7_grade_81 rfl okf_X7_19 (Nat.le_of_ble_eq_true rfl) HPg_0 rfl ?_
            refine ev_getfield 87 dX7_grade_84 rfl okf_X7_175 (Nat.le_of_ble_eq_true rfl) HPg_3 rfl ?_
            refine ev_iload_n (i := 1) 88 dX7_grade_87 rfl rfl rfl ?_
            obtain ⟨x2, hx2, hF⟩ := tv_bind hF
            refine ev_iaload 89 dX7_grade_88 rfl (Nat.le_of_ble_eq_true rfl) HPg_5 hx2 ?_
            refine ev_iadd 90 dX7_grade_89 rfl ?_
            refine ev_sipush 93 dX7_grade_90 rfl kS_997 ?_
            refine ev_irem 94 dX7_grade_93 rfl (by decide) ?_
            refine ev_icmp_eq 100 97 dX7_grade_94 rfl rfl (fun hc147 => ?_) (fun hc147 => ?_)
            · rw [if_pos hc147] at hF
              refine ev_aload_n (i := 0) 101 dX7_grade_100 rfl rfl rfl ?_
              refine ev_getfield 104 dX7_grade_101 rfl okf_X7_26 (Nat.le_of_ble_eq_true rfl) HPg_0 rfl ?_
              refine ev_aload_n (i := 0) 105 dX7_grade_104 rfl rfl rfl ?_
              refine ev_getfield 108 dX7_grade_105 rfl okf_X7_19 (Nat.le_of_ble_eq_true rfl) HPg_0 rfl ?_
              obtain ⟨x3, hx3, hF⟩ := tv_bind hF
              refine ev_callVv (i := 23) 111 [.ref 3] [] dX7_grade_108 rfl okV_X7_37 rfl rfl (Nat.le_of_ble_eq_true rfl) (Nat.le_of_ble_eq_true rfl) HPg_23 rfl (Nat.le_of_ble_eq_true rfl) (Nat.le_of_ble_eq_true rfl) (R_X3_keep hx3) ?_
              refine ev_aload_n (i := 0) 112 dX7_grade_111 rfl rfl rfl ?_
              refine ev_getfield 115 dX7_grade_112 rfl okf_X7_19 (Nat.le_of_ble_eq_true rfl) HPg_0 rfl ?_
              refine ev_getfield 118 dX7_grade_115 rfl okf_X7_96 (Nat.le_of_ble_eq_true rfl) HPg_3 rfl ?_
              refine ev_iload_n (i := 1) 119 dX7_grade_118 rfl rfl rfl ?_
              refine ev_iload_n (i := 2) 120 dX7_grade_119 rfl rfl rfl ?_
              refine ev_iload_n (i := 3) 121 dX7_grade_120 rfl rfl rfl ?_
              obtain ⟨x4, hx4, hF⟩ := tv_bind hF
              refine ev_callVv (i := 10) 124 [.int a1, .int a2, .int a3] [] dX7_grade_121 rfl okV_X7_178 rfl rfl (Nat.le_of_ble_eq_true rfl) (Nat.le_of_ble_eq_true rfl) HPg_10 rfl (Nat.le_of_ble_eq_true rfl) (Nat.le_of_ble_eq_true rfl) (R_X6_putGrade hx4) ?_
              refine ev_aload_n (i := 0) 125 dX7_grade_124 rfl rfl rfl ?_
              refine ev_getfield 128 dX7_grade_125 rfl okf_X7_19 (Nat.le_of_ble_eq_true rfl) HPg_0 rfl ?_
              refine ev_getfield 131 dX7_grade_128 rfl okf_X7_96 (Nat.le_of_ble_eq_true rfl) HPg_3 rfl ?_
              refine ev_iload_n (i := 2) 132 dX7_grade_131 rfl rfl rfl ?_
              obtain ⟨x5, hx5, hF⟩ := tv_bind hF
              refine ev_callVi (i := 10) 135 [.int a2] [] dX7_grade_132 rfl okV_X7_182 rfl rfl (Nat.le_of_ble_eq_true rfl) (Nat.le_of_ble_eq_true rfl) HPg_10 rfl (Nat.le_of_ble_eq_true rfl) (Nat.le_of_ble_eq_true rfl) (R_X6_countGrades hx5) ?_
              have hF := Option.some.inj hF
              subst hF
              exact ev_ireturn dX7_grade_135 rfl rfl
            · rw [if_neg hc147] at hF
              refine ev_bipush 99 dX7_grade_97 rfl kB_m5 ?_
              have hF := Option.some.inj hF
              subst hF
              exact ev_ireturn dX7_grade_99 rfl rfl
          · rw [if_pos hc146] at hF
            refine ev_bipush 63 dX7_grade_61 rfl kB_m2 ?_
            have hF := Option.some.inj hF
            subst hF
            exact ev_ireturn dX7_grade_63 rfl rfl
        · rw [if_neg hc145] at hF
          refine ev_iconst 38 dX7_grade_37 rfl kI_m1 ?_
          have hF := Option.some.inj hF
          subst hF
          exact ev_ireturn dX7_grade_38 rfl rfl
    · rw [if_pos hc143] at hF
      refine ev_iconst 26 dX7_grade_25 rfl kI_m1 ?_
      have hF := Option.some.inj hF
      subst hF
      exact ev_ireturn dX7_grade_26 rfl rfl

set_option maxRecDepth 100000 in
set_option maxHeartbeats 4000000 in
theorem R_X6_number {g : tv_G} {l : Launch} {si : Nat → Int32} {sa : Nat → Nat → Int32} {hs : Nat → (Nat → Int32) × (Nat → Nat → Int32)} {tx : Nat → Int32} {tl : Int32} {hc : Int32} {hn : Int32} {v : Nat → Int32} {pa : Nat → Int32} {mt : Nat → Int32} {pm : Int32} {ty : Int32} {ra : Int32} {a1 : Int32} {a2 : Int32} {p : Int32} (hF : F_X6_number sa a1 a2 = some p) : tv_E g l yX6_number cX6_number 3 (some .int) 2 0 0 0 [.ref 10, .int a1, .int a2] [] (HP si sa hs tx tl hc hn v pa mt pm ty ra) (some (.int p)) (HP si sa hs tx tl hc hn v pa mt pm ty ra) := by
  unfold F_X6_number at hF
  refine ev_iload_n (i := 2) 1 dX6_number_0 rfl rfl rfl ?_
  by_cases hc148 : a2 = 0
  · rw [if_pos hc148] at hF
    refine ev_tableIn (off := 43) 44 dX6_number_1 (by rw [hc148]; decide) (by rw [hc148]; decide) (by rw [hc148]; rfl) rfl ?_
    refine ev_aload_n (i := 0) 45 dX6_number_44 rfl rfl rfl ?_
    refine ev_getfield 48 dX6_number_45 rfl okf_X6_9 (Nat.le_of_ble_eq_true rfl) HPg_10 rfl ?_
    refine ev_iload_n (i := 1) 49 dX6_number_48 rfl rfl rfl ?_
    obtain ⟨x1, hx1, hF⟩ := tv_bind hF
    refine ev_iaload 50 dX6_number_49 rfl (Nat.le_of_ble_eq_true rfl) HPg_11 hx1 ?_
    have hF := Option.some.inj hF
    subst hF
    exact ev_ireturn dX6_number_50 rfl rfl
  rw [if_neg hc148] at hF
  by_cases hc149 : a2 = 1
  · rw [if_pos hc149] at hF
    refine ev_tableIn (off := 50) 51 dX6_number_1 (by rw [hc149]; decide) (by rw [hc149]; decide) (by rw [hc149]; rfl) rfl ?_
    refine ev_aload_n (i := 0) 52 dX6_number_51 rfl rfl rfl ?_
    refine ev_getfield 55 dX6_number_52 rfl okf_X6_15 (Nat.le_of_ble_eq_true rfl) HPg_10 rfl ?_
    refine ev_iload_n (i := 1) 56 dX6_number_55 rfl rfl rfl ?_
    obtain ⟨x2, hx2, hF⟩ := tv_bind hF
    refine ev_iaload 57 dX6_number_56 rfl (Nat.le_of_ble_eq_true rfl) HPg_12 hx2 ?_
    have hF := Option.some.inj hF
    subst hF
    exact ev_ireturn dX6_number_57 rfl rfl
  rw [if_neg hc149] at hF
  by_cases hc150 : a2 = 2
  · rw [if_pos hc150] at hF
    refine ev_tableIn (off := 57) 58 dX6_number_1 (by rw [hc150]; decide) (by rw [hc150]; decide) (by rw [hc150]; rfl) rfl ?_
    refine ev_aload_n (i := 0) 59 dX6_number_58 rfl rfl rfl ?_
    refine ev_getfield 62 dX6_number_59 rfl okf_X6_18 (Nat.le_of_ble_eq_true rfl) HPg_10 rfl ?_
    refine ev_iload_n (i := 1) 63 dX6_number_62 rfl rfl rfl ?_
    obtain ⟨x3, hx3, hF⟩ := tv_bind hF
    refine ev_iaload 64 dX6_number_63 rfl (Nat.le_of_ble_eq_true rfl) HPg_13 hx3 ?_
    have hF := Option.some.inj hF
    subst hF
    exact ev_ireturn dX6_number_64 rfl rfl
  rw [if_neg hc150] at hF
  by_cases hc151 : a2 = 3
  · rw [if_pos hc151] at hF
    refine ev_tableIn (off := 64) 65 dX6_number_1 (by rw [hc151]; decide) (by rw [hc151]; decide) (by rw [hc151]; rfl) rfl ?_
    refine ev_aload_n (i := 0) 66 dX6_number_65 rfl rfl rfl ?_
    refine ev_getfield 69 dX6_number_66 rfl okf_X6_21 (Nat.le_of_ble_eq_true rfl) HPg_10 rfl ?_
    refine ev_iload_n (i := 1) 70 dX6_number_69 rfl rfl rfl ?_
    obtain ⟨x4, hx4, hF⟩ := tv_bind hF
    refine ev_iaload 71 dX6_number_70 rfl (Nat.le_of_ble_eq_true rfl) HPg_14 hx4 ?_
    have hF := Option.some.inj hF
    subst hF
    exact ev_ireturn dX6_number_71 rfl rfl
  rw [if_neg hc151] at hF
  by_cases hc152 : a2 = 4
  · rw [if_pos hc152] at hF
    refine ev_tableIn (off := 71) 72 dX6_number_1 (by rw [hc152]; decide) (by rw [hc152]; decide) (by rw [hc152]; rfl) rfl ?_
    refine ev_aload_n (i := 0) 73 dX6_number_72 rfl rfl rfl ?_
    refine ev_getfield 76 dX6_number_73 rfl okf_X6_24 (Nat.le_of_ble_eq_true rfl) HPg_10 rfl ?_
    refine ev_iload_n (i := 1) 77 dX6_number_76 rfl rfl rfl ?_
    obtain ⟨x5, hx5, hF⟩ := tv_bind hF
    refine ev_iaload 78 dX6_number_77 rfl (Nat.le_of_ble_eq_true rfl) HPg_15 hx5 ?_
    have hF := Option.some.inj hF
    subst hF
    exact ev_ireturn dX6_number_78 rfl rfl
  rw [if_neg hc152] at hF
  by_cases hc153 : a2 = 5
  · rw [if_pos hc153] at hF
    refine ev_tableIn (off := 78) 79 dX6_number_1 (by rw [hc153]; decide) (by rw [hc153]; decide) (by rw [hc153]; rfl) rfl ?_
    refine ev_aload_n (i := 0) 80 dX6_number_79 rfl rfl rfl ?_
    refine ev_getfield 83 dX6_number_80 rfl okf_X6_27 (Nat.le_of_ble_eq_true rfl) HPg_10 rfl ?_
    refine ev_iload_n (i := 1) 84 dX6_number_83 rfl rfl rfl ?_
    obtain ⟨x6, hx6, hF⟩ := tv_bind hF
    refine ev_iaload 85 dX6_number_84 rfl (Nat.le_of_ble_eq_true rfl) HPg_16 hx6 ?_
    have hF := Option.some.inj hF
    subst hF
    exact ev_ireturn dX6_number_85 rfl rfl
  rw [if_neg hc153] at hF
  by_cases hc154 : a2 = 6
  · rw [if_pos hc154] at hF
    refine ev_tableIn (off := 85) 86 dX6_number_1 (by rw [hc154]; decide) (by rw [hc154]; decide) (by rw [hc154]; rfl) rfl ?_
    refine ev_aload_n (i := 0) 87 dX6_number_86 rfl rfl rfl ?_
    refine ev_iload_n (i := 1) 88 dX6_number_87 rfl rfl rfl ?_
    obtain ⟨x7, hx7, hF⟩ := tv_bind hF
    refine ev_callVi (i := 10) 91 [.int a1] [] dX6_number_88 rfl okV_X6_66 rfl rfl (Nat.le_of_ble_eq_true rfl) (Nat.le_of_ble_eq_true rfl) HPg_10 rfl (Nat.le_of_ble_eq_true rfl) (Nat.le_of_ble_eq_true rfl) (R_X6_countGrades hx7) ?_
    have hF := Option.some.inj hF
    subst hF
    exact ev_ireturn dX6_number_91 rfl rfl
  rw [if_neg hc154] at hF
  refine ev_tableOut 92 dX6_number_1 (tv_out7 hc148 hc149 hc150 hc151 hc152 hc153 hc154) rfl ?_
  refine ev_aload_n (i := 0) 93 dX6_number_92 rfl rfl rfl ?_
  refine ev_iload_n (i := 1) 94 dX6_number_93 rfl rfl rfl ?_
  obtain ⟨x8, hx8, hF⟩ := tv_bind hF
  refine ev_callVi (i := 10) 97 [.int a1] [] dX6_number_94 rfl okV_X6_54 rfl rfl (Nat.le_of_ble_eq_true rfl) (Nat.le_of_ble_eq_true rfl) HPg_10 rfl (Nat.le_of_ble_eq_true rfl) (Nat.le_of_ble_eq_true rfl) (R_X6_isOver hx8) ?_
  refine ev_if_eq 108 100 dX6_number_97 rfl rfl (fun hc155 => ?_) (fun hc155 => ?_)
  · rw [if_pos hc155] at hF
    refine ev_bipush 110 dX6_number_108 rfl kB_m9 ?_
    have hF := Option.some.inj hF
    subst hF
    exact ev_ireturn dX6_number_110 rfl rfl
  · rw [if_neg hc155] at hF
    refine ev_aload_n (i := 0) 101 dX6_number_100 rfl rfl rfl ?_
    refine ev_iload_n (i := 1) 102 dX6_number_101 rfl rfl rfl ?_
    obtain ⟨x9, hx9, hF⟩ := tv_bind hF
    refine ev_callVi (i := 10) 105 [.int a1] [] dX6_number_102 rfl okV_X6_70 rfl rfl (Nat.le_of_ble_eq_true rfl) (Nat.le_of_ble_eq_true rfl) HPg_10 rfl (Nat.le_of_ble_eq_true rfl) (Nat.le_of_ble_eq_true rfl) (R_X6_score hx9) ?_
    refine ev_goto 110 dX6_number_105 rfl ?_
    have hF := Option.some.inj hF
    subst hF
    exact ev_ireturn dX6_number_110 rfl rfl

set_option maxRecDepth 100000 in
set_option maxHeartbeats 4000000 in
theorem R_X7_term {g : tv_G} {l : Launch} {si : Nat → Int32} {sa : Nat → Nat → Int32} {hs : Nat → (Nat → Int32) × (Nat → Nat → Int32)} {tx : Nat → Int32} {tl : Int32} {hc : Int32} {hn : Int32} {v : Nat → Int32} {pa : Nat → Int32} {mt : Nat → Int32} {pm : Int32} {ty : Int32} {ra : Int32} {a1 : Int32} {a2 : Int32} {p : Int32} (hF : F_X7_term si sa a1 a2 = some p) : tv_E g l yX7_term cX7_term 3 (some .int) 3 0 0 0 [.ref 0, .int a1, .int a2] [] (HP si sa hs tx tl hc hn v pa mt pm ty ra) (some (.int p)) (HP si sa hs tx tl hc hn v pa mt pm ty ra) := by
  unfold F_X7_term at hF
  refine ev_aload_n (i := 0) 1 dX7_term_0 rfl rfl rfl ?_
  refine ev_getfield 4 dX7_term_1 rfl okf_X7_19 (Nat.le_of_ble_eq_true rfl) HPg_0 rfl ?_
  refine ev_getfield 7 dX7_term_4 rfl okf_X7_96 (Nat.le_of_ble_eq_true rfl) HPg_3 rfl ?_
  refine ev_iload_n (i := 1) 8 dX7_term_7 rfl rfl rfl ?_
  refine ev_callVi (i := 10) 11 [.int a1] [] dX7_term_8 rfl okV_X7_168 rfl rfl (Nat.le_of_ble_eq_true rfl) (Nat.le_of_ble_eq_true rfl) HPg_10 rfl (Nat.le_of_ble_eq_true rfl) (Nat.le_of_ble_eq_true rfl) (R_X6_isTerm rfl) ?_
  refine ev_if_eq 24 14 dX7_term_11 rfl rfl (fun hc156 => ?_) (fun hc156 => ?_)
  · rw [if_pos hc156] at hF
    refine ev_iconst 25 dX7_term_24 rfl kI_m1 ?_
    have hF := Option.some.inj hF
    subst hF
    exact ev_ireturn dX7_term_25 rfl rfl
  · rw [if_neg hc156] at hF
    refine ev_iload_n (i := 2) 15 dX7_term_14 rfl rfl rfl ?_
    refine ev_if_lt 24 18 dX7_term_15 rfl rfl (fun hc157 => ?_) (fun hc157 => ?_)
    · rw [if_pos hc157] at hF
      refine ev_iconst 25 dX7_term_24 rfl kI_m1 ?_
      have hF := Option.some.inj hF
      subst hF
      exact ev_ireturn dX7_term_25 rfl rfl
    · rw [if_neg hc157] at hF
      refine ev_iload_n (i := 2) 19 dX7_term_18 rfl rfl rfl ?_
      refine ev_bipush 21 dX7_term_19 rfl kB_8 ?_
      refine ev_icmp_lt 26 24 dX7_term_21 rfl rfl (fun hc158 => ?_) (fun hc158 => ?_)
      · rw [if_pos hc158] at hF
        refine ev_aload_n (i := 0) 27 dX7_term_26 rfl rfl rfl ?_
        refine ev_getfield 30 dX7_term_27 rfl okf_X7_19 (Nat.le_of_ble_eq_true rfl) HPg_0 rfl ?_
        refine ev_getfield 33 dX7_term_30 rfl okf_X7_96 (Nat.le_of_ble_eq_true rfl) HPg_3 rfl ?_
        refine ev_iload_n (i := 1) 34 dX7_term_33 rfl rfl rfl ?_
        refine ev_iload_n (i := 2) 35 dX7_term_34 rfl rfl rfl ?_
        obtain ⟨x1, hx1, hF⟩ := tv_bind hF
        refine ev_callVi (i := 10) 38 [.int a1, .int a2] [] dX7_term_35 rfl okV_X7_185 rfl rfl (Nat.le_of_ble_eq_true rfl) (Nat.le_of_ble_eq_true rfl) HPg_10 rfl (Nat.le_of_ble_eq_true rfl) (Nat.le_of_ble_eq_true rfl) (R_X6_number hx1) ?_
        have hF := Option.some.inj hF
        subst hF
        exact ev_ireturn dX7_term_38 rfl rfl
      · rw [if_neg hc158] at hF
        refine ev_iconst 25 dX7_term_24 rfl kI_m1 ?_
        have hF := Option.some.inj hF
        subst hF
        exact ev_ireturn dX7_term_25 rfl rfl

set_option maxRecDepth 100000 in
set_option maxHeartbeats 4000000 in
theorem R_X7_points {g : tv_G} {l : Launch} {si : Nat → Int32} {sa : Nat → Nat → Int32} {hs : Nat → (Nat → Int32) × (Nat → Nat → Int32)} {tx : Nat → Int32} {tl : Int32} {hc : Int32} {hn : Int32} {v : Nat → Int32} {pa : Nat → Int32} {mt : Nat → Int32} {pm : Int32} {ty : Int32} {ra : Int32} {a1 : Int32} {a2 : Int32} {p : Int32} (hF : F_X7_points si sa a1 a2 = some p) : tv_E g l yX7_points cX7_points 3 (some .int) 1 0 0 0 [.ref 0, .int a1, .int a2] [] (HP si sa hs tx tl hc hn v pa mt pm ty ra) (some (.int p)) (HP si sa hs tx tl hc hn v pa mt pm ty ra) := by
  unfold F_X7_points at hF
  refine ev_aload_n (i := 0) 1 dX7_points_0 rfl rfl rfl ?_
  refine ev_getfield 4 dX7_points_1 rfl okf_X7_19 (Nat.le_of_ble_eq_true rfl) HPg_0 rfl ?_
  refine ev_iload_n (i := 1) 5 dX7_points_4 rfl rfl rfl ?_
  refine ev_callVi (i := 3) 8 [.int a1] [] dX7_points_5 rfl okV_X7_55 rfl rfl (Nat.le_of_ble_eq_true rfl) (Nat.le_of_ble_eq_true rfl) HPg_3 rfl (Nat.le_of_ble_eq_true rfl) (Nat.le_of_ble_eq_true rfl) (R_X5_isMember rfl) ?_
  refine ev_if_eq 25 11 dX7_points_8 rfl rfl (fun hc159 => ?_) (fun hc159 => ?_)
  · rw [if_pos hc159] at hF
    refine ev_iconst 26 dX7_points_25 rfl kI_m1 ?_
    have hF := Option.some.inj hF
    subst hF
    exact ev_ireturn dX7_points_26 rfl rfl
  · rw [if_neg hc159] at hF
    refine ev_aload_n (i := 0) 12 dX7_points_11 rfl rfl rfl ?_
    refine ev_getfield 15 dX7_points_12 rfl okf_X7_19 (Nat.le_of_ble_eq_true rfl) HPg_0 rfl ?_
    refine ev_getfield 18 dX7_points_15 rfl okf_X7_96 (Nat.le_of_ble_eq_true rfl) HPg_3 rfl ?_
    refine ev_iload_n (i := 2) 19 dX7_points_18 rfl rfl rfl ?_
    refine ev_callVi (i := 10) 22 [.int a2] [] dX7_points_19 rfl okV_X7_168 rfl rfl (Nat.le_of_ble_eq_true rfl) (Nat.le_of_ble_eq_true rfl) HPg_10 rfl (Nat.le_of_ble_eq_true rfl) (Nat.le_of_ble_eq_true rfl) (R_X6_isTerm rfl) ?_
    refine ev_if_ne 27 25 dX7_points_22 rfl rfl (fun hc160 => ?_) (fun hc160 => ?_)
    · rw [if_neg hc160] at hF
      refine ev_aload_n (i := 0) 28 dX7_points_27 rfl rfl rfl ?_
      refine ev_getfield 31 dX7_points_28 rfl okf_X7_19 (Nat.le_of_ble_eq_true rfl) HPg_0 rfl ?_
      refine ev_getfield 34 dX7_points_31 rfl okf_X7_96 (Nat.le_of_ble_eq_true rfl) HPg_3 rfl ?_
      refine ev_iload_n (i := 1) 35 dX7_points_34 rfl rfl rfl ?_
      refine ev_iload_n (i := 2) 36 dX7_points_35 rfl rfl rfl ?_
      obtain ⟨x1, hx1, hF⟩ := tv_bind hF
      refine ev_callVi (i := 10) 39 [.int a1, .int a2] [] dX7_points_36 rfl okV_X7_188 rfl rfl (Nat.le_of_ble_eq_true rfl) (Nat.le_of_ble_eq_true rfl) HPg_10 rfl (Nat.le_of_ble_eq_true rfl) (Nat.le_of_ble_eq_true rfl) (R_X6_givenPoints hx1) ?_
      have hF := Option.some.inj hF
      subst hF
      exact ev_ireturn dX7_points_39 rfl rfl
    · rw [if_pos hc160] at hF
      refine ev_iconst 26 dX7_points_25 rfl kI_m1 ?_
      have hF := Option.some.inj hF
      subst hF
      exact ev_ireturn dX7_points_26 rfl rfl

set_option maxRecDepth 100000 in
set_option maxHeartbeats 4000000 in
theorem R_X7_terms {g : tv_G} {l : Launch} {si : Nat → Int32} {sa : Nat → Nat → Int32} {hs : Nat → (Nat → Int32) × (Nat → Nat → Int32)} {tx : Nat → Int32} {tl : Int32} {hc : Int32} {hn : Int32} {v : Nat → Int32} {pa : Nat → Int32} {mt : Nat → Int32} {pm : Int32} {ty : Int32} {ra : Int32}  {p : Int32} (hF : some (F_X7_terms si) = some p) : tv_E g l yX7_terms cX7_terms 1 (some .int) 0 0 0 0 [.ref 0] [] (HP si sa hs tx tl hc hn v pa mt pm ty ra) (some (.int p)) (HP si sa hs tx tl hc hn v pa mt pm ty ra) := by
  unfold F_X7_terms at hF
  refine ev_aload_n (i := 0) 1 dX7_terms_0 rfl rfl rfl ?_
  refine ev_getfield 4 dX7_terms_1 rfl okf_X7_19 (Nat.le_of_ble_eq_true rfl) HPg_0 rfl ?_
  refine ev_getfield 7 dX7_terms_4 rfl okf_X7_96 (Nat.le_of_ble_eq_true rfl) HPg_3 rfl ?_
  refine ev_getfield 10 dX7_terms_7 rfl okf_X7_100 (Nat.le_of_ble_eq_true rfl) HPg_10 rfl ?_
  have hF := Option.some.inj hF
  subst hF
  exact ev_ireturn dX7_terms_10 rfl rfl

set_option maxRecDepth 100000 in
set_option maxHeartbeats 4000000 in
theorem R_X5_numberOf {g : tv_G} {l : Launch} {si : Nat → Int32} {sa : Nat → Nat → Int32} {hs : Nat → (Nat → Int32) × (Nat → Nat → Int32)} {tx : Nat → Int32} {tl : Int32} {hc : Int32} {hn : Int32} {v : Nat → Int32} {pa : Nat → Int32} {mt : Nat → Int32} {pm : Int32} {ty : Int32} {ra : Int32} {a1 : Int32} {a2 : Int32} {p : Int32} (hF : F_X5_numberOf si sa a1 a2 = some p) : tv_E g l yX5_numberOf cX5_numberOf 3 (some .int) 3 0 0 0 [.ref 3, .int a1, .int a2] [] (HP si sa hs tx tl hc hn v pa mt pm ty ra) (some (.int p)) (HP si sa hs tx tl hc hn v pa mt pm ty ra) := by
  unfold F_X5_numberOf at hF
  refine ev_iload_n (i := 2) 1 dX5_numberOf_0 rfl rfl rfl ?_
  by_cases hc161 : a2 = 0
  · rw [if_pos hc161] at hF
    refine ev_tableIn (off := 35) 36 dX5_numberOf_1 (by rw [hc161]; decide) (by rw [hc161]; decide) (by rw [hc161]; rfl) rfl ?_
    refine ev_aload_n (i := 0) 37 dX5_numberOf_36 rfl rfl rfl ?_
    refine ev_getfield 40 dX5_numberOf_37 rfl okf_X5_42 (Nat.le_of_ble_eq_true rfl) HPg_3 rfl ?_
    refine ev_iload_n (i := 1) 41 dX5_numberOf_40 rfl rfl rfl ?_
    refine ev_aload_n (i := 0) 42 dX5_numberOf_41 rfl rfl rfl ?_
    refine ev_getfield 45 dX5_numberOf_42 rfl okf_X5_9 (Nat.le_of_ble_eq_true rfl) HPg_3 rfl ?_
    refine ev_iconst 46 dX5_numberOf_45 rfl kI_5 ?_
    obtain ⟨x1, hx1, hF⟩ := tv_bind hF
    refine ev_iaload 47 dX5_numberOf_46 rfl (Nat.le_of_ble_eq_true rfl) HPg_4 hx1 ?_
    obtain ⟨x2, hx2, hF⟩ := tv_bind hF
    refine ev_callVi (i := 10) 50 [.int a1, .int x1] [] dX5_numberOf_47 rfl okV_X5_132 rfl rfl (Nat.le_of_ble_eq_true rfl) (Nat.le_of_ble_eq_true rfl) HPg_10 rfl (Nat.le_of_ble_eq_true rfl) (Nat.le_of_ble_eq_true rfl) (R_X6_reputation hx2) ?_
    have hF := Option.some.inj hF
    subst hF
    exact ev_ireturn dX5_numberOf_50 rfl rfl
  rw [if_neg hc161] at hF
  by_cases hc162 : a2 = 1
  · rw [if_pos hc162] at hF
    refine ev_tableIn (off := 50) 51 dX5_numberOf_1 (by rw [hc162]; decide) (by rw [hc162]; decide) (by rw [hc162]; rfl) rfl ?_
    refine ev_aload_n (i := 0) 52 dX5_numberOf_51 rfl rfl rfl ?_
    refine ev_getfield 55 dX5_numberOf_52 rfl okf_X5_42 (Nat.le_of_ble_eq_true rfl) HPg_3 rfl ?_
    refine ev_iload_n (i := 1) 56 dX5_numberOf_55 rfl rfl rfl ?_
    obtain ⟨x3, hx3, hF⟩ := tv_bind hF
    refine ev_callVi (i := 10) 59 [.int a1] [] dX5_numberOf_56 rfl okV_X5_136 rfl rfl (Nat.le_of_ble_eq_true rfl) (Nat.le_of_ble_eq_true rfl) HPg_10 rfl (Nat.le_of_ble_eq_true rfl) (Nat.le_of_ble_eq_true rfl) (R_X6_countLed hx3) ?_
    have hF := Option.some.inj hF
    subst hF
    exact ev_ireturn dX5_numberOf_59 rfl rfl
  rw [if_neg hc162] at hF
  by_cases hc163 : a2 = 2
  · rw [if_pos hc163] at hF
    refine ev_tableIn (off := 59) 60 dX5_numberOf_1 (by rw [hc163]; decide) (by rw [hc163]; decide) (by rw [hc163]; rfl) rfl ?_
    refine ev_aload_n (i := 0) 61 dX5_numberOf_60 rfl rfl rfl ?_
    refine ev_iload_n (i := 1) 62 dX5_numberOf_61 rfl rfl rfl ?_
    obtain ⟨x4, hx4, hF⟩ := tv_bind hF
    refine ev_callVi (i := 3) 65 [.int a1] [] dX5_numberOf_62 rfl okV_X5_178 rfl rfl (Nat.le_of_ble_eq_true rfl) (Nat.le_of_ble_eq_true rfl) HPg_3 rfl (Nat.le_of_ble_eq_true rfl) (Nat.le_of_ble_eq_true rfl) (R_X5_isPresent hx4) ?_
    refine ev_callSi 68 [.int x4] [] dX5_numberOf_65 rfl okS_X5_185 rfl rfl (Nat.le_of_ble_eq_true rfl) rfl (Nat.le_of_ble_eq_true rfl) (Nat.le_of_ble_eq_true rfl) (R_X7_asNumber rfl) ?_
    have hF := Option.some.inj hF
    subst hF
    exact ev_ireturn dX5_numberOf_68 rfl rfl
  rw [if_neg hc163] at hF
  by_cases hc164 : a2 = 3
  · rw [if_pos hc164] at hF
    refine ev_tableIn (off := 68) 69 dX5_numberOf_1 (by rw [hc164]; decide) (by rw [hc164]; decide) (by rw [hc164]; rfl) rfl ?_
    refine ev_aload_n (i := 0) 70 dX5_numberOf_69 rfl rfl rfl ?_
    refine ev_iload_n (i := 1) 71 dX5_numberOf_70 rfl rfl rfl ?_
    obtain ⟨x5, hx5, hF⟩ := tv_bind hF
    refine ev_callVi (i := 3) 74 [.int a1] [] dX5_numberOf_71 rfl okV_X5_189 rfl rfl (Nat.le_of_ble_eq_true rfl) (Nat.le_of_ble_eq_true rfl) HPg_3 rfl (Nat.le_of_ble_eq_true rfl) (Nat.le_of_ble_eq_true rfl) (R_X5_canLead hx5) ?_
    refine ev_callSi 77 [.int x5] [] dX5_numberOf_74 rfl okS_X5_185 rfl rfl (Nat.le_of_ble_eq_true rfl) rfl (Nat.le_of_ble_eq_true rfl) (Nat.le_of_ble_eq_true rfl) (R_X7_asNumber rfl) ?_
    have hF := Option.some.inj hF
    subst hF
    exact ev_ireturn dX5_numberOf_77 rfl rfl
  rw [if_neg hc164] at hF
  by_cases hc165 : a2 = 4
  · rw [if_pos hc165] at hF
    refine ev_tableIn (off := 77) 78 dX5_numberOf_1 (by rw [hc165]; decide) (by rw [hc165]; decide) (by rw [hc165]; rfl) rfl ?_
    refine ev_aload_n (i := 0) 79 dX5_numberOf_78 rfl rfl rfl ?_
    refine ev_getfield 82 dX5_numberOf_79 rfl okf_X5_28 (Nat.le_of_ble_eq_true rfl) HPg_3 rfl ?_
    refine ev_getfield 85 dX5_numberOf_82 rfl okf_X5_158 (Nat.le_of_ble_eq_true rfl) HPg_6 rfl ?_
    refine ev_iload_n (i := 1) 86 dX5_numberOf_85 rfl rfl rfl ?_
    refine ev_callSi 89 [.int (si 7), .int a1] [] dX5_numberOf_86 rfl okS_X5_87 rfl rfl (Nat.le_of_ble_eq_true rfl) rfl (Nat.le_of_ble_eq_true rfl) (Nat.le_of_ble_eq_true rfl) (R_X7_has rfl) ?_
    refine ev_callSi 92 [.int (F_X7_has (si 7) a1)] [] dX5_numberOf_89 rfl okS_X5_185 rfl rfl (Nat.le_of_ble_eq_true rfl) rfl (Nat.le_of_ble_eq_true rfl) (Nat.le_of_ble_eq_true rfl) (R_X7_asNumber rfl) ?_
    have hF := Option.some.inj hF
    subst hF
    exact ev_ireturn dX5_numberOf_92 rfl rfl
  rw [if_neg hc165] at hF
  refine ev_tableOut 93 dX5_numberOf_1 (tv_out5 hc161 hc162 hc163 hc164 hc165) rfl ?_
  refine ev_aload_n (i := 0) 94 dX5_numberOf_93 rfl rfl rfl ?_
  refine ev_getfield 97 dX5_numberOf_94 rfl okf_X5_71 (Nat.le_of_ble_eq_true rfl) HPg_3 rfl ?_
  refine ev_iload_n (i := 1) 98 dX5_numberOf_97 rfl rfl rfl ?_
  refine ev_callSi 101 [.int (si 3), .int a1] [] dX5_numberOf_98 rfl okS_X5_87 rfl rfl (Nat.le_of_ble_eq_true rfl) rfl (Nat.le_of_ble_eq_true rfl) (Nat.le_of_ble_eq_true rfl) (R_X7_has rfl) ?_
  refine ev_callSi 104 [.int (F_X7_has (si 3) a1)] [] dX5_numberOf_101 rfl okS_X5_185 rfl rfl (Nat.le_of_ble_eq_true rfl) rfl (Nat.le_of_ble_eq_true rfl) (Nat.le_of_ble_eq_true rfl) (R_X7_asNumber rfl) ?_
  have hF := Option.some.inj hF
  subst hF
  exact ev_ireturn dX5_numberOf_104 rfl rfl

set_option maxRecDepth 100000 in
set_option maxHeartbeats 4000000 in
theorem R_X7_member {g : tv_G} {l : Launch} {si : Nat → Int32} {sa : Nat → Nat → Int32} {hs : Nat → (Nat → Int32) × (Nat → Nat → Int32)} {tx : Nat → Int32} {tl : Int32} {hc : Int32} {hn : Int32} {v : Nat → Int32} {pa : Nat → Int32} {mt : Nat → Int32} {pm : Int32} {ty : Int32} {ra : Int32} {a1 : Int32} {a2 : Int32} {p : Int32} (hF : F_X7_member si sa a1 a2 = some p) : tv_E g l yX7_member cX7_member 3 (some .int) 4 0 0 0 [.ref 0, .int a1, .int a2] [] (HP si sa hs tx tl hc hn v pa mt pm ty ra) (some (.int p)) (HP si sa hs tx tl hc hn v pa mt pm ty ra) := by
  unfold F_X7_member at hF
  refine ev_aload_n (i := 0) 1 dX7_member_0 rfl rfl rfl ?_
  refine ev_getfield 4 dX7_member_1 rfl okf_X7_19 (Nat.le_of_ble_eq_true rfl) HPg_0 rfl ?_
  refine ev_iload_n (i := 1) 5 dX7_member_4 rfl rfl rfl ?_
  refine ev_callVi (i := 3) 8 [.int a1] [] dX7_member_5 rfl okV_X7_55 rfl rfl (Nat.le_of_ble_eq_true rfl) (Nat.le_of_ble_eq_true rfl) HPg_3 rfl (Nat.le_of_ble_eq_true rfl) (Nat.le_of_ble_eq_true rfl) (R_X5_isMember rfl) ?_
  refine ev_if_eq 21 11 dX7_member_8 rfl rfl (fun hc166 => ?_) (fun hc166 => ?_)
  · rw [if_pos hc166] at hF
    refine ev_iconst 22 dX7_member_21 rfl kI_m1 ?_
    have hF := Option.some.inj hF
    subst hF
    exact ev_ireturn dX7_member_22 rfl rfl
  · rw [if_neg hc166] at hF
    refine ev_iload_n (i := 2) 12 dX7_member_11 rfl rfl rfl ?_
    refine ev_if_lt 21 15 dX7_member_12 rfl rfl (fun hc167 => ?_) (fun hc167 => ?_)
    · rw [if_pos hc167] at hF
      refine ev_iconst 22 dX7_member_21 rfl kI_m1 ?_
      have hF := Option.some.inj hF
      subst hF
      exact ev_ireturn dX7_member_22 rfl rfl
    · rw [if_neg hc167] at hF
      refine ev_iload_n (i := 2) 16 dX7_member_15 rfl rfl rfl ?_
      refine ev_bipush 18 dX7_member_16 rfl kB_6 ?_
      refine ev_icmp_lt 23 21 dX7_member_18 rfl rfl (fun hc168 => ?_) (fun hc168 => ?_)
      · rw [if_pos hc168] at hF
        refine ev_aload_n (i := 0) 24 dX7_member_23 rfl rfl rfl ?_
        refine ev_getfield 27 dX7_member_24 rfl okf_X7_19 (Nat.le_of_ble_eq_true rfl) HPg_0 rfl ?_
        refine ev_iload_n (i := 1) 28 dX7_member_27 rfl rfl rfl ?_
        refine ev_iload_n (i := 2) 29 dX7_member_28 rfl rfl rfl ?_
        obtain ⟨x1, hx1, hF⟩ := tv_bind hF
        refine ev_callVi (i := 3) 32 [.int a1, .int a2] [] dX7_member_29 rfl okV_X7_191 rfl rfl (Nat.le_of_ble_eq_true rfl) (Nat.le_of_ble_eq_true rfl) HPg_3 rfl (Nat.le_of_ble_eq_true rfl) (Nat.le_of_ble_eq_true rfl) (R_X5_numberOf hx1) ?_
        have hF := Option.some.inj hF
        subst hF
        exact ev_ireturn dX7_member_32 rfl rfl
      · rw [if_neg hc168] at hF
        refine ev_iconst 22 dX7_member_21 rfl kI_m1 ?_
        have hF := Option.some.inj hF
        subst hF
        exact ev_ireturn dX7_member_22 rfl rfl

set_option maxRecDepth 100000 in
set_option maxHeartbeats 4000000 in
theorem R_X7_time {g : tv_G} {l : Launch} {si : Nat → Int32} {sa : Nat → Nat → Int32} {hs : Nat → (Nat → Int32) × (Nat → Nat → Int32)} {tx : Nat → Int32} {tl : Int32} {hc : Int32} {hn : Int32} {v : Nat → Int32} {pa : Nat → Int32} {mt : Nat → Int32} {pm : Int32} {ty : Int32} {ra : Int32}  {p : Int32} (hF : some (F_X7_time si) = some p) : tv_E g l yX7_time cX7_time 1 (some .int) 0 0 0 0 [.ref 0] [] (HP si sa hs tx tl hc hn v pa mt pm ty ra) (some (.int p)) (HP si sa hs tx tl hc hn v pa mt pm ty ra) := by
  unfold F_X7_time at hF
  refine ev_aload_n (i := 0) 1 dX7_time_0 rfl rfl rfl ?_
  refine ev_getfield 4 dX7_time_1 rfl okf_X7_19 (Nat.le_of_ble_eq_true rfl) HPg_0 rfl ?_
  refine ev_getfield 7 dX7_time_4 rfl okf_X7_76 (Nat.le_of_ble_eq_true rfl) HPg_3 rfl ?_
  have hF := Option.some.inj hF
  subst hF
  exact ev_ireturn dX7_time_7 rfl rfl

set_option maxRecDepth 100000 in
set_option maxHeartbeats 4000000 in
theorem R_X7_events {g : tv_G} {l : Launch} {si : Nat → Int32} {sa : Nat → Nat → Int32} {hs : Nat → (Nat → Int32) × (Nat → Nat → Int32)} {tx : Nat → Int32} {tl : Int32} {hc : Int32} {hn : Int32} {v : Nat → Int32} {pa : Nat → Int32} {mt : Nat → Int32} {pm : Int32} {ty : Int32} {ra : Int32}  {p : Int32} (hF : some (F_X7_events si) = some p) : tv_E g l yX7_events cX7_events 1 (some .int) 0 0 0 0 [.ref 0] [] (HP si sa hs tx tl hc hn v pa mt pm ty ra) (some (.int p)) (HP si sa hs tx tl hc hn v pa mt pm ty ra) := by
  unfold F_X7_events at hF
  refine ev_aload_n (i := 0) 1 dX7_events_0 rfl rfl rfl ?_
  refine ev_getfield 4 dX7_events_1 rfl okf_X7_19 (Nat.le_of_ble_eq_true rfl) HPg_0 rfl ?_
  refine ev_getfield 7 dX7_events_4 rfl okf_X7_194 (Nat.le_of_ble_eq_true rfl) HPg_3 rfl ?_
  refine ev_getfield 10 dX7_events_7 rfl okf_X7_198 (Nat.le_of_ble_eq_true rfl) HPg_19 rfl ?_
  have hF := Option.some.inj hF
  subst hF
  exact ev_ireturn dX7_events_10 rfl rfl

set_option maxRecDepth 100000 in
set_option maxHeartbeats 4000000 in
theorem R_X1_number {g : tv_G} {l : Launch} {si : Nat → Int32} {sa : Nat → Nat → Int32} {hs : Nat → (Nat → Int32) × (Nat → Nat → Int32)} {tx : Nat → Int32} {tl : Int32} {hc : Int32} {hn : Int32} {v : Nat → Int32} {pa : Nat → Int32} {mt : Nat → Int32} {pm : Int32} {ty : Int32} {ra : Int32} {a1 : Int32} {a2 : Int32} {p : Int32} (hF : F_X1_number si sa a1 a2 = some p) : tv_E g l yX1_number cX1_number 4 (some .int) 0 0 0 0 [.ref 19, .int a1, .int a2, .null] [] (HP si sa hs tx tl hc hn v pa mt pm ty ra) (some (.int p)) (HP si sa hs tx tl hc hn v pa mt pm ty ra) := by
  unfold F_X1_number at hF
  refine ev_iload_n (i := 1) 1 dX1_number_0 rfl rfl rfl ?_
  refine ev_aload_n (i := 0) 2 dX1_number_1 rfl rfl rfl ?_
  refine ev_getfield 5 dX1_number_2 rfl okf_X1_21 (Nat.le_of_ble_eq_true rfl) HPg_19 rfl ?_
  refine ev_icmp_ge 14 8 dX1_number_5 rfl rfl (fun hc169 => ?_) (fun hc169 => ?_)
  · rw [if_pos hc169] at hF
    refine ev_bipush 16 dX1_number_14 rfl kB_m9 ?_
    have hF := Option.some.inj hF
    subst hF
    exact ev_ireturn dX1_number_16 rfl rfl
  · rw [if_neg hc169] at hF
    refine ev_iload_n (i := 1) 9 dX1_number_8 rfl rfl rfl ?_
    refine ev_bipush 11 dX1_number_9 rfl kB_20 ?_
    refine ev_icmp_lt 17 14 dX1_number_11 rfl rfl (fun hc170 => ?_) (fun hc170 => ?_)
    · rw [if_pos hc170] at hF
      refine ev_aload_n (i := 0) 18 dX1_number_17 rfl rfl rfl ?_
      refine ev_getfield 21 dX1_number_18 rfl okf_X1_21 (Nat.le_of_ble_eq_true rfl) HPg_19 rfl ?_
      refine ev_iconst 22 dX1_number_21 rfl kI_1 ?_
      refine ev_isub 23 dX1_number_22 rfl ?_
      refine ev_iload_n (i := 1) 24 dX1_number_23 rfl rfl rfl ?_
      refine ev_isub 25 dX1_number_24 rfl ?_
      refine ev_bipush 27 dX1_number_25 rfl kB_20 ?_
      refine ev_irem 28 dX1_number_27 rfl (by decide) ?_
      refine ev_istore_n (i := 3) (L2 := [.ref 19, .int a1, .int a2, .int ((((si 10) - 1) - a1) - (((si 10) - 1) - a1) / 20 * 20)]) 29 dX1_number_28 rfl rfl (Nat.le_of_ble_eq_true rfl) rfl ?_
      refine ev_iload_n (i := 2) 30 dX1_number_29 rfl rfl rfl ?_
      by_cases hc171 : a2 = 0
      · rw [if_pos hc171] at hF
        refine ev_lookup (off := 26) 56 dX1_number_30 (by decide) (by rw [hc171]; rfl) rfl ?_
        refine ev_aload_n (i := 0) 57 dX1_number_56 rfl rfl rfl ?_
        refine ev_getfield 60 dX1_number_57 rfl okf_X1_9 (Nat.le_of_ble_eq_true rfl) HPg_19 rfl ?_
        refine ev_iload_n (i := 3) 61 dX1_number_60 rfl rfl rfl ?_
        obtain ⟨x1, hx1, hF⟩ := tv_bind hF
        refine ev_iaload 62 dX1_number_61 rfl (Nat.le_of_ble_eq_true rfl) HPg_20 hx1 ?_
        have hF := Option.some.inj hF
        subst hF
        exact ev_ireturn dX1_number_62 rfl rfl
      rw [if_neg hc171] at hF
      by_cases hc172 : a2 = 1
      · rw [if_pos hc172] at hF
        refine ev_lookup (off := 33) 63 dX1_number_30 (by decide) (by rw [hc172]; rfl) rfl ?_
        refine ev_aload_n (i := 0) 64 dX1_number_63 rfl rfl rfl ?_
        refine ev_getfield 67 dX1_number_64 rfl okf_X1_15 (Nat.le_of_ble_eq_true rfl) HPg_19 rfl ?_
        refine ev_iload_n (i := 3) 68 dX1_number_67 rfl rfl rfl ?_
        obtain ⟨x2, hx2, hF⟩ := tv_bind hF
        refine ev_iaload 69 dX1_number_68 rfl (Nat.le_of_ble_eq_true rfl) HPg_21 hx2 ?_
        have hF := Option.some.inj hF
        subst hF
        exact ev_ireturn dX1_number_69 rfl rfl
      rw [if_neg hc172] at hF
      refine ev_lookup (off := 40) 70 dX1_number_30 (by decide) (tv_lk2 hc171 hc172) rfl ?_
      refine ev_aload_n (i := 0) 71 dX1_number_70 rfl rfl rfl ?_
      refine ev_getfield 74 dX1_number_71 rfl okf_X1_18 (Nat.le_of_ble_eq_true rfl) HPg_19 rfl ?_
      refine ev_iload_n (i := 3) 75 dX1_number_74 rfl rfl rfl ?_
      obtain ⟨x3, hx3, hF⟩ := tv_bind hF
      refine ev_iaload 76 dX1_number_75 rfl (Nat.le_of_ble_eq_true rfl) HPg_22 hx3 ?_
      have hF := Option.some.inj hF
      subst hF
      exact ev_ireturn dX1_number_76 rfl rfl
    · rw [if_neg hc170] at hF
      refine ev_bipush 16 dX1_number_14 rfl kB_m9 ?_
      have hF := Option.some.inj hF
      subst hF
      exact ev_ireturn dX1_number_16 rfl rfl

set_option maxRecDepth 100000 in
set_option maxHeartbeats 4000000 in
theorem R_X7_event {g : tv_G} {l : Launch} {si : Nat → Int32} {sa : Nat → Nat → Int32} {hs : Nat → (Nat → Int32) × (Nat → Nat → Int32)} {tx : Nat → Int32} {tl : Int32} {hc : Int32} {hn : Int32} {v : Nat → Int32} {pa : Nat → Int32} {mt : Nat → Int32} {pm : Int32} {ty : Int32} {ra : Int32} {a1 : Int32} {a2 : Int32} {p : Int32} (hF : F_X7_event si sa a1 a2 = some p) : tv_E g l yX7_event cX7_event 3 (some .int) 1 0 0 0 [.ref 0, .int a1, .int a2] [] (HP si sa hs tx tl hc hn v pa mt pm ty ra) (some (.int p)) (HP si sa hs tx tl hc hn v pa mt pm ty ra) := by
  unfold F_X7_event at hF
  refine ev_iload_n (i := 1) 1 dX7_event_0 rfl rfl rfl ?_
  refine ev_if_lt 13 4 dX7_event_1 rfl rfl (fun hc173 => ?_) (fun hc173 => ?_)
  · rw [if_pos hc173] at hF
    refine ev_iconst 14 dX7_event_13 rfl kI_m1 ?_
    have hF := Option.some.inj hF
    subst hF
    exact ev_ireturn dX7_event_14 rfl rfl
  · rw [if_neg hc173] at hF
    refine ev_iload_n (i := 2) 5 dX7_event_4 rfl rfl rfl ?_
    refine ev_if_lt 13 8 dX7_event_5 rfl rfl (fun hc174 => ?_) (fun hc174 => ?_)
    · rw [if_pos hc174] at hF
      refine ev_iconst 14 dX7_event_13 rfl kI_m1 ?_
      have hF := Option.some.inj hF
      subst hF
      exact ev_ireturn dX7_event_14 rfl rfl
    · rw [if_neg hc174] at hF
      refine ev_iload_n (i := 2) 9 dX7_event_8 rfl rfl rfl ?_
      refine ev_iconst 10 dX7_event_9 rfl kI_3 ?_
      refine ev_icmp_lt 15 13 dX7_event_10 rfl rfl (fun hc175 => ?_) (fun hc175 => ?_)
      · rw [if_pos hc175] at hF
        refine ev_aload_n (i := 0) 16 dX7_event_15 rfl rfl rfl ?_
        refine ev_getfield 19 dX7_event_16 rfl okf_X7_19 (Nat.le_of_ble_eq_true rfl) HPg_0 rfl ?_
        refine ev_getfield 22 dX7_event_19 rfl okf_X7_194 (Nat.le_of_ble_eq_true rfl) HPg_3 rfl ?_
        refine ev_iload_n (i := 1) 23 dX7_event_22 rfl rfl rfl ?_
        refine ev_iload_n (i := 2) 24 dX7_event_23 rfl rfl rfl ?_
        obtain ⟨x1, hx1, hF⟩ := tv_bind hF
        refine ev_callVi (i := 19) 27 [.int a1, .int a2] [] dX7_event_24 rfl okV_X7_201 rfl rfl (Nat.le_of_ble_eq_true rfl) (Nat.le_of_ble_eq_true rfl) HPg_19 rfl (Nat.le_of_ble_eq_true rfl) (Nat.le_of_ble_eq_true rfl) (R_X1_number hx1) ?_
        have hF := Option.some.inj hF
        subst hF
        exact ev_ireturn dX7_event_27 rfl rfl
      · rw [if_neg hc175] at hF
        refine ev_iconst 14 dX7_event_13 rfl kI_m1 ?_
        have hF := Option.some.inj hF
        subst hF
        exact ev_ireturn dX7_event_14 rfl rfl

set_option maxRecDepth 100000 in
set_option maxHeartbeats 4000000 in
theorem R_X0_append {g : tv_G} {l : Launch} {si : Nat → Int32} {sa : Nat → Nat → Int32} {hs : Nat → (Nat → Int32) × (Nat → Nat → Int32)} {tx : Nat → Int32} {tl : Int32} {hc : Int32} {hn : Int32} {v : Nat → Int32} {pa : Nat → Int32} {mt : Nat → Int32} {pm : Int32} {ty : Int32} {ra : Int32} {a1 : Int32} {p : Int32 × (Nat → Int32) × Int32} (hF : F_X0_append tx tl a1 = some p) : tv_E g l yX0_append cX0_append 2 (some .int) 0 0 0 0 [.ref 1, .int a1] [] (HP si sa hs tx tl hc hn v pa mt pm ty ra) (some (.int p.1)) (HP si sa hs p.2.1 p.2.2 hc hn v pa mt pm ty ra) := by
  unfold F_X0_append at hF
  refine ev_aload_n (i := 0) 1 dX0_append_0 rfl rfl rfl ?_
  refine ev_getfield 4 dX0_append_1 rfl okf_X0_15 (Nat.le_of_ble_eq_true rfl) HPg_1 rfl ?_
  refine ev_bipush 6 dX0_append_4 rfl kB_40 ?_
  refine ev_icmp_lt 12 9 dX0_append_6 rfl rfl (fun hc176 => ?_) (fun hc176 => ?_)
  · rw [if_pos hc176] at hF
    refine ev_aload_n (i := 0) 13 dX0_append_12 rfl rfl rfl ?_
    refine ev_getfield 16 dX0_append_13 rfl okf_X0_9 (Nat.le_of_ble_eq_true rfl) HPg_1 rfl ?_
    refine ev_aload_n (i := 0) 17 dX0_append_16 rfl rfl rfl ?_
    refine ev_getfield 20 dX0_append_17 rfl okf_X0_15 (Nat.le_of_ble_eq_true rfl) HPg_1 rfl ?_
    refine ev_iload_n (i := 1) 21 dX0_append_20 rfl rfl rfl ?_
    obtain ⟨x1, hx1, hF⟩ := tv_bind hF
    refine ev_iastore 22 dX0_append_21 rfl (Nat.le_of_ble_eq_true rfl) HPg_2 hx1 HPa_2 ?_
    refine ev_aload_n (i := 0) 23 dX0_append_22 rfl rfl rfl ?_
    refine ev_dup 24 dX0_append_23 rfl rfl ?_
    refine ev_getfield 27 dX0_append_24 rfl okf_X0_15 (Nat.le_of_ble_eq_true rfl) HPg_1 rfl ?_
    refine ev_iconst 28 dX0_append_27 rfl kI_1 ?_
    refine ev_iadd 29 dX0_append_28 rfl ?_
    refine ev_putfield 32 dX0_append_29 rfl okf_X0_15 (Nat.le_of_ble_eq_true rfl) HPg_1 (Nat.le_of_ble_eq_true rfl) rfl rfl HPs_1_1 ?_
    refine ev_aload_n (i := 0) 33 dX0_append_32 rfl rfl rfl ?_
    refine ev_getfield 36 dX0_append_33 rfl okf_X0_15 (Nat.le_of_ble_eq_true rfl) HPg_1 rfl ?_
    have hF := Option.some.inj hF
    subst hF
    exact ev_ireturn dX0_append_36 rfl rfl
  · rw [if_neg hc176] at hF
    refine ev_bipush 11 dX0_append_9 rfl kB_m3 ?_
    have hF := Option.some.inj hF
    subst hF
    exact ev_ireturn dX0_append_11 rfl rfl

set_option maxRecDepth 100000 in
set_option maxHeartbeats 4000000 in
theorem R_X7_type {g : tv_G} {l : Launch} {si : Nat → Int32} {sa : Nat → Nat → Int32} {hs : Nat → (Nat → Int32) × (Nat → Nat → Int32)} {tx : Nat → Int32} {tl : Int32} {hc : Int32} {hn : Int32} {v : Nat → Int32} {pa : Nat → Int32} {mt : Nat → Int32} {pm : Int32} {ty : Int32} {ra : Int32} {a1 : Int32} {p : Int32 × (Nat → Int32) × Int32} (hF : F_X7_type tx tl a1 = some p) : tv_E g l yX7_type cX7_type 2 (some .int) 1 0 0 0 [.ref 0, .int a1] [] (HP si sa hs tx tl hc hn v pa mt pm ty ra) (some (.int p.1)) (HP si sa hs p.2.1 p.2.2 hc hn v pa mt pm ty ra) := by
  unfold F_X7_type at hF
  refine ev_iload_n (i := 1) 1 dX7_type_0 rfl rfl rfl ?_
  refine ev_bipush 3 dX7_type_1 rfl kB_32 ?_
  refine ev_icmp_lt 12 6 dX7_type_3 rfl rfl (fun hc177 => ?_) (fun hc177 => ?_)
  · rw [if_pos hc177] at hF
    refine ev_iconst 13 dX7_type_12 rfl kI_m1 ?_
    have hF := Option.some.inj hF
    subst hF
    exact ev_ireturn dX7_type_13 rfl rfl
  · rw [if_neg hc177] at hF
    refine ev_iload_n (i := 1) 7 dX7_type_6 rfl rfl rfl ?_
    refine ev_bipush 9 dX7_type_7 rfl kB_126 ?_
    refine ev_icmp_le 14 12 dX7_type_9 rfl rfl (fun hc178 => ?_) (fun hc178 => ?_)
    · rw [if_pos hc178] at hF
      refine ev_aload_n (i := 0) 15 dX7_type_14 rfl rfl rfl ?_
      refine ev_getfield 18 dX7_type_15 rfl okf_X7_10 (Nat.le_of_ble_eq_true rfl) HPg_0 rfl ?_
      refine ev_iload_n (i := 1) 19 dX7_type_18 rfl rfl rfl ?_
      obtain ⟨x1, hx1, hF⟩ := tv_bind hF
      refine ev_callVi (i := 1) 22 [.int a1] [] dX7_type_19 rfl okV_X7_202 rfl rfl (Nat.le_of_ble_eq_true rfl) (Nat.le_of_ble_eq_true rfl) HPg_1 rfl (Nat.le_of_ble_eq_true rfl) (Nat.le_of_ble_eq_true rfl) (R_X0_append hx1) ?_
      have hF := Option.some.inj hF
      subst hF
      exact ev_ireturn dX7_type_22 rfl rfl
    · rw [if_neg hc178] at hF
      refine ev_iconst 13 dX7_type_12 rfl kI_m1 ?_
      have hF := Option.some.inj hF
      subst hF
      exact ev_ireturn dX7_type_13 rfl rfl

set_option maxRecDepth 100000 in
set_option maxHeartbeats 4000000 in
theorem R_X7_clear {g : tv_G} {l : Launch} {si : Nat → Int32} {sa : Nat → Nat → Int32} {hs : Nat → (Nat → Int32) × (Nat → Nat → Int32)} {tx : Nat → Int32} {tl : Int32} {hc : Int32} {hn : Int32} {v : Nat → Int32} {pa : Nat → Int32} {mt : Nat → Int32} {pm : Int32} {ty : Int32} {ra : Int32}  {p : Int32 × Int32} (hF : F_X7_clear tl = some p) : tv_E g l yX7_clear cX7_clear 2 (some .int) 0 0 0 0 [.ref 0, .null] [] (HP si sa hs tx tl hc hn v pa mt pm ty ra) (some (.int p.1)) (HP si sa hs tx p.2 hc hn v pa mt pm ty ra) := by
  unfold F_X7_clear at hF
  refine ev_aload_n (i := 0) 1 dX7_clear_0 rfl rfl rfl ?_
  refine ev_getfield 4 dX7_clear_1 rfl okf_X7_10 (Nat.le_of_ble_eq_true rfl) HPg_0 rfl ?_
  refine ev_getfield 7 dX7_clear_4 rfl okf_X7_127 (Nat.le_of_ble_eq_true rfl) HPg_1 rfl ?_
  refine ev_istore_n (i := 1) (L2 := [.ref 0, .int tl]) 8 dX7_clear_7 rfl rfl (Nat.le_of_ble_eq_true rfl) rfl ?_
  refine ev_aload_n (i := 0) 9 dX7_clear_8 rfl rfl rfl ?_
  refine ev_getfield 12 dX7_clear_9 rfl okf_X7_10 (Nat.le_of_ble_eq_true rfl) HPg_0 rfl ?_
  refine ev_iconst 13 dX7_clear_12 rfl kI_0 ?_
  refine ev_putfield 16 dX7_clear_13 rfl okf_X7_127 (Nat.le_of_ble_eq_true rfl) HPg_1 (Nat.le_of_ble_eq_true rfl) rfl rfl HPs_1_1 ?_
  refine ev_iload_n (i := 1) 17 dX7_clear_16 rfl rfl rfl ?_
  have hF := Option.some.inj hF
  subst hF
  exact ev_ireturn dX7_clear_17 rfl rfl

set_option maxRecDepth 100000 in
set_option maxHeartbeats 4000000 in
theorem R_X3_restore {g : tv_G} {l : Launch} {si : Nat → Int32} {sa : Nat → Nat → Int32} {hs : Nat → (Nat → Int32) × (Nat → Nat → Int32)} {tx : Nat → Int32} {tl : Int32} {hc : Int32} {hn : Int32} {v : Nat → Int32} {pa : Nat → Int32} {mt : Nat → Int32} {pm : Int32} {ty : Int32} {ra : Int32}  {p : (Nat → Int32) × (Nat → Nat → Int32) × Int32 × Int32} (hF : F_X3_restore si sa hs hc hn = some p) : tv_E g l yX3_restore cX3_restore 2 none 4 0 0 0 [.ref 23, .ref 3] [] (HP si sa hs tx tl hc hn v pa mt pm ty ra) none (HP p.1 p.2.1 hs tx tl p.2.2.1 p.2.2.2 v pa mt pm ty ra) := by
  unfold F_X3_restore at hF
  refine ev_aload_n (i := 0) 1 dX3_restore_0 rfl rfl rfl ?_
  refine ev_aload_n (i := 0) 2 dX3_restore_1 rfl rfl rfl ?_
  refine ev_getfield 5 dX3_restore_2 rfl okf_X3_18 (Nat.le_of_ble_eq_true rfl) HPg_23 rfl ?_
  refine ev_iconst 6 dX3_restore_5 rfl kI_5 ?_
  refine ev_iadd 7 dX3_restore_6 rfl ?_
  refine ev_iconst 8 dX3_restore_7 rfl kI_1 ?_
  refine ev_isub 9 dX3_restore_8 rfl ?_
  refine ev_iconst 10 dX3_restore_9 rfl kI_5 ?_
  refine ev_irem 11 dX3_restore_10 rfl (by decide) ?_
  refine ev_putfield 14 dX3_restore_11 rfl okf_X3_18 (Nat.le_of_ble_eq_true rfl) HPg_23 (Nat.le_of_ble_eq_true rfl) rfl rfl HPs_23_2 ?_
  refine ev_aload_n (i := 1) 15 dX3_restore_14 rfl rfl rfl ?_
  refine ev_aload_n (i := 0) 16 dX3_restore_15 rfl rfl rfl ?_
  refine ev_getfield 19 dX3_restore_16 rfl okf_X3_11 (Nat.le_of_ble_eq_true rfl) HPg_23 rfl ?_
  refine ev_aload_n (i := 0) 20 dX3_restore_19 rfl rfl rfl ?_
  refine ev_getfield 23 dX3_restore_20 rfl okf_X3_18 (Nat.le_of_ble_eq_true rfl) HPg_23 rfl ?_
  by_cases hc179 : (((hn + 5) - 1) - ((hn + 5) - 1) / 5 * 5) = 0
  · rw [if_pos hc179] at hF
    refine ev_aaload (a := 25) 24 dX3_restore_23 rfl (Nat.le_of_ble_eq_true rfl) HPg_24 (by rw [hc179]; unfold vp_in; decide) (by rw [hc179]; rfl) ?_
    obtain ⟨x1, hx1, hF⟩ := tv_bind hF
    refine ev_callVv (i := 3) 27 [.ref 25] [] dX3_restore_24 rfl okV_X3_22 rfl rfl (Nat.le_of_ble_eq_true rfl) (Nat.le_of_ble_eq_true rfl) HPg_3 rfl (Nat.le_of_ble_eq_true rfl) (Nat.le_of_ble_eq_true rfl) (R_X5_copy_from0 hx1) ?_
    refine ev_aload_n (i := 0) 28 dX3_restore_27 rfl rfl rfl ?_
    refine ev_dup 29 dX3_restore_28 rfl rfl ?_
    refine ev_getfield 32 dX3_restore_29 rfl okf_X3_26 (Nat.le_of_ble_eq_true rfl) HPg_23 rfl ?_
    refine ev_iconst 33 dX3_restore_32 rfl kI_1 ?_
    refine ev_isub 34 dX3_restore_33 rfl ?_
    refine ev_putfield 37 dX3_restore_34 rfl okf_X3_26 (Nat.le_of_ble_eq_true rfl) HPg_23 (Nat.le_of_ble_eq_true rfl) rfl rfl HPs_23_1 ?_
    have hF := Option.some.inj hF
    subst hF
    exact ev_return dX3_restore_37 rfl
  rw [if_neg hc179] at hF
  by_cases hc180 : (((hn + 5) - 1) - ((hn + 5) - 1) / 5 * 5) = 1
  · rw [if_pos hc180] at hF
    refine ev_aaload (a := 45) 24 dX3_restore_23 rfl (Nat.le_of_ble_eq_true rfl) HPg_24 (by rw [hc180]; unfold vp_in; decide) (by rw [hc180]; rfl) ?_
    obtain ⟨x2, hx2, hF⟩ := tv_bind hF
    refine ev_callVv (i := 3) 27 [.ref 45] [] dX3_restore_24 rfl okV_X3_22 rfl rfl (Nat.le_of_ble_eq_true rfl) (Nat.le_of_ble_eq_true rfl) HPg_3 rfl (Nat.le_of_ble_eq_true rfl) (Nat.le_of_ble_eq_true rfl) (R_X5_copy_from1 hx2) ?_
    refine ev_aload_n (i := 0) 28 dX3_restore_27 rfl rfl rfl ?_
    refine ev_dup 29 dX3_restore_28 rfl rfl ?_
    refine ev_getfield 32 dX3_restore_29 rfl okf_X3_26 (Nat.le_of_ble_eq_true rfl) HPg_23 rfl ?_
    refine ev_iconst 33 dX3_restore_32 rfl kI_1 ?_
    refine ev_isub 34 dX3_restore_33 rfl ?_
    refine ev_putfield 37 dX3_restore_34 rfl okf_X3_26 (Nat.le_of_ble_eq_true rfl) HPg_23 (Nat.le_of_ble_eq_true rfl) rfl rfl HPs_23_1 ?_
    have hF := Option.some.inj hF
    subst hF
    exact ev_return dX3_restore_37 rfl
  rw [if_neg hc180] at hF
  by_cases hc181 : (((hn + 5) - 1) - ((hn + 5) - 1) / 5 * 5) = 2
  · rw [if_pos hc181] at hF
    refine ev_aaload (a := 65) 24 dX3_restore_23 rfl (Nat.le_of_ble_eq_true rfl) HPg_24 (by rw [hc181]; unfold vp_in; decide) (by rw [hc181]; rfl) ?_
    obtain ⟨x3, hx3, hF⟩ := tv_bind hF
    refine ev_callVv (i := 3) 27 [.ref 65] [] dX3_restore_24 rfl okV_X3_22 rfl rfl (Nat.le_of_ble_eq_true rfl) (Nat.le_of_ble_eq_true rfl) HPg_3 rfl (Nat.le_of_ble_eq_true rfl) (Nat.le_of_ble_eq_true rfl) (R_X5_copy_from2 hx3) ?_
    refine ev_aload_n (i := 0) 28 dX3_restore_27 rfl rfl rfl ?_
    refine ev_dup 29 dX3_restore_28 rfl rfl ?_
    refine ev_getfield 32 dX3_restore_29 rfl okf_X3_26 (Nat.le_of_ble_eq_true rfl) HPg_23 rfl ?_
    refine ev_iconst 33 dX3_restore_32 rfl kI_1 ?_
    refine ev_isub 34 dX3_restore_33 rfl ?_
    refine ev_putfield 37 dX3_restore_34 rfl okf_X3_26 (Nat.le_of_ble_eq_true rfl) HPg_23 (Nat.le_of_ble_eq_true rfl) rfl rfl HPs_23_1 ?_
    have hF := Option.some.inj hF
    subst hF
    exact ev_return dX3_restore_37 rfl
  rw [if_neg hc181] at hF
  by_cases hc182 : (((hn + 5) - 1) - ((hn + 5) - 1) / 5 * 5) = 3
  · rw [if_pos hc182] at hF
    refine ev_aaload (a := 85) 24 dX3_restore_23 rfl (Nat.le_of_ble_eq_true rfl) HPg_24 (by rw [hc182]; unfold vp_in; decide) (by rw [hc182]; rfl) ?_
    obtain ⟨x4, hx4, hF⟩ := tv_bind hF
    refine ev_callVv (i := 3) 27 [.ref 85] [] dX3_restore_24 rfl okV_X3_22 rfl rfl (Nat.le_of_ble_eq_true rfl) (Nat.le_of_ble_eq_true rfl) HPg_3 rfl (Nat.le_of_ble_eq_true rfl) (Nat.le_of_ble_eq_true rfl) (R_X5_copy_from3 hx4) ?_
    refine ev_aload_n (i := 0) 28 dX3_restore_27 rfl rfl rfl ?_
    refine ev_dup 29 dX3_restore_28 rfl rfl ?_
    refine ev_getfield 32 dX3_restore_29 rfl okf_X3_26 (Nat.le_of_ble_eq_true rfl) HPg_23 rfl ?_
    refine ev_iconst 33 dX3_restore_32 rfl kI_1 ?_
    refine ev_isub 34 dX3_restore_33 rfl ?_
    refine ev_putfield 37 dX3_restore_34 rfl okf_X3_26 (Nat.le_of_ble_eq_true rfl) HPg_23 (Nat.le_of_ble_eq_true rfl) rfl rfl HPs_23_1 ?_
    have hF := Option.some.inj hF
    subst hF
    exact ev_return dX3_restore_37 rfl
  rw [if_neg hc182] at hF
  by_cases hc183 : (((hn + 5) - 1) - ((hn + 5) - 1) / 5 * 5) = 4
  · rw [if_pos hc183] at hF
    refine ev_aaload (a := 105) 24 dX3_restore_23 rfl (Nat.le_of_ble_eq_true rfl) HPg_24 (by rw [hc183]; unfold vp_in; decide) (by rw [hc183]; rfl) ?_
    obtain ⟨x5, hx5, hF⟩ := tv_bind hF
    refine ev_callVv (i := 3) 27 [.ref 105] [] dX3_restore_24 rfl okV_X3_22 rfl rfl (Nat.le_of_ble_eq_true rfl) (Nat.le_of_ble_eq_true rfl) HPg_3 rfl (Nat.le_of_ble_eq_true rfl) (Nat.le_of_ble_eq_true rfl) (R_X5_copy_from4 hx5) ?_
    refine ev_aload_n (i := 0) 28 dX3_restore_27 rfl rfl rfl ?_
    refine ev_dup 29 dX3_restore_28 rfl rfl ?_
    refine ev_getfield 32 dX3_restore_29 rfl okf_X3_26 (Nat.le_of_ble_eq_true rfl) HPg_23 rfl ?_
    refine ev_iconst 33 dX3_restore_32 rfl kI_1 ?_
    refine ev_isub 34 dX3_restore_33 rfl ?_
    refine ev_putfield 37 dX3_restore_34 rfl okf_X3_26 (Nat.le_of_ble_eq_true rfl) HPg_23 (Nat.le_of_ble_eq_true rfl) rfl rfl HPs_23_1 ?_
    have hF := Option.some.inj hF
    subst hF
    exact ev_return dX3_restore_37 rfl
  rw [if_neg hc183] at hF
  cases hF

set_option maxRecDepth 100000 in
set_option maxHeartbeats 4000000 in
theorem R_X7_undo {g : tv_G} {l : Launch} {si : Nat → Int32} {sa : Nat → Nat → Int32} {hs : Nat → (Nat → Int32) × (Nat → Nat → Int32)} {tx : Nat → Int32} {tl : Int32} {hc : Int32} {hn : Int32} {v : Nat → Int32} {pa : Nat → Int32} {mt : Nat → Int32} {pm : Int32} {ty : Int32} {ra : Int32}  {p : Int32 × (Nat → Int32) × (Nat → Nat → Int32) × Int32 × Int32} (hF : F_X7_undo si sa hs hc hn = some p) : tv_E g l yX7_undo cX7_undo 1 (some .int) 5 0 0 0 [.ref 0] [] (HP si sa hs tx tl hc hn v pa mt pm ty ra) (some (.int p.1)) (HP p.2.1 p.2.2.1 hs tx tl p.2.2.2.1 p.2.2.2.2 v pa mt pm ty ra) := by
  unfold F_X7_undo at hF
  refine ev_aload_n (i := 0) 1 dX7_undo_0 rfl rfl rfl ?_
  refine ev_getfield 4 dX7_undo_1 rfl okf_X7_26 (Nat.le_of_ble_eq_true rfl) HPg_0 rfl ?_
  refine ev_getfield 7 dX7_undo_4 rfl okf_X7_205 (Nat.le_of_ble_eq_true rfl) HPg_23 rfl ?_
  refine ev_if_gt 13 10 dX7_undo_7 rfl rfl (fun hc184 => ?_) (fun hc184 => ?_)
  · rw [if_pos hc184] at hF
    refine ev_aload_n (i := 0) 14 dX7_undo_13 rfl rfl rfl ?_
    refine ev_getfield 17 dX7_undo_14 rfl okf_X7_26 (Nat.le_of_ble_eq_true rfl) HPg_0 rfl ?_
    refine ev_aload_n (i := 0) 18 dX7_undo_17 rfl rfl rfl ?_
    refine ev_getfield 21 dX7_undo_18 rfl okf_X7_19 (Nat.le_of_ble_eq_true rfl) HPg_0 rfl ?_
    obtain ⟨x1, hx1, hF⟩ := tv_bind hF
    refine ev_callVv (i := 23) 24 [.ref 3] [] dX7_undo_21 rfl okV_X7_206 rfl rfl (Nat.le_of_ble_eq_true rfl) (Nat.le_of_ble_eq_true rfl) HPg_23 rfl (Nat.le_of_ble_eq_true rfl) (Nat.le_of_ble_eq_true rfl) (R_X3_restore hx1) ?_
    refine ev_aload_n (i := 0) 25 dX7_undo_24 rfl rfl rfl ?_
    refine ev_getfield 28 dX7_undo_25 rfl okf_X7_26 (Nat.le_of_ble_eq_true rfl) HPg_0 rfl ?_
    refine ev_getfield 31 dX7_undo_28 rfl okf_X7_205 (Nat.le_of_ble_eq_true rfl) HPg_23 rfl ?_
    have hF := Option.some.inj hF
    subst hF
    exact ev_ireturn dX7_undo_31 rfl rfl
  · rw [if_neg hc184] at hF
    refine ev_bipush 12 dX7_undo_10 rfl kB_m9 ?_
    have hF := Option.some.inj hF
    subst hF
    exact ev_ireturn dX7_undo_12 rfl rfl

set_option maxRecDepth 100000 in
set_option maxHeartbeats 4000000 in
theorem R_X7_mixed {g : tv_G} {l : Launch} {si : Nat → Int32} {sa : Nat → Nat → Int32} {hs : Nat → (Nat → Int32) × (Nat → Nat → Int32)} {tx : Nat → Int32} {tl : Int32} {hc : Int32} {hn : Int32} {v : Nat → Int32} {pa : Nat → Int32} {mt : Nat → Int32} {pm : Int32} {ty : Int32} {ra : Int32} {a0 : Int64} {a2 : Int32} {p : Int64} (hF : some (F_X7_mixed a0 a2) = some p) : tv_E g l yX7_mixed cX7_mixed 3 (some .long) 0 0 0 0 [.long a0, .null, .int a2] [] (HP si sa hs tx tl hc hn v pa mt pm ty ra) (some (.long p)) (HP si sa hs tx tl hc hn v pa mt pm ty ra) := by
  unfold F_X7_mixed at hF
  refine ev_ldc2 3 dX7_mixed_0 rfl kc_X7_215 ?_
  refine ev_lload_n (i := 0) 4 dX7_mixed_3 rfl rfl rfl ?_
  refine ev_lmul 5 dX7_mixed_4 rfl ?_
  refine ev_iload_n (i := 2) 6 dX7_mixed_5 rfl rfl rfl ?_
  refine ev_i2l 7 dX7_mixed_6 rfl ?_
  refine ev_ladd 8 dX7_mixed_7 rfl ?_
  have hF := Option.some.inj hF
  subst hF
  exact ev_lreturn dX7_mixed_8 rfl

set_option maxRecDepth 100000 in
set_option maxHeartbeats 4000000 in
theorem R_X7_fingerprint_L89 {g : tv_G} {l : Launch} {si : Nat → Int32} {sa : Nat → Nat → Int32} {hs : Nat → (Nat → Int32) × (Nat → Nat → Int32)} {tx : Nat → Int32} {tl : Int32} {hc : Int32} {hn : Int32} {v : Nat → Int32} {pa : Nat → Int32} {mt : Nat → Int32} {pm : Int32} {ty : Int32} {ra : Int32} {l3 : Int32} {r : Option Value} {h' : tv_Hp} : ∀ (n : Nat) (l1 : Int64) (l4 : Int32)  (x : Int64), F_X7_fingerprint_L89 sa l3 n l1 l4 = some x → tv_E g l yX7_fingerprint cX7_fingerprint 5 (some .long) 4 0 0 120 [.ref 0, .long x, .null, .int l3, .null] [] (HP si sa hs tx tl hc hn v pa mt pm ty ra) r h' → tv_E g l yX7_fingerprint cX7_fingerprint 5 (some .long) 4 0 0 89 [.ref 0, .long l1, .null, .int l3, .int l4] [] (HP si sa hs tx tl hc hn v pa mt pm ty ra) r h' := by
  intro n
  induction n with
  | zero => intro l1 l4 x hF k; cases hF
  | succ n ih =>
      intro l1 l4 x hF k
      rw [F_X7_fingerprint_L89] at hF
      refine ev_iload 91 dX7_fingerprint_89 rfl rfl ?_
      refine ev_bipush 93 dX7_fingerprint_91 rfl kB_8 ?_
      refine ev_icmp_ge 120 96 dX7_fingerprint_93 rfl rfl (fun hc185 => ?_) (fun hc185 => ?_)
      · rw [if_pos hc185] at hF
        have hF := Option.some.inj hF
        subst hF
        refine ev_weak [.ref 0, .long l1, .null, .int l3, .null] ⟨Or.inr rfl, ⟨Or.inr rfl, ⟨Or.inl rfl, ⟨Or.inr rfl, ⟨Or.inl rfl, trivial⟩⟩⟩⟩⟩ ?_
        exact k
      · rw [if_neg hc185] at hF
        refine ev_lload_n (i := 1) 97 dX7_fingerprint_96 rfl rfl rfl ?_
        refine ev_aload_n (i := 0) 98 dX7_fingerprint_97 rfl rfl rfl ?_
        refine ev_getfield 101 dX7_fingerprint_98 rfl okf_X7_19 (Nat.le_of_ble_eq_true rfl) HPg_0 rfl ?_
        refine ev_getfield 104 dX7_fingerprint_101 rfl okf_X7_96 (Nat.le_of_ble_eq_true rfl) HPg_3 rfl ?_
        refine ev_iload_n (i := 3) 105 dX7_fingerprint_104 rfl rfl rfl ?_
        refine ev_iload 107 dX7_fingerprint_105 rfl rfl ?_
        obtain ⟨x1, hx1, hF⟩ := tv_bind hF
        refine ev_callVi (i := 10) 110 [.int l3, .int l4] [.long l1] dX7_fingerprint_107 rfl okV_X7_185 rfl rfl (Nat.le_of_ble_eq_true rfl) (Nat.le_of_ble_eq_true rfl) HPg_10 rfl (Nat.le_of_ble_eq_true rfl) (Nat.le_of_ble_eq_true rfl) (R_X6_number hx1) ?_
        refine ev_callSl 113 [.long l1, .int x1] [] dX7_fingerprint_110 rfl okS_X7_211 rfl rfl (Nat.le_of_ble_eq_true rfl) rfl (Nat.le_of_ble_eq_true rfl) (Nat.le_of_ble_eq_true rfl) (R_X7_mixed rfl) ?_
        refine ev_lstore_n (i := 1) (L2 := [.ref 0, .long (F_X7_mixed l1 x1), .null, .int l3, .int l4]) 114 dX7_fingerprint_113 rfl rfl (Nat.le_of_ble_eq_true rfl) rfl ?_
        refine ev_iinc (L2 := [.ref 0, .long (F_X7_mixed l1 x1), .null, .int l3, .int (l4 + 1)]) 117 dX7_fingerprint_114 rfl rfl (kA_1 _) (Nat.le_of_ble_eq_true rfl) rfl ?_
        refine ev_goto 89 dX7_fingerprint_117 rfl ?_
        exact ih _ _ _ hF k

set_option maxRecDepth 100000 in
set_option maxHeartbeats 4000000 in
theorem R_X7_fingerprint_L72 {g : tv_G} {l : Launch} {si : Nat → Int32} {sa : Nat → Nat → Int32} {hs : Nat → (Nat → Int32) × (Nat → Nat → Int32)} {tx : Nat → Int32} {tl : Int32} {hc : Int32} {hn : Int32} {v : Nat → Int32} {pa : Nat → Int32} {mt : Nat → Int32} {pm : Int32} {ty : Int32} {ra : Int32}  {r : Option Value} {h' : tv_Hp} : ∀ (n : Nat) (l1 : Int64) (l3 : Int32)  (x : Int64), F_X7_fingerprint_L72 si sa n l1 l3 = some x → tv_E g l yX7_fingerprint cX7_fingerprint 5 (some .long) 4 0 0 126 [.ref 0, .long x, .null, .null, .null] [] (HP si sa hs tx tl hc hn v pa mt pm ty ra) r h' → tv_E g l yX7_fingerprint cX7_fingerprint 5 (some .long) 4 0 0 72 [.ref 0, .long l1, .null, .int l3, .null] [] (HP si sa hs tx tl hc hn v pa mt pm ty ra) r h' := by
  intro n
  induction n with
  | zero => intro l1 l3 x hF k; cases hF
  | succ n ih =>
      intro l1 l3 x hF k
      rw [F_X7_fingerprint_L72] at hF
      refine ev_iload_n (i := 3) 73 dX7_fingerprint_72 rfl rfl rfl ?_
      refine ev_aload_n (i := 0) 74 dX7_fingerprint_73 rfl rfl rfl ?_
      refine ev_getfield 77 dX7_fingerprint_74 rfl okf_X7_19 (Nat.le_of_ble_eq_true rfl) HPg_0 rfl ?_
      refine ev_getfield 80 dX7_fingerprint_77 rfl okf_X7_96 (Nat.le_of_ble_eq_true rfl) HPg_3 rfl ?_
      refine ev_getfield 83 dX7_fingerprint_80 rfl okf_X7_100 (Nat.le_of_ble_eq_true rfl) HPg_10 rfl ?_
      refine ev_icmp_gt 126 86 dX7_fingerprint_83 rfl rfl (fun hc186 => ?_) (fun hc186 => ?_)
      · rw [if_pos hc186] at hF
        have hF := Option.some.inj hF
        subst hF
        refine ev_weak [.ref 0, .long l1, .null, .null, .null] ⟨Or.inr rfl, ⟨Or.inr rfl, ⟨Or.inl rfl, ⟨Or.inl rfl, ⟨Or.inl rfl, trivial⟩⟩⟩⟩⟩ ?_
        exact k
      · rw [if_neg hc186] at hF
        refine ev_iconst 87 dX7_fingerprint_86 rfl kI_0 ?_
        refine ev_istore (L2 := [.ref 0, .long l1, .null, .int l3, .int 0]) 89 dX7_fingerprint_87 rfl (Nat.le_of_ble_eq_true rfl) rfl ?_
        obtain ⟨x2, hx2, hF⟩ := tv_bind hF
        refine R_X7_fingerprint_L89 _ _ _ _ hx2 ?_
        refine ev_iinc (L2 := [.ref 0, .long x2, .null, .int (l3 + 1), .null]) 123 dX7_fingerprint_120 rfl rfl (kA_1 _) (Nat.le_of_ble_eq_true rfl) rfl ?_
        refine ev_goto 72 dX7_fingerprint_123 rfl ?_
        exact ih _ _ _ hF k

set_option maxRecDepth 100000 in
set_option maxHeartbeats 4000000 in
theorem R_X7_fingerprint_L154 {g : tv_G} {l : Launch} {si : Nat → Int32} {sa : Nat → Nat → Int32} {hs : Nat → (Nat → Int32) × (Nat → Nat → Int32)} {tx : Nat → Int32} {tl : Int32} {hc : Int32} {hn : Int32} {v : Nat → Int32} {pa : Nat → Int32} {mt : Nat → Int32} {pm : Int32} {ty : Int32} {ra : Int32} {l3 : Int32} {r : Option Value} {h' : tv_Hp} : ∀ (n : Nat) (l1 : Int64) (l4 : Int32)  (x : Int64), F_X7_fingerprint_L154 si sa l3 n l1 l4 = some x → tv_E g l yX7_fingerprint cX7_fingerprint 5 (some .long) 4 0 0 182 [.ref 0, .long x, .null, .int l3, .null] [] (HP si sa hs tx tl hc hn v pa mt pm ty ra) r h' → tv_E g l yX7_fingerprint cX7_fingerprint 5 (some .long) 4 0 0 154 [.ref 0, .long l1, .null, .int l3, .int l4] [] (HP si sa hs tx tl hc hn v pa mt pm ty ra) r h' := by
  intro n
  induction n with
  | zero => intro l1 l4 x hF k; cases hF
  | succ n ih =>
      intro l1 l4 x hF k
      rw [F_X7_fingerprint_L154] at hF
      refine ev_iload 156 dX7_fingerprint_154 rfl rfl ?_
      refine ev_bipush 158 dX7_fingerprint_156 rfl kB_6 ?_
      refine ev_icmp_ge 182 161 dX7_fingerprint_158 rfl rfl (fun hc187 => ?_) (fun hc187 => ?_)
      · rw [if_pos hc187] at hF
        have hF := Option.some.inj hF
        subst hF
        refine ev_weak [.ref 0, .long l1, .null, .int l3, .null] ⟨Or.inr rfl, ⟨Or.inr rfl, ⟨Or.inl rfl, ⟨Or.inr rfl, ⟨Or.inl rfl, trivial⟩⟩⟩⟩⟩ ?_
        exact k
      · rw [if_neg hc187] at hF
        refine ev_lload_n (i := 1) 162 dX7_fingerprint_161 rfl rfl rfl ?_
        refine ev_aload_n (i := 0) 163 dX7_fingerprint_162 rfl rfl rfl ?_
        refine ev_getfield 166 dX7_fingerprint_163 rfl okf_X7_19 (Nat.le_of_ble_eq_true rfl) HPg_0 rfl ?_
        refine ev_iload_n (i := 3) 167 dX7_fingerprint_166 rfl rfl rfl ?_
        refine ev_iload 169 dX7_fingerprint_167 rfl rfl ?_
        obtain ⟨x4, hx4, hF⟩ := tv_bind hF
        refine ev_callVi (i := 3) 172 [.int l3, .int l4] [.long l1] dX7_fingerprint_169 rfl okV_X7_191 rfl rfl (Nat.le_of_ble_eq_true rfl) (Nat.le_of_ble_eq_true rfl) HPg_3 rfl (Nat.le_of_ble_eq_true rfl) (Nat.le_of_ble_eq_true rfl) (R_X5_numberOf hx4) ?_
        refine ev_callSl 175 [.long l1, .int x4] [] dX7_fingerprint_172 rfl okS_X7_211 rfl rfl (Nat.le_of_ble_eq_true rfl) rfl (Nat.le_of_ble_eq_true rfl) (Nat.le_of_ble_eq_true rfl) (R_X7_mixed rfl) ?_
        refine ev_lstore_n (i := 1) (L2 := [.ref 0, .long (F_X7_mixed l1 x4), .null, .int l3, .int l4]) 176 dX7_fingerprint_175 rfl rfl (Nat.le_of_ble_eq_true rfl) rfl ?_
        refine ev_iinc (L2 := [.ref 0, .long (F_X7_mixed l1 x4), .null, .int l3, .int (l4 + 1)]) 179 dX7_fingerprint_176 rfl rfl (kA_1 _) (Nat.le_of_ble_eq_true rfl) rfl ?_
        refine ev_goto 154 dX7_fingerprint_179 rfl ?_
        exact ih _ _ _ hF k

set_option maxRecDepth 100000 in
set_option maxHeartbeats 4000000 in
theorem R_X7_fingerprint_L140 {g : tv_G} {l : Launch} {si : Nat → Int32} {sa : Nat → Nat → Int32} {hs : Nat → (Nat → Int32) × (Nat → Nat → Int32)} {tx : Nat → Int32} {tl : Int32} {hc : Int32} {hn : Int32} {v : Nat → Int32} {pa : Nat → Int32} {mt : Nat → Int32} {pm : Int32} {ty : Int32} {ra : Int32}  {r : Option Value} {h' : tv_Hp} : ∀ (n : Nat) (l1 : Int64) (l3 : Int32)  (x : Int64), F_X7_fingerprint_L140 si sa n l1 l3 = some x → tv_E g l yX7_fingerprint cX7_fingerprint 5 (some .long) 4 0 0 188 [.null, .long x, .null, .null, .null] [] (HP si sa hs tx tl hc hn v pa mt pm ty ra) r h' → tv_E g l yX7_fingerprint cX7_fingerprint 5 (some .long) 4 0 0 140 [.ref 0, .long l1, .null, .int l3, .null] [] (HP si sa hs tx tl hc hn v pa mt pm ty ra) r h' := by
  intro n
  induction n with
  | zero => intro l1 l3 x hF k; cases hF
  | succ n ih =>
      intro l1 l3 x hF k
      rw [F_X7_fingerprint_L140] at hF
      refine ev_iload_n (i := 3) 141 dX7_fingerprint_140 rfl rfl rfl ?_
      refine ev_aload_n (i := 0) 142 dX7_fingerprint_141 rfl rfl rfl ?_
      refine ev_getfield 145 dX7_fingerprint_142 rfl okf_X7_19 (Nat.le_of_ble_eq_true rfl) HPg_0 rfl ?_
      refine ev_getfield 148 dX7_fingerprint_145 rfl okf_X7_47 (Nat.le_of_ble_eq_true rfl) HPg_3 rfl ?_
      refine ev_icmp_ge 188 151 dX7_fingerprint_148 rfl rfl (fun hc188 => ?_) (fun hc188 => ?_)
      · rw [if_pos hc188] at hF
        have hF := Option.some.inj hF
        subst hF
        refine ev_weak [.null, .long l1, .null, .null, .null] ⟨Or.inl rfl, ⟨Or.inr rfl, ⟨Or.inl rfl, ⟨Or.inl rfl, ⟨Or.inl rfl, trivial⟩⟩⟩⟩⟩ ?_
        exact k
      · rw [if_neg hc188] at hF
        refine ev_iconst 152 dX7_fingerprint_151 rfl kI_0 ?_
        refine ev_istore (L2 := [.ref 0, .long l1, .null, .int l3, .int 0]) 154 dX7_fingerprint_152 rfl (Nat.le_of_ble_eq_true rfl) rfl ?_
        obtain ⟨x5, hx5, hF⟩ := tv_bind hF
        refine R_X7_fingerprint_L154 _ _ _ _ hx5 ?_
        refine ev_iinc (L2 := [.ref 0, .long x5, .null, .int (l3 + 1), .null]) 185 dX7_fingerprint_182 rfl rfl (kA_1 _) (Nat.le_of_ble_eq_true rfl) rfl ?_
        refine ev_goto 140 dX7_fingerprint_185 rfl ?_
        exact ih _ _ _ hF k

set_option maxRecDepth 100000 in
set_option maxHeartbeats 4000000 in
theorem R_X7_fingerprint {g : tv_G} {l : Launch} {si : Nat → Int32} {sa : Nat → Nat → Int32} {hs : Nat → (Nat → Int32) × (Nat → Nat → Int32)} {tx : Nat → Int32} {tl : Int32} {hc : Int32} {hn : Int32} {v : Nat → Int32} {pa : Nat → Int32} {mt : Nat → Int32} {pm : Int32} {ty : Int32} {ra : Int32}  {p : Int64} (hF : F_X7_fingerprint si sa = some p) : tv_E g l yX7_fingerprint cX7_fingerprint 5 (some .long) 4 0 0 0 [.ref 0, .null, .null, .null, .null] [] (HP si sa hs tx tl hc hn v pa mt pm ty ra) (some (.long p)) (HP si sa hs tx tl hc hn v pa mt pm ty ra) := by
  unfold F_X7_fingerprint at hF
  refine ev_ldc2 3 dX7_fingerprint_0 rfl kc_X7_209 ?_
  refine ev_lstore_n (i := 1) (L2 := [.ref 0, .long 83, .null, .null, .null]) 4 dX7_fingerprint_3 rfl rfl (Nat.le_of_ble_eq_true rfl) rfl ?_
  refine ev_lload_n (i := 1) 5 dX7_fingerprint_4 rfl rfl rfl ?_
  refine ev_aload_n (i := 0) 6 dX7_fingerprint_5 rfl rfl rfl ?_
  refine ev_getfield 9 dX7_fingerprint_6 rfl okf_X7_19 (Nat.le_of_ble_eq_true rfl) HPg_0 rfl ?_
  refine ev_getfield 12 dX7_fingerprint_9 rfl okf_X7_76 (Nat.le_of_ble_eq_true rfl) HPg_3 rfl ?_
  refine ev_callSl 15 [.long 83, .int (si 0)] [] dX7_fingerprint_12 rfl okS_X7_211 rfl rfl (Nat.le_of_ble_eq_true rfl) rfl (Nat.le_of_ble_eq_true rfl) (Nat.le_of_ble_eq_true rfl) (R_X7_mixed rfl) ?_
  refine ev_lstore_n (i := 1) (L2 := [.ref 0, .long (F_X7_mixed 83 (si 0)), .null, .null, .null]) 16 dX7_fingerprint_15 rfl rfl (Nat.le_of_ble_eq_true rfl) rfl ?_
  refine ev_lload_n (i := 1) 17 dX7_fingerprint_16 rfl rfl rfl ?_
  refine ev_aload_n (i := 0) 18 dX7_fingerprint_17 rfl rfl rfl ?_
  refine ev_getfield 21 dX7_fingerprint_18 rfl okf_X7_19 (Nat.le_of_ble_eq_true rfl) HPg_0 rfl ?_
  refine ev_getfield 24 dX7_fingerprint_21 rfl okf_X7_93 (Nat.le_of_ble_eq_true rfl) HPg_3 rfl ?_
  refine ev_callSl 27 [.long (F_X7_mixed 83 (si 0)), .int (si 4)] [] dX7_fingerprint_24 rfl okS_X7_211 rfl rfl (Nat.le_of_ble_eq_true rfl) rfl (Nat.le_of_ble_eq_true rfl) (Nat.le_of_ble_eq_true rfl) (R_X7_mixed rfl) ?_
  refine ev_lstore_n (i := 1) (L2 := [.ref 0, .long (F_X7_mixed (F_X7_mixed 83 (si 0)) (si 4)), .null, .null, .null]) 28 dX7_fingerprint_27 rfl rfl (Nat.le_of_ble_eq_true rfl) rfl ?_
  refine ev_lload_n (i := 1) 29 dX7_fingerprint_28 rfl rfl rfl ?_
  refine ev_aload_n (i := 0) 30 dX7_fingerprint_29 rfl rfl rfl ?_
  refine ev_getfield 33 dX7_fingerprint_30 rfl okf_X7_19 (Nat.le_of_ble_eq_true rfl) HPg_0 rfl ?_
  refine ev_getfield 36 dX7_fingerprint_33 rfl okf_X7_153 (Nat.le_of_ble_eq_true rfl) HPg_3 rfl ?_
  refine ev_callSl 39 [.long (F_X7_mixed (F_X7_mixed 83 (si 0)) (si 4)), .int (si 5)] [] dX7_fingerprint_36 rfl okS_X7_211 rfl rfl (Nat.le_of_ble_eq_true rfl) rfl (Nat.le_of_ble_eq_true rfl) (Nat.le_of_ble_eq_true rfl) (R_X7_mixed rfl) ?_
  refine ev_lstore_n (i := 1) (L2 := [.ref 0, .long (F_X7_mixed (F_X7_mixed (F_X7_mixed 83 (si 0)) (si 4)) (si 5)), .null, .null, .null]) 40 dX7_fingerprint_39 rfl rfl (Nat.le_of_ble_eq_true rfl) rfl ?_
  refine ev_lload_n (i := 1) 41 dX7_fingerprint_40 rfl rfl rfl ?_
  refine ev_aload_n (i := 0) 42 dX7_fingerprint_41 rfl rfl rfl ?_
  refine ev_getfield 45 dX7_fingerprint_42 rfl okf_X7_19 (Nat.le_of_ble_eq_true rfl) HPg_0 rfl ?_
  refine ev_getfield 48 dX7_fingerprint_45 rfl okf_X7_96 (Nat.le_of_ble_eq_true rfl) HPg_3 rfl ?_
  refine ev_getfield 51 dX7_fingerprint_48 rfl okf_X7_100 (Nat.le_of_ble_eq_true rfl) HPg_10 rfl ?_
  refine ev_callSl 54 [.long (F_X7_mixed (F_X7_mixed (F_X7_mixed 83 (si 0)) (si 4)) (si 5)), .int (si 9)] [] dX7_fingerprint_51 rfl okS_X7_211 rfl rfl (Nat.le_of_ble_eq_true rfl) rfl (Nat.le_of_ble_eq_true rfl) (Nat.le_of_ble_eq_true rfl) (R_X7_mixed rfl) ?_
  refine ev_lstore_n (i := 1) (L2 := [.ref 0, .long (F_X7_mixed (F_X7_mixed (F_X7_mixed (F_X7_mixed 83 (si 0)) (si 4)) (si 5)) (si 9)), .null, .null, .null]) 55 dX7_fingerprint_54 rfl rfl (Nat.le_of_ble_eq_true rfl) rfl ?_
  refine ev_lload_n (i := 1) 56 dX7_fingerprint_55 rfl rfl rfl ?_
  refine ev_aload_n (i := 0) 57 dX7_fingerprint_56 rfl rfl rfl ?_
  refine ev_getfield 60 dX7_fingerprint_57 rfl okf_X7_19 (Nat.le_of_ble_eq_true rfl) HPg_0 rfl ?_
  refine ev_getfield 63 dX7_fingerprint_60 rfl okf_X7_194 (Nat.le_of_ble_eq_true rfl) HPg_3 rfl ?_
  refine ev_getfield 66 dX7_fingerprint_63 rfl okf_X7_198 (Nat.le_of_ble_eq_true rfl) HPg_19 rfl ?_
  refine ev_callSl 69 [.long (F_X7_mixed (F_X7_mixed (F_X7_mixed (F_X7_mixed 83 (si 0)) (si 4)) (si 5)) (si 9)), .int (si 10)] [] dX7_fingerprint_66 rfl okS_X7_211 rfl rfl (Nat.le_of_ble_eq_true rfl) rfl (Nat.le_of_ble_eq_true rfl) (Nat.le_of_ble_eq_true rfl) (R_X7_mixed rfl) ?_
  refine ev_lstore_n (i := 1) (L2 := [.ref 0, .long (F_X7_mixed (F_X7_mixed (F_X7_mixed (F_X7_mixed (F_X7_mixed 83 (si 0)) (si 4)) (si 5)) (si 9)) (si 10)), .null, .null, .null]) 70 dX7_fingerprint_69 rfl rfl (Nat.le_of_ble_eq_true rfl) rfl ?_
  refine ev_iconst 71 dX7_fingerprint_70 rfl kI_1 ?_
  refine ev_istore_n (i := 3) (L2 := [.ref 0, .long (F_X7_mixed (F_X7_mixed (F_X7_mixed (F_X7_mixed (F_X7_mixed 83 (si 0)) (si 4)) (si 5)) (si 9)) (si 10)), .null, .int 1, .null]) 72 dX7_fingerprint_71 rfl rfl (Nat.le_of_ble_eq_true rfl) rfl ?_
  obtain ⟨x3, hx3, hF⟩ := tv_bind hF
  refine R_X7_fingerprint_L72 _ _ _ _ hx3 ?_
  refine ev_lload_n (i := 1) 127 dX7_fingerprint_126 rfl rfl rfl ?_
  refine ev_aload_n (i := 0) 128 dX7_fingerprint_127 rfl rfl rfl ?_
  refine ev_getfield 131 dX7_fingerprint_128 rfl okf_X7_19 (Nat.le_of_ble_eq_true rfl) HPg_0 rfl ?_
  refine ev_getfield 134 dX7_fingerprint_131 rfl okf_X7_47 (Nat.le_of_ble_eq_true rfl) HPg_3 rfl ?_
  refine ev_callSl 137 [.long x3, .int (si 1)] [] dX7_fingerprint_134 rfl okS_X7_211 rfl rfl (Nat.le_of_ble_eq_true rfl) rfl (Nat.le_of_ble_eq_true rfl) (Nat.le_of_ble_eq_true rfl) (R_X7_mixed rfl) ?_
  refine ev_lstore_n (i := 1) (L2 := [.ref 0, .long (F_X7_mixed x3 (si 1)), .null, .null, .null]) 138 dX7_fingerprint_137 rfl rfl (Nat.le_of_ble_eq_true rfl) rfl ?_
  refine ev_iconst 139 dX7_fingerprint_138 rfl kI_0 ?_
  refine ev_istore_n (i := 3) (L2 := [.ref 0, .long (F_X7_mixed x3 (si 1)), .null, .int 0, .null]) 140 dX7_fingerprint_139 rfl rfl (Nat.le_of_ble_eq_true rfl) rfl ?_
  obtain ⟨x6, hx6, hF⟩ := tv_bind hF
  refine R_X7_fingerprint_L140 _ _ _ _ hx6 ?_
  refine ev_lload_n (i := 1) 189 dX7_fingerprint_188 rfl rfl rfl ?_
  have hF := Option.some.inj hF
  subst hF
  exact ev_lreturn dX7_fingerprint_189 rfl

set_option maxRecDepth 100000 in
set_option maxHeartbeats 4000000 in
theorem R_X8_in {g : tv_G} {l : Launch} {si : Nat → Int32} {sa : Nat → Nat → Int32} {hs : Nat → (Nat → Int32) × (Nat → Nat → Int32)} {tx : Nat → Int32} {tl : Int32} {hc : Int32} {hn : Int32} {v : Nat → Int32} {pa : Nat → Int32} {mt : Nat → Int32} {pm : Int32} {ty : Int32} {ra : Int32} {a0 : Int32} {a1 : Int32} {a2 : Int32} {p : Int32} (hF : some (F_X8_in a0 a1 a2) = some p) : tv_E g l yX8_in cX8_in 3 (some .boolean) 0 0 0 0 [.int a0, .int a1, .int a2] [] (HP si sa hs tx tl hc hn v pa mt pm ty ra) (some (.int p)) (HP si sa hs tx tl hc hn v pa mt pm ty ra) := by
  unfold F_X8_in at hF
  refine ev_iload_n (i := 0) 1 dX8_in_0 rfl rfl rfl ?_
  refine ev_iload_n (i := 1) 2 dX8_in_1 rfl rfl rfl ?_
  refine ev_icmp_lt 14 5 dX8_in_2 rfl rfl (fun hc189 => ?_) (fun hc189 => ?_)
  · rw [if_pos hc189] at hF
    refine ev_iconst 15 dX8_in_14 rfl kI_0 ?_
    have hF := Option.some.inj hF
    subst hF
    exact ev_ireturn dX8_in_15 rfl rfl
  · rw [if_neg hc189] at hF
    refine ev_iload_n (i := 0) 6 dX8_in_5 rfl rfl rfl ?_
    refine ev_iload_n (i := 2) 7 dX8_in_6 rfl rfl rfl ?_
    refine ev_icmp_gt 14 10 dX8_in_7 rfl rfl (fun hc190 => ?_) (fun hc190 => ?_)
    · rw [if_pos hc190] at hF
      refine ev_iconst 15 dX8_in_14 rfl kI_0 ?_
      have hF := Option.some.inj hF
      subst hF
      exact ev_ireturn dX8_in_15 rfl rfl
    · rw [if_neg hc190] at hF
      refine ev_iconst 11 dX8_in_10 rfl kI_1 ?_
      refine ev_goto 15 dX8_in_11 rfl ?_
      have hF := Option.some.inj hF
      subst hF
      exact ev_ireturn dX8_in_15 rfl rfl

set_option maxRecDepth 100000 in
set_option maxHeartbeats 4000000 in
theorem R_X8_isIn {g : tv_G} {l : Launch} {si : Nat → Int32} {sa : Nat → Nat → Int32} {hs : Nat → (Nat → Int32) × (Nat → Nat → Int32)} {tx : Nat → Int32} {tl : Int32} {hc : Int32} {hn : Int32} {v : Nat → Int32} {pa : Nat → Int32} {mt : Nat → Int32} {pm : Int32} {ty : Int32} {ra : Int32} {a0 : Int32} {a1 : Int32} {p : Int32} (hF : F_X8_isIn a0 a1 = some p) : tv_E g l yX8_isIn cX8_isIn 2 (some .boolean) 1 0 0 0 [.int a0, .int a1] [] (HP si sa hs tx tl hc hn v pa mt pm ty ra) (some (.int p)) (HP si sa hs tx tl hc hn v pa mt pm ty ra) := by
  unfold F_X8_isIn at hF
  refine ev_iload_n (i := 0) 1 dX8_isIn_0 rfl rfl rfl ?_
  by_cases hc191 : a0 = 0
  · rw [if_pos hc191] at hF
    refine ev_tableIn (off := 35) 36 dX8_isIn_1 (by rw [hc191]; decide) (by rw [hc191]; decide) (by rw [hc191]; rfl) rfl ?_
    refine ev_iload_n (i := 1) 37 dX8_isIn_36 rfl rfl rfl ?_
    refine ev_bipush 39 dX8_isIn_37 rfl kB_10 ?_
    refine ev_sipush 42 dX8_isIn_39 rfl kS_1000 ?_
    refine ev_callSi 45 [.int a1, .int 10, .int 1000] [] dX8_isIn_42 rfl okS_X8_23 rfl rfl (Nat.le_of_ble_eq_true rfl) rfl (Nat.le_of_ble_eq_true rfl) (Nat.le_of_ble_eq_true rfl) (R_X8_in rfl) ?_
    by_cases hz1 : ¬ ((F_X8_in a1 10 1000) = 0 ∨ (F_X8_in a1 10 1000) = 1)
    · rw [if_pos hz1] at hF; cases hF
    rw [if_neg hz1] at hF
    have hF := Option.some.inj hF
    subst hF
    exact ev_ireturn dX8_isIn_45 rfl (tv_nz hz1)
  rw [if_neg hc191] at hF
  by_cases hc192 : a0 = 1
  · rw [if_pos hc192] at hF
    refine ev_tableIn (off := 45) 46 dX8_isIn_1 (by rw [hc192]; decide) (by rw [hc192]; decide) (by rw [hc192]; rfl) rfl ?_
    refine ev_iload_n (i := 1) 47 dX8_isIn_46 rfl rfl rfl ?_
    refine ev_iconst 48 dX8_isIn_47 rfl kI_1 ?_
    refine ev_bipush 50 dX8_isIn_48 rfl kB_9 ?_
    refine ev_callSi 53 [.int a1, .int 1, .int 9] [] dX8_isIn_50 rfl okS_X8_23 rfl rfl (Nat.le_of_ble_eq_true rfl) rfl (Nat.le_of_ble_eq_true rfl) (Nat.le_of_ble_eq_true rfl) (R_X8_in rfl) ?_
    by_cases hz2 : ¬ ((F_X8_in a1 1 9) = 0 ∨ (F_X8_in a1 1 9) = 1)
    · rw [if_pos hz2] at hF; cases hF
    rw [if_neg hz2] at hF
    have hF := Option.some.inj hF
    subst hF
    exact ev_ireturn dX8_isIn_53 rfl (tv_nz hz2)
  rw [if_neg hc192] at hF
  by_cases hc193 : a0 = 2
  · rw [if_pos hc193] at hF
    refine ev_tableIn (off := 53) 54 dX8_isIn_1 (by rw [hc193]; decide) (by rw [hc193]; decide) (by rw [hc193]; rfl) rfl ?_
    refine ev_iload_n (i := 1) 55 dX8_isIn_54 rfl rfl rfl ?_
    refine ev_iconst 56 dX8_isIn_55 rfl kI_1 ?_
    refine ev_bipush 58 dX8_isIn_56 rfl kB_9 ?_
    refine ev_callSi 61 [.int a1, .int 1, .int 9] [] dX8_isIn_58 rfl okS_X8_23 rfl rfl (Nat.le_of_ble_eq_true rfl) rfl (Nat.le_of_ble_eq_true rfl) (Nat.le_of_ble_eq_true rfl) (R_X8_in rfl) ?_
    by_cases hz3 : ¬ ((F_X8_in a1 1 9) = 0 ∨ (F_X8_in a1 1 9) = 1)
    · rw [if_pos hz3] at hF; cases hF
    rw [if_neg hz3] at hF
    have hF := Option.some.inj hF
    subst hF
    exact ev_ireturn dX8_isIn_61 rfl (tv_nz hz3)
  rw [if_neg hc193] at hF
  by_cases hc194 : a0 = 3
  · rw [if_pos hc194] at hF
    refine ev_tableIn (off := 61) 62 dX8_isIn_1 (by rw [hc194]; decide) (by rw [hc194]; decide) (by rw [hc194]; rfl) rfl ?_
    refine ev_iload_n (i := 1) 63 dX8_isIn_62 rfl rfl rfl ?_
    refine ev_iconst 64 dX8_isIn_63 rfl kI_1 ?_
    refine ev_bipush 66 dX8_isIn_64 rfl kB_100 ?_
    refine ev_callSi 69 [.int a1, .int 1, .int 100] [] dX8_isIn_66 rfl okS_X8_23 rfl rfl (Nat.le_of_ble_eq_true rfl) rfl (Nat.le_of_ble_eq_true rfl) (Nat.le_of_ble_eq_true rfl) (R_X8_in rfl) ?_
    by_cases hz4 : ¬ ((F_X8_in a1 1 100) = 0 ∨ (F_X8_in a1 1 100) = 1)
    · rw [if_pos hz4] at hF; cases hF
    rw [if_neg hz4] at hF
    have hF := Option.some.inj hF
    subst hF
    exact ev_ireturn dX8_isIn_69 rfl (tv_nz hz4)
  rw [if_neg hc194] at hF
  by_cases hc195 : a0 = 4
  · rw [if_pos hc195] at hF
    refine ev_tableIn (off := 69) 70 dX8_isIn_1 (by rw [hc195]; decide) (by rw [hc195]; decide) (by rw [hc195]; rfl) rfl ?_
    refine ev_iload_n (i := 1) 71 dX8_isIn_70 rfl rfl rfl ?_
    refine ev_iconst 72 dX8_isIn_71 rfl kI_0 ?_
    refine ev_bipush 74 dX8_isIn_72 rfl kB_100 ?_
    refine ev_callSi 77 [.int a1, .int 0, .int 100] [] dX8_isIn_74 rfl okS_X8_23 rfl rfl (Nat.le_of_ble_eq_true rfl) rfl (Nat.le_of_ble_eq_true rfl) (Nat.le_of_ble_eq_true rfl) (R_X8_in rfl) ?_
    by_cases hz5 : ¬ ((F_X8_in a1 0 100) = 0 ∨ (F_X8_in a1 0 100) = 1)
    · rw [if_pos hz5] at hF; cases hF
    rw [if_neg hz5] at hF
    have hF := Option.some.inj hF
    subst hF
    exact ev_ireturn dX8_isIn_77 rfl (tv_nz hz5)
  rw [if_neg hc195] at hF
  refine ev_tableOut 78 dX8_isIn_1 (tv_out5 hc191 hc192 hc193 hc194 hc195) rfl ?_
  refine ev_iload_n (i := 0) 79 dX8_isIn_78 rfl rfl rfl ?_
  refine ev_iconst 80 dX8_isIn_79 rfl kI_5 ?_
  refine ev_icmp_ne 97 83 dX8_isIn_80 rfl rfl (fun hc196 => ?_) (fun hc196 => ?_)
  · rw [if_neg hc196] at hF
    refine ev_iconst 98 dX8_isIn_97 rfl kI_0 ?_
    have hF := Option.some.inj hF
    subst hF
    exact ev_ireturn dX8_isIn_98 rfl rfl
  · rw [if_pos hc196] at hF
    refine ev_iload_n (i := 1) 84 dX8_isIn_83 rfl rfl rfl ?_
    refine ev_iconst 85 dX8_isIn_84 rfl kI_1 ?_
    refine ev_bipush 87 dX8_isIn_85 rfl kB_10 ?_
    refine ev_callSi 90 [.int a1, .int 1, .int 10] [] dX8_isIn_87 rfl okS_X8_23 rfl rfl (Nat.le_of_ble_eq_true rfl) rfl (Nat.le_of_ble_eq_true rfl) (Nat.le_of_ble_eq_true rfl) (R_X8_in rfl) ?_
    refine ev_if_eq 97 93 dX8_isIn_90 rfl rfl (fun hc197 => ?_) (fun hc197 => ?_)
    · rw [if_pos hc197] at hF
      refine ev_iconst 98 dX8_isIn_97 rfl kI_0 ?_
      have hF := Option.some.inj hF
      subst hF
      exact ev_ireturn dX8_isIn_98 rfl rfl
    · rw [if_neg hc197] at hF
      refine ev_iconst 94 dX8_isIn_93 rfl kI_1 ?_
      refine ev_goto 98 dX8_isIn_94 rfl ?_
      have hF := Option.some.inj hF
      subst hF
      exact ev_ireturn dX8_isIn_98 rfl rfl
