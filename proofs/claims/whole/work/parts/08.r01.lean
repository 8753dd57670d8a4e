set_option maxRecDepth 100000 in
set_option maxHeartbeats 4000000 in
theorem R_X1_copy_to2 {g : tv_G} {l : Launch} {si : Nat → Int32} {sa : Nat → Nat → Int32} {hs : Nat → (Nat → Int32) × (Nat → Nat → Int32)} {tx : Nat → Int32} {tl : Int32} {hc : Int32} {hn : Int32} {v : Nat → Int32} {pa : Nat → Int32} {mt : Nat → Int32} {pm : Int32} {ty : Int32} {ra : Int32} {dI : Nat → Int32} {dA : Nat → Nat → Int32}  {p : (Nat → Int32) × (Nat → Nat → Int32)} (hF : F_X1_copy si sa dI dA = some p) : tv_E g l yX1_copy cX1_copy 2 none 1 0 0 0 [.ref 81, .ref 19] [] (HP si sa (va_up hs 2 (dI, dA)) tx tl hc hn v pa mt pm ty ra) none (HP si sa (va_up hs 2 (p.1, p.2)) tx tl hc hn v pa mt pm ty ra) := by
  unfold F_X1_copy at hF
  refine ev_aload_n (i := 0) 1 dX1_copy_0 rfl rfl rfl ?_
  refine ev_aload_n (i := 1) 2 dX1_copy_1 rfl rfl rfl ?_
  refine ev_getfield 5 dX1_copy_2 rfl okf_X1_21 (Nat.le_of_ble_eq_true rfl) HPg_19 rfl ?_
  refine ev_putfield 8 dX1_copy_5 rfl okf_X1_21 (Nat.le_of_ble_eq_true rfl) HPt_2_16 (Nat.le_of_ble_eq_true rfl) rfl rfl HPst_2_16_0 ?_
  refine ev_aload_n (i := 1) 9 dX1_copy_8 rfl rfl rfl ?_
  refine ev_getfield 12 dX1_copy_9 rfl okf_X1_9 (Nat.le_of_ble_eq_true rfl) HPg_19 rfl ?_
  refine ev_iconst 13 dX1_copy_12 rfl kI_0 ?_
  refine ev_aload_n (i := 0) 14 dX1_copy_13 rfl rfl rfl ?_
  refine ev_getfield 17 dX1_copy_14 rfl okf_X1_9 (Nat.le_of_ble_eq_true rfl) HPt_2_16 rfl ?_
  refine ev_iconst 18 dX1_copy_17 rfl kI_0 ?_
  refine ev_aload_n (i := 0) 19 dX1_copy_18 rfl rfl rfl ?_
  refine ev_getfield 22 dX1_copy_19 rfl okf_X1_9 (Nat.le_of_ble_eq_true rfl) HPt_2_16 rfl ?_
  refine ev_arraylength 23 dX1_copy_22 rfl (Nat.le_of_ble_eq_true rfl) HPt_2_17 kN_20 ?_
  obtain ⟨x1, hx1, hF⟩ := tv_bind hF
  refine ev_arraycopy 26 dX1_copy_23 rfl wc_X1_25 wc_native wc_static wc_init (Nat.le_of_ble_eq_true rfl) (Nat.le_of_ble_eq_true rfl) (Nat.le_of_ble_eq_true rfl) (Nat.le_of_ble_eq_true rfl) HPg_20 HPt_2_17 hx1 HPat_2_17 ?_
  refine ev_aload_n (i := 1) 27 dX1_copy_26 rfl rfl rfl ?_
  refine ev_getfield 30 dX1_copy_27 rfl okf_X1_15 (Nat.le_of_ble_eq_true rfl) HPg_19 rfl ?_
  refine ev_iconst 31 dX1_copy_30 rfl kI_0 ?_
  refine ev_aload_n (i := 0) 32 dX1_copy_31 rfl rfl rfl ?_
  refine ev_getfield 35 dX1_copy_32 rfl okf_X1_15 (Nat.le_of_ble_eq_true rfl) HPt_2_16 rfl ?_
  refine ev_iconst 36 dX1_copy_35 rfl kI_0 ?_
  refine ev_aload_n (i := 0) 37 dX1_copy_36 rfl rfl rfl ?_
  refine ev_getfield 40 dX1_copy_37 rfl okf_X1_15 (Nat.le_of_ble_eq_true rfl) HPt_2_16 rfl ?_
  refine ev_arraylength 41 dX1_copy_40 rfl (Nat.le_of_ble_eq_true rfl) HPt_2_18 kN_20 ?_
  obtain ⟨x2, hx2, hF⟩ := tv_bind hF
  refine ev_arraycopy 44 dX1_copy_41 rfl wc_X1_25 wc_native wc_static wc_init (Nat.le_of_ble_eq_true rfl) (Nat.le_of_ble_eq_true rfl) (Nat.le_of_ble_eq_true rfl) (Nat.le_of_ble_eq_true rfl) HPg_21 HPt_2_18 hx2 HPat_2_18 ?_
  refine ev_aload_n (i := 1) 45 dX1_copy_44 rfl rfl rfl ?_
  refine ev_getfield 48 dX1_copy_45 rfl okf_X1_18 (Nat.le_of_ble_eq_true rfl) HPg_19 rfl ?_
  refine ev_iconst 49 dX1_copy_48 rfl kI_0 ?_
  refine ev_aload_n (i := 0) 50 dX1_copy_49 rfl rfl rfl ?_
  refine ev_getfield 53 dX1_copy_50 rfl okf_X1_18 (Nat.le_of_ble_eq_true rfl) HPt_2_16 rfl ?_
  refine ev_iconst 54 dX1_copy_53 rfl kI_0 ?_
  refine ev_aload_n (i := 0) 55 dX1_copy_54 rfl rfl rfl ?_
  refine ev_getfield 58 dX1_copy_55 rfl okf_X1_18 (Nat.le_of_ble_eq_true rfl) HPt_2_16 rfl ?_
  refine ev_arraylength 59 dX1_copy_58 rfl (Nat.le_of_ble_eq_true rfl) HPt_2_19 kN_20 ?_
  obtain ⟨x3, hx3, hF⟩ := tv_bind hF
  refine ev_arraycopy 62 dX1_copy_59 rfl wc_X1_25 wc_native wc_static wc_init (Nat.le_of_ble_eq_true rfl) (Nat.le_of_ble_eq_true rfl) (Nat.le_of_ble_eq_true rfl) (Nat.le_of_ble_eq_true rfl) HPg_22 HPt_2_19 hx3 HPat_2_19 ?_
  have hF := Option.some.inj hF
  subst hF
  exact ev_return dX1_copy_62 rfl

set_option maxRecDepth 100000 in
set_option maxHeartbeats 4000000 in
theorem R_X1_copy_to3 {g : tv_G} {l : Launch} {si : Nat → Int32} {sa : Nat → Nat → Int32} {hs : Nat → (Nat → Int32) × (Nat → Nat → Int32)} {tx : Nat → Int32} {tl : Int32} {hc : Int32} {hn : Int32} {v : Nat → Int32} {pa : Nat → Int32} {mt : Nat → Int32} {pm : Int32} {ty : Int32} {ra : Int32} {dI : Nat → Int32} {dA : Nat → Nat → Int32}  {p : (Nat → Int32) × (Nat → Nat → Int32)} (hF : F_X1_copy si sa dI dA = some p) : tv_E g l yX1_copy cX1_copy 2 none 1 0 0 0 [.ref 101, .ref 19] [] (HP si sa (va_up hs 3 (dI, dA)) tx tl hc hn v pa mt pm ty ra) none (HP si sa (va_up hs 3 (p.1, p.2)) tx tl hc hn v pa mt pm ty ra) := by
  unfold F_X1_copy at hF
  refine ev_aload_n (i := 0) 1 dX1_copy_0 rfl rfl rfl ?_
  refine ev_aload_n (i := 1) 2 dX1_copy_1 rfl rfl rfl ?_
  refine ev_getfield 5 dX1_copy_2 rfl okf_X1_21 (Nat.le_of_ble_eq_true rfl) HPg_19 rfl ?_
  refine ev_putfield 8 dX1_copy_5 rfl okf_X1_21 (Nat.le_of_ble_eq_true rfl) HPt_3_16 (Nat.le_of_ble_eq_true rfl) rfl rfl HPst_3_16_0 ?_
  refine ev_aload_n (i := 1) 9 dX1_copy_8 rfl rfl rfl ?_
  refine ev_getfield 12 dX1_copy_9 rfl okf_X1_9 (Nat.le_of_ble_eq_true rfl) HPg_19 rfl ?_
  refine ev_iconst 13 dX1_copy_12 rfl kI_0 ?_
  refine ev_aload_n (i := 0) 14 dX1_copy_13 rfl rfl rfl ?_
  refine ev_getfield 17 dX1_copy_14 rfl okf_X1_9 (Nat.le_of_ble_eq_true rfl) HPt_3_16 rfl ?_
  refine ev_iconst 18 dX1_copy_17 rfl kI_0 ?_
  refine ev_aload_n (i := 0) 19 dX1_copy_18 rfl rfl rfl ?_
  refine ev_getfield 22 dX1_copy_19 rfl okf_X1_9 (Nat.le_of_ble_eq_true rfl) HPt_3_16 rfl ?_
  refine ev_arraylength 23 dX1_copy_22 rfl (Nat.le_of_ble_eq_true rfl) HPt_3_17 kN_20 ?_
  obtain ⟨x1, hx1, hF⟩ := tv_bind hF
  refine ev_arraycopy 26 dX1_copy_23 rfl wc_X1_25 wc_native wc_static wc_init (Nat.le_of_ble_eq_true rfl) (Nat.le_of_ble_eq_true rfl) (Nat.le_of_ble_eq_true rfl) (Nat.le_of_ble_eq_true rfl) HPg_20 HPt_3_17 hx1 HPat_3_17 ?_
  refine ev_aload_n (i := 1) 27 dX1_copy_26 rfl rfl rfl ?_
  refine ev_getfield 30 dX1_copy_27 rfl okf_X1_15 (Nat.le_of_ble_eq_true rfl) HPg_19 rfl ?_
  refine ev_iconst 31 dX1_copy_30 rfl kI_0 ?_
  refine ev_aload_n (i := 0) 32 dX1_copy_31 rfl rfl rfl ?_
  refine ev_getfield 35 dX1_copy_32 rfl okf_X1_15 (Nat.le_of_ble_eq_true rfl) HPt_3_16 rfl ?_
  refine ev_iconst 36 dX1_copy_35 rfl kI_0 ?_
  refine ev_aload_n (i := 0) 37 dX1_copy_36 rfl rfl rfl ?_
  refine ev_getfield 40 dX1_copy_37 rfl okf_X1_15 (Nat.le_of_ble_eq_true rfl) HPt_3_16 rfl ?_
  refine ev_arraylength 41 dX1_copy_40 rfl (Nat.le_of_ble_eq_true rfl) HPt_3_18 kN_20 ?_
  obtain ⟨x2, hx2, hF⟩ := tv_bind hF
  refine ev_arraycopy 44 dX1_copy_41 rfl wc_X1_25 wc_native wc_static wc_init (Nat.le_of_ble_eq_true rfl) (Nat.le_of_ble_eq_true rfl) (Nat.le_of_ble_eq_true rfl) (Nat.le_of_ble_eq_true rfl) HPg_21 HPt_3_18 hx2 HPat_3_18 ?_
  refine ev_aload_n (i := 1) 45 dX1_copy_44 rfl rfl rfl ?_
  refine ev_getfield 48 dX1_copy_45 rfl okf_X1_18 (Nat.le_of_ble_eq_true rfl) HPg_19 rfl ?_
  refine ev_iconst 49 dX1_copy_48 rfl kI_0 ?_
  refine ev_aload_n (i := 0) 50 dX1_copy_49 rfl rfl rfl ?_
  refine ev_getfield 53 dX1_copy_50 rfl okf_X1_18 (Nat.le_of_ble_eq_true rfl) HPt_3_16 rfl ?_
  refine ev_iconst 54 dX1_copy_53 rfl kI_0 ?_
  refine ev_aload_n (i := 0) 55 dX1_copy_54 rfl rfl rfl ?_
  refine ev_getfield 58 dX1_copy_55 rfl okf_X1_18 (Nat.le_of_ble_eq_true rfl) HPt_3_16 rfl ?_
  refine ev_arraylength 59 dX1_copy_58 rfl (Nat.le_of_ble_eq_true rfl) HPt_3_19 kN_20 ?_
  obtain ⟨x3, hx3, hF⟩ := tv_bind hF
  refine ev_arraycopy 62 dX1_copy_59 rfl wc_X1_25 wc_native wc_static wc_init (Nat.le_of_ble_eq_true rfl) (Nat.le_of_ble_eq_true rfl) (Nat.le_of_ble_eq_true rfl) (Nat.le_of_ble_eq_true rfl) HPg_22 HPt_3_19 hx3 HPat_3_19 ?_
  have hF := Option.some.inj hF
  subst hF
  exact ev_return dX1_copy_62 rfl

set_option maxRecDepth 100000 in
set_option maxHeartbeats 4000000 in
theorem R_X1_copy_to4 {g : tv_G} {l : Launch} {si : Nat → Int32} {sa : Nat → Nat → Int32} {hs : Nat → (Nat → Int32) × (Nat → Nat → Int32)} {tx : Nat → Int32} {tl : Int32} {hc : Int32} {hn : Int32} {v : Nat → Int32} {pa : Nat → Int32} {mt : Nat → Int32} {pm : Int32} {ty : Int32} {ra : Int32} {dI : Nat → Int32} {dA : Nat → Nat → Int32}  {p : (Nat → Int32) × (Nat → Nat → Int32)} (hF : F_X1_copy si sa dI dA = some p) : tv_E g l yX1_copy cX1_copy 2 none 1 0 0 0 [.ref 121, .ref 19] [] (HP si sa (va_up hs 4 (dI, dA)) tx tl hc hn v pa mt pm ty ra) none (HP si sa (va_up hs 4 (p.1, p.2)) tx tl hc hn v pa mt pm ty ra) := by
  unfold F_X1_copy at hF
  refine ev_aload_n (i := 0) 1 dX1_copy_0 rfl rfl rfl ?_
  refine ev_aload_n (i := 1) 2 dX1_copy_1 rfl rfl rfl ?_
  refine ev_getfield 5 dX1_copy_2 rfl okf_X1_21 (Nat.le_of_ble_eq_true rfl) HPg_19 rfl ?_
  refine ev_putfield 8 dX1_copy_5 rfl okf_X1_21 (Nat.le_of_ble_eq_true rfl) HPt_4_16 (Nat.le_of_ble_eq_true rfl) rfl rfl HPst_4_16_0 ?_
  refine ev_aload_n (i := 1) 9 dX1_copy_8 rfl rfl rfl ?_
  refine ev_getfield 12 dX1_copy_9 rfl okf_X1_9 (Nat.le_of_ble_eq_true rfl) HPg_19 rfl ?_
  refine ev_iconst 13 dX1_copy_12 rfl kI_0 ?_
  refine ev_aload_n (i := 0) 14 dX1_copy_13 rfl rfl rfl ?_
  refine ev_getfield 17 dX1_copy_14 rfl okf_X1_9 (Nat.le_of_ble_eq_true rfl) HPt_4_16 rfl ?_
  refine ev_iconst 18 dX1_copy_17 rfl kI_0 ?_
  refine ev_aload_n (i := 0) 19 dX1_copy_18 rfl rfl rfl ?_
  refine ev_getfield 22 dX1_copy_19 rfl okf_X1_9 (Nat.le_of_ble_eq_true rfl) HPt_4_16 rfl ?_
  refine ev_arraylength 23 dX1_copy_22 rfl (Nat.le_of_ble_eq_true rfl) HPt_4_17 kN_20 ?_
  obtain ⟨x1, hx1, hF⟩ := tv_bind hF
  refine ev_arraycopy 26 dX1_copy_23 rfl wc_X1_25 wc_native wc_static wc_init (Nat.le_of_ble_eq_true rfl) (Nat.le_of_ble_eq_true rfl) (Nat.le_of_ble_eq_true rfl) (Nat.le_of_ble_eq_true rfl) HPg_20 HPt_4_17 hx1 HPat_4_17 ?_
  refine ev_aload_n (i := 1) 27 dX1_copy_26 rfl rfl rfl ?_
  refine ev_getfield 30 dX1_copy_27 rfl okf_X1_15 (Nat.le_of_ble_eq_true rfl) HPg_19 rfl ?_
  refine ev_iconst 31 dX1_copy_30 rfl kI_0 ?_
  refine ev_aload_n (i := 0) 32 dX1_copy_31 rfl rfl rfl ?_
  refine ev_getfield 35 dX1_copy_32 rfl okf_X1_15 (Nat.le_of_ble_eq_true rfl) HPt_4_16 rfl ?_
  refine ev_iconst 36 dX1_copy_35 rfl kI_0 ?_
  refine ev_aload_n (i := 0) 37 dX1_copy_36 rfl rfl rfl ?_
  refine ev_getfield 40 dX1_copy_37 rfl okf_X1_15 (Nat.le_of_ble_eq_true rfl) HPt_4_16 rfl ?_
  refine ev_arraylength 41 dX1_copy_40 rfl (Nat.le_of_ble_eq_true rfl) HPt_4_18 kN_20 ?_
  obtain ⟨x2, hx2, hF⟩ := tv_bind hF
  refine ev_arraycopy 44 dX1_copy_41 rfl wc_X1_25 wc_native wc_static wc_init (Nat.le_of_ble_eq_true rfl) (Nat.le_of_ble_eq_true rfl) (Nat.le_of_ble_eq_true rfl) (Nat.le_of_ble_eq_true rfl) HPg_21 HPt_4_18 hx2 HPat_4_18 ?_
  refine ev_aload_n (i := 1) 45 dX1_copy_44 rfl rfl rfl ?_
  refine ev_getfield 48 dX1_copy_45 rfl okf_X1_18 (Nat.le_of_ble_eq_true rfl) HPg_19 rfl ?_
  refine ev_iconst 49 dX1_copy_48 rfl kI_0 ?_
  refine ev_aload_n (i := 0) 50 dX1_copy_49 rfl rfl rfl ?_
  refine ev_getfield 53 dX1_copy_50 rfl okf_X1_18 (Nat.le_of_ble_eq_true rfl) HPt_4_16 rfl ?_
  refine ev_iconst 54 dX1_copy_53 rfl kI_0 ?_
  refine ev_aload_n (i := 0) 55 dX1_copy_54 rfl rfl rfl ?_
  refine ev_getfield 58 dX1_copy_55 rfl okf_X1_18 (Nat.le_of_ble_eq_true rfl) HPt_4_16 rfl ?_
  refine ev_arraylength 59 dX1_copy_58 rfl (Nat.le_of_ble_eq_true rfl) HPt_4_19 kN_20 ?_
  obtain ⟨x3, hx3, hF⟩ := tv_bind hF
  refine ev_arraycopy 62 dX1_copy_59 rfl wc_X1_25 wc_native wc_static wc_init (Nat.le_of_ble_eq_true rfl) (Nat.le_of_ble_eq_true rfl) (Nat.le_of_ble_eq_true rfl) (Nat.le_of_ble_eq_true rfl) HPg_22 HPt_4_19 hx3 HPat_4_19 ?_
  have hF := Option.some.inj hF
  subst hF
  exact ev_return dX1_copy_62 rfl

set_option maxRecDepth 100000 in
set_option maxHeartbeats 4000000 in
theorem R_X1_copy_from0 {g : tv_G} {l : Launch} {si : Nat → Int32} {sa : Nat → Nat → Int32} {hs : Nat → (Nat → Int32) × (Nat → Nat → Int32)} {tx : Nat → Int32} {tl : Int32} {hc : Int32} {hn : Int32} {v : Nat → Int32} {pa : Nat → Int32} {mt : Nat → Int32} {pm : Int32} {ty : Int32} {ra : Int32}  {p : (Nat → Int32) × (Nat → Nat → Int32)} (hF : F_X1_copy (hs 0).1 (hs 0).2 si sa = some p) : tv_E g l yX1_copy cX1_copy 2 none 1 0 0 0 [.ref 19, .ref 41] [] (HP si sa hs tx tl hc hn v pa mt pm ty ra) none (HP p.1 p.2 hs tx tl hc hn v pa mt pm ty ra) := by
  unfold F_X1_copy at hF
  refine ev_aload_n (i := 0) 1 dX1_copy_0 rfl rfl rfl ?_
  refine ev_aload_n (i := 1) 2 dX1_copy_1 rfl rfl rfl ?_
  refine ev_getfield 5 dX1_copy_2 rfl okf_X1_21 (Nat.le_of_ble_eq_true rfl) HPf_0_16 rfl ?_
  refine ev_putfield 8 dX1_copy_5 rfl okf_X1_21 (Nat.le_of_ble_eq_true rfl) HPg_19 (Nat.le_of_ble_eq_true rfl) rfl rfl HPs_19_0 ?_
  refine ev_aload_n (i := 1) 9 dX1_copy_8 rfl rfl rfl ?_
  refine ev_getfield 12 dX1_copy_9 rfl okf_X1_9 (Nat.le_of_ble_eq_true rfl) HPf_0_16 rfl ?_
  refine ev_iconst 13 dX1_copy_12 rfl kI_0 ?_
  refine ev_aload_n (i := 0) 14 dX1_copy_13 rfl rfl rfl ?_
  refine ev_getfield 17 dX1_copy_14 rfl okf_X1_9 (Nat.le_of_ble_eq_true rfl) HPg_19 rfl ?_
  refine ev_iconst 18 dX1_copy_17 rfl kI_0 ?_
  refine ev_aload_n (i := 0) 19 dX1_copy_18 rfl rfl rfl ?_
  refine ev_getfield 22 dX1_copy_19 rfl okf_X1_9 (Nat.le_of_ble_eq_true rfl) HPg_19 rfl ?_
  refine ev_arraylength 23 dX1_copy_22 rfl (Nat.le_of_ble_eq_true rfl) HPg_20 kN_20 ?_
  obtain ⟨x1, hx1, hF⟩ := tv_bind hF
  refine ev_arraycopy 26 dX1_copy_23 rfl wc_X1_25 wc_native wc_static wc_init (Nat.le_of_ble_eq_true rfl) (Nat.le_of_ble_eq_true rfl) (Nat.le_of_ble_eq_true rfl) (Nat.le_of_ble_eq_true rfl) HPf_0_17 HPg_20 hx1 HPa_20 ?_
  refine ev_aload_n (i := 1) 27 dX1_copy_26 rfl rfl rfl ?_
  refine ev_getfield 30 dX1_copy_27 rfl okf_X1_15 (Nat.le_of_ble_eq_true rfl) HPf_0_16 rfl ?_
  refine ev_iconst 31 dX1_copy_30 rfl kI_0 ?_
  refine ev_aload_n (i := 0) 32 dX1_copy_31 rfl rfl rfl ?_
  refine ev_getfield 35 dX1_copy_32 rfl okf_X1_15 (Nat.le_of_ble_eq_true rfl) HPg_19 rfl ?_
  refine ev_iconst 36 dX1_copy_35 rfl kI_0 ?_
  refine ev_aload_n (i := 0) 37 dX1_copy_36 rfl rfl rfl ?_
  refine ev_getfield 40 dX1_copy_37 rfl okf_X1_15 (Nat.le_of_ble_eq_true rfl) HPg_19 rfl ?_
  refine ev_arraylength 41 dX1_copy_40 rfl (Nat.le_of_ble_eq_true rfl) HPg_21 kN_20 ?_
  obtain ⟨x2, hx2, hF⟩ := tv_bind hF
  refine ev_arraycopy 44 dX1_copy_41 rfl wc_X1_25 wc_native wc_static wc_init (Nat.le_of_ble_eq_true rfl) (Nat.le_of_ble_eq_true rfl) (Nat.le_of_ble_eq_true rfl) (Nat.le_of_ble_eq_true rfl) HPf_0_18 HPg_21 hx2 HPa_21 ?_
  refine ev_aload_n (i := 1) 45 dX1_copy_44 rfl rfl rfl ?_
  refine ev_getfield 48 dX1_copy_45 rfl okf_X1_18 (Nat.le_of_ble_eq_true rfl) HPf_0_16 rfl ?_
  refine ev_iconst 49 dX1_copy_48 rfl kI_0 ?_
  refine ev_aload_n (i := 0) 50 dX1_copy_49 rfl rfl rfl ?_
  refine ev_getfield 53 dX1_copy_50 rfl okf_X1_18 (Nat.le_of_ble_eq_true rfl) HPg_19 rfl ?_
  refine ev_iconst 54 dX1_copy_53 rfl kI_0 ?_
  refine ev_aload_n (i := 0) 55 dX1_copy_54 rfl rfl rfl ?_
  refine ev_getfield 58 dX1_copy_55 rfl okf_X1_18 (Nat.le_of_ble_eq_true rfl) HPg_19 rfl ?_
  refine ev_arraylength 59 dX1_copy_58 rfl (Nat.le_of_ble_eq_true rfl) HPg_22 kN_20 ?_
  obtain ⟨x3, hx3, hF⟩ := tv_bind hF
  refine ev_arraycopy 62 dX1_copy_59 rfl wc_X1_25 wc_native wc_static wc_init (Nat.le_of_ble_eq_true rfl) (Nat.le_of_ble_eq_true rfl) (Nat.le_of_ble_eq_true rfl) (Nat.le_of_ble_eq_true rfl) HPf_0_19 HPg_22 hx3 HPa_22 ?_
  have hF := Option.some.inj hF
  subst hF
  exact ev_return dX1_copy_62 rfl

set_option maxRecDepth 100000 in
set_option maxHeartbeats 4000000 in
theorem R_X1_copy_from1 {g : tv_G} {l : Launch} {si : Nat → Int32} {sa : Nat → Nat → Int32} {hs : Nat → (Nat → Int32) × (Nat → Nat → Int32)} {tx : Nat → Int32} {tl : Int32} {hc : Int32} {hn : Int32} {v : Nat → Int32} {pa : Nat → Int32} {mt : Nat → Int32} {pm : Int32} {ty : Int32} {ra : Int32}  {p : (Nat → Int32) × (Nat → Nat → Int32)} (hF : F_X1_copy (hs 1).1 (hs 1).2 si sa = some p) : tv_E g l yX1_copy cX1_copy 2 none 1 0 0 0 [.ref 19, .ref 61] [] (HP si sa hs tx tl hc hn v pa mt pm ty ra) none (HP p.1 p.2 hs tx tl hc hn v pa mt pm ty ra) := by
  unfold F_X1_copy at hF
  refine ev_aload_n (i := 0) 1 dX1_copy_0 rfl rfl rfl ?_
  refine ev_aload_n (i := 1) 2 dX1_copy_1 rfl rfl rfl ?_
  refine ev_getfield 5 dX1_copy_2 rfl okf_X1_21 (Nat.le_of_ble_eq_true rfl) HPf_1_16 rfl ?_
  refine ev_putfield 8 dX1_copy_5 rfl okf_X1_21 (Nat.le_of_ble_eq_true rfl) HPg_19 (Nat.le_of_ble_eq_true rfl) rfl rfl HPs_19_0 ?_
  refine ev_aload_n (i := 1) 9 dX1_copy_8 rfl rfl rfl ?_
  refine ev_getfield 12 dX1_copy_9 rfl okf_X1_9 (Nat.le_of_ble_eq_true rfl) HPf_1_16 rfl ?_
  refine ev_iconst 13 dX1_copy_12 rfl kI_0 ?_
  refine ev_aload_n (i := 0) 14 dX1_copy_13 rfl rfl rfl ?_
  refine ev_getfield 17 dX1_copy_14 rfl okf_X1_9 (Nat.le_of_ble_eq_true rfl) HPg_19 rfl ?_
  refine ev_iconst 18 dX1_copy_17 rfl kI_0 ?_
  refine ev_aload_n (i := 0) 19 dX1_copy_18 rfl rfl rfl ?_
  refine ev_getfield 22 dX1_copy_19 rfl okf_X1_9 (Nat.le_of_ble_eq_true rfl) HPg_19 rfl ?_
  refine ev_arraylength 23 dX1_copy_22 rfl (Nat.le_of_ble_eq_true rfl) HPg_20 kN_20 ?_
  obtain ⟨x1, hx1, hF⟩ := tv_bind hF
  refine ev_arraycopy 26 dX1_copy_23 rfl wc_X1_25 wc_native wc_static wc_init (Nat.le_of_ble_eq_true rfl) (Nat.le_of_ble_eq_true rfl) (Nat.le_of_ble_eq_true rfl) (Nat.le_of_ble_eq_true rfl) HPf_1_17 HPg_20 hx1 HPa_20 ?_
  refine ev_aload_n (i := 1) 27 dX1_copy_26 rfl rfl rfl ?_
  refine ev_getfield 30 dX1_copy_27 rfl okf_X1_15 (Nat.le_of_ble_eq_true rfl) HPf_1_16 rfl ?_
  refine ev_iconst 31 dX1_copy_30 rfl kI_0 ?_
  refine ev_aload_n (i := 0) 32 dX1_copy_31 rfl rfl rfl ?_
  refine ev_getfield 35 dX1_copy_32 rfl okf_X1_15 (Nat.le_of_ble_eq_true rfl) HPg_19 rfl ?_
  refine ev_iconst 36 dX1_copy_35 rfl kI_0 ?_
  refine ev_aload_n (i := 0) 37 dX1_copy_36 rfl rfl rfl ?_
  refine ev_getfield 40 dX1_copy_37 rfl okf_X1_15 (Nat.le_of_ble_eq_true rfl) HPg_19 rfl ?_
  refine ev_arraylength 41 dX1_copy_40 rfl (Nat.le_of_ble_eq_true rfl) HPg_21 kN_20 ?_
  obtain ⟨x2, hx2, hF⟩ := tv_bind hF
  refine ev_arraycopy 44 dX1_copy_41 rfl wc_X1_25 wc_native wc_static wc_init (Nat.le_of_ble_eq_true rfl) (Nat.le_of_ble_eq_true rfl) (Nat.le_of_ble_eq_true rfl) (Nat.le_of_ble_eq_true rfl) HPf_1_18 HPg_21 hx2 HPa_21 ?_
  refine ev_aload_n (i := 1) 45 dX1_copy_44 rfl rfl rfl ?_
  refine ev_getfield 48 dX1_copy_45 rfl okf_X1_18 (Nat.le_of_ble_eq_true rfl) HPf_1_16 rfl ?_
  refine ev_iconst 49 dX1_copy_48 rfl kI_0 ?_
  refine ev_aload_n (i := 0) 50 dX1_copy_49 rfl rfl rfl ?_
  refine ev_getfield 53 dX1_copy_50 rfl okf_X1_18 (Nat.le_of_ble_eq_true rfl) HPg_19 rfl ?_
  refine ev_iconst 54 dX1_copy_53 rfl kI_0 ?_
  refine ev_aload_n (i := 0) 55 dX1_copy_54 rfl rfl rfl ?_
  refine ev_getfield 58 dX1_copy_55 rfl okf_X1_18 (Nat.le_of_ble_eq_true rfl) HPg_19 rfl ?_
  refine ev_arraylength 59 dX1_copy_58 rfl (Nat.le_of_ble_eq_true rfl) HPg_22 kN_20 ?_
  obtain ⟨x3, hx3, hF⟩ := tv_bind hF
  refine ev_arraycopy 62 dX1_copy_59 rfl wc_X1_25 wc_native wc_static wc_init (Nat.le_of_ble_eq_true rfl) (Nat.le_of_ble_eq_true rfl) (Nat.le_of_ble_eq_true rfl) (Nat.le_of_ble_eq_true rfl) HPf_1_19 HPg_22 hx3 HPa_22 ?_
  have hF := Option.some.inj hF
  subst hF
  exact ev_return dX1_copy_62 rfl

set_option maxRecDepth 100000 in
set_option maxHeartbeats 4000000 in
theorem R_X1_copy_from2 {g : tv_G} {l : Launch} {si : Nat → Int32} {sa : Nat → Nat → Int32} {hs : Nat → (Nat → Int32) × (Nat → Nat → Int32)} {tx : Nat → Int32} {tl : Int32} {hc : Int32} {hn : Int32} {v : Nat → Int32} {pa : Nat → Int32} {mt : Nat → Int32} {pm : Int32} {ty : Int32} {ra : Int32}  {p : (Nat → Int32) × (Nat → Nat → Int32)} (hF : F_X1_copy (hs 2).1 (hs 2).2 si sa = some p) : tv_E g l yX1_copy cX1_copy 2 none 1 0 0 0 [.ref 19, .ref 81] [] (HP si sa hs tx tl hc hn v pa mt pm ty ra) none (HP p.1 p.2 hs tx tl hc hn v pa mt pm ty ra) := by
  unfold F_X1_copy at hF
  refine ev_aload_n (i := 0) 1 dX1_copy_0 rfl rfl rfl ?_
  refine ev_aload_n (i := 1) 2 dX1_copy_1 rfl rfl rfl ?_
  refine ev_getfield 5 dX1_copy_2 rfl okf_X1_21 (Nat.le_of_ble_eq_true rfl) HPf_2_16 rfl ?_
  refine ev_putfield 8 dX1_copy_5 rfl okf_X1_21 (Nat.le_of_ble_eq_true rfl) HPg_19 (Nat.le_of_ble_eq_true rfl) rfl rfl HPs_19_0 ?_
  refine ev_aload_n (i := 1) 9 dX1_copy_8 rfl rfl rfl ?_
  refine ev_getfield 12 dX1_copy_9 rfl okf_X1_9 (Nat.le_of_ble_eq_true rfl) HPf_2_16 rfl ?_
  refine ev_iconst 13 dX1_copy_12 rfl kI_0 ?_
  refine ev_aload_n (i := 0) 14 dX1_copy_13 rfl rfl rfl ?_
  refine ev_getfield 17 dX1_copy_14 rfl okf_X1_9 (Nat.le_of_ble_eq_true rfl) HPg_19 rfl ?_
  refine ev_iconst 18 dX1_copy_17 rfl kI_0 ?_
  refine ev_aload_n (i := 0) 19 dX1_copy_18 rfl rfl rfl ?_
  refine ev_getfield 22 dX1_copy_19 rfl okf_X1_9 (Nat.le_of_ble_eq_true rfl) HPg_19 rfl ?_
  refine ev_arraylength 23 dX1_copy_22 rfl (Nat.le_of_ble_eq_true rfl) HPg_20 kN_20 ?_
  obtain ⟨x1, hx1, hF⟩ := tv_bind hF
  refine ev_arraycopy 26 dX1_copy_23 rfl wc_X1_25 wc_native wc_static wc_init (Nat.le_of_ble_eq_true rfl) (Nat.le_of_ble_eq_true rfl) (Nat.le_of_ble_eq_true rfl) (Nat.le_of_ble_eq_true rfl) HPf_2_17 HPg_20 hx1 HPa_20 ?_
  refine ev_aload_n (i := 1) 27 dX1_copy_26 rfl rfl rfl ?_
  refine ev_getfield 30 dX1_copy_27 rfl okf_X1_15 (Nat.le_of_ble_eq_true rfl) HPf_2_16 rfl ?_
  refine ev_iconst 31 dX1_copy_30 rfl kI_0 ?_
  refine ev_aload_n (i := 0) 32 dX1_copy_31 rfl rfl rfl ?_
  refine ev_getfield 35 dX1_copy_32 rfl okf_X1_15 (Nat.le_of_ble_eq_true rfl) HPg_19 rfl ?_
  refine ev_iconst 36 dX1_copy_35 rfl kI_0 ?_
  refine ev_aload_n (i := 0) 37 dX1_copy_36 rfl rfl rfl ?_
  refine ev_getfield 40 dX1_copy_37 rfl okf_X1_15 (Nat.le_of_ble_eq_true rfl) HPg_19 rfl ?_
  refine ev_arraylength 41 dX1_copy_40 rfl (Nat.le_of_ble_eq_true rfl) HPg_21 kN_20 ?_
  obtain ⟨x2, hx2, hF⟩ := tv_bind hF
  refine ev_arraycopy 44 dX1_copy_41 rfl wc_X1_25 wc_native wc_static wc_init (Nat.le_of_ble_eq_true rfl) (Nat.le_of_ble_eq_true rfl) (Nat.le_of_ble_eq_true rfl) (Nat.le_of_ble_eq_true rfl) HPf_2_18 HPg_21 hx2 HPa_21 ?_
  refine ev_aload_n (i := 1) 45 dX1_copy_44 rfl rfl rfl ?_
  refine ev_getfield 48 dX1_copy_45 rfl okf_X1_18 (Nat.le_of_ble_eq_true rfl) HPf_2_16 rfl ?_
  refine ev_iconst 49 dX1_copy_48 rfl kI_0 ?_
  refine ev_aload_n (i := 0) 50 dX1_copy_49 rfl rfl rfl ?_
  refine ev_getfield 53 dX1_copy_50 rfl okf_X1_18 (Nat.le_of_ble_eq_true rfl) HPg_19 rfl ?_
  refine ev_iconst 54 dX1_copy_53 rfl kI_0 ?_
  refine ev_aload_n (i := 0) 55 dX1_copy_54 rfl rfl rfl ?_
  refine ev_getfield 58 dX1_copy_55 rfl okf_X1_18 (Nat.le_of_ble_eq_true rfl) HPg_19 rfl ?_
  refine ev_arraylength 59 dX1_copy_58 rfl (Nat.le_of_ble_eq_true rfl) HPg_22 kN_20 ?_
  obtain ⟨x3, hx3, hF⟩ := tv_bind hF
  refine ev_arraycopy 62 dX1_copy_59 rfl wc_X1_25 wc_native wc_static wc_init (Nat.le_of_ble_eq_true rfl) (Nat.le_of_ble_eq_true rfl) (Nat.le_of_ble_eq_true rfl) (Nat.le_of_ble_eq_true rfl) HPf_2_19 HPg_22 hx3 HPa_22 ?_
  have hF := Option.some.inj hF
  subst hF
  exact ev_return dX1_copy_62 rfl

set_option maxRecDepth 100000 in
set_option maxHeartbeats 4000000 in
theorem R_X1_copy_from3 {g : tv_G} {l : Launch} {si : Nat → Int32} {sa : Nat → Nat → Int32} {hs : Nat → (Nat → Int32) × (Nat → Nat → Int32)} {tx : Nat → Int32} {tl : Int32} {hc : Int32} {hn : Int32} {v : Nat → Int32} {pa : Nat → Int32} {mt : Nat → Int32} {pm : Int32} {ty : Int32} {ra : Int32}  {p : (Nat → Int32) × (Nat → Nat → Int32)} (hF : F_X1_copy (hs 3).1 (hs 3).2 si sa = some p) : tv_E g l yX1_copy cX1_copy 2 none 1 0 0 0 [.ref 19, .ref 101] [] (HP si sa hs tx tl hc hn v pa mt pm ty ra) none (HP p.1 p.2 hs tx tl hc hn v pa mt pm ty ra) := by
  unfold F_X1_copy at hF
  refine ev_aload_n (i := 0) 1 dX1_copy_0 rfl rfl rfl ?_
  refine ev_aload_n (i := 1) 2 dX1_copy_1 rfl rfl rfl ?_
  refine ev_getfield 5 dX1_copy_2 rfl okf_X1_21 (Nat.le_of_ble_eq_true rfl) HPf_3_16 rfl ?_
  refine ev_putfield 8 dX1_copy_5 rfl okf_X1_21 (Nat.le_of_ble_eq_true rfl) HPg_19 (Nat.le_of_ble_eq_true rfl) rfl rfl HPs_19_0 ?_
  refine ev_aload_n (i := 1) 9 dX1_copy_8 rfl rfl rfl ?_
  refine ev_getfield 12 dX1_copy_9 rfl okf_X1_9 (Nat.le_of_ble_eq_true rfl) HPf_3_16 rfl ?_
  refine ev_iconst 13 dX1_copy_12 rfl kI_0 ?_
  refine ev_aload_n (i := 0) 14 dX1_copy_13 rfl rfl rfl ?_
  refine ev_getfield 17 dX1_copy_14 rfl okf_X1_9 (Nat.le_of_ble_eq_true rfl) HPg_19 rfl ?_
  refine ev_iconst 18 dX1_copy_17 rfl kI_0 ?_
  refine ev_aload_n (i := 0) 19 dX1_copy_18 rfl rfl rfl ?_
  refine ev_getfield 22 dX1_copy_19 rfl okf_X1_9 (Nat.le_of_ble_eq_true rfl) HPg_19 rfl ?_
  refine ev_arraylength 23 dX1_copy_22 rfl (Nat.le_of_ble_eq_true rfl) HPg_20 kN_20 ?_
  obtain ⟨x1, hx1, hF⟩ := tv_bind hF
  refine ev_arraycopy 26 dX1_copy_23 rfl wc_X1_25 wc_native wc_static wc_init (Nat.le_of_ble_eq_true rfl) (Nat.le_of_ble_eq_true rfl) (Nat.le_of_ble_eq_true rfl) (Nat.le_of_ble_eq_true rfl) HPf_3_17 HPg_20 hx1 HPa_20 ?_
  refine ev_aload_n (i := 1) 27 dX1_copy_26 rfl rfl rfl ?_
  refine ev_getfield 30 dX1_copy_27 rfl okf_X1_15 (Nat.le_of_ble_eq_true rfl) HPf_3_16 rfl ?_
  refine ev_iconst 31 dX1_copy_30 rfl kI_0 ?_
  refine ev_aload_n (i := 0) 32 dX1_copy_31 rfl rfl rfl ?_
  refine ev_getfield 35 dX1_copy_32 rfl okf_X1_15 (Nat.le_of_ble_eq_true rfl) HPg_19 rfl ?_
  refine ev_iconst 36 dX1_copy_35 rfl kI_0 ?_
  refine ev_aload_n (i := 0) 37 dX1_copy_36 rfl rfl rfl ?_
  refine ev_getfield 40 dX1_copy_37 rfl okf_X1_15 (Nat.le_of_ble_eq_true rfl) HPg_19 rfl ?_
  refine ev_arraylength 41 dX1_copy_40 rfl (Nat.le_of_ble_eq_true rfl) HPg_21 kN_20 ?_
  obtain ⟨x2, hx2, hF⟩ := tv_bind hF
  refine ev_arraycopy 44 dX1_copy_41 rfl wc_X1_25 wc_native wc_static wc_init (Nat.le_of_ble_eq_true rfl) (Nat.le_of_ble_eq_true rfl) (Nat.le_of_ble_eq_true rfl) (Nat.le_of_ble_eq_true rfl) HPf_3_18 HPg_21 hx2 HPa_21 ?_
  refine ev_aload_n (i := 1) 45 dX1_copy_44 rfl rfl rfl ?_
  refine ev_getfield 48 dX1_copy_45 rfl okf_X1_18 (Nat.le_of_ble_eq_true rfl) HPf_3_16 rfl ?_
  refine ev_iconst 49 dX1_copy_48 rfl kI_0 ?_
  refine ev_aload_n (i := 0) 50 dX1_copy_49 rfl rfl rfl ?_
  refine ev_getfield 53 dX1_copy_50 rfl okf_X1_18 (Nat.le_of_ble_eq_true rfl) HPg_19 rfl ?_
  refine ev_iconst 54 dX1_copy_53 rfl kI_0 ?_
  refine ev_aload_n (i := 0) 55 dX1_copy_54 rfl rfl rfl ?_
  refine ev_getfield 58 dX1_copy_55 rfl okf_X1_18 (Nat.le_of_ble_eq_true rfl) HPg_19 rfl ?_
  refine ev_arraylength 59 dX1_copy_58 rfl (Nat.le_of_ble_eq_true rfl) HPg_22 kN_20 ?_
  obtain ⟨x3, hx3, hF⟩ := tv_bind hF
  refine ev_arraycopy 62 dX1_copy_59 rfl wc_X1_25 wc_native wc_static wc_init (Nat.le_of_ble_eq_true rfl) (Nat.le_of_ble_eq_true rfl) (Nat.le_of_ble_eq_true rfl) (Nat.le_of_ble_eq_true rfl) HPf_3_19 HPg_22 hx3 HPa_22 ?_
  have hF := Option.some.inj hF
  subst hF
  exact ev_return dX1_copy_62 rfl

set_option maxRecDepth 100000 in
set_option maxHeartbeats 4000000 in
theorem R_X1_copy_from4 {g : tv_G} {l : Launch} {si : Nat → Int32} {sa : Nat → Nat → Int32} {hs : Nat → (Nat → Int32) × (Nat → Nat → Int32)} {tx : Nat → Int32} {tl : Int32} {hc : Int32} {hn : Int32} {v : Nat → Int32} {pa : Nat → Int32} {mt : Nat → Int32} {pm : Int32} {ty : Int32} {ra : Int32}  {p : (Nat → Int32) × (Nat → Nat → Int32)} (hF : F_X1_copy (hs 4).1 (hs 4).2 si sa = some p) : tv_E g l yX1_copy cX1_copy 2 none 1 0 0 0 [.ref 19, .ref 121] [] (HP si sa hs tx tl hc hn v pa mt pm ty ra) none (HP p.1 p.2 hs tx tl hc hn v pa mt pm ty ra) := by
  unfold F_X1_copy at hF
  refine ev_aload_n (i := 0) 1 dX1_copy_0 rfl rfl rfl ?_
  refine ev_aload_n (i := 1) 2 dX1_copy_1 rfl rfl rfl ?_
  refine ev_getfield 5 dX1_copy_2 rfl okf_X1_21 (Nat.le_of_ble_eq_true rfl) HPf_4_16 rfl ?_
  refine ev_putfield 8 dX1_copy_5 rfl okf_X1_21 (Nat.le_of_ble_eq_true rfl) HPg_19 (Nat.le_of_ble_eq_true rfl) rfl rfl HPs_19_0 ?_
  refine ev_aload_n (i := 1) 9 dX1_copy_8 rfl rfl rfl ?_
  refine ev_getfield 12 dX1_copy_9 rfl okf_X1_9 (Nat.le_of_ble_eq_true rfl) HPf_4_16 rfl ?_
  refine ev_iconst 13 dX1_copy_12 rfl kI_0 ?_
  refine ev_aload_n (i := 0) 14 dX1_copy_13 rfl rfl rfl ?_
  refine ev_getfield 17 dX1_copy_14 rfl okf_X1_9 (Nat.le_of_ble_eq_true rfl) HPg_19 rfl ?_
  refine ev_iconst 18 dX1_copy_17 rfl kI_0 ?_
  refine ev_aload_n (i := 0) 19 dX1_copy_18 rfl rfl rfl ?_
  refine ev_getfield 22 dX1_copy_19 rfl okf_X1_9 (Nat.le_of_ble_eq_true rfl) HPg_19 rfl ?_
  refine ev_arraylength 23 dX1_copy_22 rfl (Nat.le_of_ble_eq_true rfl) HPg_20 kN_20 ?_
  obtain ⟨x1, hx1, hF⟩ := tv_bind hF
  refine ev_arraycopy 26 dX1_copy_23 rfl wc_X1_25 wc_native wc_static wc_init (Nat.le_of_ble_eq_true rfl) (Nat.le_of_ble_eq_true rfl) (Nat.le_of_ble_eq_true rfl) (Nat.le_of_ble_eq_true rfl) HPf_4_17 HPg_20 hx1 HPa_20 ?_
  refine ev_aload_n (i := 1) 27 dX1_copy_26 rfl rfl rfl ?_
  refine ev_getfield 30 dX1_copy_27 rfl okf_X1_15 (Nat.le_of_ble_eq_true rfl) HPf_4_16 rfl ?_
  refine ev_iconst 31 dX1_copy_30 rfl kI_0 ?_
  refine ev_aload_n (i := 0) 32 dX1_copy_31 rfl rfl rfl ?_
  refine ev_getfield 35 dX1_copy_32 rfl okf_X1_15 (Nat.le_of_ble_eq_true rfl) HPg_19 rfl ?_
  refine ev_iconst 36 dX1_copy_35 rfl kI_0 ?_
  refine ev_aload_n (i := 0) 37 dX1_copy_36 rfl rfl rfl ?_
  refine ev_getfield 40 dX1_copy_37 rfl okf_X1_15 (Nat.le_of_ble_eq_true rfl) HPg_19 rfl ?_
  refine ev_arraylength 41 dX1_copy_40 rfl (Nat.le_of_ble_eq_true rfl) HPg_21 kN_20 ?_
  obtain ⟨x2, hx2, hF⟩ := tv_bind hF
  refine ev_arraycopy 44 dX1_copy_41 rfl wc_X1_25 wc_native wc_static wc_init (Nat.le_of_ble_eq_true rfl) (Nat.le_of_ble_eq_true rfl) (Nat.le_of_ble_eq_true rfl) (Nat.le_of_ble_eq_true rfl) HPf_4_18 HPg_21 hx2 HPa_21 ?_
  refine ev_aload_n (i := 1) 45 dX1_copy_44 rfl rfl rfl ?_
  refine ev_getfield 48 dX1_copy_45 rfl okf_X1_18 (Nat.le_of_ble_eq_true rfl) HPf_4_16 rfl ?_
  refine ev_iconst 49 dX1_copy_48 rfl kI_0 ?_
  refine ev_aload_n (i := 0) 50 dX1_copy_49 rfl rfl rfl ?_
  refine ev_getfield 53 dX1_copy_50 rfl okf_X1_18 (Nat.le_of_ble_eq_true rfl) HPg_19 rfl ?_
  refine ev_iconst 54 dX1_copy_53 rfl kI_0 ?_
  refine ev_aload_n (i := 0) 55 dX1_copy_54 rfl rfl rfl ?_
  refine ev_getfield 58 dX1_copy_55 rfl okf_X1_18 (Nat.le_of_ble_eq_true rfl) HPg_19 rfl ?_
  refine ev_arraylength 59 dX1_copy_58 rfl (Nat.le_of_ble_eq_true rfl) HPg_22 kN_20 ?_
  obtain ⟨x3, hx3, hF⟩ := tv_bind hF
  refine ev_arraycopy 62 dX1_copy_59 rfl wc_X1_25 wc_native wc_static wc_init (Nat.le_of_ble_eq_true rfl) (Nat.le_of_ble_eq_true rfl) (Nat.le_of_ble_eq_true rfl) (Nat.le_of_ble_eq_true rfl) HPf_4_19 HPg_22 hx3 HPa_22 ?_
  have hF := Option.some.inj hF
  subst hF
  exact ev_return dX1_copy_62 rfl

set_option maxRecDepth 100000 in
set_option maxHeartbeats 4000000 in
theorem R_X5_copy_to0 {g : tv_G} {l : Launch} {si : Nat → Int32} {sa : Nat → Nat → Int32} {hs : Nat → (Nat → Int32) × (Nat → Nat → Int32)} {tx : Nat → Int32} {tl : Int32} {hc : Int32} {hn : Int32} {v : Nat → Int32} {pa : Nat → Int32} {mt : Nat → Int32} {pm : Int32} {ty : Int32} {ra : Int32} {dI : Nat → Int32} {dA : Nat → Nat → Int32}  {p : (Nat → Int32) × (Nat → Nat → Int32)} (hF : F_X5_copy si sa dI dA = some p) : tv_E g l yX5_copy cX5_copy 2 none 3 0 0 0 [.ref 25, .ref 3] [] (HP si sa (va_up hs 0 (dI, dA)) tx tl hc hn v pa mt pm ty ra) none (HP si sa (va_up hs 0 (p.1, p.2)) tx tl hc hn v pa mt pm ty ra) := by
  unfold F_X5_copy at hF
  refine ev_aload_n (i := 1) 1 dX5_copy_0 rfl rfl rfl ?_
  refine ev_getfield 4 dX5_copy_1 rfl okf_X5_9 (Nat.le_of_ble_eq_true rfl) HPg_3 rfl ?_
  refine ev_iconst 5 dX5_copy_4 rfl kI_0 ?_
  refine ev_aload_n (i := 0) 6 dX5_copy_5 rfl rfl rfl ?_
  refine ev_getfield 9 dX5_copy_6 rfl okf_X5_9 (Nat.le_of_ble_eq_true rfl) HPt_0_0 rfl ?_
  refine ev_iconst 10 dX5_copy_9 rfl kI_0 ?_
  refine ev_bipush 12 dX5_copy_10 rfl kB_6 ?_
  obtain ⟨x1, hx1, hF⟩ := tv_bind hF
  refine ev_arraycopy 15 dX5_copy_12 rfl wc_X5_56 wc_native wc_static wc_init (Nat.le_of_ble_eq_true rfl) (Nat.le_of_ble_eq_true rfl) (Nat.le_of_ble_eq_true rfl) (Nat.le_of_ble_eq_true rfl) HPg_4 HPt_0_1 hx1 HPat_0_1 ?_
  refine ev_aload_n (i := 0) 16 dX5_copy_15 rfl rfl rfl ?_
  refine ev_aload_n (i := 1) 17 dX5_copy_16 rfl rfl rfl ?_
  refine ev_getfield 20 dX5_copy_17 rfl okf_X5_62 (Nat.le_of_ble_eq_true rfl) HPg_3 rfl ?_
  refine ev_putfield 23 dX5_copy_20 rfl okf_X5_62 (Nat.le_of_ble_eq_true rfl) HPt_0_0 (Nat.le_of_ble_eq_true rfl) rfl rfl HPst_0_0_1 ?_
  refine ev_aload_n (i := 0) 24 dX5_copy_23 rfl rfl rfl ?_
  refine ev_aload_n (i := 1) 25 dX5_copy_24 rfl rfl rfl ?_
  refine ev_getfield 28 dX5_copy_25 rfl okf_X5_65 (Nat.le_of_ble_eq_true rfl) HPg_3 rfl ?_
  refine ev_putfield 31 dX5_copy_28 rfl okf_X5_65 (Nat.le_of_ble_eq_true rfl) HPt_0_0 (Nat.le_of_ble_eq_true rfl) rfl rfl HPst_0_0_2 ?_
  refine ev_aload_n (i := 1) 32 dX5_copy_31 rfl rfl rfl ?_
  refine ev_getfield 35 dX5_copy_32 rfl okf_X5_15 (Nat.le_of_ble_eq_true rfl) HPg_3 rfl ?_
  refine ev_iconst 36 dX5_copy_35 rfl kI_0 ?_
  refine ev_aload_n (i := 0) 37 dX5_copy_36 rfl rfl rfl ?_
  refine ev_getfield 40 dX5_copy_37 rfl okf_X5_15 (Nat.le_of_ble_eq_true rfl) HPt_0_0 rfl ?_
  refine ev_iconst 41 dX5_copy_40 rfl kI_0 ?_
  refine ev_bipush 43 dX5_copy_41 rfl kB_10 ?_
  obtain ⟨x2, hx2, hF⟩ := tv_bind hF
  refine ev_arraycopy 46 dX5_copy_43 rfl wc_X5_56 wc_native wc_static wc_init (Nat.le_of_ble_eq_true rfl) (Nat.le_of_ble_eq_true rfl) (Nat.le_of_ble_eq_true rfl) (Nat.le_of_ble_eq_true rfl) HPg_5 HPt_0_2 hx2 HPat_0_2 ?_
  refine ev_aload_n (i := 0) 47 dX5_copy_46 rfl rfl rfl ?_
  refine ev_aload_n (i := 1) 48 dX5_copy_47 rfl rfl rfl ?_
  refine ev_getfield 51 dX5_copy_48 rfl okf_X5_68 (Nat.le_of_ble_eq_true rfl) HPg_3 rfl ?_
  refine ev_putfield 54 dX5_copy_51 rfl okf_X5_68 (Nat.le_of_ble_eq_true rfl) HPt_0_0 (Nat.le_of_ble_eq_true rfl) rfl rfl HPst_0_0_4 ?_
  refine ev_aload_n (i := 0) 55 dX5_copy_54 rfl rfl rfl ?_
  refine ev_aload_n (i := 1) 56 dX5_copy_55 rfl rfl rfl ?_
  refine ev_getfield 59 dX5_copy_56 rfl okf_X5_71 (Nat.le_of_ble_eq_true rfl) HPg_3 rfl ?_
  refine ev_putfield 62 dX5_copy_59 rfl okf_X5_71 (Nat.le_of_ble_eq_true rfl) HPt_0_0 (Nat.le_of_ble_eq_true rfl) rfl rfl HPst_0_0_5 ?_
  refine ev_aload_n (i := 0) 63 dX5_copy_62 rfl rfl rfl ?_
  refine ev_aload_n (i := 1) 64 dX5_copy_63 rfl rfl rfl ?_
  refine ev_getfield 67 dX5_copy_64 rfl okf_X5_18 (Nat.le_of_ble_eq_true rfl) HPg_3 rfl ?_
  refine ev_putfield 70 dX5_copy_67 rfl okf_X5_18 (Nat.le_of_ble_eq_true rfl) HPt_0_0 (Nat.le_of_ble_eq_true rfl) rfl rfl HPst_0_0_6 ?_
  refine ev_aload_n (i := 0) 71 dX5_copy_70 rfl rfl rfl ?_
  refine ev_aload_n (i := 1) 72 dX5_copy_71 rfl rfl rfl ?_
  refine ev_getfield 75 dX5_copy_72 rfl okf_X5_22 (Nat.le_of_ble_eq_true rfl) HPg_3 rfl ?_
  refine ev_putfield 78 dX5_copy_75 rfl okf_X5_22 (Nat.le_of_ble_eq_true rfl) HPt_0_0 (Nat.le_of_ble_eq_true rfl) rfl rfl HPst_0_0_7 ?_
  refine ev_aload_n (i := 0) 79 dX5_copy_78 rfl rfl rfl ?_
  refine ev_getfield 82 dX5_copy_79 rfl okf_X5_28 (Nat.le_of_ble_eq_true rfl) HPt_0_0 rfl ?_
  refine ev_aload_n (i := 1) 83 dX5_copy_82 rfl rfl rfl ?_
  refine ev_getfield 86 dX5_copy_83 rfl okf_X5_28 (Nat.le_of_ble_eq_true rfl) HPg_3 rfl ?_
  obtain ⟨x3, hx3, hF⟩ := tv_bind hF
  refine ev_callVv (i := 28) 89 [.ref 6] [] dX5_copy_86 rfl okV_X5_74 rfl rfl (Nat.le_of_ble_eq_true rfl) (Nat.le_of_ble_eq_true rfl) HPt_0_3 rfl (Nat.le_of_ble_eq_true rfl) (Nat.le_of_ble_eq_true rfl) (R_X2_copy_to0 hx3) ?_
  refine ev_aload_n (i := 0) 90 dX5_copy_89 rfl rfl rfl ?_
  refine ev_getfield 93 dX5_copy_90 rfl okf_X5_35 (Nat.le_of_ble_eq_true rfl) HPt_0_0 rfl ?_
  refine ev_aload_n (i := 1) 94 dX5_copy_93 rfl rfl rfl ?_
  refine ev_getfield 97 dX5_copy_94 rfl okf_X5_35 (Nat.le_of_ble_eq_true rfl) HPg_3 rfl ?_
  obtain ⟨x4, hx4, hF⟩ := tv_bind hF
  refine ev_callVv (i := 30) 100 [.ref 8] [] dX5_copy_97 rfl okV_X5_78 rfl rfl (Nat.le_of_ble_eq_true rfl) (Nat.le_of_ble_eq_true rfl) HPt_0_5 rfl (Nat.le_of_ble_eq_true rfl) (Nat.le_of_ble_eq_true rfl) (R_X4_copy_to0 hx4) ?_
  refine ev_aload_n (i := 0) 101 dX5_copy_100 rfl rfl rfl ?_
  refine ev_getfield 104 dX5_copy_101 rfl okf_X5_42 (Nat.le_of_ble_eq_true rfl) HPt_0_0 rfl ?_
  refine ev_aload_n (i := 1) 105 dX5_copy_104 rfl rfl rfl ?_
  refine ev_getfield 108 dX5_copy_105 rfl okf_X5_42 (Nat.le_of_ble_eq_true rfl) HPg_3 rfl ?_
  obtain ⟨x5, hx5, hF⟩ := tv_bind hF
  refine ev_callVv (i := 32) 111 [.ref 10] [] dX5_copy_108 rfl okV_X5_81 rfl rfl (Nat.le_of_ble_eq_true rfl) (Nat.le_of_ble_eq_true rfl) HPt_0_7 rfl (Nat.le_of_ble_eq_true rfl) (Nat.le_of_ble_eq_true rfl) (R_X6_copy_to0 hx5) ?_
  refine ev_aload_n (i := 0) 112 dX5_copy_111 rfl rfl rfl ?_
  refine ev_getfield 115 dX5_copy_112 rfl okf_X5_49 (Nat.le_of_ble_eq_true rfl) HPt_0_0 rfl ?_
  refine ev_aload_n (i := 1) 116 dX5_copy_115 rfl rfl rfl ?_
  refine ev_getfield 119 dX5_copy_116 rfl okf_X5_49 (Nat.le_of_ble_eq_true rfl) HPg_3 rfl ?_
  obtain ⟨x6, hx6, hF⟩ := tv_bind hF
  refine ev_callVv (i := 41) 122 [.ref 19] [] dX5_copy_119 rfl okV_X5_84 rfl rfl (Nat.le_of_ble_eq_true rfl) (Nat.le_of_ble_eq_true rfl) HPt_0_16 rfl (Nat.le_of_ble_eq_true rfl) (Nat.le_of_ble_eq_true rfl) (R_X1_copy_to0 hx6) ?_
  have hF := Option.some.inj hF
  subst hF
  exact ev_return dX5_copy_122 rfl

set_option maxRecDepth 100000 in
set_option maxHeartbeats 4000000 in
theorem R_X5_copy_to1 {g : tv_G} {l : Launch} {si : Nat → Int32} {sa : Nat → Nat → Int32} {hs : Nat → (Nat → Int32) × (Nat → Nat → Int32)} {tx : Nat → Int32} {tl : Int32} {hc : Int32} {hn : Int32} {v : Nat → Int32} {pa : Nat → Int32} {mt : Nat → Int32} {pm : Int32} {ty : Int32} {ra : Int32} {dI : Nat → Int32} {dA : Nat → Nat → Int32}  {p : (Nat → Int32) × (Nat → Nat → Int32)} (hF : F_X5_copy si sa dI dA = some p) : tv_E g l yX5_copy cX5_copy 2 none 3 0 0 0 [.ref 45, .ref 3] [] (HP si sa (va_up hs 1 (dI, dA)) tx tl hc hn v pa mt pm ty ra) none (HP si sa (va_up hs 1 (p.1, p.2)) tx tl hc hn v pa mt pm ty ra) := by
  unfold F_X5_copy at hF
  refine ev_aload_n (i := 1) 1 dX5_copy_0 rfl rfl rfl ?_
  refine ev_getfield 4 dX5_copy_1 rfl okf_X5_9 (Nat.le_of_ble_eq_true rfl) HPg_3 rfl ?_
  refine ev_iconst 5 dX5_copy_4 rfl kI_0 ?_
  refine ev_aload_n (i := 0) 6 dX5_copy_5 rfl rfl rfl ?_
  refine ev_getfield 9 dX5_copy_6 rfl okf_X5_9 (Nat.le_of_ble_eq_true rfl) HPt_1_0 rfl ?_
  refine ev_iconst 10 dX5_copy_9 rfl kI_0 ?_
  refine ev_bipush 12 dX5_copy_10 rfl kB_6 ?_
  obtain ⟨x1, hx1, hF⟩ := tv_bind hF
  refine ev_arraycopy 15 dX5_copy_12 rfl wc_X5_56 wc_native wc_static wc_init (Nat.le_of_ble_eq_true rfl) (Nat.le_of_ble_eq_true rfl) (Nat.le_of_ble_eq_true rfl) (Nat.le_of_ble_eq_true rfl) HPg_4 HPt_1_1 hx1 HPat_1_1 ?_
  refine ev_aload_n (i := 0) 16 dX5_copy_15 rfl rfl rfl ?_
  refine ev_aload_n (i := 1) 17 dX5_copy_16 rfl rfl rfl ?_
  refine ev_getfield 20 dX5_copy_17 rfl okf_X5_62 (Nat.le_of_ble_eq_true rfl) HPg_3 rfl ?_
  refine ev_putfield 23 dX5_copy_20 rfl okf_X5_62 (Nat.le_of_ble_eq_true rfl) HPt_1_0 (Nat.le_of_ble_eq_true rfl) rfl rfl HPst_1_0_1 ?_
  refine ev_aload_n (i := 0) 24 dX5_copy_23 rfl rfl rfl ?_
  refine ev_aload_n (i := 1) 25 dX5_copy_24 rfl rfl rfl ?_
  refine ev_getfield 28 dX5_copy_25 rfl okf_X5_65 (Nat.le_of_ble_eq_true rfl) HPg_3 rfl ?_
  refine ev_putfield 31 dX5_copy_28 rfl okf_X5_65 (Nat.le_of_ble_eq_true rfl) HPt_1_0 (Nat.le_of_ble_eq_true rfl) rfl rfl HPst_1_0_2 ?_
  refine ev_aload_n (i := 1) 32 dX5_copy_31 rfl rfl rfl ?_
  refine ev_getfield 35 dX5_copy_32 rfl okf_X5_15 (Nat.le_of_ble_eq_true rfl) HPg_3 rfl ?_
  refine ev_iconst 36 dX5_copy_35 rfl kI_0 ?_
  refine ev_aload_n (i := 0) 37 dX5_copy_36 rfl rfl rfl ?_
  refine ev_getfield 40 dX5_copy_37 rfl okf_X5_15 (Nat.le_of_ble_eq_true rfl) HPt_1_0 rfl ?_
  refine ev_iconst 41 dX5_copy_40 rfl kI_0 ?_
  refine ev_bipush 43 dX5_copy_41 rfl kB_10 ?_
  obtain ⟨x2, hx2, hF⟩ := tv_bind hF
  refine ev_arraycopy 46 dX5_copy_43 rfl wc_X5_56 wc_native wc_static wc_init (Nat.le_of_ble_eq_true rfl) (Nat.le_of_ble_eq_true rfl) (Nat.le_of_ble_eq_true rfl) (Nat.le_of_ble_eq_true rfl) HPg_5 HPt_1_2 hx2 HPat_1_2 ?_
  refine ev_aload_n (i := 0) 47 dX5_copy_46 rfl rfl rfl ?_
  refine ev_aload_n (i := 1) 48 dX5_copy_47 rfl rfl rfl ?_
  refine ev_getfield 51 dX5_copy_48 rfl okf_X5_68 (Nat.le_of_ble_eq_true rfl) HPg_3 rfl ?_
  refine ev_putfield 54 dX5_copy_51 rfl okf_X5_68 (Nat.le_of_ble_eq_true rfl) HPt_1_0 (Nat.le_of_ble_eq_true rfl) rfl rfl HPst_1_0_4 ?_
  refine ev_aload_n (i := 0) 55 dX5_copy_54 rfl rfl rfl ?_
  refine ev_aload_n (i := 1) 56 dX5_copy_55 rfl rfl rfl ?_
  refine ev_getfield 59 dX5_copy_56 rfl okf_X5_71 (Nat.le_of_ble_eq_true rfl) HPg_3 rfl ?_
  refine ev_putfield 62 dX5_copy_59 rfl okf_X5_71 (Nat.le_of_ble_eq_true rfl) HPt_1_0 (Nat.le_of_ble_eq_true rfl) rfl rfl HPst_1_0_5 ?_
  refine ev_aload_n (i := 0) 63 dX5_copy_62 rfl rfl rfl ?_
  refine ev_aload_n (i := 1) 64 dX5_copy_63 rfl rfl rfl ?_
  refine ev_getfield 67 dX5_copy_64 rfl okf_X5_18 (Nat.le_of_ble_eq_true rfl) HPg_3 rfl ?_
  refine ev_putfield 70 dX5_copy_67 rfl okf_X5_18 (Nat.le_of_ble_eq_true rfl) HPt_1_0 (Nat.le_of_ble_eq_true rfl) rfl rfl HPst_1_0_6 ?_
  refine ev_aload_n (i := 0) 71 dX5_copy_70 rfl rfl rfl ?_
  refine ev_aload_n (i := 1) 72 dX5_copy_71 rfl rfl rfl ?_
  refine ev_getfield 75 dX5_copy_72 rfl okf_X5_22 (Nat.le_of_ble_eq_true rfl) HPg_3 rfl ?_
  refine ev_putfield 78 dX5_copy_75 rfl okf_X5_22 (Nat.le_of_ble_eq_true rfl) HPt_1_0 (Nat.le_of_ble_eq_true rfl) rfl rfl HPst_1_0_7 ?_
  refine ev_aload_n (i := 0) 79 dX5_copy_78 rfl rfl rfl ?_
  refine ev_getfield 82 dX5_copy_79 rfl okf_X5_28 (Nat.le_of_ble_eq_true rfl) HPt_1_0 rfl ?_
  refine ev_aload_n (i := 1) 83 dX5_copy_82 rfl rfl rfl ?_
  refine ev_getfield 86 dX5_copy_83 rfl okf_X5_28 (Nat.le_of_ble_eq_true rfl) HPg_3 rfl ?_
  obtain ⟨x3, hx3, hF⟩ := tv_bind hF
  refine ev_callVv (i := 48) 89 [.ref 6] [] dX5_copy_86 rfl okV_X5_74 rfl rfl (Nat.le_of_ble_eq_true rfl) (Nat.le_of_ble_eq_true rfl) HPt_1_3 rfl (Nat.le_of_ble_eq_true rfl) (Nat.le_of_ble_eq_true rfl) (R_X2_copy_to1 hx3) ?_
  refine ev_aload_n (i := 0) 90 dX5_copy_89 rfl rfl rfl ?_
  refine ev_getfield 93 dX5_copy_90 rfl okf_X5_35 (Nat.le_of_ble_eq_true rfl) HPt_1_0 rfl ?_
  refine ev_aload_n (i := 1) 94 dX5_copy_93 rfl rfl rfl ?_
  refine ev_getfield 97 dX5_copy_94 rfl okf_X5_35 (Nat.le_of_ble_eq_true rfl) HPg_3 rfl ?_
  obtain ⟨x4, hx4, hF⟩ := tv_bind hF
  refine ev_callVv (i := 50) 100 [.ref 8] [] dX5_copy_97 rfl okV_X5_78 rfl rfl (Nat.le_of_ble_eq_true rfl) (Nat.le_of_ble_eq_true rfl) HPt_1_5 rfl (Nat.le_of_ble_eq_true rfl) (Nat.le_of_ble_eq_true rfl) (R_X4_copy_to1 hx4) ?_
  refine ev_aload_n (i := 0) 101 dX5_copy_100 rfl rfl rfl ?_
  refine ev_getfield 104 dX5_copy_101 rfl okf_X5_42 (Nat.le_of_ble_eq_true rfl) HPt_1_0 rfl ?_
  refine ev_aload_n (i := 1) 105 dX5_copy_104 rfl rfl rfl ?_
  refine ev_getfield 108 dX5_copy_105 rfl okf_X5_42 (Nat.le_of_ble_eq_true rfl) HPg_3 rfl ?_
  obtain ⟨x5, hx5, hF⟩ := tv_bind hF
  refine ev_callVv (i := 52) 111 [.ref 10] [] dX5_copy_108 rfl okV_X5_81 rfl rfl (Nat.le_of_ble_eq_true rfl) (Nat.le_of_ble_eq_true rfl) HPt_1_7 rfl (Nat.le_of_ble_eq_true rfl) (Nat.le_of_ble_eq_true rfl) (R_X6_copy_to1 hx5) ?_
  refine ev_aload_n (i := 0) 112 dX5_copy_111 rfl rfl rfl ?_
  refine ev_getfield 115 dX5_copy_112 rfl okf_X5_49 (Nat.le_of_ble_eq_true rfl) HPt_1_0 rfl ?_
  refine ev_aload_n (i := 1) 116 dX5_copy_115 rfl rfl rfl ?_
  refine ev_getfield 119 dX5_copy_116 rfl okf_X5_49 (Nat.le_of_ble_eq_true rfl) HPg_3 rfl ?_
  obtain ⟨x6, hx6, hF⟩ := tv_bind hF
  refine ev_callVv (i := 61) 122 [.ref 19] [] dX5_copy_119 rfl okV_X5_84 rfl rfl (Nat.le_of_ble_eq_true rfl) (Nat.le_of_ble_eq_true rfl) HPt_1_16 rfl (Nat.le_of_ble_eq_true rfl) (Nat.le_of_ble_eq_true rfl) (R_X1_copy_to1 hx6) ?_
  have hF := Option.some.inj hF
  subst hF
  exact ev_return dX5_copy_122 rfl

set_option maxRecDepth 100000 in
set_option maxHeartbeats 4000000 in
theorem R_X5_copy_to2 {g : tv_G} {l : Launch} {si : Nat → Int32} {sa : Nat → Nat → Int32} {hs : Nat → (Nat → Int32) × (Nat → Nat → Int32)} {tx : Nat → Int32} {tl : Int32} {hc : Int32} {hn : Int32} {v : Nat → Int32} {pa : Nat → Int32} {mt : Nat → Int32} {pm : Int32} {ty : Int32} {ra : Int32} {dI : Nat → Int32} {dA : Nat → Nat → Int32}  {p : (Nat → Int32) × (Nat → Nat → Int32)} (hF : F_X5_copy si sa dI dA = some p) : tv_E g l yX5_copy cX5_copy 2 none 3 0 0 0 [.ref 65, .ref 3] [] (HP si sa (va_up hs 2 (dI, dA)) tx tl hc hn v pa mt pm ty ra) none (HP si sa (va_up hs 2 (p.1, p.2)) tx tl hc hn v pa mt pm ty ra) := by
  unfold F_X5_copy at hF
  refine ev_aload_n (i := 1) 1 dX5_copy_0 rfl rfl rfl ?_
  refine ev_getfield 4 dX5_copy_1 rfl okf_X5_9 (Nat.le_of_ble_eq_true rfl) HPg_3 rfl ?_
  refine ev_iconst 5 dX5_copy_4 rfl kI_0 ?_
  refine ev_aload_n (i := 0) 6 dX5_copy_5 rfl rfl rfl ?_
  refine ev_getfield 9 dX5_copy_6 rfl okf_X5_9 (Nat.le_of_ble_eq_true rfl) HPt_2_0 rfl ?_
  refine ev_iconst 10 dX5_copy_9 rfl kI_0 ?_
  refine ev_bipush 12 dX5_copy_10 rfl kB_6 ?_
  obtain ⟨x1, hx1, hF⟩ := tv_bind hF
  refine ev_arraycopy 15 dX5_copy_12 rfl wc_X5_56 wc_native wc_static wc_init (Nat.le_of_ble_eq_true rfl) (Nat.le_of_ble_eq_true rfl) (Nat.le_of_ble_eq_true rfl) (Nat.le_of_ble_eq_true rfl) HPg_4 HPt_2_1 hx1 HPat_2_1 ?_
  refine ev_aload_n (i := 0) 16 dX5_copy_15 rfl rfl rfl ?_
  refine ev_aload_n (i := 1) 17 dX5_copy_16 rfl rfl rfl ?_
  refine ev_getfield 20 dX5_copy_17 rfl okf_X5_62 (Nat.le_of_ble_eq_true rfl) HPg_3 rfl ?_
  refine ev_putfield 23 dX5_copy_20 rfl okf_X5_62 (Nat.le_of_ble_eq_true rfl) HPt_2_0 (Nat.le_of_ble_eq_true rfl) rfl rfl HPst_2_0_1 ?_
  refine ev_aload_n (i := 0) 24 dX5_copy_23 rfl rfl rfl ?_
  refine ev_aload_n (i := 1) 25 dX5_copy_24 rfl rfl rfl ?_
  refine ev_getfield 28 dX5_copy_25 rfl okf_X5_65 (Nat.le_of_ble_eq_true rfl) HPg_3 rfl ?_
  refine ev_putfield 31 dX5_copy_28 rfl okf_X5_65 (Nat.le_of_ble_eq_true rfl) HPt_2_0 (Nat.le_of_ble_eq_true rfl) rfl rfl HPst_2_0_2 ?_
  refine ev_aload_n (i := 1) 32 dX5_copy_31 rfl rfl rfl ?_
  refine ev_getfield 35 dX5_copy_32 rfl okf_X5_15 (Nat.le_of_ble_eq_true rfl) HPg_3 rfl ?_
  refine ev_iconst 36 dX5_copy_35 rfl kI_0 ?_
  refine ev_aload_n (i := 0) 37 dX5_copy_36 rfl rfl rfl ?_
  refine ev_getfield 40 dX5_copy_37 rfl okf_X5_15 (Nat.le_of_ble_eq_true rfl) HPt_2_0 rfl ?_
  refine ev_iconst 41 dX5_copy_40 rfl kI_0 ?_
  refine ev_bipush 43 dX5_copy_41 rfl kB_10 ?_
  obtain ⟨x2, hx2, hF⟩ := tv_bind hF
  refine ev_arraycopy 46 dX5_copy_43 rfl wc_X5_56 wc_native wc_static wc_init (Nat.le_of_ble_eq_true rfl) (Nat.le_of_ble_eq_true rfl) (Nat.le_of_ble_eq_true rfl) (Nat.le_of_ble_eq_true rfl) HPg_5 HPt_2_2 hx2 HPat_2_2 ?_
  refine ev_aload_n (i := 0) 47 dX5_copy_46 rfl rfl rfl ?_
  refine ev_aload_n (i := 1) 48 dX5_copy_47 rfl rfl rfl ?_
  refine ev_getfield 51 dX5_copy_48 rfl okf_X5_68 (Nat.le_of_ble_eq_true rfl) HPg_3 rfl ?_
  refine ev_putfield 54 dX5_copy_51 rfl okf_X5_68 (Nat.le_of_ble_eq_true rfl) HPt_2_0 (Nat.le_of_ble_eq_true rfl) rfl rfl HPst_2_0_4 ?_
  refine ev_aload_n (i := 0) 55 dX5_copy_54 rfl rfl rfl ?_
  refine ev_aload_n (i := 1) 56 dX5_copy_55 rfl rfl rfl ?_
  refine ev_getfield 59 dX5_copy_56 rfl okf_X5_71 (Nat.le_of_ble_eq_true rfl) HPg_3 rfl ?_
  refine ev_putfield 62 dX5_copy_59 rfl okf_X5_71 (Nat.le_of_ble_eq_true rfl) HPt_2_0 (Nat.le_of_ble_eq_true rfl) rfl rfl HPst_2_0_5 ?_
  refine ev_aload_n (i := 0) 63 dX5_copy_62 rfl rfl rfl ?_
  refine ev_aload_n (i := 1) 64 dX5_copy_63 rfl rfl rfl ?_
  refine ev_getfield 67 dX5_copy_64 rfl okf_X5_18 (Nat.le_of_ble_eq_true rfl) HPg_3 rfl ?_
  refine ev_putfield 70 dX5_copy_67 rfl okf_X5_18 (Nat.le_of_ble_eq_true rfl) HPt_2_0 (Nat.le_of_ble_eq_true rfl) rfl rfl HPst_2_0_6 ?_
  refine ev_aload_n (i := 0) 71 dX5_copy_70 rfl rfl rfl ?_
  refine ev_aload_n (i := 1) 72 dX5_copy_71 rfl rfl rfl ?_
  refine ev_getfield 75 dX5_copy_72 rfl okf_X5_22 (Nat.le_of_ble_eq_true rfl) HPg_3 rfl ?_
  refine ev_putfield 78 dX5_copy_75 rfl okf_X5_22 (Nat.le_of_ble_eq_true rfl) HPt_2_0 (Nat.le_of_ble_eq_true rfl) rfl rfl HPst_2_0_7 ?_
  refine ev_aload_n (i := 0) 79 dX5_copy_78 rfl rfl rfl ?_
  refine ev_getfield 82 dX5_copy_79 rfl okf_X5_28 (Nat.le_of_ble_eq_true rfl) HPt_2_0 rfl ?_
  refine ev_aload_n (i := 1) 83 dX5_copy_82 rfl rfl rfl ?_
  refine ev_getfield 86 dX5_copy_83 rfl okf_X5_28 (Nat.le_of_ble_eq_true rfl) HPg_3 rfl ?_
  obtain ⟨x3, hx3, hF⟩ := tv_bind hF
  refine ev_callVv (i := 68) 89 [.ref 6] [] dX5_copy_86 rfl okV_X5_74 rfl rfl (Nat.le_of_ble_eq_true rfl) (Nat.le_of_ble_eq_true rfl) HPt_2_3 rfl (Nat.le_of_ble_eq_true rfl) (Nat.le_of_ble_eq_true rfl) (R_X2_copy_to2 hx3) ?_
  refine ev_aload_n (i := 0) 90 dX5_copy_89 rfl rfl rfl ?_
  refine ev_getfield 93 dX5_copy_90 rfl okf_X5_35 (Nat.le_of_ble_eq_true rfl) HPt_2_0 rfl ?_
  refine ev_aload_n (i := 1) 94 dX5_copy_93 rfl rfl rfl ?_
  refine ev_getfield 97 dX5_copy_94 rfl okf_X5_35 (Nat.le_of_ble_eq_true rfl) HPg_3 rfl ?_
  obtain ⟨x4, hx4, hF⟩ := tv_bind hF
  refine ev_callVv (i := 70) 100 [.ref 8] [] dX5_copy_97 rfl okV_X5_78 rfl rfl (Nat.le_of_ble_eq_true rfl) (Nat.le_of_ble_eq_true rfl) HPt_2_5 rfl (Nat.le_of_ble_eq_true rfl) (Nat.le_of_ble_eq_true rfl) (R_X4_copy_to2 hx4) ?_
  refine ev_aload_n (i := 0) 101 dX5_copy_100 rfl rfl rfl ?_
  refine ev_getfield 104 dX5_copy_101 rfl okf_X5_42 (Nat.le_of_ble_eq_true rfl) HPt_2_0 rfl ?_
  refine ev_aload_n (i := 1) 105 dX5_copy_104 rfl rfl rfl ?_
  refine ev_getfield 108 dX5_copy_105 rfl okf_X5_42 (Nat.le_of_ble_eq_true rfl) HPg_3 rfl ?_
  obtain ⟨x5, hx5, hF⟩ := tv_bind hF
  refine ev_callVv (i := 72) 111 [.ref 10] [] dX5_copy_108 rfl okV_X5_81 rfl rfl (Nat.le_of_ble_eq_true rfl) (Nat.le_of_ble_eq_true rfl) HPt_2_7 rfl (Nat.le_of_ble_eq_true rfl) (Nat.le_of_ble_eq_true rfl) (R_X6_copy_to2 hx5) ?_
  refine ev_aload_n (i := 0) 112 dX5_copy_111 rfl rfl rfl ?_
  refine ev_getfield 115 dX5_copy_112 rfl okf_X5_49 (Nat.le_of_ble_eq_true rfl) HPt_2_0 rfl ?_
  refine ev_aload_n (i := 1) 116 dX5_copy_115 rfl rfl rfl ?_
  refine ev_getfield 119 dX5_copy_116 rfl okf_X5_49 (Nat.le_of_ble_eq_true rfl) HPg_3 rfl ?_
  obtain ⟨x6, hx6, hF⟩ := tv_bind hF
  refine ev_callVv (i := 81) 122 [.ref 19] [] dX5_copy_119 rfl okV_X5_84 rfl rfl (Nat.le_of_ble_eq_true rfl) (Nat.le_of_ble_eq_true rfl) HPt_2_16 rfl (Nat.le_of_ble_eq_true rfl) (Nat.le_of_ble_eq_true rfl) (R_X1_copy_to2 hx6) ?_
  have hF := Option.some.inj hF
  subst hF
  exact ev_return dX5_copy_122 rfl

set_option maxRecDepth 100000 in
set_option maxHeartbeats 4000000 in
theorem R_X5_copy_to3 {g : tv_G} {l : Launch} {si : Nat → Int32} {sa : Nat → Nat → Int32} {hs : Nat → (Nat → Int32) × (Nat → Nat → Int32)} {tx : Nat → Int32} {tl : Int32} {hc : Int32} {hn : Int32} {v : Nat → Int32} {pa : Nat → Int32} {mt : Nat → Int32} {pm : Int32} {ty : Int32} {ra : Int32} {dI : Nat → Int32} {dA : Nat → Nat → Int32}  {p : (Nat → Int32) × (Nat → Nat → Int32)} (hF : F_X5_copy si sa dI dA = some p) : tv_E g l yX5_copy cX5_copy 2 none 3 0 0 0 [.ref 85, .ref 3] [] (HP si sa (va_up hs 3 (dI, dA)) tx tl hc hn v pa mt pm ty ra) none (HP si sa (va_up hs 3 (p.1, p.2)) tx tl hc hn v pa mt pm ty ra) := by
  unfold F_X5_copy at hF
  refine ev_aload_n (i := 1) 1 dX5_copy_0 rfl rfl rfl ?_
  refine ev_getfield 4 dX5_copy_1 rfl okf_X5_9 (Nat.le_of_ble_eq_true rfl) HPg_3 rfl ?_
  refine ev_iconst 5 dX5_copy_4 rfl kI_0 ?_
  refine ev_aload_n (i := 0) 6 dX5_copy_5 rfl rfl rfl ?_
  refine ev_getfield 9 dX5_copy_6 rfl okf_X5_9 (Nat.le_of_ble_eq_true rfl) HPt_3_0 rfl ?_
  refine ev_iconst 10 dX5_copy_9 rfl kI_0 ?_
  refine ev_bipush 12 dX5_copy_10 rfl kB_6 ?_
  obtain ⟨x1, hx1, hF⟩ := tv_bind hF
  refine ev_arraycopy 15 dX5_copy_12 rfl wc_X5_56 wc_native wc_static wc_init (Nat.le_of_ble_eq_true rfl) (Nat.le_of_ble_eq_true rfl) (Nat.le_of_ble_eq_true rfl) (Nat.le_of_ble_eq_true rfl) HPg_4 HPt_3_1 hx1 HPat_3_1 ?_
  refine ev_aload_n (i := 0) 16 dX5_copy_15 rfl rfl rfl ?_
  refine ev_aload_n (i := 1) 17 dX5_copy_16 rfl rfl rfl ?_
  refine ev_getfield 20 dX5_copy_17 rfl okf_X5_62 (Nat.le_of_ble_eq_true rfl) HPg_3 rfl ?_
  refine ev_putfield 23 dX5_copy_20 rfl okf_X5_62 (Nat.le_of_ble_eq_true rfl) HPt_3_0 (Nat.le_of_ble_eq_true rfl) rfl rfl HPst_3_0_1 ?_
  refine ev_aload_n (i := 0) 24 dX5_copy_23 rfl rfl rfl ?_
  refine ev_aload_n (i := 1) 25 dX5_copy_24 rfl rfl rfl ?_
  refine ev_getfield 28 dX5_copy_25 rfl okf_X5_65 (Nat.le_of_ble_eq_true rfl) HPg_3 rfl ?_
  refine ev_putfield 31 dX5_copy_28 rfl okf_X5_65 (Nat.le_of_ble_eq_true rfl) HPt_3_0 (Nat.le_of_ble_eq_true rfl) rfl rfl HPst_3_0_2 ?_
  refine ev_aload_n (i := 1) 32 dX5_copy_31 rfl rfl rfl ?_
  refine ev_getfield 35 dX5_copy_32 rfl okf_X5_15 (Nat.le_of_ble_eq_true rfl) HPg_3 rfl ?_
  refine ev_iconst 36 dX5_copy_35 rfl kI_0 ?_
  refine ev_aload_n (i := 0) 37 dX5_copy_36 rfl rfl rfl ?_
  refine ev_getfield 40 dX5_copy_37 rfl okf_X5_15 (Nat.le_of_ble_eq_true rfl) HPt_3_0 rfl ?_
  refine ev_iconst 41 dX5_copy_40 rfl kI_0 ?_
  refine ev_bipush 43 dX5_copy_41 rfl kB_10 ?_
  obtain ⟨x2, hx2, hF⟩ := tv_bind hF
  refine ev_arraycopy 46 dX5_copy_43 rfl wc_X5_56 wc_native wc_static wc_init (Nat.le_of_ble_eq_true rfl) (Nat.le_of_ble_eq_true rfl) (Nat.le_of_ble_eq_true rfl) (Nat.le_of_ble_eq_true rfl) HPg_5 HPt_3_2 hx2 HPat_3_2 ?_
  refine ev_aload_n (i := 0) 47 dX5_copy_46 rfl rfl rfl ?_
  refine ev_aload_n (i := 1) 48 dX5_copy_47 rfl rfl rfl ?_
  refine ev_getfield 51 dX5_copy_48 rfl okf_X5_68 (Nat.le_of_ble_eq_true rfl) HPg_3 rfl ?_
  refine ev_putfield 54 dX5_copy_51 rfl okf_X5_68 (Nat.le_of_ble_eq_true rfl) HPt_3_0 (Nat.le_of_ble_eq_true rfl) rfl rfl HPst_3_0_4 ?_
  refine ev_aload_n (i := 0) 55 dX5_copy_54 rfl rfl rfl ?_
  refine ev_aload_n (i := 1) 56 dX5_copy_55 rfl rfl rfl ?_
  refine ev_getfield 59 dX5_copy_56 rfl okf_X5_71 (Nat.le_of_ble_eq_true rfl) HPg_3 rfl ?_
  refine ev_putfield 62 dX5_copy_59 rfl okf_X5_71 (Nat.le_of_ble_eq_true rfl) HPt_3_0 (Nat.le_of_ble_eq_true rfl) rfl rfl HPst_3_0_5 ?_
  refine ev_aload_n (i := 0) 63 dX5_copy_62 rfl rfl rfl ?_
  refine ev_aload_n (i := 1) 64 dX5_copy_63 rfl rfl rfl ?_
  refine ev_getfield 67 dX5_copy_64 rfl okf_X5_18 (Nat.le_of_ble_eq_true rfl) HPg_3 rfl ?_
  refine ev_putfield 70 dX5_copy_67 rfl okf_X5_18 (Nat.le_of_ble_eq_true rfl) HPt_3_0 (Nat.le_of_ble_eq_true rfl) rfl rfl HPst_3_0_6 ?_
  refine ev_aload_n (i := 0) 71 dX5_copy_70 rfl rfl rfl ?_
  refine ev_aload_n (i := 1) 72 dX5_copy_71 rfl rfl rfl ?_
  refine ev_getfield 75 dX5_copy_72 rfl okf_X5_22 (Nat.le_of_ble_eq_true rfl) HPg_3 rfl ?_
  refine ev_putfield 78 dX5_copy_75 rfl okf_X5_22 (Nat.le_of_ble_eq_true rfl) HPt_3_0 (Nat.le_of_ble_eq_true rfl) rfl rfl HPst_3_0_7 ?_
  refine ev_aload_n (i := 0) 79 dX5_copy_78 rfl rfl rfl ?_
  refine ev_getfield 82 dX5_copy_79 rfl okf_X5_28 (Nat.le_of_ble_eq_true rfl) HPt_3_0 rfl ?_
  refine ev_aload_n (i := 1) 83 dX5_copy_82 rfl rfl rfl ?_
  refine ev_getfield 86 dX5_copy_83 rfl okf_X5_28 (Nat.le_of_ble_eq_true rfl) HPg_3 rfl ?_
  obtain ⟨x3, hx3, hF⟩ := tv_bind hF
  refine ev_callVv (i := 88) 89 [.ref 6] [] dX5_copy_86 rfl okV_X5_74 rfl rfl (Nat.le_of_ble_eq_true rfl) (Nat.le_of_ble_eq_true rfl) HPt_3_3 rfl (Nat.le_of_ble_eq_true rfl) (Nat.le_of_ble_eq_true rfl) (R_X2_copy_to3 hx3) ?_
  refine ev_aload_n (i := 0) 90 dX5_copy_89 rfl rfl rfl ?_
  refine ev_getfield 93 dX5_copy_90 rfl okf_X5_35 (Nat.le_of_ble_eq_true rfl) HPt_3_0 rfl ?_
  refine ev_aload_n (i := 1) 94 dX5_copy_93 rfl rfl rfl ?_
  refine ev_getfield 97 dX5_copy_94 rfl okf_X5_35 (Nat.le_of_ble_eq_true rfl) HPg_3 rfl ?_
  obtain ⟨x4, hx4, hF⟩ := tv_bind hF
  refine ev_callVv (i := 90) 100 [.ref 8] [] dX5_copy_97 rfl okV_X5_78 rfl rfl (Nat.le_of_ble_eq_true rfl) (Nat.le_of_ble_eq_true rfl) HPt_3_5 rfl (Nat.le_of_ble_eq_true rfl) (Nat.le_of_ble_eq_true rfl) (R_X4_copy_to3 hx4) ?_
  refine ev_aload_n (i := 0) 101 dX5_copy_100 rfl rfl rfl ?_
  refine ev_getfield 104 dX5_copy_101 rfl okf_X5_42 (Nat.le_of_ble_eq_true rfl) HPt_3_0 rfl ?_
  refine ev_aload_n (i := 1) 105 dX5_copy_104 rfl rfl rfl ?_
  refine ev_getfield 108 dX5_copy_105 rfl okf_X5_42 (Nat.le_of_ble_eq_true rfl) HPg_3 rfl ?_
  obtain ⟨x5, hx5, hF⟩ := tv_bind hF
  refine ev_callVv (i := 92) 111 [.ref 10] [] dX5_copy_108 rfl okV_X5_81 rfl rfl (Nat.le_of_ble_eq_true rfl) (Nat.le_of_ble_eq_true rfl) HPt_3_7 rfl (Nat.le_of_ble_eq_true rfl) (Nat.le_of_ble_eq_true rfl) (R_X6_copy_to3 hx5) ?_
  refine ev_aload_n (i := 0) 112 dX5_copy_111 rfl rfl rfl ?_
  refine ev_getfield 115 dX5_copy_112 rfl okf_X5_49 (Nat.le_of_ble_eq_true rfl) HPt_3_0 rfl ?_
  refine ev_aload_n (i := 1) 116 dX5_copy_115 rfl rfl rfl ?_
  refine ev_getfield 119 dX5_copy_116 rfl okf_X5_49 (Nat.le_of_ble_eq_true rfl) HPg_3 rfl ?_
  obtain ⟨x6, hx6, hF⟩ := tv_bind hF
  refine ev_callVv (i := 101) 122 [.ref 19] [] dX5_copy_119 rfl okV_X5_84 rfl rfl (Nat.le_of_ble_eq_true rfl) (Nat.le_of_ble_eq_true rfl) HPt_3_16 rfl (Nat.le_of_ble_eq_true rfl) (Nat.le_of_ble_eq_true rfl) (R_X1_copy_to3 hx6) ?_
  have hF := Option.some.inj hF
  subst hF
  exact ev_return dX5_copy_122 rfl

set_option maxRecDepth 100000 in
set_option maxHeartbeats 4000000 in
theorem R_X5_copy_to4 {g : tv_G} {l : Launch} {si : Nat → Int32} {sa : Nat → Nat → Int32} {hs : Nat → (Nat → Int32) × (Nat → Nat → Int32)} {tx : Nat → Int32} {tl : Int32} {hc : Int32} {hn : Int32} {v : Nat → Int32} {pa : Nat → Int32} {mt : Nat → Int32} {pm : Int32} {ty : Int32} {ra : Int32} {dI : Nat → Int32} {dA : Nat → Nat → Int32}  {p : (Nat → Int32) × (Nat → Nat → Int32)} (hF : F_X5_copy si sa dI dA = some p) : tv_E g l yX5_copy cX5_copy 2 none 3 0 0 0 [.ref 105, .ref 3] [] (HP si sa (va_up hs 4 (dI, dA)) tx tl hc hn v pa mt pm ty ra) none (HP si sa (va_up hs 4 (p.1, p.2)) tx tl hc hn v pa mt pm ty ra) := by
  unfold F_X5_copy at hF
  refine ev_aload_n (i := 1) 1 dX5_copy_0 rfl rfl rfl ?_
  refine ev_getfield 4 dX5_copy_1 rfl okf_X5_9 (Nat.le_of_ble_eq_true rfl) HPg_3 rfl ?_
  refine ev_iconst 5 dX5_copy_4 rfl kI_0 ?_
  refine ev_aload_n (i := 0) 6 dX5_copy_5 rfl rfl rfl ?_
  refine ev_getfield 9 dX5_copy_6 rfl okf_X5_9 (Nat.le_of_ble_eq_true rfl) HPt_4_0 rfl ?_
  refine ev_iconst 10 dX5_copy_9 rfl kI_0 ?_
  refine ev_bipush 12 dX5_copy_10 rfl kB_6 ?_
  obtain ⟨x1, hx1, hF⟩ := tv_bind hF
  refine ev_arraycopy 15 dX5_copy_12 rfl wc_X5_56 wc_native wc_static wc_init (Nat.le_of_ble_eq_true rfl) (Nat.le_of_ble_eq_true rfl) (Nat.le_of_ble_eq_true rfl) (Nat.le_of_ble_eq_true rfl) HPg_4 HPt_4_1 hx1 HPat_4_1 ?_
  refine ev_aload_n (i := 0) 16 dX5_copy_15 rfl rfl rfl ?_
  refine ev_aload_n (i := 1) 17 dX5_copy_16 rfl rfl rfl ?_
  refine ev_getfield 20 dX5_copy_17 rfl okf_X5_62 (Nat.le_of_ble_eq_true rfl) HPg_3 rfl ?_
  refine ev_putfield 23 dX5_copy_20 rfl okf_X5_62 (Nat.le_of_ble_eq_true rfl) HPt_4_0 (Nat.le_of_ble_eq_true rfl) rfl rfl HPst_4_0_1 ?_
  refine ev_aload_n (i := 0) 24 dX5_copy_23 rfl rfl rfl ?_
  refine ev_aload_n (i := 1) 25 dX5_copy_24 rfl rfl rfl ?_
  refine ev_getfield 28 dX5_copy_25 rfl okf_X5_65 (Nat.le_of_ble_eq_true rfl) HPg_3 rfl ?_
  refine ev_putfield 31 dX5_copy_28 rfl okf_X5_65 (Nat.le_of_ble_eq_true rfl) HPt_4_0 (Nat.le_of_ble_eq_true rfl) rfl rfl HPst_4_0_2 ?_
  refine ev_aload_n (i := 1) 32 dX5_copy_31 rfl rfl rfl ?_
  refine ev_getfield 35 dX5_copy_32 rfl okf_X5_15 (Nat.le_of_ble_eq_true rfl) HPg_3 rfl ?_
  refine ev_iconst 36 dX5_copy_35 rfl kI_0 ?_
  refine ev_aload_n (i := 0) 37 dX5_copy_36 rfl rfl rfl ?_
  refine ev_getfield 40 dX5_copy_37 rfl okf_X5_15 (Nat.le_of_ble_eq_true rfl) HPt_4_0 rfl ?_
  refine ev_iconst 41 dX5_copy_40 rfl kI_0 ?_
  refine ev_bipush 43 dX5_copy_41 rfl kB_10 ?_
  obtain ⟨x2, hx2, hF⟩ := tv_bind hF
  refine ev_arraycopy 46 dX5_copy_43 rfl wc_X5_56 wc_native wc_static wc_init (Nat.le_of_ble_eq_true rfl) (Nat.le_of_ble_eq_true rfl) (Nat.le_of_ble_eq_true rfl) (Nat.le_of_ble_eq_true rfl) HPg_5 HPt_4_2 hx2 HPat_4_2 ?_
  refine ev_aload_n (i := 0) 47 dX5_copy_46 rfl rfl rfl ?_
  refine ev_aload_n (i := 1) 48 dX5_copy_47 rfl rfl rfl ?_
  refine ev_getfield 51 dX5_copy_48 rfl okf_X5_68 (Nat.le_of_ble_eq_true rfl) HPg_3 rfl ?_
  refine ev_putfield 54 dX5_copy_51 rfl okf_X5_68 (Nat.le_of_ble_eq_true rfl) HPt_4_0 (Nat.le_of_ble_eq_true rfl) rfl rfl HPst_4_0_4 ?_
  refine ev_aload_n (i := 0) 55 dX5_copy_54 rfl rfl rfl ?_
  refine ev_aload_n (i := 1) 56 dX5_copy_55 rfl rfl rfl ?_
  refine ev_getfield 59 dX5_copy_56 rfl okf_X5_71 (Nat.le_of_ble_eq_true rfl) HPg_3 rfl ?_
  refine ev_putfield 62 dX5_copy_59 rfl okf_X5_71 (Nat.le_of_ble_eq_true rfl) HPt_4_0 (Nat.le_of_ble_eq_true rfl) rfl rfl HPst_4_0_5 ?_
  refine ev_aload_n (i := 0) 63 dX5_copy_62 rfl rfl rfl ?_
  refine ev_aload_n (i := 1) 64 dX5_copy_63 rfl rfl rfl ?_
  refine ev_getfield 67 dX5_copy_64 rfl okf_X5_18 (Nat.le_of_ble_eq_true rfl) HPg_3 rfl ?_
  refine ev_putfield 70 dX5_copy_67 rfl okf_X5_18 (Nat.le_of_ble_eq_true rfl) HPt_4_0 (Nat.le_of_ble_eq_true rfl) rfl rfl HPst_4_0_6 ?_
  refine ev_aload_n (i := 0) 71 dX5_copy_70 rfl rfl rfl ?_
  refine ev_aload_n (i := 1) 72 dX5_copy_71 rfl rfl rfl ?_
  refine ev_getfield 75 dX5_copy_72 rfl okf_X5_22 (Nat.le_of_ble_eq_true rfl) HPg_3 rfl ?_
  refine ev_putfield 78 dX5_copy_75 rfl okf_X5_22 (Nat.le_of_ble_eq_true rfl) HPt_4_0 (Nat.le_of_ble_eq_true rfl) rfl rfl HPst_4_0_7 ?_
  refine ev_aload_n (i := 0) 79 dX5_copy_78 rfl rfl rfl ?_
  refine ev_getfield 82 dX5_copy_79 rfl okf_X5_28 (Nat.le_of_ble_eq_true rfl) HPt_4_0 rfl ?_
  refine ev_aload_n (i := 1) 83 dX5_copy_82 rfl rfl rfl ?_
  refine ev_getfield 86 dX5_copy_83 rfl okf_X5_28 (Nat.le_of_ble_eq_true rfl) HPg_3 rfl ?_
  obtain ⟨x3, hx3, hF⟩ := tv_bind hF
  refine ev_callVv (i := 108) 89 [.ref 6] [] dX5_copy_86 rfl okV_X5_74 rfl rfl (Nat.le_of_ble_eq_true rfl) (Nat.le_of_ble_eq_true rfl) HPt_4_3 rfl (Nat.le_of_ble_eq_true rfl) (Nat.le_of_ble_eq_true rfl) (R_X2_copy_to4 hx3) ?_
  refine ev_aload_n (i := 0) 90 dX5_copy_89 rfl rfl rfl ?_
  refine ev_getfield 93 dX5_copy_90 rfl okf_X5_35 (Nat.le_of_ble_eq_true rfl) HPt_4_0 rfl ?_
  refine ev_aload_n (i := 1) 94 dX5_copy_93 rfl rfl rfl ?_
  refine ev_getfield 97 dX5_copy_94 rfl okf_X5_35 (Nat.le_of_ble_eq_true rfl) HPg_3 rfl ?_
  obtain ⟨x4, hx4, hF⟩ := tv_bind hF
  refine ev_callVv (i := 110) 100 [.ref 8] [] dX5_copy_97 rfl okV_X5_78 rfl rfl (Nat.le_of_ble_eq_true rfl) (Nat.le_of_ble_eq_true rfl) HPt_4_5 rfl (Nat.le_of_ble_eq_true rfl) (Nat.le_of_ble_eq_true rfl) (R_X4_copy_to4 hx4) ?_
  refine ev_aload_n (i := 0) 101 dX5_copy_100 rfl rfl rfl ?_
  refine ev_getfield 104 dX5_copy_101 rfl okf_X5_42 (Nat.le_of_ble_eq_true rfl) HPt_4_0 rfl ?_
  refine ev_aload_n (i := 1) 105 dX5_copy_104 rfl rfl rfl ?_
  refine ev_getfield 108 dX5_copy_105 rfl okf_X5_42 (Nat.le_of_ble_eq_true rfl) HPg_3 rfl ?_
  obtain ⟨x5, hx5, hF⟩ := tv_bind hF
  refine ev_callVv (i := 112) 111 [.ref 10] [] dX5_copy_108 rfl okV_X5_81 rfl rfl (Nat.le_of_ble_eq_true rfl) (Nat.le_of_ble_eq_true rfl) HPt_4_7 rfl (Nat.le_of_ble_eq_true rfl) (Nat.le_of_ble_eq_true rfl) (R_X6_copy_to4 hx5) ?_
  refine ev_aload_n (i := 0) 112 dX5_copy_111 rfl rfl rfl ?_
  refine ev_getfield 115 dX5_copy_112 rfl okf_X5_49 (Nat.le_of_ble_eq_true rfl) HPt_4_0 rfl ?_
  refine ev_aload_n (i := 1) 116 dX5_copy_115 rfl rfl rfl ?_
  refine ev_getfield 119 dX5_copy_116 rfl okf_X5_49 (Nat.le_of_ble_eq_true rfl) HPg_3 rfl ?_
  obtain ⟨x6, hx6, hF⟩ := tv_bind hF
  refine ev_callVv (i := 121) 122 [.ref 19] [] dX5_copy_119 rfl okV_X5_84 rfl rfl (Nat.le_of_ble_eq_true rfl) (Nat.le_of_ble_eq_true rfl) HPt_4_16 rfl (Nat.le_of_ble_eq_true rfl) (Nat.le_of_ble_eq_true rfl) (R_X1_copy_to4 hx6) ?_
  have hF := Option.some.inj hF
  subst hF
  exact ev_return dX5_copy_122 rfl

set_option maxRecDepth 100000 in
set_option maxHeartbeats 4000000 in
theorem R_X5_copy_from0 {g : tv_G} {l : Launch} {si : Nat → Int32} {sa : Nat → Nat → Int32} {hs : Nat → (Nat → Int32) × (Nat → Nat → Int32)} {tx : Nat → Int32} {tl : Int32} {hc : Int32} {hn : Int32} {v : Nat → Int32} {pa : Nat → Int32} {mt : Nat → Int32} {pm : Int32} {ty : Int32} {ra : Int32}  {p : (Nat → Int32) × (Nat → Nat → Int32)} (hF : F_X5_copy (hs 0).1 (hs 0).2 si sa = some p) : tv_E g l yX5_copy cX5_copy 2 none 3 0 0 0 [.ref 3, .ref 25] [] (HP si sa hs tx tl hc hn v pa mt pm ty ra) none (HP p.1 p.2 hs tx tl hc hn v pa mt pm ty ra) := by
  unfold F_X5_copy at hF
  refine ev_aload_n (i := 1) 1 dX5_copy_0 rfl rfl rfl ?_
  refine ev_getfield 4 dX5_copy_1 rfl okf_X5_9 (Nat.le_of_ble_eq_true rfl) HPf_0_0 rfl ?_
  refine ev_iconst 5 dX5_copy_4 rfl kI_0 ?_
  refine ev_aload_n (i := 0) 6 dX5_copy_5 rfl rfl rfl ?_
  refine ev_getfield 9 dX5_copy_6 rfl okf_X5_9 (Nat.le_of_ble_eq_true rfl) HPg_3 rfl ?_
  refine ev_iconst 10 dX5_copy_9 rfl kI_0 ?_
  refine ev_bipush 12 dX5_copy_10 rfl kB_6 ?_
  obtain ⟨x1, hx1, hF⟩ := tv_bind hF
  refine ev_arraycopy 15 dX5_copy_12 rfl wc_X5_56 wc_native wc_static wc_init (Nat.le_of_ble_eq_true rfl) (Nat.le_of_ble_eq_true rfl) (Nat.le_of_ble_eq_true rfl) (Nat.le_of_ble_eq_true rfl) HPf_0_1 HPg_4 hx1 HPa_4 ?_
  refine ev_aload_n (i := 0) 16 dX5_copy_15 rfl rfl rfl ?_
  refine ev_aload_n (i := 1) 17 dX5_copy_16 rfl rfl rfl ?_
  refine ev_getfield 20 dX5_copy_17 rfl okf_X5_62 (Nat.le_of_ble_eq_true rfl) HPf_0_0 rfl ?_
  refine ev_putfield 23 dX5_copy_20 rfl okf_X5_62 (Nat.le_of_ble_eq_true rfl) HPg_3 (Nat.le_of_ble_eq_true rfl) rfl rfl HPs_3_1 ?_
  refine ev_aload_n (i := 0) 24 dX5_copy_23 rfl rfl rfl ?_
  refine ev_aload_n (i := 1) 25 dX5_copy_24 rfl rfl rfl ?_
  refine ev_getfield 28 dX5_copy_25 rfl okf_X5_65 (Nat.le_of_ble_eq_true rfl) HPf_0_0 rfl ?_
  refine ev_putfield 31 dX5_copy_28 rfl okf_X5_65 (Nat.le_of_ble_eq_true rfl) HPg_3 (Nat.le_of_ble_eq_true rfl) rfl rfl HPs_3_2 ?_
  refine ev_aload_n (i := 1) 32 dX5_copy_31 rfl rfl rfl ?_
  refine ev_getfield 35 dX5_copy_32 rfl okf_X5_15 (Nat.le_of_ble_eq_true rfl) HPf_0_0 rfl ?_
  refine ev_iconst 36 dX5_copy_35 rfl kI_0 ?_
  refine ev_aload_n (i := 0) 37 dX5_copy_36 rfl rfl rfl ?_
  refine ev_getfield 40 dX5_copy_37 rfl okf_X5_15 (Nat.le_of_ble_eq_true rfl) HPg_3 rfl ?_
  refine ev_iconst 41 dX5_copy_40 rfl kI_0 ?_
  refine ev_bipush 43 dX5_copy_41 rfl kB_10 ?_
  obtain ⟨x2, hx2, hF⟩ := tv_bind hF
  refine ev_arraycopy 46 dX5_copy_43 rfl wc_X5_56 wc_native wc_static wc_init (Nat.le_of_ble_eq_true rfl) (Nat.le_of_ble_eq_true rfl) (Nat.le_of_ble_eq_true rfl) (Nat.le_of_ble_eq_true rfl) HPf_0_2 HPg_5 hx2 HPa_5 ?_
  refine ev_aload_n (i := 0) 47 dX5_copy_46 rfl rfl rfl ?_
  refine ev_aload_n (i := 1) 48 dX5_copy_47 rfl rfl rfl ?_
  refine ev_getfield 51 dX5_copy_48 rfl okf_X5_68 (Nat.le_of_ble_eq_true rfl) HPf_0_0 rfl ?_
  refine ev_putfield 54 dX5_copy_51 rfl okf_X5_68 (Nat.le_of_ble_eq_true rfl) HPg_3 (Nat.le_of_ble_eq_true rfl) rfl rfl HPs_3_4 ?_
  refine ev_aload_n (i := 0) 55 dX5_copy_54 rfl rfl rfl ?_
  refine ev_aload_n (i := 1) 56 dX5_copy_55 rfl rfl rfl ?_
  refine ev_getfield 59 dX5_copy_56 rfl okf_X5_71 (Nat.le_of_ble_eq_true rfl) HPf_0_0 rfl ?_
  refine ev_putfield 62 dX5_copy_59 rfl okf_X5_71 (Nat.le_of_ble_eq_true rfl) HPg_3 (Nat.le_of_ble_eq_true rfl) rfl rfl HPs_3_5 ?_
  refine ev_aload_n (i := 0) 63 dX5_copy_62 rfl rfl rfl ?_
  refine ev_aload_n (i := 1) 64 dX5_copy_63 rfl rfl rfl ?_
  refine ev_getfield 67 dX5_copy_64 rfl okf_X5_18 (Nat.le_of_ble_eq_true rfl) HPf_0_0 rfl ?_
  refine ev_putfield 70 dX5_copy_67 rfl okf_X5_18 (Nat.le_of_ble_eq_true rfl) HPg_3 (Nat.le_of_ble_eq_true rfl) rfl rfl HPs_3_6 ?_
  refine ev_aload_n (i := 0) 71 dX5_copy_70 rfl rfl rfl ?_
  refine ev_aload_n (i := 1) 72 dX5_copy_71 rfl rfl rfl ?_
  refine ev_getfield 75 dX5_copy_72 rfl okf_X5_22 (Nat.le_of_ble_eq_true rfl) HPf_0_0 rfl ?_
  refine ev_putfield 78 dX5_copy_75 rfl okf_X5_22 (Nat.le_of_ble_eq_true rfl) HPg_3 (Nat.le_of_ble_eq_true rfl) rfl rfl HPs_3_7 ?_
  refine ev_aload_n (i := 0) 79 dX5_copy_78 rfl rfl rfl ?_
  refine ev_getfield 82 dX5_copy_79 rfl okf_X5_28 (Nat.le_of_ble_eq_true rfl) HPg_3 rfl ?_
  refine ev_aload_n (i := 1) 83 dX5_copy_82 rfl rfl rfl ?_
  refine ev_getfield 86 dX5_copy_83 rfl okf_X5_28 (Nat.le_of_ble_eq_true rfl) HPf_0_0 rfl ?_
  obtain ⟨x3, hx3, hF⟩ := tv_bind hF
  refine ev_callVv (i := 6) 89 [.ref 28] [] dX5_copy_86 rfl okV_X5_74 rfl rfl (Nat.le_of_ble_eq_true rfl) (Nat.le_of_ble_eq_true rfl) HPg_6 rfl (Nat.le_of_ble_eq_true rfl) (Nat.le_of_ble_eq_true rfl) (R_X2_copy_from0 hx3) ?_
  refine ev_aload_n (i := 0) 90 dX5_copy_89 rfl rfl rfl ?_
  refine ev_getfield 93 dX5_copy_90 rfl okf_X5_35 (Nat.le_of_ble_eq_true rfl) HPg_3 rfl ?_
  refine ev_aload_n (i := 1) 94 dX5_copy_93 rfl rfl rfl ?_
  refine ev_getfield 97 dX5_copy_94 rfl okf_X5_35 (Nat.le_of_ble_eq_true rfl) HPf_0_0 rfl ?_
  obtain ⟨x4, hx4, hF⟩ := tv_bind hF
  refine ev_callVv (i := 8) 100 [.ref 30] [] dX5_copy_97 rfl okV_X5_78 rfl rfl (Nat.le_of_ble_eq_true rfl) (Nat.le_of_ble_eq_true rfl) HPg_8 rfl (Nat.le_of_ble_eq_true rfl) (Nat.le_of_ble_eq_true rfl) (R_X4_copy_from0 hx4) ?_
  refine ev_aload_n (i := 0) 101 dX5_copy_100 rfl rfl rfl ?_
  refine ev_getfield 104 dX5_copy_101 rfl okf_X5_42 (Nat.le_of_ble_eq_true rfl) HPg_3 rfl ?_
  refine ev_aload_n (i := 1) 105 dX5_copy_104 rfl rfl rfl ?_
  refine ev_getfield 108 dX5_copy_105 rfl okf_X5_42 (Nat.le_of_ble_eq_true rfl) HPf_0_0 rfl ?_
  obtain ⟨x5, hx5, hF⟩ := tv_bind hF
  refine ev_callVv (i := 10) 111 [.ref 32] [] dX5_copy_108 rfl okV_X5_81 rfl rfl (Nat.le_of_ble_eq_true rfl) (Nat.le_of_ble_eq_true rfl) HPg_10 rfl (Nat.le_of_ble_eq_true rfl) (Nat.le_of_ble_eq_true rfl) (R_X6_copy_from0 hx5) ?_
  refine ev_aload_n (i := 0) 112 dX5_copy_111 rfl rfl rfl ?_
  refine ev_getfield 115 dX5_copy_112 rfl okf_X5_49 (Nat.le_of_ble_eq_true rfl) HPg_3 rfl ?_
  refine ev_aload_n (i := 1) 116 dX5_copy_115 rfl rfl rfl ?_
  refine ev_getfield 119 dX5_copy_116 rfl okf_X5_49 (Nat.le_of_ble_eq_true rfl) HPf_0_0 rfl ?_
  obtain ⟨x6, hx6, hF⟩ := tv_bind hF
  refine ev_callVv (i := 19) 122 [.ref 41] [] dX5_copy_119 rfl okV_X5_84 rfl rfl (Nat.le_of_ble_eq_true rfl) (Nat.le_of_ble_eq_true rfl) HPg_19 rfl (Nat.le_of_ble_eq_true rfl) (Nat.le_of_ble_eq_true rfl) (R_X1_copy_from0 hx6) ?_
  have hF := Option.some.inj hF
  subst hF
  exact ev_return dX5_copy_122 rfl

set_option maxRecDepth 100000 in
set_option maxHeartbeats 4000000 in
theorem R_X5_copy_from1 {g : tv_G} {l : Launch} {si : Nat → Int32} {sa : Nat → Nat → Int32} {hs : Nat → (Nat → Int32) × (Nat → Nat → Int32)} {tx : Nat → Int32} {tl : Int32} {hc : Int32} {hn : Int32} {v : Nat → Int32} {pa : Nat → Int32} {mt : Nat → Int32} {pm : Int32} {ty : Int32} {ra : Int32}  {p : (Nat → Int32) × (Nat → Nat → Int32)} (hF : F_X5_copy (hs 1).1 (hs 1).2 si sa = some p) : tv_E g l yX5_copy cX5_copy 2 none 3 0 0 0 [.ref 3, .ref 45] [] (HP si sa hs tx tl hc hn v pa mt pm ty ra) none (HP p.1 p.2 hs tx tl hc hn v pa mt pm ty ra) := by
  unfold F_X5_copy at hF
  refine ev_aload_n (i := 1) 1 dX5_copy_0 rfl rfl rfl ?_
  refine ev_getfield 4 dX5_copy_1 rfl okf_X5_9 (Nat.le_of_ble_eq_true rfl) HPf_1_0 rfl ?_
  refine ev_iconst 5 dX5_copy_4 rfl kI_0 ?_
  refine ev_aload_n (i := 0) 6 dX5_copy_5 rfl rfl rfl ?_
  refine ev_getfield 9 dX5_copy_6 rfl okf_X5_9 (Nat.le_of_ble_eq_true rfl) HPg_3 rfl ?_
  refine ev_iconst 10 dX5_copy_9 rfl kI_0 ?_
  refine ev_bipush 12 dX5_copy_10 rfl kB_6 ?_
  obtain ⟨x1, hx1, hF⟩ := tv_bind hF
  refine ev_arraycopy 15 dX5_copy_12 rfl wc_X5_56 wc_native wc_static wc_init (Nat.le_of_ble_eq_true rfl) (Nat.le_of_ble_eq_true rfl) (Nat.le_of_ble_eq_true rfl) (Nat.le_of_ble_eq_true rfl) HPf_1_1 HPg_4 hx1 HPa_4 ?_
  refine ev_aload_n (i := 0) 16 dX5_copy_15 rfl rfl rfl ?_
  refine ev_aload_n (i := 1) 17 dX5_copy_16 rfl rfl rfl ?_
  refine ev_getfield 20 dX5_copy_17 rfl okf_X5_62 (Nat.le_of_ble_eq_true rfl) HPf_1_0 rfl ?_
  refine ev_putfield 23 dX5_copy_20 rfl okf_X5_62 (Nat.le_of_ble_eq_true rfl) HPg_3 (Nat.le_of_ble_eq_true rfl) rfl rfl HPs_3_1 ?_
  refine ev_aload_n (i := 0) 24 dX5_copy_23 rfl rfl rfl ?_
  refine ev_aload_n (i := 1) 25 dX5_copy_24 rfl rfl rfl ?_
  refine ev_getfield 28 dX5_copy_25 rfl okf_X5_65 (Nat.le_of_ble_eq_true rfl) HPf_1_0 rfl ?_
  refine ev_putfield 31 dX5_copy_28 rfl okf_X5_65 (Nat.le_of_ble_eq_true rfl) HPg_3 (Nat.le_of_ble_eq_true rfl) rfl rfl HPs_3_2 ?_
  refine ev_aload_n (i := 1) 32 dX5_copy_31 rfl rfl rfl ?_
  refine ev_getfield 35 dX5_copy_32 rfl okf_X5_15 (Nat.le_of_ble_eq_true rfl) HPf_1_0 rfl ?_
  refine ev_iconst 36 dX5_copy_35 rfl kI_0 ?_
  refine ev_aload_n (i := 0) 37 dX5_copy_36 rfl rfl rfl ?_
  refine ev_getfield 40 dX5_copy_37 rfl okf_X5_15 (Nat.le_of_ble_eq_true rfl) HPg_3 rfl ?_
  refine ev_iconst 41 dX5_copy_40 rfl kI_0 ?_
  refine ev_bipush 43 dX5_copy_41 rfl kB_10 ?_
  obtain ⟨x2, hx2, hF⟩ := tv_bind hF
  refine ev_arraycopy 46 dX5_copy_43 rfl wc_X5_56 wc_native wc_static wc_init (Nat.le_of_ble_eq_true rfl) (Nat.le_of_ble_eq_true rfl) (Nat.le_of_ble_eq_true rfl) (Nat.le_of_ble_eq_true rfl) HPf_1_2 HPg_5 hx2 HPa_5 ?_
  refine ev_aload_n (i := 0) 47 dX5_copy_46 rfl rfl rfl ?_
  refine ev_aload_n (i := 1) 48 dX5_copy_47 rfl rfl rfl ?_
  refine ev_getfield 51 dX5_copy_48 rfl okf_X5_68 (Nat.le_of_ble_eq_true rfl) HPf_1_0 rfl ?_
  refine ev_putfield 54 dX5_copy_51 rfl okf_X5_68 (Nat.le_of_ble_eq_true rfl) HPg_3 (Nat.le_of_ble_eq_true rfl) rfl rfl HPs_3_4 ?_
  refine ev_aload_n (i := 0) 55 dX5_copy_54 rfl rfl rfl ?_
  refine ev_aload_n (i := 1) 56 dX5_copy_55 rfl rfl rfl ?_
  refine ev_getfield 59 dX5_copy_56 rfl okf_X5_71 (Nat.le_of_ble_eq_true rfl) HPf_1_0 rfl ?_
  refine ev_putfield 62 dX5_copy_59 rfl okf_X5_71 (Nat.le_of_ble_eq_true rfl) HPg_3 (Nat.le_of_ble_eq_true rfl) rfl rfl HPs_3_5 ?_
  refine ev_aload_n (i := 0) 63 dX5_copy_62 rfl rfl rfl ?_
  refine ev_aload_n (i := 1) 64 dX5_copy_63 rfl rfl rfl ?_
  refine ev_getfield 67 dX5_copy_64 rfl okf_X5_18 (Nat.le_of_ble_eq_true rfl) HPf_1_0 rfl ?_
  refine ev_putfield 70 dX5_copy_67 rfl okf_X5_18 (Nat.le_of_ble_eq_true rfl) HPg_3 (Nat.le_of_ble_eq_true rfl) rfl rfl HPs_3_6 ?_
  refine ev_aload_n (i := 0) 71 dX5_copy_70 rfl rfl rfl ?_
  refine ev_aload_n (i := 1) 72 dX5_copy_71 rfl rfl rfl ?_
  refine ev_getfield 75 dX5_copy_72 rfl okf_X5_22 (Nat.le_of_ble_eq_true rfl) HPf_1_0 rfl ?_
  refine ev_putfield 78 dX5_copy_75 rfl okf_X5_22 (Nat.le_of_ble_eq_true rfl) HPg_3 (Nat.le_of_ble_eq_true rfl) rfl rfl HPs_3_7 ?_
  refine ev_aload_n (i := 0) 79 dX5_copy_78 rfl rfl rfl ?_
  refine ev_getfield 82 dX5_copy_79 rfl okf_X5_28 (Nat.le_of_ble_eq_true rfl) HPg_3 rfl ?_
  refine ev_aload_n (i := 1) 83 dX5_copy_82 rfl rfl rfl ?_
  refine ev_getfield 86 dX5_copy_83 rfl okf_X5_28 (Nat.le_of_ble_eq_true rfl) HPf_1_0 rfl ?_
  obtain ⟨x3, hx3, hF⟩ := tv_bind hF
  refine ev_callVv (i := 6) 89 [.ref 48] [] dX5_copy_86 rfl okV_X5_74 rfl rfl (Nat.le_of_ble_eq_true rfl) (Nat.le_of_ble_eq_true rfl) HPg_6 rfl (Nat.le_of_ble_eq_true rfl) (Nat.le_of_ble_eq_true rfl) (R_X2_copy_from1 hx3) ?_
  refine ev_aload_n (i := 0) 90 dX5_copy_89 rfl rfl rfl ?_
  refine ev_getfield 93 dX5_copy_90 rfl okf_X5_35 (Nat.le_of_ble_eq_true rfl) HPg_3 rfl ?_
  refine ev_aload_n (i := 1) 94 dX5_copy_93 rfl rfl rfl ?_
  refine ev_getfield 97 dX5_copy_94 rfl okf_X5_35 (Nat.le_of_ble_eq_true rfl) HPf_1_0 rfl ?_
  obtain ⟨x4, hx4, hF⟩ := tv_bind hF
  refine ev_callVv (i := 8) 100 [.ref 50] [] dX5_copy_97 rfl okV_X5_78 rfl rfl (Nat.le_of_ble_eq_true rfl) (Nat.le_of_ble_eq_true rfl) HPg_8 rfl (Nat.le_of_ble_eq_true rfl) (Nat.le_of_ble_eq_true rfl) (R_X4_copy_from1 hx4) ?_
  refine ev_aload_n (i := 0) 101 dX5_copy_100 rfl rfl rfl ?_
  refine ev_getfield 104 dX5_copy_101 rfl okf_X5_42 (Nat.le_of_ble_eq_true rfl) HPg_3 rfl ?_
  refine ev_aload_n (i := 1) 105 dX5_copy_104 rfl rfl rfl ?_
  refine ev_getfield 108 dX5_copy_105 rfl okf_X5_42 (Nat.le_of_ble_eq_true rfl) HPf_1_0 rfl ?_
  obtain ⟨x5, hx5, hF⟩ := tv_bind hF
  refine ev_callVv (i := 10) 111 [.ref 52] [] dX5_copy_108 rfl okV_X5_81 rfl rfl (Nat.le_of_ble_eq_true rfl) (Nat.le_of_ble_eq_true rfl) HPg_10 rfl (Nat.le_of_ble_eq_true rfl) (Nat.le_of_ble_eq_true rfl) (R_X6_copy_from1 hx5) ?_
  refine ev_aload_n (i := 0) 112 dX5_copy_111 rfl rfl rfl ?_
  refine ev_getfield 115 dX5_copy_112 rfl okf_X5_49 (Nat.le_of_ble_eq_true rfl) HPg_3 rfl ?_
  refine ev_aload_n (i := 1) 116 dX5_copy_115 rfl rfl rfl ?_
  refine ev_getfield 119 dX5_copy_116 rfl okf_X5_49 (Nat.le_of_ble_eq_true rfl) HPf_1_0 rfl ?_
  obtain ⟨x6, hx6, hF⟩ := tv_bind hF
  refine ev_callVv (i := 19) 122 [.ref 61] [] dX5_copy_119 rfl okV_X5_84 rfl rfl (Nat.le_of_ble_eq_true rfl) (Nat.le_of_ble_eq_true rfl) HPg_19 rfl (Nat.le_of_ble_eq_true rfl) (Nat.le_of_ble_eq_true rfl) (R_X1_copy_from1 hx6) ?_
  have hF := Option.some.inj hF
  subst hF
  exact ev_return dX5_copy_122 rfl

set_option maxRecDepth 100000 in
set_option maxHeartbeats 4000000 in
theorem R_X5_copy_from2 {g : tv_G} {l : Launch} {si : Nat → Int32} {sa : Nat → Nat → Int32} {hs : Nat → (Nat → Int32) × (Nat → Nat → Int32)} {tx : Nat → Int32} {tl : Int32} {hc : Int32} {hn : Int32} {v : Nat → Int32} {pa : Nat → Int32} {mt : Nat → Int32} {pm : Int32} {ty : Int32} {ra : Int32}  {p : (Nat → Int32) × (Nat → Nat → Int32)} (hF : F_X5_copy (hs 2).1 (hs 2).2 si sa = some p) : tv_E g l yX5_copy cX5_copy 2 none 3 0 0 0 [.ref 3, .ref 65] [] (HP si sa hs tx tl hc hn v pa mt pm ty ra) none (HP p.1 p.2 hs tx tl hc hn v pa mt pm ty ra) := by
  unfold F_X5_copy at hF
  refine ev_aload_n (i := 1) 1 dX5_copy_0 rfl rfl rfl ?_
  refine ev_getfield 4 dX5_copy_1 rfl okf_X5_9 (Nat.le_of_ble_eq_true rfl) HPf_2_0 rfl ?_
  refine ev_iconst 5 dX5_copy_4 rfl kI_0 ?_
  refine ev_aload_n (i := 0) 6 dX5_copy_5 rfl rfl rfl ?_
  refine ev_getfield 9 dX5_copy_6 rfl okf_X5_9 (Nat.le_of_ble_eq_true rfl) HPg_3 rfl ?_
  refine ev_iconst 10 dX5_copy_9 rfl kI_0 ?_
  refine ev_bipush 12 dX5_copy_10 rfl kB_6 ?_
  obtain ⟨x1, hx1, hF⟩ := tv_bind hF
  refine ev_arraycopy 15 dX5_copy_12 rfl wc_X5_56 wc_native wc_static wc_init (Nat.le_of_ble_eq_true rfl) (Nat.le_of_ble_eq_true rfl) (Nat.le_of_ble_eq_true rfl) (Nat.le_of_ble_eq_true rfl) HPf_2_1 HPg_4 hx1 HPa_4 ?_
  refine ev_aload_n (i := 0) 16 dX5_copy_15 rfl rfl rfl ?_
  refine ev_aload_n (i := 1) 17 dX5_copy_16 rfl rfl rfl ?_
  refine ev_getfield 20 dX5_copy_17 rfl okf_X5_62 (Nat.le_of_ble_eq_true rfl) HPf_2_0 rfl ?_
  refine ev_putfield 23 dX5_copy_20 rfl okf_X5_62 (Nat.le_of_ble_eq_true rfl) HPg_3 (Nat.le_of_ble_eq_true rfl) rfl rfl HPs_3_1 ?_
  refine ev_aload_n (i := 0) 24 dX5_copy_23 rfl rfl rfl ?_
  refine ev_aload_n (i := 1) 25 dX5_copy_24 rfl rfl rfl ?_
  refine ev_getfield 28 dX5_copy_25 rfl okf_X5_65 (Nat.le_of_ble_eq_true rfl) HPf_2_0 rfl ?_
  refine ev_putfield 31 dX5_copy_28 rfl okf_X5_65 (Nat.le_of_ble_eq_true rfl) HPg_3 (Nat.le_of_ble_eq_true rfl) rfl rfl HPs_3_2 ?_
  refine ev_aload_n (i := 1) 32 dX5_copy_31 rfl rfl rfl ?_
  refine ev_getfield 35 dX5_copy_32 rfl okf_X5_15 (Nat.le_of_ble_eq_true rfl) HPf_2_0 rfl ?_
  refine ev_iconst 36 dX5_copy_35 rfl kI_0 ?_
  refine ev_aload_n (i := 0) 37 dX5_copy_36 rfl rfl rfl ?_
  refine ev_getfield 40 dX5_copy_37 rfl okf_X5_15 (Nat.le_of_ble_eq_true rfl) HPg_3 rfl ?_
  refine ev_iconst 41 dX5_copy_40 rfl kI_0 ?_
  refine ev_bipush 43 dX5_copy_41 rfl kB_10 ?_
  obtain ⟨x2, hx2, hF⟩ := tv_bind hF
  refine ev_arraycopy 46 dX5_copy_43 rfl wc_X5_56 wc_native wc_static wc_init (Nat.le_of_ble_eq_true rfl) (Nat.le_of_ble_eq_true rfl) (Nat.le_of_ble_eq_true rfl) (Nat.le_of_ble_eq_true rfl) HPf_2_2 HPg_5 hx2 HPa_5 ?_
  refine ev_aload_n (i := 0) 47 dX5_copy_46 rfl rfl rfl ?_
  refine ev_aload_n (i := 1) 48 dX5_copy_47 rfl rfl rfl ?_
  refine ev_getfield 51 dX5_copy_48 rfl okf_X5_68 (Nat.le_of_ble_eq_true rfl) HPf_2_0 rfl ?_
  refine ev_putfield 54 dX5_copy_51 rfl okf_X5_68 (Nat.le_of_ble_eq_true rfl) HPg_3 (Nat.le_of_ble_eq_true rfl) rfl rfl HPs_3_4 ?_
  refine ev_aload_n (i := 0) 55 dX5_copy_54 rfl rfl rfl ?_
  refine ev_aload_n (i := 1) 56 dX5_copy_55 rfl rfl rfl ?_
  refine ev_getfield 59 dX5_copy_56 rfl okf_X5_71 (Nat.le_of_ble_eq_true rfl) HPf_2_0 rfl ?_
  refine ev_putfield 62 dX5_copy_59 rfl okf_X5_71 (Nat.le_of_ble_eq_true rfl) HPg_3 (Nat.le_of_ble_eq_true rfl) rfl rfl HPs_3_5 ?_
  refine ev_aload_n (i := 0) 63 dX5_copy_62 rfl rfl rfl ?_
  refine ev_aload_n (i := 1) 64 dX5_copy_63 rfl rfl rfl ?_
  refine ev_getfield 67 dX5_copy_64 rfl okf_X5_18 (Nat.le_of_ble_eq_true rfl) HPf_2_0 rfl ?_
  refine ev_putfield 70 dX5_copy_67 rfl okf_X5_18 (Nat.le_of_ble_eq_true rfl) HPg_3 (Nat.le_of_ble_eq_true rfl) rfl rfl HPs_3_6 ?_
  refine ev_aload_n (i := 0) 71 dX5_copy_70 rfl rfl rfl ?_
  refine ev_aload_n (i := 1) 72 dX5_copy_71 rfl rfl rfl ?_
  refine ev_getfield 75 dX5_copy_72 rfl okf_X5_22 (Nat.le_of_ble_eq_true rfl) HPf_2_0 rfl ?_
  refine ev_putfield 78 dX5_copy_75 rfl okf_X5_22 (Nat.le_of_ble_eq_true rfl) HPg_3 (Nat.le_of_ble_eq_true rfl) rfl rfl HPs_3_7 ?_
  refine ev_aload_n (i := 0) 79 dX5_copy_78 rfl rfl rfl ?_
  refine ev_getfield 82 dX5_copy_79 rfl okf_X5_28 (Nat.le_of_ble_eq_true rfl) HPg_3 rfl ?_
  refine ev_aload_n (i := 1) 83 dX5_copy_82 rfl rfl rfl ?_
  refine ev_getfield 86 dX5_copy_83 rfl okf_X5_28 (Nat.le_of_ble_eq_true rfl) HPf_2_0 rfl ?_
  obtain ⟨x3, hx3, hF⟩ := tv_bind hF
  refine ev_callVv (i := 6) 89 [.ref 68] [] dX5_copy_86 rfl okV_X5_74 rfl rfl (Nat.le_of_ble_eq_true rfl) (Nat.le_of_ble_eq_true rfl) HPg_6 rfl (Nat.le_of_ble_eq_true rfl) (Nat.le_of_ble_eq_true rfl) (R_X2_copy_from2 hx3) ?_
  refine ev_aload_n (i := 0) 90 dX5_copy_89 rfl rfl rfl ?_
  refine ev_getfield 93 dX5_copy_90 rfl okf_X5_35 (Nat.le_of_ble_eq_true rfl) HPg_3 rfl ?_
  refine ev_aload_n (i := 1) 94 dX5_copy_93 rfl rfl rfl ?_
  refine ev_getfield 97 dX5_copy_94 rfl okf_X5_35 (Nat.le_of_ble_eq_true rfl) HPf_2_0 rfl ?_
  obtain ⟨x4, hx4, hF⟩ := tv_bind hF
  refine ev_callVv (i := 8) 100 [.ref 70] [] dX5_copy_97 rfl okV_X5_78 rfl rfl (Nat.le_of_ble_eq_true rfl) (Nat.le_of_ble_eq_true rfl) HPg_8 rfl (Nat.le_of_ble_eq_true rfl) (Nat.le_of_ble_eq_true rfl) (R_X4_copy_from2 hx4) ?_
  refine ev_aload_n (i := 0) 101 dX5_copy_100 rfl rfl rfl ?_
  refine ev_getfield 104 dX5_copy_101 rfl okf_X5_42 (Nat.le_of_ble_eq_true rfl) HPg_3 rfl ?_
  refine ev_aload_n (i := 1) 105 dX5_copy_104 rfl rfl rfl ?_
  refine ev_getfield 108 dX5_copy_105 rfl okf_X5_42 (Nat.le_of_ble_eq_true rfl) HPf_2_0 rfl ?_
  obtain ⟨x5, hx5, hF⟩ := tv_bind hF
  refine ev_callVv (i := 10) 111 [.ref 72] [] dX5_copy_108 rfl okV_X5_81 rfl rfl (Nat.le_of_ble_eq_true rfl) (Nat.le_of_ble_eq_true rfl) HPg_10 rfl (Nat.le_of_ble_eq_true rfl) (Nat.le_of_ble_eq_true rfl) (R_X6_copy_from2 hx5) ?_
  refine ev_aload_n (i := 0) 112 dX5_copy_111 rfl rfl rfl ?_
  refine ev_getfield 115 dX5_copy_112 rfl okf_X5_49 (Nat.le_of_ble_eq_true rfl) HPg_3 rfl ?_
  refine ev_aload_n (i := 1) 116 dX5_copy_115 rfl rfl rfl ?_
  refine ev_getfield 119 dX5_copy_116 rfl okf_X5_49 (Nat.le_of_ble_eq_true rfl) HPf_2_0 rfl ?_
  obtain ⟨x6, hx6, hF⟩ := tv_bind hF
  refine ev_callVv (i := 19) 122 [.ref 81] [] dX5_copy_119 rfl okV_X5_84 rfl rfl (Nat.le_of_ble_eq_true rfl) (Nat.le_of_ble_eq_true rfl) HPg_19 rfl (Nat.le_of_ble_eq_true rfl) (Nat.le_of_ble_eq_true rfl) (R_X1_copy_from2 hx6) ?_
  have hF := Option.some.inj hF
  subst hF
  exact ev_return dX5_copy_122 rfl

set_option maxRecDepth 100000 in
set_option maxHeartbeats 4000000 in
theorem R_X5_copy_from3 {g : tv_G} {l : Launch} {si : Nat → Int32} {sa : Nat → Nat → Int32} {hs : Nat → (Nat → Int32) × (Nat → Nat → Int32)} {tx : Nat → Int32} {tl : Int32} {hc : Int32} {hn : Int32} {v : Nat → Int32} {pa : Nat → Int32} {mt : Nat → Int32} {pm : Int32} {ty : Int32} {ra : Int32}  {p : (Nat → Int32) × (Nat → Nat → Int32)} (hF : F_X5_copy (hs 3).1 (hs 3).2 si sa = some p) : tv_E g l yX5_copy cX5_copy 2 none 3 0 0 0 [.ref 3, .ref 85] [] (HP si sa hs tx tl hc hn v pa mt pm ty ra) none (HP p.1 p.2 hs tx tl hc hn v pa mt pm ty ra) := by
  unfold F_X5_copy at hF
  refine ev_aload_n (i := 1) 1 dX5_copy_0 rfl rfl rfl ?_
  refine ev_getfield 4 dX5_copy_1 rfl okf_X5_9 (Nat.le_of_ble_eq_true rfl) HPf_3_0 rfl ?_
  refine ev_iconst 5 dX5_copy_4 rfl kI_0 ?_
  refine ev_aload_n (i := 0) 6 dX5_copy_5 rfl rfl rfl ?_
  refine ev_getfield 9 dX5_copy_6 rfl okf_X5_9 (Nat.le_of_ble_eq_true rfl) HPg_3 rfl ?_
  refine ev_iconst 10 dX5_copy_9 rfl kI_0 ?_
  refine ev_bipush 12 dX5_copy_10 rfl kB_6 ?_
  obtain ⟨x1, hx1, hF⟩ := tv_bind hF
  refine ev_arraycopy 15 dX5_copy_12 rfl wc_X5_56 wc_native wc_static wc_init (Nat.le_of_ble_eq_true rfl) (Nat.le_of_ble_eq_true rfl) (Nat.le_of_ble_eq_true rfl) (Nat.le_of_ble_eq_true rfl) HPf_3_1 HPg_4 hx1 HPa_4 ?_
  refine ev_aload_n (i := 0) 16 dX5_copy_15 rfl rfl rfl ?_
  refine ev_aload_n (i := 1) 17 dX5_copy_16 rfl rfl rfl ?_
  refine ev_getfield 20 dX5_copy_17 rfl okf_X5_62 (Nat.le_of_ble_eq_true rfl) HPf_3_0 rfl ?_
  refine ev_putfield 23 dX5_copy_20 rfl okf_X5_62 (Nat.le_of_ble_eq_true rfl) HPg_3 (Nat.le_of_ble_eq_true rfl) rfl rfl HPs_3_1 ?_
  refine ev_aload_n (i := 0) 24 dX5_copy_23 rfl rfl rfl ?_
  refine ev_aload_n (i := 1) 25 dX5_copy_24 rfl rfl rfl ?_
  refine ev_getfield 28 dX5_copy_25 rfl okf_X5_65 (Nat.le_of_ble_eq_true rfl) HPf_3_0 rfl ?_
  refine ev_putfield 31 dX5_copy_28 rfl okf_X5_65 (Nat.le_of_ble_eq_true rfl) HPg_3 (Nat.le_of_ble_eq_true rfl) rfl rfl HPs_3_2 ?_
  refine ev_aload_n (i := 1) 32 dX5_copy_31 rfl rfl rfl ?_
  refine ev_getfield 35 dX5_copy_32 rfl okf_X5_15 (Nat.le_of_ble_eq_true rfl) HPf_3_0 rfl ?_
  refine ev_iconst 36 dX5_copy_35 rfl kI_0 ?_
  refine ev_aload_n (i := 0) 37 dX5_copy_36 rfl rfl rfl ?_
  refine ev_getfield 40 dX5_copy_37 rfl okf_X5_15 (Nat.le_of_ble_eq_true rfl) HPg_3 rfl ?_
  refine ev_iconst 41 dX5_copy_40 rfl kI_0 ?_
  refine ev_bipush 43 dX5_copy_41 rfl kB_10 ?_
  obtain ⟨x2, hx2, hF⟩ := tv_bind hF
  refine ev_arraycopy 46 dX5_copy_43 rfl wc_X5_56 wc_native wc_static wc_init (Nat.le_of_ble_eq_true rfl) (Nat.le_of_ble_eq_true rfl) (Nat.le_of_ble_eq_true rfl) (Nat.le_of_ble_eq_true rfl) HPf_3_2 HPg_5 hx2 HPa_5 ?_
  refine ev_aload_n (i := 0) 47 dX5_copy_46 rfl rfl rfl ?_
  refine ev_aload_n (i := 1) 48 dX5_copy_47 rfl rfl rfl ?_
  refine ev_getfield 51 dX5_copy_48 rfl okf_X5_68 (Nat.le_of_ble_eq_true rfl) HPf_3_0 rfl ?_
  refine ev_putfield 54 dX5_copy_51 rfl okf_X5_68 (Nat.le_of_ble_eq_true rfl) HPg_3 (Nat.le_of_ble_eq_true rfl) rfl rfl HPs_3_4 ?_
  refine ev_aload_n (i := 0) 55 dX5_copy_54 rfl rfl rfl ?_
  refine ev_aload_n (i := 1) 56 dX5_copy_55 rfl rfl rfl ?_
  refine ev_getfield 59 dX5_copy_56 rfl okf_X5_71 (Nat.le_of_ble_eq_true rfl) HPf_3_0 rfl ?_
  refine ev_putfield 62 dX5_copy_59 rfl okf_X5_71 (Nat.le_of_ble_eq_true rfl) HPg_3 (Nat.le_of_ble_eq_true rfl) rfl rfl HPs_3_5 ?_
  refine ev_aload_n (i := 0) 63 dX5_copy_62 rfl rfl rfl ?_
  refine ev_aload_n (i := 1) 64 dX5_copy_63 rfl rfl rfl ?_
  refine ev_getfield 67 dX5_copy_64 rfl okf_X5_18 (Nat.le_of_ble_eq_true rfl) HPf_3_0 rfl ?_
  refine ev_putfield 70 dX5_copy_67 rfl okf_X5_18 (Nat.le_of_ble_eq_true rfl) HPg_3 (Nat.le_of_ble_eq_true rfl) rfl rfl HPs_3_6 ?_
  refine ev_aload_n (i := 0) 71 dX5_copy_70 rfl rfl rfl ?_
  refine ev_aload_n (i := 1) 72 dX5_copy_71 rfl rfl rfl ?_
  refine ev_getfield 75 dX5_copy_72 rfl okf_X5_22 (Nat.le_of_ble_eq_true rfl) HPf_3_0 rfl ?_
  refine ev_putfield 78 dX5_copy_75 rfl okf_X5_22 (Nat.le_of_ble_eq_true rfl) HPg_3 (Nat.le_of_ble_eq_true rfl) rfl rfl HPs_3_7 ?_
  refine ev_aload_n (i := 0) 79 dX5_copy_78 rfl rfl rfl ?_
  refine ev_getfield 82 dX5_copy_79 rfl okf_X5_28 (Nat.le_of_ble_eq_true rfl) HPg_3 rfl ?_
  refine ev_aload_n (i := 1) 83 dX5_copy_82 rfl rfl rfl ?_
  refine ev_getfield 86 dX5_copy_83 rfl okf_X5_28 (Nat.le_of_ble_eq_true rfl) HPf_3_0 rfl ?_
  obtain ⟨x3, hx3, hF⟩ := tv_bind hF
  refine ev_callVv (i := 6) 89 [.ref 88] [] dX5_copy_86 rfl okV_X5_74 rfl rfl (Nat.le_of_ble_eq_true rfl) (Nat.le_of_ble_eq_true rfl) HPg_6 rfl (Nat.le_of_ble_eq_true rfl) (Nat.le_of_ble_eq_true rfl) (R_X2_copy_from3 hx3) ?_
  refine ev_aload_n (i := 0) 90 dX5_copy_89 rfl rfl rfl ?_
  refine ev_getfield 93 dX5_copy_90 rfl okf_X5_35 (Nat.le_of_ble_eq_true rfl) HPg_3 rfl ?_
  refine ev_aload_n (i := 1) 94 dX5_copy_93 rfl rfl rfl ?_
  refine ev_getfield 97 dX5_copy_94 rfl okf_X5_35 (Nat.le_of_ble_eq_true rfl) HPf_3_0 rfl ?_
  obtain ⟨x4, hx4, hF⟩ := tv_bind hF
  refine ev_callVv (i := 8) 100 [.ref 90] [] dX5_copy_97 rfl okV_X5_78 rfl rfl (Nat.le_of_ble_eq_true rfl) (Nat.le_of_ble_eq_true rfl) HPg_8 rfl (Nat.le_of_ble_eq_true rfl) (Nat.le_of_ble_eq_true rfl) (R_X4_copy_from3 hx4) ?_
  refine ev_aload_n (i := 0) 101 dX5_copy_100 rfl rfl rfl ?_
  refine ev_getfield 104 dX5_copy_101 rfl okf_X5_42 (Nat.le_of_ble_eq_true rfl) HPg_3 rfl ?_
  refine ev_aload_n (i := 1) 105 dX5_copy_104 rfl rfl rfl ?_
  refine ev_getfield 108 dX5_copy_105 rfl okf_X5_42 (Nat.le_of_ble_eq_true rfl) HPf_3_0 rfl ?_
  obtain ⟨x5, hx5, hF⟩ := tv_bind hF
  refine ev_callVv (i := 10) 111 [.ref 92] [] dX5_copy_108 rfl okV_X5_81 rfl rfl (Nat.le_of_ble_eq_true rfl) (Nat.le_of_ble_eq_true rfl) HPg_10 rfl (Nat.le_of_ble_eq_true rfl) (Nat.le_of_ble_eq_true rfl) (R_X6_copy_from3 hx5) ?_
  refine ev_aload_n (i := 0) 112 dX5_copy_111 rfl rfl rfl ?_
  refine ev_getfield 115 dX5_copy_112 rfl okf_X5_49 (Nat.le_of_ble_eq_true rfl) HPg_3 rfl ?_
  refine ev_aload_n (i := 1) 116 dX5_copy_115 rfl rfl rfl ?_
  refine ev_getfield 119 dX5_copy_116 rfl okf_X5_49 (Nat.le_of_ble_eq_true rfl) HPf_3_0 rfl ?_
  obtain ⟨x6, hx6, hF⟩ := tv_bind hF
  refine ev_callVv (i := 19) 122 [.ref 101] [] dX5_copy_119 rfl okV_X5_84 rfl rfl (Nat.le_of_ble_eq_true rfl) (Nat.le_of_ble_eq_true rfl) HPg_19 rfl (Nat.le_of_ble_eq_true rfl) (Nat.le_of_ble_eq_true rfl) (R_X1_copy_from3 hx6) ?_
  have hF := Option.some.inj hF
  subst hF
  exact ev_return dX5_copy_122 rfl

set_option maxRecDepth 100000 in
set_option maxHeartbeats 4000000 in
theorem R_X5_copy_from4 {g : tv_G} {l : Launch} {si : Nat → Int32} {sa : Nat → Nat → Int32} {hs : Nat → (Nat → Int32) × (Nat → Nat → Int32)} {tx : Nat → Int32} {tl : Int32} {hc : Int32} {hn : Int32} {v : Nat → Int32} {pa : Nat → Int32} {mt : Nat → Int32} {pm : Int32} {ty : Int32} {ra : Int32}  {p : (Nat → Int32) × (Nat → Nat → Int32)} (hF : F_X5_copy (hs 4).1 (hs 4).2 si sa = some p) : tv_E g l yX5_copy cX5_copy 2 none 3 0 0 0 [.ref 3, .ref 105] [] (HP si sa hs tx tl hc hn v pa mt pm ty ra) none (HP p.1 p.2 hs tx tl hc hn v pa mt pm ty ra) := by
  unfold F_X5_copy at hF
  refine ev_aload_n (i := 1) 1 dX5_copy_0 rfl rfl rfl ?_
  refine ev_getfield 4 dX5_copy_1 rfl okf_X5_9 (Nat.le_of_ble_eq_true rfl) HPf_4_0 rfl ?_
  refine ev_iconst 5 dX5_copy_4 rfl kI_0 ?_
  refine ev_aload_n (i := 0) 6 dX5_copy_5 rfl rfl rfl ?_
  refine ev_getfield 9 dX5_copy_6 rfl okf_X5_9 (Nat.le_of_ble_eq_true rfl) HPg_3 rfl ?_
  refine ev_iconst 10 dX5_copy_9 rfl kI_0 ?_
  refine ev_bipush 12 dX5_copy_10 rfl kB_6 ?_
  obtain ⟨x1, hx1, hF⟩ := tv_bind hF
  refine ev_arraycopy 15 dX5_copy_12 rfl wc_X5_56 wc_native wc_static wc_init (Nat.le_of_ble_eq_true rfl) (Nat.le_of_ble_eq_true rfl) (Nat.le_of_ble_eq_true rfl) (Nat.le_of_ble_eq_true rfl) HPf_4_1 HPg_4 hx1 HPa_4 ?_
  refine ev_aload_n (i := 0) 16 dX5_copy_15 rfl rfl rfl ?_
  refine ev_aload_n (i := 1) 17 dX5_copy_16 rfl rfl rfl ?_
  refine ev_getfield 20 dX5_copy_17 rfl okf_X5_62 (Nat.le_of_ble_eq_true rfl) HPf_4_0 rfl ?_
  refine ev_putfield 23 dX5_copy_20 rfl okf_X5_62 (Nat.le_of_ble_eq_true rfl) HPg_3 (Nat.le_of_ble_eq_true rfl) rfl rfl HPs_3_1 ?_
  refine ev_aload_n (i := 0) 24 dX5_copy_23 rfl rfl rfl ?_
  refine ev_aload_n (i := 1) 25 dX5_copy_24 rfl rfl rfl ?_
  refine ev_getfield 28 dX5_copy_25 rfl okf_X5_65 (Nat.le_of_ble_eq_true rfl) HPf_4_0 rfl ?_
  refine ev_putfield 31 dX5_copy_28 rfl okf_X5_65 (Nat.le_of_ble_eq_true rfl) HPg_3 (Nat.le_of_ble_eq_true rfl) rfl rfl HPs_3_2 ?_
  refine ev_aload_n (i := 1) 32 dX5_copy_31 rfl rfl rfl ?_
  refine ev_getfield 35 dX5_copy_32 rfl okf_X5_15 (Nat.le_of_ble_eq_true rfl) HPf_4_0 rfl ?_
  refine ev_iconst 36 dX5_copy_35 rfl kI_0 ?_
  refine ev_aload_n (i := 0) 37 dX5_copy_36 rfl rfl rfl ?_
  refine ev_getfield 40 dX5_copy_37 rfl okf_X5_15 (Nat.le_of_ble_eq_true rfl) HPg_3 rfl ?_
  refine ev_iconst 41 dX5_copy_40 rfl kI_0 ?_
  refine ev_bipush 43 dX5_copy_41 rfl kB_10 ?_
  obtain ⟨x2, hx2, hF⟩ := tv_bind hF
  refine ev_arraycopy 46 dX5_copy_43 rfl wc_X5_56 wc_native wc_static wc_init (Nat.le_of_ble_eq_true rfl) (Nat.le_of_ble_eq_true rfl) (Nat.le_of_ble_eq_true rfl) (Nat.le_of_ble_eq_true rfl) HPf_4_2 HPg_5 hx2 HPa_5 ?_
  refine ev_aload_n (i := 0) 47 dX5_copy_46 rfl rfl rfl ?_
  refine ev_aload_n (i := 1) 48 dX5_copy_47 rfl rfl rfl ?_
  refine ev_getfield 51 dX5_copy_48 rfl okf_X5_68 (Nat.le_of_ble_eq_true rfl) HPf_4_0 rfl ?_
  refine ev_putfield 54 dX5_copy_51 rfl okf_X5_68 (Nat.le_of_ble_eq_true rfl) HPg_3 (Nat.le_of_ble_eq_true rfl) rfl rfl HPs_3_4 ?_
  refine ev_aload_n (i := 0) 55 dX5_copy_54 rfl rfl rfl ?_
  refine ev_aload_n (i := 1) 56 dX5_copy_55 rfl rfl rfl ?_
  refine ev_getfield 59 dX5_copy_56 rfl okf_X5_71 (Nat.le_of_ble_eq_true rfl) HPf_4_0 rfl ?_
  refine ev_putfield 62 dX5_copy_59 rfl okf_X5_71 (Nat.le_of_ble_eq_true rfl) HPg_3 (Nat.le_of_ble_eq_true rfl) rfl rfl HPs_3_5 ?_
  refine ev_aload_n (i := 0) 63 dX5_copy_62 rfl rfl rfl ?_
  refine ev_aload_n (i := 1) 64 dX5_copy_63 rfl rfl rfl ?_
  refine ev_getfield 67 dX5_copy_64 rfl okf_X5_18 (Nat.le_of_ble_eq_true rfl) HPf_4_0 rfl ?_
  refine ev_putfield 70 dX5_copy_67 rfl okf_X5_18 (Nat.le_of_ble_eq_true rfl) HPg_3 (Nat.le_of_ble_eq_true rfl) rfl rfl HPs_3_6 ?_
  refine ev_aload_n (i := 0) 71 dX5_copy_70 rfl rfl rfl ?_
  refine ev_aload_n (i := 1) 72 dX5_copy_71 rfl rfl rfl ?_
  refine ev_getfield 75 dX5_copy_72 rfl okf_X5_22 (Nat.le_of_ble_eq_true rfl) HPf_4_0 rfl ?_
  refine ev_putfield 78 dX5_copy_75 rfl okf_X5_22 (Nat.le_of_ble_eq_true rfl) HPg_3 (Nat.le_of_ble_eq_true rfl) rfl rfl HPs_3_7 ?_
  refine ev_aload_n (i := 0) 79 dX5_copy_78 rfl rfl rfl ?_
  refine ev_getfield 82 dX5_copy_79 rfl okf_X5_28 (Nat.le_of_ble_eq_true rfl) HPg_3 rfl ?_
  refine ev_aload_n (i := 1) 83 dX5_copy_82 rfl rfl rfl ?_
  refine ev_getfield 86 dX5_copy_83 rfl okf_X5_28 (Nat.le_of_ble_eq_true rfl) HPf_4_0 rfl ?_
  obtain ⟨x3, hx3, hF⟩ := tv_bind hF
  refine ev_callVv (i := 6) 89 [.ref 108] [] dX5_copy_86 rfl okV_X5_74 rfl rfl (Nat.le_of_ble_eq_true rfl) (Nat.le_of_ble_eq_true rfl) HPg_6 rfl (Nat.le_of_ble_eq_true rfl) (Nat.le_of_ble_eq_true rfl) (R_X2_copy_from4 hx3) ?_
  refine ev_aload_n (i := 0) 90 dX5_copy_89 rfl rfl rfl ?_
  refine ev_getfield 93 dX5_copy_90 rfl okf_X5_35 (Nat.le_of_ble_eq_true rfl) HPg_3 rfl ?_
  refine ev_aload_n (i := 1) 94 dX5_copy_93 rfl rfl rfl ?_
  refine ev_getfield 97 dX5_copy_94 rfl okf_X5_35 (Nat.le_of_ble_eq_true rfl) HPf_4_0 rfl ?_
  obtain ⟨x4, hx4, hF⟩ := tv_bind hF
  refine ev_callVv (i := 8) 100 [.ref 110] [] dX5_copy_97 rfl okV_X5_78 rfl rfl (Nat.le_of_ble_eq_true rfl) (Nat.le_of_ble_eq_true rfl) HPg_8 rfl (Nat.le_of_ble_eq_true rfl) (Nat.le_of_ble_eq_true rfl) (R_X4_copy_from4 hx4) ?_
  refine ev_aload_n (i := 0) 101 dX5_copy_100 rfl rfl rfl ?_
  refine ev_getfield 104 dX5_copy_101 rfl okf_X5_42 (Nat.le_of_ble_eq_true rfl) HPg_3 rfl ?_
  refine ev_aload_n (i := 1) 105 dX5_copy_104 rfl rfl rfl ?_
  refine ev_getfield 108 dX5_copy_105 rfl okf_X5_42 (Nat.le_of_ble_eq_true rfl) HPf_4_0 rfl ?_
  obtain ⟨x5, hx5, hF⟩ := tv_bind hF
  refine ev_callVv (i := 10) 111 [.ref 112] [] dX5_copy_108 rfl okV_X5_81 rfl rfl (Nat.le_of_ble_eq_true rfl) (Nat.le_of_ble_eq_true rfl) HPg_10 rfl (Nat.le_of_ble_eq_true rfl) (Nat.le_of_ble_eq_true rfl) (R_X6_copy_from4 hx5) ?_
  refine ev_aload_n (i := 0) 112 dX5_copy_111 rfl rfl rfl ?_
  refine ev_getfield 115 dX5_copy_112 rfl okf_X5_49 (Nat.le_of_ble_eq_true rfl) HPg_3 rfl ?_
  refine ev_aload_n (i := 1) 116 dX5_copy_115 rfl rfl rfl ?_
  refine ev_getfield 119 dX5_copy_116 rfl okf_X5_49 (Nat.le_of_ble_eq_true rfl) HPf_4_0 rfl ?_
  obtain ⟨x6, hx6, hF⟩ := tv_bind hF
  refine ev_callVv (i := 19) 122 [.ref 121] [] dX5_copy_119 rfl okV_X5_84 rfl rfl (Nat.le_of_ble_eq_true rfl) (Nat.le_of_ble_eq_true rfl) HPg_19 rfl (Nat.le_of_ble_eq_true rfl) (Nat.le_of_ble_eq_true rfl) (R_X1_copy_from4 hx6) ?_
  have hF := Option.some.inj hF
  subst hF
  exact ev_return dX5_copy_122 rfl

set_option maxRecDepth 100000 in
set_option maxHeartbeats 4000000 in
theorem R_X3_keep {g : tv_G} {l : Launch} {si : Nat → Int32} {sa : Nat → Nat → Int32} {hs : Nat → (Nat → Int32) × (Nat → Nat → Int32)} {tx : Nat → Int32} {tl : Int32} {hc : Int32} {hn : Int32} {v : Nat → Int32} {pa : Nat → Int32} {mt : Nat → Int32} {pm : Int32} {ty : Int32} {ra : Int32}  {p : (Nat → (Nat → Int32) × (Nat → Nat → Int32)) × Int32 × Int32} (hF : F_X3_keep si sa hs hc hn = some p) : tv_E g l yX3_keep cX3_keep 2 none 4 0 0 0 [.ref 23, .ref 3] [] (HP si sa hs tx tl hc hn v pa mt pm ty ra) none (HP si sa p.1 tx tl p.2.1 p.2.2 v pa mt pm ty ra) := by
  unfold F_X3_keep at hF
  refine ev_aload_n (i := 0) 1 dX3_keep_0 rfl rfl rfl ?_
  refine ev_getfield 4 dX3_keep_1 rfl okf_X3_11 (Nat.le_of_ble_eq_true rfl) HPg_23 rfl ?_
  refine ev_aload_n (i := 0) 5 dX3_keep_4 rfl rfl rfl ?_
  refine ev_getfield 8 dX3_keep_5 rfl okf_X3_18 (Nat.le_of_ble_eq_true rfl) HPg_23 rfl ?_
  by_cases hc1 : hn = 0
  · rw [if_pos hc1] at hF
    refine ev_aaload (a := 25) 9 dX3_keep_8 rfl (Nat.le_of_ble_eq_true rfl) HPg_24 (by rw [hc1]; unfold vp_in; decide) (by rw [hc1]; rfl) ?_
    refine ev_aload_n (i := 1) 10 dX3_keep_9 rfl rfl rfl ?_
    obtain ⟨x1, hx1, hF⟩ := tv_bind hF
    refine ev_heq (HP_eta 0) ?_
    refine ev_callVv (i := 25) 13 [.ref 3] [] dX3_keep_10 rfl okV_X3_22 rfl rfl (Nat.le_of_ble_eq_true rfl) (Nat.le_of_ble_eq_true rfl) HPt_0_0 rfl (Nat.le_of_ble_eq_true rfl) (Nat.le_of_ble_eq_true rfl) (R_X5_copy_to0 hx1) ?_
    refine ev_aload_n (i := 0) 14 dX3_keep_13 rfl rfl rfl ?_
    refine ev_aload_n (i := 0) 15 dX3_keep_14 rfl rfl rfl ?_
    refine ev_getfield 18 dX3_keep_15 rfl okf_X3_18 (Nat.le_of_ble_eq_true rfl) HPg_23 rfl ?_
    refine ev_iconst 19 dX3_keep_18 rfl kI_1 ?_
    refine ev_iadd 20 dX3_keep_19 rfl ?_
    refine ev_iconst 21 dX3_keep_20 rfl kI_5 ?_
    refine ev_irem 22 dX3_keep_21 rfl (by decide) ?_
    refine ev_putfield 25 dX3_keep_22 rfl okf_X3_18 (Nat.le_of_ble_eq_true rfl) HPg_23 (Nat.le_of_ble_eq_true rfl) rfl rfl HPs_23_2 ?_
    refine ev_aload_n (i := 0) 26 dX3_keep_25 rfl rfl rfl ?_
    refine ev_aload_n (i := 0) 27 dX3_keep_26 rfl rfl rfl ?_
    refine ev_getfield 30 dX3_keep_27 rfl okf_X3_26 (Nat.le_of_ble_eq_true rfl) HPg_23 rfl ?_
    refine ev_iconst 31 dX3_keep_30 rfl kI_1 ?_
    refine ev_iadd 32 dX3_keep_31 rfl ?_
    refine ev_iconst 33 dX3_keep_32 rfl kI_5 ?_
    refine ev_min 36 dX3_keep_33 rfl wc_X3_29 wm_static wm_init wm_code (Nat.le_of_ble_eq_true rfl) (Nat.le_of_ble_eq_true rfl) ?_
    refine ev_putfield 39 dX3_keep_36 rfl okf_X3_26 (Nat.le_of_ble_eq_true rfl) HPg_23 (Nat.le_of_ble_eq_true rfl) rfl rfl HPs_23_1 ?_
    have hF := Option.some.inj hF
    subst hF
    exact ev_return dX3_keep_39 rfl
  rw [if_neg hc1] at hF
  by_cases hc2 : hn = 1
  · rw [if_pos hc2] at hF
    refine ev_aaload (a := 45) 9 dX3_keep_8 rfl (Nat.le_of_ble_eq_true rfl) HPg_24 (by rw [hc2]; unfold vp_in; decide) (by rw [hc2]; rfl) ?_
    refine ev_aload_n (i := 1) 10 dX3_keep_9 rfl rfl rfl ?_
    obtain ⟨x2, hx2, hF⟩ := tv_bind hF
    refine ev_heq (HP_eta 1) ?_
    refine ev_callVv (i := 45) 13 [.ref 3] [] dX3_keep_10 rfl okV_X3_22 rfl rfl (Nat.le_of_ble_eq_true rfl) (Nat.le_of_ble_eq_true rfl) HPt_1_0 rfl (Nat.le_of_ble_eq_true rfl) (Nat.le_of_ble_eq_true rfl) (R_X5_copy_to1 hx2) ?_
    refine ev_aload_n (i := 0) 14 dX3_keep_13 rfl rfl rfl ?_
    refine ev_aload_n (i := 0) 15 dX3_keep_14 rfl rfl rfl ?_
    refine ev_getfield 18 dX3_keep_15 rfl okf_X3_18 (Nat.le_of_ble_eq_true rfl) HPg_23 rfl ?_
    refine ev_iconst 19 dX3_keep_18 rfl kI_1 ?_
    refine ev_iadd 20 dX3_keep_19 rfl ?_
    refine ev_iconst 21 dX3_keep_20 rfl kI_5 ?_
    refine ev_irem 22 dX3_keep_21 rfl (by decide) ?_
    refine ev_putfield 25 dX3_keep_22 rfl okf_X3_18 (Nat.le_of_ble_eq_true rfl) HPg_23 (Nat.le_of_ble_eq_true rfl) rfl rfl HPs_23_2 ?_
    refine ev_aload_n (i := 0) 26 dX3_keep_25 rfl rfl rfl ?_
    refine ev_aload_n (i := 0) 27 dX3_keep_26 rfl rfl rfl ?_
    refine ev_getfield 30 dX3_keep_27 rfl okf_X3_26 (Nat.le_of_ble_eq_true rfl) HPg_23 rfl ?_
    refine ev_iconst 31 dX3_keep_30 rfl kI_1 ?_
    refine ev_iadd 32 dX3_keep_31 rfl ?_
    refine ev_iconst 33 dX3_keep_32 rfl kI_5 ?_
    refine ev_min 36 dX3_keep_33 rfl wc_X3_29 wm_static wm_init wm_code (Nat.le_of_ble_eq_true rfl) (Nat.le_of_ble_eq_true rfl) ?_
    refine ev_putfield 39 dX3_keep_36 rfl okf_X3_26 (Nat.le_of_ble_eq_true rfl) HPg_23 (Nat.le_of_ble_eq_true rfl) rfl rfl HPs_23_1 ?_
    have hF := Option.some.inj hF
    subst hF
    exact ev_return dX3_keep_39 rfl
  rw [if_neg hc2] at hF
  by_cases hc3 : hn = 2
  · rw [if_pos hc3] at hF
    refine ev_aaload (a := 65) 9 dX3_keep_8 rfl (Nat.le_of_ble_eq_true rfl) HPg_24 (by rw [hc3]; unfold vp_in; decide) (by rw [hc3]; rfl) ?_
    refine ev_aload_n (i := 1) 10 dX3_keep_9 rfl rfl rfl ?_
    obtain ⟨x3, hx3, hF⟩ := tv_bind hF
    refine ev_heq (HP_eta 2) ?_
    refine ev_callVv (i := 65) 13 [.ref 3] [] dX3_keep_10 rfl okV_X3_22 rfl rfl (Nat.le_of_ble_eq_true rfl) (Nat.le_of_ble_eq_true rfl) HPt_2_0 rfl (Nat.le_of_ble_eq_true rfl) (Nat.le_of_ble_eq_true rfl) (R_X5_copy_to2 hx3) ?_
    refine ev_aload_n (i := 0) 14 dX3_keep_13 rfl rfl rfl ?_
    refine ev_aload_n (i := 0) 15 dX3_keep_14 rfl rfl rfl ?_
    refine ev_getfield 18 dX3_keep_15 rfl okf_X3_18 (Nat.le_of_ble_eq_true rfl) HPg_23 rfl ?_
    refine ev_iconst 19 dX3_keep_18 rfl kI_1 ?_
    refine ev_iadd 20 dX3_keep_19 rfl ?_
    refine ev_iconst 21 dX3_keep_20 rfl kI_5 ?_
    refine ev_irem 22 dX3_keep_21 rfl (by decide) ?_
    refine ev_putfield 25 dX3_keep_22 rfl okf_X3_18 (Nat.le_of_ble_eq_true rfl) HPg_23 (Nat.le_of_ble_eq_true rfl) rfl rfl HPs_23_2 ?_
    refine ev_aload_n (i := 0) 26 dX3_keep_25 rfl rfl rfl ?_
    refine ev_aload_n (i := 0) 27 dX3_keep_26 rfl rfl rfl ?_
    refine ev_getfield 30 dX3_keep_27 rfl okf_X3_26 (Nat.le_of_ble_eq_true rfl) HPg_23 rfl ?_
    refine ev_iconst 31 dX3_keep_30 rfl kI_1 ?_
    refine ev_iadd 32 dX3_keep_31 rfl ?_
    refine ev_iconst 33 dX3_keep_32 rfl kI_5 ?_
    refine ev_min 36 dX3_keep_33 rfl wc_X3_29 wm_static wm_init wm_code (Nat.le_of_ble_eq_true rfl) (Nat.le_of_ble_eq_true rfl) ?_
    refine ev_putfield 39 dX3_keep_36 rfl okf_X3_26 (Nat.le_of_ble_eq_true rfl) HPg_23 (Nat.le_of_ble_eq_true rfl) rfl rfl HPs_23_1 ?_
    have hF := Option.some.inj hF
    subst hF
    exact ev_return dX3_keep_39 rfl
  rw [if_neg hc3] at hF
  by_cases hc4 : hn = 3
  · rw [if_pos hc4] at hF
    refine ev_aaload (a := 85) 9 dX3_keep_8 rfl (Nat.le_of_ble_eq_true rfl) HPg_24 (by rw [hc4]; unfold vp_in; decide) (by rw [hc4]; rfl) ?_
    refine ev_aload_n (i := 1) 10 dX3_keep_9 rfl rfl rfl ?_
    obtain ⟨x4, hx4, hF⟩ := tv_bind hF
    refine ev_heq (HP_eta 3) ?_
    refine ev_callVv (i := 85) 13 [.ref 3] [] dX3_keep_10 rfl okV_X3_22 rfl rfl (Nat.le_of_ble_eq_true rfl) (Nat.le_of_ble_eq_true rfl) HPt_3_0 rfl (Nat.le_of_ble_eq_true rfl) (Nat.le_of_ble_eq_true rfl) (R_X5_copy_to3 hx4) ?_
    refine ev_aload_n (i := 0) 14 dX3_keep_13 rfl rfl rfl ?_
    refine ev_aload_n (i := 0) 15 dX3_keep_14 rfl rfl rfl ?_
    refine ev_getfield 18 dX3_keep_15 rfl okf_X3_18 (Nat.le_of_ble_eq_true rfl) HPg_23 rfl ?_
    refine ev_iconst 19 dX3_keep_18 rfl kI_1 ?_
    refine ev_iadd 20 dX3_keep_19 rfl ?_
    refine ev_iconst 21 dX3_keep_20 rfl kI_5 ?_
    refine ev_irem 22 dX3_keep_21 rfl (by decide) ?_
    refine ev_putfield 25 dX3_keep_22 rfl okf_X3_18 (Nat.le_of_ble_eq_true rfl) HPg_23 (Nat.le_of_ble_eq_true rfl) rfl rfl HPs_23_2 ?_
    refine ev_aload_n (i := 0) 26 dX3_keep_25 rfl rfl rfl ?_
    refine ev_aload_n (i := 0) 27 dX3_keep_26 rfl rfl rfl ?_
    refine ev_getfield 30 dX3_keep_27 rfl okf_X3_26 (Nat.le_of_ble_eq_true rfl) HPg_23 rfl ?_
    refine ev_iconst 31 dX3_keep_30 rfl kI_1 ?_
    refine ev_iadd 32 dX3_keep_31 rfl ?_
    refine ev_iconst 33 dX3_keep_32 rfl kI_5 ?_
    refine ev_min 36 dX3_keep_33 rfl wc_X3_29 wm_static wm_init wm_code (Nat.le_of_ble_eq_true rfl) (Nat.le_of_ble_eq_true rfl) ?_
    refine ev_putfield 39 dX3_keep_36 rfl okf_X3_26 (Nat.le_of_ble_eq_true rfl) HPg_23 (Nat.le_of_ble_eq_true rfl) rfl rfl HPs_23_1 ?_
    have hF := Option.some.inj hF
    subst hF
    exact ev_return dX3_keep_39 rfl
  rw [if_neg hc4] at hF
  by_cases hc5 : hn = 4
  · rw [if_pos hc5] at hF
    refine ev_aaload (a := 105) 9 dX3_keep_8 rfl (Nat.le_of_ble_eq_true rfl) HPg_24 (by rw [hc5]; unfold vp_in; decide) (by rw [hc5]; rfl) ?_
    refine ev_aload_n (i := 1) 10 dX3_keep_9 rfl rfl rfl ?_
    obtain ⟨x5, hx5, hF⟩ := tv_bind hF
    refine ev_heq (HP_eta 4) ?_
    refine ev_callVv (i := 105) 13 [.ref 3] [] dX3_keep_10 rfl okV_X3_22 rfl rfl (Nat.le_of_ble_eq_true rfl) (Nat.le_of_ble_eq_true rfl) HPt_4_0 rfl (Nat.le_of_ble_eq_true rfl) (Nat.le_of_ble_eq_true rfl) (R_X5_copy_to4 hx5) ?_
    refine ev_aload_n (i := 0) 14 dX3_keep_13 rfl rfl rfl ?_
    refine ev_aload_n (i := 0) 15 dX3_keep_14 rfl rfl rfl ?_
    refine ev_getfield 18 dX3_keep_15 rfl okf_X3_18 (Nat.le_of_ble_eq_true rfl) HPg_23 rfl ?_
    refine ev_iconst 19 dX3_keep_18 rfl kI_1 ?_
    refine ev_iadd 20 dX3_keep_19 rfl ?_
    refine ev_iconst 21 dX3_keep_20 rfl kI_5 ?_
    refine ev_irem 22 dX3_keep_21 rfl (by decide) ?_
    refine ev_putfield 25 dX3_keep_22 rfl okf_X3_18 (Nat.le_of_ble_eq_true rfl) HPg_23 (Nat.le_of_ble_eq_true rfl) rfl rfl HPs_23_2 ?_
    refine ev_aload_n (i := 0) 26 dX3_keep_25 rfl rfl rfl ?_
    refine ev_aload_n (i := 0) 27 dX3_keep_26 rfl rfl rfl ?_
    refine ev_getfield 30 dX3_keep_27 rfl okf_X3_26 (Nat.le_of_ble_eq_true rfl) HPg_23 rfl ?_
    refine ev_iconst 31 dX3_keep_30 rfl kI_1 ?_
    refine ev_iadd 32 dX3_keep_31 rfl ?_
    refine ev_iconst 33 dX3_keep_32 rfl kI_5 ?_
    refine ev_min 36 dX3_keep_33 rfl wc_X3_29 wm_static wm_init wm_code (Nat.le_of_ble_eq_true rfl) (Nat.le_of_ble_eq_true rfl) ?_
    refine ev_putfield 39 dX3_keep_36 rfl okf_X3_26 (Nat.le_of_ble_eq_true rfl) HPg_23 (Nat.le_of_ble_eq_true rfl) rfl rfl HPs_23_1 ?_
    have hF := Option.some.inj hF
    subst hF
    exact ev_return dX3_keep_39 rfl
  rw [if_neg hc5] at hF
  cases hF

set_option maxRecDepth 100000 in
set_option maxHeartbeats 4000000 in
theorem R_X5_countSignatures {g : tv_G} {l : Launch} {si : Nat → Int32} {sa : Nat → Nat → Int32} {hs : Nat → (Nat → Int32) × (Nat → Nat → Int32)} {tx : Nat → Int32} {tl : Int32} {hc : Int32} {hn : Int32} {v : Nat → Int32} {pa : Nat → Int32} {mt : Nat → Int32} {pm : Int32} {ty : Int32} {ra : Int32}  {p : Int32} (hF : some (F_X5_countSignatures si) = some p) : tv_E g l yX5_countSignatures cX5_countSignatures 1 (some .int) 1 0 0 0 [.ref 3] [] (HP si sa hs tx tl hc hn v pa mt pm ty ra) (some (.int p)) (HP si sa hs tx tl hc hn v pa mt pm ty ra) := by
  unfold F_X5_countSignatures at hF
  refine ev_aload_n (i := 0) 1 dX5_countSignatures_0 rfl rfl rfl ?_
  refine ev_getfield 4 dX5_countSignatures_1 rfl okf_X5_71 (Nat.le_of_ble_eq_true rfl) HPg_3 rfl ?_
  refine ev_aload_n (i := 0) 5 dX5_countSignatures_4 rfl rfl rfl ?_
  refine ev_getfield 8 dX5_countSignatures_5 rfl okf_X5_68 (Nat.le_of_ble_eq_true rfl) HPg_3 rfl ?_
  refine ev_iand 9 dX5_countSignatures_8 rfl ?_
  refine ev_callSi 12 [.int ((si 3) &&& (si 2))] [] dX5_countSignatures_9 rfl okS_X5_109 rfl rfl (Nat.le_of_ble_eq_true rfl) rfl (Nat.le_of_ble_eq_true rfl) (Nat.le_of_ble_eq_true rfl) R_bitCount ?_
  have hF := Option.some.inj hF
  subst hF
  exact ev_ireturn dX5_countSignatures_12 rfl rfl

set_option maxRecDepth 100000 in
set_option maxHeartbeats 4000000 in
theorem R_X7_only {g : tv_G} {l : Launch} {si : Nat → Int32} {sa : Nat → Nat → Int32} {hs : Nat → (Nat → Int32) × (Nat → Nat → Int32)} {tx : Nat → Int32} {tl : Int32} {hc : Int32} {hn : Int32} {v : Nat → Int32} {pa : Nat → Int32} {mt : Nat → Int32} {pm : Int32} {ty : Int32} {ra : Int32} {a0 : Int32} {p : Int32} (hF : some (F_X7_only a0) = some p) : tv_E g l yX7_only cX7_only 1 (some .int) 0 0 0 0 [.int a0] [] (HP si sa hs tx tl hc hn v pa mt pm ty ra) (some (.int p)) (HP si sa hs tx tl hc hn v pa mt pm ty ra) := by
  unfold F_X7_only at hF
  refine ev_iconst 1 dX7_only_0 rfl kI_1 ?_
  refine ev_iload_n (i := 0) 2 dX7_only_1 rfl rfl rfl ?_
  refine ev_ishl 3 dX7_only_2 rfl ?_
  have hF := Option.some.inj hF
  subst hF
  exact ev_ireturn dX7_only_3 rfl rfl

set_option maxRecDepth 100000 in
set_option maxHeartbeats 4000000 in
theorem R_X7_asNumber {g : tv_G} {l : Launch} {si : Nat → Int32} {sa : Nat → Nat → Int32} {hs : Nat → (Nat → Int32) × (Nat → Nat → Int32)} {tx : Nat → Int32} {tl : Int32} {hc : Int32} {hn : Int32} {v : Nat → Int32} {pa : Nat → Int32} {mt : Nat → Int32} {pm : Int32} {ty : Int32} {ra : Int32} {a0 : Int32} {p : Int32} (hF : some (F_X7_asNumber a0) = some p) : tv_E g l yX7_asNumber cX7_asNumber 1 (some .int) 0 0 0 0 [.int a0] [] (HP si sa hs tx tl hc hn v pa mt pm ty ra) (some (.int p)) (HP si sa hs tx tl hc hn v pa mt pm ty ra) := by
  unfold F_X7_asNumber at hF
  refine ev_iload_n (i := 0) 1 dX7_asNumber_0 rfl rfl rfl ?_
  refine ev_if_eq 8 4 dX7_asNumber_1 rfl rfl (fun hc6 => ?_) (fun hc6 => ?_)
  · rw [if_pos hc6] at hF
    refine ev_iconst 9 dX7_asNumber_8 rfl kI_0 ?_
    have hF := Option.some.inj hF
    subst hF
    exact ev_ireturn dX7_asNumber_9 rfl rfl
  · rw [if_neg hc6] at hF
    refine ev_iconst 5 dX7_asNumber_4 rfl kI_1 ?_
    refine ev_goto 9 dX7_asNumber_5 rfl ?_
    have hF := Option.some.inj hF
    subst hF
    exact ev_ireturn dX7_asNumber_9 rfl rfl

set_option maxRecDepth 100000 in
set_option maxHeartbeats 4000000 in
theorem R_X6_finishLatest {g : tv_G} {l : Launch} {si : Nat → Int32} {sa : Nat → Nat → Int32} {hs : Nat → (Nat → Int32) × (Nat → Nat → Int32)} {tx : Nat → Int32} {tl : Int32} {hc : Int32} {hn : Int32} {v : Nat → Int32} {pa : Nat → Int32} {mt : Nat → Int32} {pm : Int32} {ty : Int32} {ra : Int32} {a1 : Int32} {a2 : Int32} {p : (Nat → Nat → Int32)} (hF : F_X6_finishLatest si sa a1 a2 = some p) : tv_E g l yX6_finishLatest cX6_finishLatest 3 none 1 0 0 0 [.ref 10, .int a1, .int a2] [] (HP si sa hs tx tl hc hn v pa mt pm ty ra) none (HP si p hs tx tl hc hn v pa mt pm ty ra) := by
  unfold F_X6_finishLatest at hF
  refine ev_aload_n (i := 0) 1 dX6_finishLatest_0 rfl rfl rfl ?_
  refine ev_getfield 4 dX6_finishLatest_1 rfl okf_X6_21 (Nat.le_of_ble_eq_true rfl) HPg_10 rfl ?_
  refine ev_aload_n (i := 0) 5 dX6_finishLatest_4 rfl rfl rfl ?_
  refine ev_getfield 8 dX6_finishLatest_5 rfl okf_X6_36 (Nat.le_of_ble_eq_true rfl) HPg_10 rfl ?_
  refine ev_iload_n (i := 1) 9 dX6_finishLatest_8 rfl rfl rfl ?_
  obtain ⟨x1, hx1, hF⟩ := tv_bind hF
  refine ev_iastore 10 dX6_finishLatest_9 rfl (Nat.le_of_ble_eq_true rfl) HPg_14 hx1 HPa_14 ?_
  refine ev_aload_n (i := 0) 11 dX6_finishLatest_10 rfl rfl rfl ?_
  refine ev_getfield 14 dX6_finishLatest_11 rfl okf_X6_27 (Nat.le_of_ble_eq_true rfl) HPg_10 rfl ?_
  refine ev_aload_n (i := 0) 15 dX6_finishLatest_14 rfl rfl rfl ?_
  refine ev_getfield 18 dX6_finishLatest_15 rfl okf_X6_36 (Nat.le_of_ble_eq_true rfl) HPg_10 rfl ?_
  refine ev_iload_n (i := 2) 19 dX6_finishLatest_18 rfl rfl rfl ?_
  refine ev_callSi 22 [.int a2] [.int (si 9), .ref 16] dX6_finishLatest_19 rfl okS_X6_50 rfl rfl (Nat.le_of_ble_eq_true rfl) rfl (Nat.le_of_ble_eq_true rfl) (Nat.le_of_ble_eq_true rfl) (R_X7_asNumber rfl) ?_
  obtain ⟨x2, hx2, hF⟩ := tv_bind hF
  refine ev_iastore 23 dX6_finishLatest_22 rfl (Nat.le_of_ble_eq_true rfl) HPg_16 hx2 HPa_16 ?_
  have hF := Option.some.inj hF
  subst hF
  exact ev_return dX6_finishLatest_23 rfl
