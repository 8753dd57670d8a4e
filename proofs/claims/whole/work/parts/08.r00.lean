set_option maxRecDepth 100000 in
set_option maxHeartbeats 4000000 in
theorem R_X2_copy_to0 {g : tv_G} {l : Launch} {si : Nat → Int32} {sa : Nat → Nat → Int32} {hs : Nat → (Nat → Int32) × (Nat → Nat → Int32)} {tx : Nat → Int32} {tl : Int32} {hc : Int32} {hn : Int32} {v : Nat → Int32} {pa : Nat → Int32} {mt : Nat → Int32} {pm : Int32} {ty : Int32} {ra : Int32} {dI : Nat → Int32} {dA : Nat → Nat → Int32}  {p : (Nat → Int32) × (Nat → Nat → Int32)} (hF : F_X2_copy si sa dI dA = some p) : tv_E g l yX2_copy cX2_copy 2 none 1 0 0 0 [.ref 28, .ref 6] [] (HP si sa (va_up hs 0 (dI, dA)) tx tl hc hn v pa mt pm ty ra) none (HP si sa (va_up hs 0 (p.1, p.2)) tx tl hc hn v pa mt pm ty ra) := by
  unfold F_X2_copy at hF
  refine ev_aload_n (i := 0) 1 dX2_copy_0 rfl rfl rfl ?_
  refine ev_aload_n (i := 1) 2 dX2_copy_1 rfl rfl rfl ?_
  refine ev_getfield 5 dX2_copy_2 rfl okf_X2_21 (Nat.le_of_ble_eq_true rfl) HPg_6 rfl ?_
  by_cases hz1 : ¬ ((si 6) = 0 ∨ (si 6) = 1)
  · rw [if_pos hz1] at hF; cases hF
  rw [if_neg hz1] at hF
  refine ev_putfield 8 dX2_copy_5 rfl okf_X2_21 (Nat.le_of_ble_eq_true rfl) HPt_0_3 (Nat.le_of_ble_eq_true rfl) (tv_nz hz1) (tv_nzf hz1) HPst_0_3_0 ?_
  refine ev_aload_n (i := 0) 9 dX2_copy_8 rfl rfl rfl ?_
  refine ev_aload_n (i := 1) 10 dX2_copy_9 rfl rfl rfl ?_
  refine ev_getfield 13 dX2_copy_10 rfl okf_X2_25 (Nat.le_of_ble_eq_true rfl) HPg_6 rfl ?_
  refine ev_putfield 16 dX2_copy_13 rfl okf_X2_25 (Nat.le_of_ble_eq_true rfl) HPt_0_3 (Nat.le_of_ble_eq_true rfl) rfl rfl HPst_0_3_1 ?_
  refine ev_aload_n (i := 1) 17 dX2_copy_16 rfl rfl rfl ?_
  refine ev_getfield 20 dX2_copy_17 rfl okf_X2_9 (Nat.le_of_ble_eq_true rfl) HPg_6 rfl ?_
  refine ev_iconst 21 dX2_copy_20 rfl kI_0 ?_
  refine ev_aload_n (i := 0) 22 dX2_copy_21 rfl rfl rfl ?_
  refine ev_getfield 25 dX2_copy_22 rfl okf_X2_9 (Nat.le_of_ble_eq_true rfl) HPt_0_3 rfl ?_
  refine ev_iconst 26 dX2_copy_25 rfl kI_0 ?_
  refine ev_aload_n (i := 0) 27 dX2_copy_26 rfl rfl rfl ?_
  refine ev_getfield 30 dX2_copy_27 rfl okf_X2_9 (Nat.le_of_ble_eq_true rfl) HPt_0_3 rfl ?_
  refine ev_arraylength 31 dX2_copy_30 rfl (Nat.le_of_ble_eq_true rfl) HPt_0_4 kN_100 ?_
  obtain ⟨x2, hx2, hF⟩ := tv_bind hF
  refine ev_arraycopy 34 dX2_copy_31 rfl wc_X2_29 wc_native wc_static wc_init (Nat.le_of_ble_eq_true rfl) (Nat.le_of_ble_eq_true rfl) (Nat.le_of_ble_eq_true rfl) (Nat.le_of_ble_eq_true rfl) HPg_7 HPt_0_4 hx2 HPat_0_4 ?_
  have hF := Option.some.inj hF
  subst hF
  exact ev_return dX2_copy_34 rfl

set_option maxRecDepth 100000 in
set_option maxHeartbeats 4000000 in
theorem R_X2_copy_to1 {g : tv_G} {l : Launch} {si : Nat → Int32} {sa : Nat → Nat → Int32} {hs : Nat → (Nat → Int32) × (Nat → Nat → Int32)} {tx : Nat → Int32} {tl : Int32} {hc : Int32} {hn : Int32} {v : Nat → Int32} {pa : Nat → Int32} {mt : Nat → Int32} {pm : Int32} {ty : Int32} {ra : Int32} {dI : Nat → Int32} {dA : Nat → Nat → Int32}  {p : (Nat → Int32) × (Nat → Nat → Int32)} (hF : F_X2_copy si sa dI dA = some p) : tv_E g l yX2_copy cX2_copy 2 none 1 0 0 0 [.ref 48, .ref 6] [] (HP si sa (va_up hs 1 (dI, dA)) tx tl hc hn v pa mt pm ty ra) none (HP si sa (va_up hs 1 (p.1, p.2)) tx tl hc hn v pa mt pm ty ra) := by
  unfold F_X2_copy at hF
  refine ev_aload_n (i := 0) 1 dX2_copy_0 rfl rfl rfl ?_
  refine ev_aload_n (i := 1) 2 dX2_copy_1 rfl rfl rfl ?_
  refine ev_getfield 5 dX2_copy_2 rfl okf_X2_21 (Nat.le_of_ble_eq_true rfl) HPg_6 rfl ?_
  by_cases hz1 : ¬ ((si 6) = 0 ∨ (si 6) = 1)
  · rw [if_pos hz1] at hF; cases hF
  rw [if_neg hz1] at hF
  refine ev_putfield 8 dX2_copy_5 rfl okf_X2_21 (Nat.le_of_ble_eq_true rfl) HPt_1_3 (Nat.le_of_ble_eq_true rfl) (tv_nz hz1) (tv_nzf hz1) HPst_1_3_0 ?_
  refine ev_aload_n (i := 0) 9 dX2_copy_8 rfl rfl rfl ?_
  refine ev_aload_n (i := 1) 10 dX2_copy_9 rfl rfl rfl ?_
  refine ev_getfield 13 dX2_copy_10 rfl okf_X2_25 (Nat.le_of_ble_eq_true rfl) HPg_6 rfl ?_
  refine ev_putfield 16 dX2_copy_13 rfl okf_X2_25 (Nat.le_of_ble_eq_true rfl) HPt_1_3 (Nat.le_of_ble_eq_true rfl) rfl rfl HPst_1_3_1 ?_
  refine ev_aload_n (i := 1) 17 dX2_copy_16 rfl rfl rfl ?_
  refine ev_getfield 20 dX2_copy_17 rfl okf_X2_9 (Nat.le_of_ble_eq_true rfl) HPg_6 rfl ?_
  refine ev_iconst 21 dX2_copy_20 rfl kI_0 ?_
  refine ev_aload_n (i := 0) 22 dX2_copy_21 rfl rfl rfl ?_
  refine ev_getfield 25 dX2_copy_22 rfl okf_X2_9 (Nat.le_of_ble_eq_true rfl) HPt_1_3 rfl ?_
  refine ev_iconst 26 dX2_copy_25 rfl kI_0 ?_
  refine ev_aload_n (i := 0) 27 dX2_copy_26 rfl rfl rfl ?_
  refine ev_getfield 30 dX2_copy_27 rfl okf_X2_9 (Nat.le_of_ble_eq_true rfl) HPt_1_3 rfl ?_
  refine ev_arraylength 31 dX2_copy_30 rfl (Nat.le_of_ble_eq_true rfl) HPt_1_4 kN_100 ?_
  obtain ⟨x2, hx2, hF⟩ := tv_bind hF
  refine ev_arraycopy 34 dX2_copy_31 rfl wc_X2_29 wc_native wc_static wc_init (Nat.le_of_ble_eq_true rfl) (Nat.le_of_ble_eq_true rfl) (Nat.le_of_ble_eq_true rfl) (Nat.le_of_ble_eq_true rfl) HPg_7 HPt_1_4 hx2 HPat_1_4 ?_
  have hF := Option.some.inj hF
  subst hF
  exact ev_return dX2_copy_34 rfl

set_option maxRecDepth 100000 in
set_option maxHeartbeats 4000000 in
theorem R_X2_copy_to2 {g : tv_G} {l : Launch} {si : Nat → Int32} {sa : Nat → Nat → Int32} {hs : Nat → (Nat → Int32) × (Nat → Nat → Int32)} {tx : Nat → Int32} {tl : Int32} {hc : Int32} {hn : Int32} {v : Nat → Int32} {pa : Nat → Int32} {mt : Nat → Int32} {pm : Int32} {ty : Int32} {ra : Int32} {dI : Nat → Int32} {dA : Nat → Nat → Int32}  {p : (Nat → Int32) × (Nat → Nat → Int32)} (hF : F_X2_copy si sa dI dA = some p) : tv_E g l yX2_copy cX2_copy 2 none 1 0 0 0 [.ref 68, .ref 6] [] (HP si sa (va_up hs 2 (dI, dA)) tx tl hc hn v pa mt pm ty ra) none (HP si sa (va_up hs 2 (p.1, p.2)) tx tl hc hn v pa mt pm ty ra) := by
  unfold F_X2_copy at hF
  refine ev_aload_n (i := 0) 1 dX2_copy_0 rfl rfl rfl ?_
  refine ev_aload_n (i := 1) 2 dX2_copy_1 rfl rfl rfl ?_
  refine ev_getfield 5 dX2_copy_2 rfl okf_X2_21 (Nat.le_of_ble_eq_true rfl) HPg_6 rfl ?_
  by_cases hz1 : ¬ ((si 6) = 0 ∨ (si 6) = 1)
  · rw [if_pos hz1] at hF; cases hF
  rw [if_neg hz1] at hF
  refine ev_putfield 8 dX2_copy_5 rfl okf_X2_21 (Nat.le_of_ble_eq_true rfl) HPt_2_3 (Nat.le_of_ble_eq_true rfl) (tv_nz hz1) (tv_nzf hz1) HPst_2_3_0 ?_
  refine ev_aload_n (i := 0) 9 dX2_copy_8 rfl rfl rfl ?_
  refine ev_aload_n (i := 1) 10 dX2_copy_9 rfl rfl rfl ?_
  refine ev_getfield 13 dX2_copy_10 rfl okf_X2_25 (Nat.le_of_ble_eq_true rfl) HPg_6 rfl ?_
  refine ev_putfield 16 dX2_copy_13 rfl okf_X2_25 (Nat.le_of_ble_eq_true rfl) HPt_2_3 (Nat.le_of_ble_eq_true rfl) rfl rfl HPst_2_3_1 ?_
  refine ev_aload_n (i := 1) 17 dX2_copy_16 rfl rfl rfl ?_
  refine ev_getfield 20 dX2_copy_17 rfl okf_X2_9 (Nat.le_of_ble_eq_true rfl) HPg_6 rfl ?_
  refine ev_iconst 21 dX2_copy_20 rfl kI_0 ?_
  refine ev_aload_n (i := 0) 22 dX2_copy_21 rfl rfl rfl ?_
  refine ev_getfield 25 dX2_copy_22 rfl okf_X2_9 (Nat.le_of_ble_eq_true rfl) HPt_2_3 rfl ?_
  refine ev_iconst 26 dX2_copy_25 rfl kI_0 ?_
  refine ev_aload_n (i := 0) 27 dX2_copy_26 rfl rfl rfl ?_
  refine ev_getfield 30 dX2_copy_27 rfl okf_X2_9 (Nat.le_of_ble_eq_true rfl) HPt_2_3 rfl ?_
  refine ev_arraylength 31 dX2_copy_30 rfl (Nat.le_of_ble_eq_true rfl) HPt_2_4 kN_100 ?_
  obtain ⟨x2, hx2, hF⟩ := tv_bind hF
  refine ev_arraycopy 34 dX2_copy_31 rfl wc_X2_29 wc_native wc_static wc_init (Nat.le_of_ble_eq_true rfl) (Nat.le_of_ble_eq_true rfl) (Nat.le_of_ble_eq_true rfl) (Nat.le_of_ble_eq_true rfl) HPg_7 HPt_2_4 hx2 HPat_2_4 ?_
  have hF := Option.some.inj hF
  subst hF
  exact ev_return dX2_copy_34 rfl

set_option maxRecDepth 100000 in
set_option maxHeartbeats 4000000 in
theorem R_X2_copy_to3 {g : tv_G} {l : Launch} {si : Nat → Int32} {sa : Nat → Nat → Int32} {hs : Nat → (Nat → Int32) × (Nat → Nat → Int32)} {tx : Nat → Int32} {tl : Int32} {hc : Int32} {hn : Int32} {v : Nat → Int32} {pa : Nat → Int32} {mt : Nat → Int32} {pm : Int32} {ty : Int32} {ra : Int32} {dI : Nat → Int32} {dA : Nat → Nat → Int32}  {p : (Nat → Int32) × (Nat → Nat → Int32)} (hF : F_X2_copy si sa dI dA = some p) : tv_E g l yX2_copy cX2_copy 2 none 1 0 0 0 [.ref 88, .ref 6] [] (HP si sa (va_up hs 3 (dI, dA)) tx tl hc hn v pa mt pm ty ra) none (HP si sa (va_up hs 3 (p.1, p.2)) tx tl hc hn v pa mt pm ty ra) := by
  unfold F_X2_copy at hF
  refine ev_aload_n (i := 0) 1 dX2_copy_0 rfl rfl rfl ?_
  refine ev_aload_n (i := 1) 2 dX2_copy_1 rfl rfl rfl ?_
  refine ev_getfield 5 dX2_copy_2 rfl okf_X2_21 (Nat.le_of_ble_eq_true rfl) HPg_6 rfl ?_
  by_cases hz1 : ¬ ((si 6) = 0 ∨ (si 6) = 1)
  · rw [if_pos hz1] at hF; cases hF
  rw [if_neg hz1] at hF
  refine ev_putfield 8 dX2_copy_5 rfl okf_X2_21 (Nat.le_of_ble_eq_true rfl) HPt_3_3 (Nat.le_of_ble_eq_true rfl) (tv_nz hz1) (tv_nzf hz1) HPst_3_3_0 ?_
  refine ev_aload_n (i := 0) 9 dX2_copy_8 rfl rfl rfl ?_
  refine ev_aload_n (i := 1) 10 dX2_copy_9 rfl rfl rfl ?_
  refine ev_getfield 13 dX2_copy_10 rfl okf_X2_25 (Nat.le_of_ble_eq_true rfl) HPg_6 rfl ?_
  refine ev_putfield 16 dX2_copy_13 rfl okf_X2_25 (Nat.le_of_ble_eq_true rfl) HPt_3_3 (Nat.le_of_ble_eq_true rfl) rfl rfl HPst_3_3_1 ?_
  refine ev_aload_n (i := 1) 17 dX2_copy_16 rfl rfl rfl ?_
  refine ev_getfield 20 dX2_copy_17 rfl okf_X2_9 (Nat.le_of_ble_eq_true rfl) HPg_6 rfl ?_
  refine ev_iconst 21 dX2_copy_20 rfl kI_0 ?_
  refine ev_aload_n (i := 0) 22 dX2_copy_21 rfl rfl rfl ?_
  refine ev_getfield 25 dX2_copy_22 rfl okf_X2_9 (Nat.le_of_ble_eq_true rfl) HPt_3_3 rfl ?_
  refine ev_iconst 26 dX2_copy_25 rfl kI_0 ?_
  refine ev_aload_n (i := 0) 27 dX2_copy_26 rfl rfl rfl ?_
  refine ev_getfield 30 dX2_copy_27 rfl okf_X2_9 (Nat.le_of_ble_eq_true rfl) HPt_3_3 rfl ?_
  refine ev_arraylength 31 dX2_copy_30 rfl (Nat.le_of_ble_eq_true rfl) HPt_3_4 kN_100 ?_
  obtain ⟨x2, hx2, hF⟩ := tv_bind hF
  refine ev_arraycopy 34 dX2_copy_31 rfl wc_X2_29 wc_native wc_static wc_init (Nat.le_of_ble_eq_true rfl) (Nat.le_of_ble_eq_true rfl) (Nat.le_of_ble_eq_true rfl) (Nat.le_of_ble_eq_true rfl) HPg_7 HPt_3_4 hx2 HPat_3_4 ?_
  have hF := Option.some.inj hF
  subst hF
  exact ev_return dX2_copy_34 rfl

set_option maxRecDepth 100000 in
set_option maxHeartbeats 4000000 in
theorem R_X2_copy_to4 {g : tv_G} {l : Launch} {si : Nat → Int32} {sa : Nat → Nat → Int32} {hs : Nat → (Nat → Int32) × (Nat → Nat → Int32)} {tx : Nat → Int32} {tl : Int32} {hc : Int32} {hn : Int32} {v : Nat → Int32} {pa : Nat → Int32} {mt : Nat → Int32} {pm : Int32} {ty : Int32} {ra : Int32} {dI : Nat → Int32} {dA : Nat → Nat → Int32}  {p : (Nat → Int32) × (Nat → Nat → Int32)} (hF : F_X2_copy si sa dI dA = some p) : tv_E g l yX2_copy cX2_copy 2 none 1 0 0 0 [.ref 108, .ref 6] [] (HP si sa (va_up hs 4 (dI, dA)) tx tl hc hn v pa mt pm ty ra) none (HP si sa (va_up hs 4 (p.1, p.2)) tx tl hc hn v pa mt pm ty ra) := by
  unfold F_X2_copy at hF
  refine ev_aload_n (i := 0) 1 dX2_copy_0 rfl rfl rfl ?_
  refine ev_aload_n (i := 1) 2 dX2_copy_1 rfl rfl rfl ?_
  refine ev_getfield 5 dX2_copy_2 rfl okf_X2_21 (Nat.le_of_ble_eq_true rfl) HPg_6 rfl ?_
  by_cases hz1 : ¬ ((si 6) = 0 ∨ (si 6) = 1)
  · rw [if_pos hz1] at hF; cases hF
  rw [if_neg hz1] at hF
  refine ev_putfield 8 dX2_copy_5 rfl okf_X2_21 (Nat.le_of_ble_eq_true rfl) HPt_4_3 (Nat.le_of_ble_eq_true rfl) (tv_nz hz1) (tv_nzf hz1) HPst_4_3_0 ?_
  refine ev_aload_n (i := 0) 9 dX2_copy_8 rfl rfl rfl ?_
  refine ev_aload_n (i := 1) 10 dX2_copy_9 rfl rfl rfl ?_
  refine ev_getfield 13 dX2_copy_10 rfl okf_X2_25 (Nat.le_of_ble_eq_true rfl) HPg_6 rfl ?_
  refine ev_putfield 16 dX2_copy_13 rfl okf_X2_25 (Nat.le_of_ble_eq_true rfl) HPt_4_3 (Nat.le_of_ble_eq_true rfl) rfl rfl HPst_4_3_1 ?_
  refine ev_aload_n (i := 1) 17 dX2_copy_16 rfl rfl rfl ?_
  refine ev_getfield 20 dX2_copy_17 rfl okf_X2_9 (Nat.le_of_ble_eq_true rfl) HPg_6 rfl ?_
  refine ev_iconst 21 dX2_copy_20 rfl kI_0 ?_
  refine ev_aload_n (i := 0) 22 dX2_copy_21 rfl rfl rfl ?_
  refine ev_getfield 25 dX2_copy_22 rfl okf_X2_9 (Nat.le_of_ble_eq_true rfl) HPt_4_3 rfl ?_
  refine ev_iconst 26 dX2_copy_25 rfl kI_0 ?_
  refine ev_aload_n (i := 0) 27 dX2_copy_26 rfl rfl rfl ?_
  refine ev_getfield 30 dX2_copy_27 rfl okf_X2_9 (Nat.le_of_ble_eq_true rfl) HPt_4_3 rfl ?_
  refine ev_arraylength 31 dX2_copy_30 rfl (Nat.le_of_ble_eq_true rfl) HPt_4_4 kN_100 ?_
  obtain ⟨x2, hx2, hF⟩ := tv_bind hF
  refine ev_arraycopy 34 dX2_copy_31 rfl wc_X2_29 wc_native wc_static wc_init (Nat.le_of_ble_eq_true rfl) (Nat.le_of_ble_eq_true rfl) (Nat.le_of_ble_eq_true rfl) (Nat.le_of_ble_eq_true rfl) HPg_7 HPt_4_4 hx2 HPat_4_4 ?_
  have hF := Option.some.inj hF
  subst hF
  exact ev_return dX2_copy_34 rfl

set_option maxRecDepth 100000 in
set_option maxHeartbeats 4000000 in
theorem R_X2_copy_from0 {g : tv_G} {l : Launch} {si : Nat → Int32} {sa : Nat → Nat → Int32} {hs : Nat → (Nat → Int32) × (Nat → Nat → Int32)} {tx : Nat → Int32} {tl : Int32} {hc : Int32} {hn : Int32} {v : Nat → Int32} {pa : Nat → Int32} {mt : Nat → Int32} {pm : Int32} {ty : Int32} {ra : Int32}  {p : (Nat → Int32) × (Nat → Nat → Int32)} (hF : F_X2_copy (hs 0).1 (hs 0).2 si sa = some p) : tv_E g l yX2_copy cX2_copy 2 none 1 0 0 0 [.ref 6, .ref 28] [] (HP si sa hs tx tl hc hn v pa mt pm ty ra) none (HP p.1 p.2 hs tx tl hc hn v pa mt pm ty ra) := by
  unfold F_X2_copy at hF
  refine ev_aload_n (i := 0) 1 dX2_copy_0 rfl rfl rfl ?_
  refine ev_aload_n (i := 1) 2 dX2_copy_1 rfl rfl rfl ?_
  refine ev_getfield 5 dX2_copy_2 rfl okf_X2_21 (Nat.le_of_ble_eq_true rfl) HPf_0_3 rfl ?_
  by_cases hz1 : ¬ (((hs 0).1 6) = 0 ∨ ((hs 0).1 6) = 1)
  · rw [if_pos hz1] at hF; cases hF
  rw [if_neg hz1] at hF
  refine ev_putfield 8 dX2_copy_5 rfl okf_X2_21 (Nat.le_of_ble_eq_true rfl) HPg_6 (Nat.le_of_ble_eq_true rfl) (tv_nz hz1) (tv_nzf hz1) HPs_6_0 ?_
  refine ev_aload_n (i := 0) 9 dX2_copy_8 rfl rfl rfl ?_
  refine ev_aload_n (i := 1) 10 dX2_copy_9 rfl rfl rfl ?_
  refine ev_getfield 13 dX2_copy_10 rfl okf_X2_25 (Nat.le_of_ble_eq_true rfl) HPf_0_3 rfl ?_
  refine ev_putfield 16 dX2_copy_13 rfl okf_X2_25 (Nat.le_of_ble_eq_true rfl) HPg_6 (Nat.le_of_ble_eq_true rfl) rfl rfl HPs_6_1 ?_
  refine ev_aload_n (i := 1) 17 dX2_copy_16 rfl rfl rfl ?_
  refine ev_getfield 20 dX2_copy_17 rfl okf_X2_9 (Nat.le_of_ble_eq_true rfl) HPf_0_3 rfl ?_
  refine ev_iconst 21 dX2_copy_20 rfl kI_0 ?_
  refine ev_aload_n (i := 0) 22 dX2_copy_21 rfl rfl rfl ?_
  refine ev_getfield 25 dX2_copy_22 rfl okf_X2_9 (Nat.le_of_ble_eq_true rfl) HPg_6 rfl ?_
  refine ev_iconst 26 dX2_copy_25 rfl kI_0 ?_
  refine ev_aload_n (i := 0) 27 dX2_copy_26 rfl rfl rfl ?_
  refine ev_getfield 30 dX2_copy_27 rfl okf_X2_9 (Nat.le_of_ble_eq_true rfl) HPg_6 rfl ?_
  refine ev_arraylength 31 dX2_copy_30 rfl (Nat.le_of_ble_eq_true rfl) HPg_7 kN_100 ?_
  obtain ⟨x2, hx2, hF⟩ := tv_bind hF
  refine ev_arraycopy 34 dX2_copy_31 rfl wc_X2_29 wc_native wc_static wc_init (Nat.le_of_ble_eq_true rfl) (Nat.le_of_ble_eq_true rfl) (Nat.le_of_ble_eq_true rfl) (Nat.le_of_ble_eq_true rfl) HPf_0_4 HPg_7 hx2 HPa_7 ?_
  have hF := Option.some.inj hF
  subst hF
  exact ev_return dX2_copy_34 rfl

set_option maxRecDepth 100000 in
set_option maxHeartbeats 4000000 in
theorem R_X2_copy_from1 {g : tv_G} {l : Launch} {si : Nat → Int32} {sa : Nat → Nat → Int32} {hs : Nat → (Nat → Int32) × (Nat → Nat → Int32)} {tx : Nat → Int32} {tl : Int32} {hc : Int32} {hn : Int32} {v : Nat → Int32} {pa : Nat → Int32} {mt : Nat → Int32} {pm : Int32} {ty : Int32} {ra : Int32}  {p : (Nat → Int32) × (Nat → Nat → Int32)} (hF : F_X2_copy (hs 1).1 (hs 1).2 si sa = some p) : tv_E g l yX2_copy cX2_copy 2 none 1 0 0 0 [.ref 6, .ref 48] [] (HP si sa hs tx tl hc hn v pa mt pm ty ra) none (HP p.1 p.2 hs tx tl hc hn v pa mt pm ty ra) := by
  unfold F_X2_copy at hF
  refine ev_aload_n (i := 0) 1 dX2_copy_0 rfl rfl rfl ?_
  refine ev_aload_n (i := 1) 2 dX2_copy_1 rfl rfl rfl ?_
  refine ev_getfield 5 dX2_copy_2 rfl okf_X2_21 (Nat.le_of_ble_eq_true rfl) HPf_1_3 rfl ?_
  by_cases hz1 : ¬ (((hs 1).1 6) = 0 ∨ ((hs 1).1 6) = 1)
  · rw [if_pos hz1] at hF; cases hF
  rw [if_neg hz1] at hF
  refine ev_putfield 8 dX2_copy_5 rfl okf_X2_21 (Nat.le_of_ble_eq_true rfl) HPg_6 (Nat.le_of_ble_eq_true rfl) (tv_nz hz1) (tv_nzf hz1) HPs_6_0 ?_
  refine ev_aload_n (i := 0) 9 dX2_copy_8 rfl rfl rfl ?_
  refine ev_aload_n (i := 1) 10 dX2_copy_9 rfl rfl rfl ?_
  refine ev_getfield 13 dX2_copy_10 rfl okf_X2_25 (Nat.le_of_ble_eq_true rfl) HPf_1_3 rfl ?_
  refine ev_putfield 16 dX2_copy_13 rfl okf_X2_25 (Nat.le_of_ble_eq_true rfl) HPg_6 (Nat.le_of_ble_eq_true rfl) rfl rfl HPs_6_1 ?_
  refine ev_aload_n (i := 1) 17 dX2_copy_16 rfl rfl rfl ?_
  refine ev_getfield 20 dX2_copy_17 rfl okf_X2_9 (Nat.le_of_ble_eq_true rfl) HPf_1_3 rfl ?_
  refine ev_iconst 21 dX2_copy_20 rfl kI_0 ?_
  refine ev_aload_n (i := 0) 22 dX2_copy_21 rfl rfl rfl ?_
  refine ev_getfield 25 dX2_copy_22 rfl okf_X2_9 (Nat.le_of_ble_eq_true rfl) HPg_6 rfl ?_
  refine ev_iconst 26 dX2_copy_25 rfl kI_0 ?_
  refine ev_aload_n (i := 0) 27 dX2_copy_26 rfl rfl rfl ?_
  refine ev_getfield 30 dX2_copy_27 rfl okf_X2_9 (Nat.le_of_ble_eq_true rfl) HPg_6 rfl ?_
  refine ev_arraylength 31 dX2_copy_30 rfl (Nat.le_of_ble_eq_true rfl) HPg_7 kN_100 ?_
  obtain ⟨x2, hx2, hF⟩ := tv_bind hF
  refine ev_arraycopy 34 dX2_copy_31 rfl wc_X2_29 wc_native wc_static wc_init (Nat.le_of_ble_eq_true rfl) (Nat.le_of_ble_eq_true rfl) (Nat.le_of_ble_eq_true rfl) (Nat.le_of_ble_eq_true rfl) HPf_1_4 HPg_7 hx2 HPa_7 ?_
  have hF := Option.some.inj hF
  subst hF
  exact ev_return dX2_copy_34 rfl

set_option maxRecDepth 100000 in
set_option maxHeartbeats 4000000 in
theorem R_X2_copy_from2 {g : tv_G} {l : Launch} {si : Nat → Int32} {sa : Nat → Nat → Int32} {hs : Nat → (Nat → Int32) × (Nat → Nat → Int32)} {tx : Nat → Int32} {tl : Int32} {hc : Int32} {hn : Int32} {v : Nat → Int32} {pa : Nat → Int32} {mt : Nat → Int32} {pm : Int32} {ty : Int32} {ra : Int32}  {p : (Nat → Int32) × (Nat → Nat → Int32)} (hF : F_X2_copy (hs 2).1 (hs 2).2 si sa = some p) : tv_E g l yX2_copy cX2_copy 2 none 1 0 0 0 [.ref 6, .ref 68] [] (HP si sa hs tx tl hc hn v pa mt pm ty ra) none (HP p.1 p.2 hs tx tl hc hn v pa mt pm ty ra) := by
  unfold F_X2_copy at hF
  refine ev_aload_n (i := 0) 1 dX2_copy_0 rfl rfl rfl ?_
  refine ev_aload_n (i := 1) 2 dX2_copy_1 rfl rfl rfl ?_
  refine ev_getfield 5 dX2_copy_2 rfl okf_X2_21 (Nat.le_of_ble_eq_true rfl) HPf_2_3 rfl ?_
  by_cases hz1 : ¬ (((hs 2).1 6) = 0 ∨ ((hs 2).1 6) = 1)
  · rw [if_pos hz1] at hF; cases hF
  rw [if_neg hz1] at hF
  refine ev_putfield 8 dX2_copy_5 rfl okf_X2_21 (Nat.le_of_ble_eq_true rfl) HPg_6 (Nat.le_of_ble_eq_true rfl) (tv_nz hz1) (tv_nzf hz1) HPs_6_0 ?_
  refine ev_aload_n (i := 0) 9 dX2_copy_8 rfl rfl rfl ?_
  refine ev_aload_n (i := 1) 10 dX2_copy_9 rfl rfl rfl ?_
  refine ev_getfield 13 dX2_copy_10 rfl okf_X2_25 (Nat.le_of_ble_eq_true rfl) HPf_2_3 rfl ?_
  refine ev_putfield 16 dX2_copy_13 rfl okf_X2_25 (Nat.le_of_ble_eq_true rfl) HPg_6 (Nat.le_of_ble_eq_true rfl) rfl rfl HPs_6_1 ?_
  refine ev_aload_n (i := 1) 17 dX2_copy_16 rfl rfl rfl ?_
  refine ev_getfield 20 dX2_copy_17 rfl okf_X2_9 (Nat.le_of_ble_eq_true rfl) HPf_2_3 rfl ?_
  refine ev_iconst 21 dX2_copy_20 rfl kI_0 ?_
  refine ev_aload_n (i := 0) 22 dX2_copy_21 rfl rfl rfl ?_
  refine ev_getfield 25 dX2_copy_22 rfl okf_X2_9 (Nat.le_of_ble_eq_true rfl) HPg_6 rfl ?_
  refine ev_iconst 26 dX2_copy_25 rfl kI_0 ?_
  refine ev_aload_n (i := 0) 27 dX2_copy_26 rfl rfl rfl ?_
  refine ev_getfield 30 dX2_copy_27 rfl okf_X2_9 (Nat.le_of_ble_eq_true rfl) HPg_6 rfl ?_
  refine ev_arraylength 31 dX2_copy_30 rfl (Nat.le_of_ble_eq_true rfl) HPg_7 kN_100 ?_
  obtain ⟨x2, hx2, hF⟩ := tv_bind hF
  refine ev_arraycopy 34 dX2_copy_31 rfl wc_X2_29 wc_native wc_static wc_init (Nat.le_of_ble_eq_true rfl) (Nat.le_of_ble_eq_true rfl) (Nat.le_of_ble_eq_true rfl) (Nat.le_of_ble_eq_true rfl) HPf_2_4 HPg_7 hx2 HPa_7 ?_
  have hF := Option.some.inj hF
  subst hF
  exact ev_return dX2_copy_34 rfl

set_option maxRecDepth 100000 in
set_option maxHeartbeats 4000000 in
theorem R_X2_copy_from3 {g : tv_G} {l : Launch} {si : Nat → Int32} {sa : Nat → Nat → Int32} {hs : Nat → (Nat → Int32) × (Nat → Nat → Int32)} {tx : Nat → Int32} {tl : Int32} {hc : Int32} {hn : Int32} {v : Nat → Int32} {pa : Nat → Int32} {mt : Nat → Int32} {pm : Int32} {ty : Int32} {ra : Int32}  {p : (Nat → Int32) × (Nat → Nat → Int32)} (hF : F_X2_copy (hs 3).1 (hs 3).2 si sa = some p) : tv_E g l yX2_copy cX2_copy 2 none 1 0 0 0 [.ref 6, .ref 88] [] (HP si sa hs tx tl hc hn v pa mt pm ty ra) none (HP p.1 p.2 hs tx tl hc hn v pa mt pm ty ra) := by
  unfold F_X2_copy at hF
  refine ev_aload_n (i := 0) 1 dX2_copy_0 rfl rfl rfl ?_
  refine ev_aload_n (i := 1) 2 dX2_copy_1 rfl rfl rfl ?_
  refine ev_getfield 5 dX2_copy_2 rfl okf_X2_21 (Nat.le_of_ble_eq_true rfl) HPf_3_3 rfl ?_
  by_cases hz1 : ¬ (((hs 3).1 6) = 0 ∨ ((hs 3).1 6) = 1)
  · rw [if_pos hz1] at hF; cases hF
  rw [if_neg hz1] at hF
  refine ev_putfield 8 dX2_copy_5 rfl okf_X2_21 (Nat.le_of_ble_eq_true rfl) HPg_6 (Nat.le_of_ble_eq_true rfl) (tv_nz hz1) (tv_nzf hz1) HPs_6_0 ?_
  refine ev_aload_n (i := 0) 9 dX2_copy_8 rfl rfl rfl ?_
  refine ev_aload_n (i := 1) 10 dX2_copy_9 rfl rfl rfl ?_
  refine ev_getfield 13 dX2_copy_10 rfl okf_X2_25 (Nat.le_of_ble_eq_true rfl) HPf_3_3 rfl ?_
  refine ev_putfield 16 dX2_copy_13 rfl okf_X2_25 (Nat.le_of_ble_eq_true rfl) HPg_6 (Nat.le_of_ble_eq_true rfl) rfl rfl HPs_6_1 ?_
  refine ev_aload_n (i := 1) 17 dX2_copy_16 rfl rfl rfl ?_
  refine ev_getfield 20 dX2_copy_17 rfl okf_X2_9 (Nat.le_of_ble_eq_true rfl) HPf_3_3 rfl ?_
  refine ev_iconst 21 dX2_copy_20 rfl kI_0 ?_
  refine ev_aload_n (i := 0) 22 dX2_copy_21 rfl rfl rfl ?_
  refine ev_getfield 25 dX2_copy_22 rfl okf_X2_9 (Nat.le_of_ble_eq_true rfl) HPg_6 rfl ?_
  refine ev_iconst 26 dX2_copy_25 rfl kI_0 ?_
  refine ev_aload_n (i := 0) 27 dX2_copy_26 rfl rfl rfl ?_
  refine ev_getfield 30 dX2_copy_27 rfl okf_X2_9 (Nat.le_of_ble_eq_true rfl) HPg_6 rfl ?_
  refine ev_arraylength 31 dX2_copy_30 rfl (Nat.le_of_ble_eq_true rfl) HPg_7 kN_100 ?_
  obtain ⟨x2, hx2, hF⟩ := tv_bind hF
  refine ev_arraycopy 34 dX2_copy_31 rfl wc_X2_29 wc_native wc_static wc_init (Nat.le_of_ble_eq_true rfl) (Nat.le_of_ble_eq_true rfl) (Nat.le_of_ble_eq_true rfl) (Nat.le_of_ble_eq_true rfl) HPf_3_4 HPg_7 hx2 HPa_7 ?_
  have hF := Option.some.inj hF
  subst hF
  exact ev_return dX2_copy_34 rfl

set_option maxRecDepth 100000 in
set_option maxHeartbeats 4000000 in
theorem R_X2_copy_from4 {g : tv_G} {l : Launch} {si : Nat → Int32} {sa : Nat → Nat → Int32} {hs : Nat → (Nat → Int32) × (Nat → Nat → Int32)} {tx : Nat → Int32} {tl : Int32} {hc : Int32} {hn : Int32} {v : Nat → Int32} {pa : Nat → Int32} {mt : Nat → Int32} {pm : Int32} {ty : Int32} {ra : Int32}  {p : (Nat → Int32) × (Nat → Nat → Int32)} (hF : F_X2_copy (hs 4).1 (hs 4).2 si sa = some p) : tv_E g l yX2_copy cX2_copy 2 none 1 0 0 0 [.ref 6, .ref 108] [] (HP si sa hs tx tl hc hn v pa mt pm ty ra) none (HP p.1 p.2 hs tx tl hc hn v pa mt pm ty ra) := by
  unfold F_X2_copy at hF
  refine ev_aload_n (i := 0) 1 dX2_copy_0 rfl rfl rfl ?_
  refine ev_aload_n (i := 1) 2 dX2_copy_1 rfl rfl rfl ?_
  refine ev_getfield 5 dX2_copy_2 rfl okf_X2_21 (Nat.le_of_ble_eq_true rfl) HPf_4_3 rfl ?_
  by_cases hz1 : ¬ (((hs 4).1 6) = 0 ∨ ((hs 4).1 6) = 1)
  · rw [if_pos hz1] at hF; cases hF
  rw [if_neg hz1] at hF
  refine ev_putfield 8 dX2_copy_5 rfl okf_X2_21 (Nat.le_of_ble_eq_true rfl) HPg_6 (Nat.le_of_ble_eq_true rfl) (tv_nz hz1) (tv_nzf hz1) HPs_6_0 ?_
  refine ev_aload_n (i := 0) 9 dX2_copy_8 rfl rfl rfl ?_
  refine ev_aload_n (i := 1) 10 dX2_copy_9 rfl rfl rfl ?_
  refine ev_getfield 13 dX2_copy_10 rfl okf_X2_25 (Nat.le_of_ble_eq_true rfl) HPf_4_3 rfl ?_
  refine ev_putfield 16 dX2_copy_13 rfl okf_X2_25 (Nat.le_of_ble_eq_true rfl) HPg_6 (Nat.le_of_ble_eq_true rfl) rfl rfl HPs_6_1 ?_
  refine ev_aload_n (i := 1) 17 dX2_copy_16 rfl rfl rfl ?_
  refine ev_getfield 20 dX2_copy_17 rfl okf_X2_9 (Nat.le_of_ble_eq_true rfl) HPf_4_3 rfl ?_
  refine ev_iconst 21 dX2_copy_20 rfl kI_0 ?_
  refine ev_aload_n (i := 0) 22 dX2_copy_21 rfl rfl rfl ?_
  refine ev_getfield 25 dX2_copy_22 rfl okf_X2_9 (Nat.le_of_ble_eq_true rfl) HPg_6 rfl ?_
  refine ev_iconst 26 dX2_copy_25 rfl kI_0 ?_
  refine ev_aload_n (i := 0) 27 dX2_copy_26 rfl rfl rfl ?_
  refine ev_getfield 30 dX2_copy_27 rfl okf_X2_9 (Nat.le_of_ble_eq_true rfl) HPg_6 rfl ?_
  refine ev_arraylength 31 dX2_copy_30 rfl (Nat.le_of_ble_eq_true rfl) HPg_7 kN_100 ?_
  obtain ⟨x2, hx2, hF⟩ := tv_bind hF
  refine ev_arraycopy 34 dX2_copy_31 rfl wc_X2_29 wc_native wc_static wc_init (Nat.le_of_ble_eq_true rfl) (Nat.le_of_ble_eq_true rfl) (Nat.le_of_ble_eq_true rfl) (Nat.le_of_ble_eq_true rfl) HPf_4_4 HPg_7 hx2 HPa_7 ?_
  have hF := Option.some.inj hF
  subst hF
  exact ev_return dX2_copy_34 rfl

set_option maxRecDepth 100000 in
set_option maxHeartbeats 4000000 in
theorem R_X4_copy_to0 {g : tv_G} {l : Launch} {si : Nat → Int32} {sa : Nat → Nat → Int32} {hs : Nat → (Nat → Int32) × (Nat → Nat → Int32)} {tx : Nat → Int32} {tl : Int32} {hc : Int32} {hn : Int32} {v : Nat → Int32} {pa : Nat → Int32} {mt : Nat → Int32} {pm : Int32} {ty : Int32} {ra : Int32} {dI : Nat → Int32} {dA : Nat → Nat → Int32}  {p : (Nat → Int32) × (Nat → Nat → Int32)} (hF : F_X4_copy si sa dI dA = some p) : tv_E g l yX4_copy cX4_copy 2 none 1 0 0 0 [.ref 30, .ref 8] [] (HP si sa (va_up hs 0 (dI, dA)) tx tl hc hn v pa mt pm ty ra) none (HP si sa (va_up hs 0 (p.1, p.2)) tx tl hc hn v pa mt pm ty ra) := by
  unfold F_X4_copy at hF
  refine ev_aload_n (i := 0) 1 dX4_copy_0 rfl rfl rfl ?_
  refine ev_aload_n (i := 1) 2 dX4_copy_1 rfl rfl rfl ?_
  refine ev_getfield 5 dX4_copy_2 rfl okf_X4_15 (Nat.le_of_ble_eq_true rfl) HPg_8 rfl ?_
  refine ev_putfield 8 dX4_copy_5 rfl okf_X4_15 (Nat.le_of_ble_eq_true rfl) HPt_0_5 (Nat.le_of_ble_eq_true rfl) rfl rfl HPst_0_5_0 ?_
  refine ev_aload_n (i := 1) 9 dX4_copy_8 rfl rfl rfl ?_
  refine ev_getfield 12 dX4_copy_9 rfl okf_X4_9 (Nat.le_of_ble_eq_true rfl) HPg_8 rfl ?_
  refine ev_iconst 13 dX4_copy_12 rfl kI_0 ?_
  refine ev_aload_n (i := 0) 14 dX4_copy_13 rfl rfl rfl ?_
  refine ev_getfield 17 dX4_copy_14 rfl okf_X4_9 (Nat.le_of_ble_eq_true rfl) HPt_0_5 rfl ?_
  refine ev_iconst 18 dX4_copy_17 rfl kI_0 ?_
  refine ev_aload_n (i := 0) 19 dX4_copy_18 rfl rfl rfl ?_
  refine ev_getfield 22 dX4_copy_19 rfl okf_X4_9 (Nat.le_of_ble_eq_true rfl) HPt_0_5 rfl ?_
  refine ev_arraylength 23 dX4_copy_22 rfl (Nat.le_of_ble_eq_true rfl) HPt_0_6 kN_100 ?_
  obtain ⟨x1, hx1, hF⟩ := tv_bind hF
  refine ev_arraycopy 26 dX4_copy_23 rfl wc_X4_19 wc_native wc_static wc_init (Nat.le_of_ble_eq_true rfl) (Nat.le_of_ble_eq_true rfl) (Nat.le_of_ble_eq_true rfl) (Nat.le_of_ble_eq_true rfl) HPg_9 HPt_0_6 hx1 HPat_0_6 ?_
  have hF := Option.some.inj hF
  subst hF
  exact ev_return dX4_copy_26 rfl

set_option maxRecDepth 100000 in
set_option maxHeartbeats 4000000 in
theorem R_X4_copy_to1 {g : tv_G} {l : Launch} {si : Nat → Int32} {sa : Nat → Nat → Int32} {hs : Nat → (Nat → Int32) × (Nat → Nat → Int32)} {tx : Nat → Int32} {tl : Int32} {hc : Int32} {hn : Int32} {v : Nat → Int32} {pa : Nat → Int32} {mt : Nat → Int32} {pm : Int32} {ty : Int32} {ra : Int32} {dI : Nat → Int32} {dA : Nat → Nat → Int32}  {p : (Nat → Int32) × (Nat → Nat → Int32)} (hF : F_X4_copy si sa dI dA = some p) : tv_E g l yX4_copy cX4_copy 2 none 1 0 0 0 [.ref 50, .ref 8] [] (HP si sa (va_up hs 1 (dI, dA)) tx tl hc hn v pa mt pm ty ra) none (HP si sa (va_up hs 1 (p.1, p.2)) tx tl hc hn v pa mt pm ty ra) := by
  unfold F_X4_copy at hF
  refine ev_aload_n (i := 0) 1 dX4_copy_0 rfl rfl rfl ?_
  refine ev_aload_n (i := 1) 2 dX4_copy_1 rfl rfl rfl ?_
  refine ev_getfield 5 dX4_copy_2 rfl okf_X4_15 (Nat.le_of_ble_eq_true rfl) HPg_8 rfl ?_
  refine ev_putfield 8 dX4_copy_5 rfl okf_X4_15 (Nat.le_of_ble_eq_true rfl) HPt_1_5 (Nat.le_of_ble_eq_true rfl) rfl rfl HPst_1_5_0 ?_
  refine ev_aload_n (i := 1) 9 dX4_copy_8 rfl rfl rfl ?_
  refine ev_getfield 12 dX4_copy_9 rfl okf_X4_9 (Nat.le_of_ble_eq_true rfl) HPg_8 rfl ?_
  refine ev_iconst 13 dX4_copy_12 rfl kI_0 ?_
  refine ev_aload_n (i := 0) 14 dX4_copy_13 rfl rfl rfl ?_
  refine ev_getfield 17 dX4_copy_14 rfl okf_X4_9 (Nat.le_of_ble_eq_true rfl) HPt_1_5 rfl ?_
  refine ev_iconst 18 dX4_copy_17 rfl kI_0 ?_
  refine ev_aload_n (i := 0) 19 dX4_copy_18 rfl rfl rfl ?_
  refine ev_getfield 22 dX4_copy_19 rfl okf_X4_9 (Nat.le_of_ble_eq_true rfl) HPt_1_5 rfl ?_
  refine ev_arraylength 23 dX4_copy_22 rfl (Nat.le_of_ble_eq_true rfl) HPt_1_6 kN_100 ?_
  obtain ⟨x1, hx1, hF⟩ := tv_bind hF
  refine ev_arraycopy 26 dX4_copy_23 rfl wc_X4_19 wc_native wc_static wc_init (Nat.le_of_ble_eq_true rfl) (Nat.le_of_ble_eq_true rfl) (Nat.le_of_ble_eq_true rfl) (Nat.le_of_ble_eq_true rfl) HPg_9 HPt_1_6 hx1 HPat_1_6 ?_
  have hF := Option.some.inj hF
  subst hF
  exact ev_return dX4_copy_26 rfl

set_option maxRecDepth 100000 in
set_option maxHeartbeats 4000000 in
theorem R_X4_copy_to2 {g : tv_G} {l : Launch} {si : Nat → Int32} {sa : Nat → Nat → Int32} {hs : Nat → (Nat → Int32) × (Nat → Nat → Int32)} {tx : Nat → Int32} {tl : Int32} {hc : Int32} {hn : Int32} {v : Nat → Int32} {pa : Nat → Int32} {mt : Nat → Int32} {pm : Int32} {ty : Int32} {ra : Int32} {dI : Nat → Int32} {dA : Nat → Nat → Int32}  {p : (Nat → Int32) × (Nat → Nat → Int32)} (hF : F_X4_copy si sa dI dA = some p) : tv_E g l yX4_copy cX4_copy 2 none 1 0 0 0 [.ref 70, .ref 8] [] (HP si sa (va_up hs 2 (dI, dA)) tx tl hc hn v pa mt pm ty ra) none (HP si sa (va_up hs 2 (p.1, p.2)) tx tl hc hn v pa mt pm ty ra) := by
  unfold F_X4_copy at hF
  refine ev_aload_n (i := 0) 1 dX4_copy_0 rfl rfl rfl ?_
  refine ev_aload_n (i := 1) 2 dX4_copy_1 rfl rfl rfl ?_
  refine ev_getfield 5 dX4_copy_2 rfl okf_X4_15 (Nat.le_of_ble_eq_true rfl) HPg_8 rfl ?_
  refine ev_putfield 8 dX4_copy_5 rfl okf_X4_15 (Nat.le_of_ble_eq_true rfl) HPt_2_5 (Nat.le_of_ble_eq_true rfl) rfl rfl HPst_2_5_0 ?_
  refine ev_aload_n (i := 1) 9 dX4_copy_8 rfl rfl rfl ?_
  refine ev_getfield 12 dX4_copy_9 rfl okf_X4_9 (Nat.le_of_ble_eq_true rfl) HPg_8 rfl ?_
  refine ev_iconst 13 dX4_copy_12 rfl kI_0 ?_
  refine ev_aload_n (i := 0) 14 dX4_copy_13 rfl rfl rfl ?_
  refine ev_getfield 17 dX4_copy_14 rfl okf_X4_9 (Nat.le_of_ble_eq_true rfl) HPt_2_5 rfl ?_
  refine ev_iconst 18 dX4_copy_17 rfl kI_0 ?_
  refine ev_aload_n (i := 0) 19 dX4_copy_18 rfl rfl rfl ?_
  refine ev_getfield 22 dX4_copy_19 rfl okf_X4_9 (Nat.le_of_ble_eq_true rfl) HPt_2_5 rfl ?_
  refine ev_arraylength 23 dX4_copy_22 rfl (Nat.le_of_ble_eq_true rfl) HPt_2_6 kN_100 ?_
  obtain ⟨x1, hx1, hF⟩ := tv_bind hF
  refine ev_arraycopy 26 dX4_copy_23 rfl wc_X4_19 wc_native wc_static wc_init (Nat.le_of_ble_eq_true rfl) (Nat.le_of_ble_eq_true rfl) (Nat.le_of_ble_eq_true rfl) (Nat.le_of_ble_eq_true rfl) HPg_9 HPt_2_6 hx1 HPat_2_6 ?_
  have hF := Option.some.inj hF
  subst hF
  exact ev_return dX4_copy_26 rfl

set_option maxRecDepth 100000 in
set_option maxHeartbeats 4000000 in
theorem R_X4_copy_to3 {g : tv_G} {l : Launch} {si : Nat → Int32} {sa : Nat → Nat → Int32} {hs : Nat → (Nat → Int32) × (Nat → Nat → Int32)} {tx : Nat → Int32} {tl : Int32} {hc : Int32} {hn : Int32} {v : Nat → Int32} {pa : Nat → Int32} {mt : Nat → Int32} {pm : Int32} {ty : Int32} {ra : Int32} {dI : Nat → Int32} {dA : Nat → Nat → Int32}  {p : (Nat → Int32) × (Nat → Nat → Int32)} (hF : F_X4_copy si sa dI dA = some p) : tv_E g l yX4_copy cX4_copy 2 none 1 0 0 0 [.ref 90, .ref 8] [] (HP si sa (va_up hs 3 (dI, dA)) tx tl hc hn v pa mt pm ty ra) none (HP si sa (va_up hs 3 (p.1, p.2)) tx tl hc hn v pa mt pm ty ra) := by
  unfold F_X4_copy at hF
  refine ev_aload_n (i := 0) 1 dX4_copy_0 rfl rfl rfl ?_
  refine ev_aload_n (i := 1) 2 dX4_copy_1 rfl rfl rfl ?_
  refine ev_getfield 5 dX4_copy_2 rfl okf_X4_15 (Nat.le_of_ble_eq_true rfl) HPg_8 rfl ?_
  refine ev_putfield 8 dX4_copy_5 rfl okf_X4_15 (Nat.le_of_ble_eq_true rfl) HPt_3_5 (Nat.le_of_ble_eq_true rfl) rfl rfl HPst_3_5_0 ?_
  refine ev_aload_n (i := 1) 9 dX4_copy_8 rfl rfl rfl ?_
  refine ev_getfield 12 dX4_copy_9 rfl okf_X4_9 (Nat.le_of_ble_eq_true rfl) HPg_8 rfl ?_
  refine ev_iconst 13 dX4_copy_12 rfl kI_0 ?_
  refine ev_aload_n (i := 0) 14 dX4_copy_13 rfl rfl rfl ?_
  refine ev_getfield 17 dX4_copy_14 rfl okf_X4_9 (Nat.le_of_ble_eq_true rfl) HPt_3_5 rfl ?_
  refine ev_iconst 18 dX4_copy_17 rfl kI_0 ?_
  refine ev_aload_n (i := 0) 19 dX4_copy_18 rfl rfl rfl ?_
  refine ev_getfield 22 dX4_copy_19 rfl okf_X4_9 (Nat.le_of_ble_eq_true rfl) HPt_3_5 rfl ?_
  refine ev_arraylength 23 dX4_copy_22 rfl (Nat.le_of_ble_eq_true rfl) HPt_3_6 kN_100 ?_
  obtain ⟨x1, hx1, hF⟩ := tv_bind hF
  refine ev_arraycopy 26 dX4_copy_23 rfl wc_X4_19 wc_native wc_static wc_init (Nat.le_of_ble_eq_true rfl) (Nat.le_of_ble_eq_true rfl) (Nat.le_of_ble_eq_true rfl) (Nat.le_of_ble_eq_true rfl) HPg_9 HPt_3_6 hx1 HPat_3_6 ?_
  have hF := Option.some.inj hF
  subst hF
  exact ev_return dX4_copy_26 rfl

set_option maxRecDepth 100000 in
set_option maxHeartbeats 4000000 in
theorem R_X4_copy_to4 {g : tv_G} {l : Launch} {si : Nat → Int32} {sa : Nat → Nat → Int32} {hs : Nat → (Nat → Int32) × (Nat → Nat → Int32)} {tx : Nat → Int32} {tl : Int32} {hc : Int32} {hn : Int32} {v : Nat → Int32} {pa : Nat → Int32} {mt : Nat → Int32} {pm : Int32} {ty : Int32} {ra : Int32} {dI : Nat → Int32} {dA : Nat → Nat → Int32}  {p : (Nat → Int32) × (Nat → Nat → Int32)} (hF : F_X4_copy si sa dI dA = some p) : tv_E g l yX4_copy cX4_copy 2 none 1 0 0 0 [.ref 110, .ref 8] [] (HP si sa (va_up hs 4 (dI, dA)) tx tl hc hn v pa mt pm ty ra) none (HP si sa (va_up hs 4 (p.1, p.2)) tx tl hc hn v pa mt pm ty ra) := by
  unfold F_X4_copy at hF
  refine ev_aload_n (i := 0) 1 dX4_copy_0 rfl rfl rfl ?_
  refine ev_aload_n (i := 1) 2 dX4_copy_1 rfl rfl rfl ?_
  refine ev_getfield 5 dX4_copy_2 rfl okf_X4_15 (Nat.le_of_ble_eq_true rfl) HPg_8 rfl ?_
  refine ev_putfield 8 dX4_copy_5 rfl okf_X4_15 (Nat.le_of_ble_eq_true rfl) HPt_4_5 (Nat.le_of_ble_eq_true rfl) rfl rfl HPst_4_5_0 ?_
  refine ev_aload_n (i := 1) 9 dX4_copy_8 rfl rfl rfl ?_
  refine ev_getfield 12 dX4_copy_9 rfl okf_X4_9 (Nat.le_of_ble_eq_true rfl) HPg_8 rfl ?_
  refine ev_iconst 13 dX4_copy_12 rfl kI_0 ?_
  refine ev_aload_n (i := 0) 14 dX4_copy_13 rfl rfl rfl ?_
  refine ev_getfield 17 dX4_copy_14 rfl okf_X4_9 (Nat.le_of_ble_eq_true rfl) HPt_4_5 rfl ?_
  refine ev_iconst 18 dX4_copy_17 rfl kI_0 ?_
  refine ev_aload_n (i := 0) 19 dX4_copy_18 rfl rfl rfl ?_
  refine ev_getfield 22 dX4_copy_19 rfl okf_X4_9 (Nat.le_of_ble_eq_true rfl) HPt_4_5 rfl ?_
  refine ev_arraylength 23 dX4_copy_22 rfl (Nat.le_of_ble_eq_true rfl) HPt_4_6 kN_100 ?_
  obtain ⟨x1, hx1, hF⟩ := tv_bind hF
  refine ev_arraycopy 26 dX4_copy_23 rfl wc_X4_19 wc_native wc_static wc_init (Nat.le_of_ble_eq_true rfl) (Nat.le_of_ble_eq_true rfl) (Nat.le_of_ble_eq_true rfl) (Nat.le_of_ble_eq_true rfl) HPg_9 HPt_4_6 hx1 HPat_4_6 ?_
  have hF := Option.some.inj hF
  subst hF
  exact ev_return dX4_copy_26 rfl

set_option maxRecDepth 100000 in
set_option maxHeartbeats 4000000 in
theorem R_X4_copy_from0 {g : tv_G} {l : Launch} {si : Nat → Int32} {sa : Nat → Nat → Int32} {hs : Nat → (Nat → Int32) × (Nat → Nat → Int32)} {tx : Nat → Int32} {tl : Int32} {hc : Int32} {hn : Int32} {v : Nat → Int32} {pa : Nat → Int32} {mt : Nat → Int32} {pm : Int32} {ty : Int32} {ra : Int32}  {p : (Nat → Int32) × (Nat → Nat → Int32)} (hF : F_X4_copy (hs 0).1 (hs 0).2 si sa = some p) : tv_E g l yX4_copy cX4_copy 2 none 1 0 0 0 [.ref 8, .ref 30] [] (HP si sa hs tx tl hc hn v pa mt pm ty ra) none (HP p.1 p.2 hs tx tl hc hn v pa mt pm ty ra) := by
  unfold F_X4_copy at hF
  refine ev_aload_n (i := 0) 1 dX4_copy_0 rfl rfl rfl ?_
  refine ev_aload_n (i := 1) 2 dX4_copy_1 rfl rfl rfl ?_
  refine ev_getfield 5 dX4_copy_2 rfl okf_X4_15 (Nat.le_of_ble_eq_true rfl) HPf_0_5 rfl ?_
  refine ev_putfield 8 dX4_copy_5 rfl okf_X4_15 (Nat.le_of_ble_eq_true rfl) HPg_8 (Nat.le_of_ble_eq_true rfl) rfl rfl HPs_8_0 ?_
  refine ev_aload_n (i := 1) 9 dX4_copy_8 rfl rfl rfl ?_
  refine ev_getfield 12 dX4_copy_9 rfl okf_X4_9 (Nat.le_of_ble_eq_true rfl) HPf_0_5 rfl ?_
  refine ev_iconst 13 dX4_copy_12 rfl kI_0 ?_
  refine ev_aload_n (i := 0) 14 dX4_copy_13 rfl rfl rfl ?_
  refine ev_getfield 17 dX4_copy_14 rfl okf_X4_9 (Nat.le_of_ble_eq_true rfl) HPg_8 rfl ?_
  refine ev_iconst 18 dX4_copy_17 rfl kI_0 ?_
  refine ev_aload_n (i := 0) 19 dX4_copy_18 rfl rfl rfl ?_
  refine ev_getfield 22 dX4_copy_19 rfl okf_X4_9 (Nat.le_of_ble_eq_true rfl) HPg_8 rfl ?_
  refine ev_arraylength 23 dX4_copy_22 rfl (Nat.le_of_ble_eq_true rfl) HPg_9 kN_100 ?_
  obtain ⟨x1, hx1, hF⟩ := tv_bind hF
  refine ev_arraycopy 26 dX4_copy_23 rfl wc_X4_19 wc_native wc_static wc_init (Nat.le_of_ble_eq_true rfl) (Nat.le_of_ble_eq_true rfl) (Nat.le_of_ble_eq_true rfl) (Nat.le_of_ble_eq_true rfl) HPf_0_6 HPg_9 hx1 HPa_9 ?_
  have hF := Option.some.inj hF
  subst hF
  exact ev_return dX4_copy_26 rfl

set_option maxRecDepth 100000 in
set_option maxHeartbeats 4000000 in
theorem R_X4_copy_from1 {g : tv_G} {l : Launch} {si : Nat → Int32} {sa : Nat → Nat → Int32} {hs : Nat → (Nat → Int32) × (Nat → Nat → Int32)} {tx : Nat → Int32} {tl : Int32} {hc : Int32} {hn : Int32} {v : Nat → Int32} {pa : Nat → Int32} {mt : Nat → Int32} {pm : Int32} {ty : Int32} {ra : Int32}  {p : (Nat → Int32) × (Nat → Nat → Int32)} (hF : F_X4_copy (hs 1).1 (hs 1).2 si sa = some p) : tv_E g l yX4_copy cX4_copy 2 none 1 0 0 0 [.ref 8, .ref 50] [] (HP si sa hs tx tl hc hn v pa mt pm ty ra) none (HP p.1 p.2 hs tx tl hc hn v pa mt pm ty ra) := by
  unfold F_X4_copy at hF
  refine ev_aload_n (i := 0) 1 dX4_copy_0 rfl rfl rfl ?_
  refine ev_aload_n (i := 1) 2 dX4_copy_1 rfl rfl rfl ?_
  refine ev_getfield 5 dX4_copy_2 rfl okf_X4_15 (Nat.le_of_ble_eq_true rfl) HPf_1_5 rfl ?_
  refine ev_putfield 8 dX4_copy_5 rfl okf_X4_15 (Nat.le_of_ble_eq_true rfl) HPg_8 (Nat.le_of_ble_eq_true rfl) rfl rfl HPs_8_0 ?_
  refine ev_aload_n (i := 1) 9 dX4_copy_8 rfl rfl rfl ?_
  refine ev_getfield 12 dX4_copy_9 rfl okf_X4_9 (Nat.le_of_ble_eq_true rfl) HPf_1_5 rfl ?_
  refine ev_iconst 13 dX4_copy_12 rfl kI_0 ?_
  refine ev_aload_n (i := 0) 14 dX4_copy_13 rfl rfl rfl ?_
  refine ev_getfield 17 dX4_copy_14 rfl okf_X4_9 (Nat.le_of_ble_eq_true rfl) HPg_8 rfl ?_
  refine ev_iconst 18 dX4_copy_17 rfl kI_0 ?_
  refine ev_aload_n (i := 0) 19 dX4_copy_18 rfl rfl rfl ?_
  refine ev_getfield 22 dX4_copy_19 rfl okf_X4_9 (Nat.le_of_ble_eq_true rfl) HPg_8 rfl ?_
  refine ev_arraylength 23 dX4_copy_22 rfl (Nat.le_of_ble_eq_true rfl) HPg_9 kN_100 ?_
  obtain ⟨x1, hx1, hF⟩ := tv_bind hF
  refine ev_arraycopy 26 dX4_copy_23 rfl wc_X4_19 wc_native wc_static wc_init (Nat.le_of_ble_eq_true rfl) (Nat.le_of_ble_eq_true rfl) (Nat.le_of_ble_eq_true rfl) (Nat.le_of_ble_eq_true rfl) HPf_1_6 HPg_9 hx1 HPa_9 ?_
  have hF := Option.some.inj hF
  subst hF
  exact ev_return dX4_copy_26 rfl

set_option maxRecDepth 100000 in
set_option maxHeartbeats 4000000 in
theorem R_X4_copy_from2 {g : tv_G} {l : Launch} {si : Nat → Int32} {sa : Nat → Nat → Int32} {hs : Nat → (Nat → Int32) × (Nat → Nat → Int32)} {tx : Nat → Int32} {tl : Int32} {hc : Int32} {hn : Int32} {v : Nat → Int32} {pa : Nat → Int32} {mt : Nat → Int32} {pm : Int32} {ty : Int32} {ra : Int32}  {p : (Nat → Int32) × (Nat → Nat → Int32)} (hF : F_X4_copy (hs 2).1 (hs 2).2 si sa = some p) : tv_E g l yX4_copy cX4_copy 2 none 1 0 0 0 [.ref 8, .ref 70] [] (HP si sa hs tx tl hc hn v pa mt pm ty ra) none (HP p.1 p.2 hs tx tl hc hn v pa mt pm ty ra) := by
  unfold F_X4_copy at hF
  refine ev_aload_n (i := 0) 1 dX4_copy_0 rfl rfl rfl ?_
  refine ev_aload_n (i := 1) 2 dX4_copy_1 rfl rfl rfl ?_
  refine ev_getfield 5 dX4_copy_2 rfl okf_X4_15 (Nat.le_of_ble_eq_true rfl) HPf_2_5 rfl ?_
  refine ev_putfield 8 dX4_copy_5 rfl okf_X4_15 (Nat.le_of_ble_eq_true rfl) HPg_8 (Nat.le_of_ble_eq_true rfl) rfl rfl HPs_8_0 ?_
  refine ev_aload_n (i := 1) 9 dX4_copy_8 rfl rfl rfl ?_
  refine ev_getfield 12 dX4_copy_9 rfl okf_X4_9 (Nat.le_of_ble_eq_true rfl) HPf_2_5 rfl ?_
  refine ev_iconst 13 dX4_copy_12 rfl kI_0 ?_
  refine ev_aload_n (i := 0) 14 dX4_copy_13 rfl rfl rfl ?_
  refine ev_getfield 17 dX4_copy_14 rfl okf_X4_9 (Nat.le_of_ble_eq_true rfl) HPg_8 rfl ?_
  refine ev_iconst 18 dX4_copy_17 rfl kI_0 ?_
  refine ev_aload_n (i := 0) 19 dX4_copy_18 rfl rfl rfl ?_
  refine ev_getfield 22 dX4_copy_19 rfl okf_X4_9 (Nat.le_of_ble_eq_true rfl) HPg_8 rfl ?_
  refine ev_arraylength 23 dX4_copy_22 rfl (Nat.le_of_ble_eq_true rfl) HPg_9 kN_100 ?_
  obtain ⟨x1, hx1, hF⟩ := tv_bind hF
  refine ev_arraycopy 26 dX4_copy_23 rfl wc_X4_19 wc_native wc_static wc_init (Nat.le_of_ble_eq_true rfl) (Nat.le_of_ble_eq_true rfl) (Nat.le_of_ble_eq_true rfl) (Nat.le_of_ble_eq_true rfl) HPf_2_6 HPg_9 hx1 HPa_9 ?_
  have hF := Option.some.inj hF
  subst hF
  exact ev_return dX4_copy_26 rfl

set_option maxRecDepth 100000 in
set_option maxHeartbeats 4000000 in
theorem R_X4_copy_from3 {g : tv_G} {l : Launch} {si : Nat → Int32} {sa : Nat → Nat → Int32} {hs : Nat → (Nat → Int32) × (Nat → Nat → Int32)} {tx : Nat → Int32} {tl : Int32} {hc : Int32} {hn : Int32} {v : Nat → Int32} {pa : Nat → Int32} {mt : Nat → Int32} {pm : Int32} {ty : Int32} {ra : Int32}  {p : (Nat → Int32) × (Nat → Nat → Int32)} (hF : F_X4_copy (hs 3).1 (hs 3).2 si sa = some p) : tv_E g l yX4_copy cX4_copy 2 none 1 0 0 0 [.ref 8, .ref 90] [] (HP si sa hs tx tl hc hn v pa mt pm ty ra) none (HP p.1 p.2 hs tx tl hc hn v pa mt pm ty ra) := by
  unfold F_X4_copy at hF
  refine ev_aload_n (i := 0) 1 dX4_copy_0 rfl rfl rfl ?_
  refine ev_aload_n (i := 1) 2 dX4_copy_1 rfl rfl rfl ?_
  refine ev_getfield 5 dX4_copy_2 rfl okf_X4_15 (Nat.le_of_ble_eq_true rfl) HPf_3_5 rfl ?_
  refine ev_putfield 8 dX4_copy_5 rfl okf_X4_15 (Nat.le_of_ble_eq_true rfl) HPg_8 (Nat.le_of_ble_eq_true rfl) rfl rfl HPs_8_0 ?_
  refine ev_aload_n (i := 1) 9 dX4_copy_8 rfl rfl rfl ?_
  refine ev_getfield 12 dX4_copy_9 rfl okf_X4_9 (Nat.le_of_ble_eq_true rfl) HPf_3_5 rfl ?_
  refine ev_iconst 13 dX4_copy_12 rfl kI_0 ?_
  refine ev_aload_n (i := 0) 14 dX4_copy_13 rfl rfl rfl ?_
  refine ev_getfield 17 dX4_copy_14 rfl okf_X4_9 (Nat.le_of_ble_eq_true rfl) HPg_8 rfl ?_
  refine ev_iconst 18 dX4_copy_17 rfl kI_0 ?_
  refine ev_aload_n (i := 0) 19 dX4_copy_18 rfl rfl rfl ?_
  refine ev_getfield 22 dX4_copy_19 rfl okf_X4_9 (Nat.le_of_ble_eq_true rfl) HPg_8 rfl ?_
  refine ev_arraylength 23 dX4_copy_22 rfl (Nat.le_of_ble_eq_true rfl) HPg_9 kN_100 ?_
  obtain ⟨x1, hx1, hF⟩ := tv_bind hF
  refine ev_arraycopy 26 dX4_copy_23 rfl wc_X4_19 wc_native wc_static wc_init (Nat.le_of_ble_eq_true rfl) (Nat.le_of_ble_eq_true rfl) (Nat.le_of_ble_eq_true rfl) (Nat.le_of_ble_eq_true rfl) HPf_3_6 HPg_9 hx1 HPa_9 ?_
  have hF := Option.some.inj hF
  subst hF
  exact ev_return dX4_copy_26 rfl

set_option maxRecDepth 100000 in
set_option maxHeartbeats 4000000 in
theorem R_X4_copy_from4 {g : tv_G} {l : Launch} {si : Nat → Int32} {sa : Nat → Nat → Int32} {hs : Nat → (Nat → Int32) × (Nat → Nat → Int32)} {tx : Nat → Int32} {tl : Int32} {hc : Int32} {hn : Int32} {v : Nat → Int32} {pa : Nat → Int32} {mt : Nat → Int32} {pm : Int32} {ty : Int32} {ra : Int32}  {p : (Nat → Int32) × (Nat → Nat → Int32)} (hF : F_X4_copy (hs 4).1 (hs 4).2 si sa = some p) : tv_E g l yX4_copy cX4_copy 2 none 1 0 0 0 [.ref 8, .ref 110] [] (HP si sa hs tx tl hc hn v pa mt pm ty ra) none (HP p.1 p.2 hs tx tl hc hn v pa mt pm ty ra) := by
  unfold F_X4_copy at hF
  refine ev_aload_n (i := 0) 1 dX4_copy_0 rfl rfl rfl ?_
  refine ev_aload_n (i := 1) 2 dX4_copy_1 rfl rfl rfl ?_
  refine ev_getfield 5 dX4_copy_2 rfl okf_X4_15 (Nat.le_of_ble_eq_true rfl) HPf_4_5 rfl ?_
  refine ev_putfield 8 dX4_copy_5 rfl okf_X4_15 (Nat.le_of_ble_eq_true rfl) HPg_8 (Nat.le_of_ble_eq_true rfl) rfl rfl HPs_8_0 ?_
  refine ev_aload_n (i := 1) 9 dX4_copy_8 rfl rfl rfl ?_
  refine ev_getfield 12 dX4_copy_9 rfl okf_X4_9 (Nat.le_of_ble_eq_true rfl) HPf_4_5 rfl ?_
  refine ev_iconst 13 dX4_copy_12 rfl kI_0 ?_
  refine ev_aload_n (i := 0) 14 dX4_copy_13 rfl rfl rfl ?_
  refine ev_getfield 17 dX4_copy_14 rfl okf_X4_9 (Nat.le_of_ble_eq_true rfl) HPg_8 rfl ?_
  refine ev_iconst 18 dX4_copy_17 rfl kI_0 ?_
  refine ev_aload_n (i := 0) 19 dX4_copy_18 rfl rfl rfl ?_
  refine ev_getfield 22 dX4_copy_19 rfl okf_X4_9 (Nat.le_of_ble_eq_true rfl) HPg_8 rfl ?_
  refine ev_arraylength 23 dX4_copy_22 rfl (Nat.le_of_ble_eq_true rfl) HPg_9 kN_100 ?_
  obtain ⟨x1, hx1, hF⟩ := tv_bind hF
  refine ev_arraycopy 26 dX4_copy_23 rfl wc_X4_19 wc_native wc_static wc_init (Nat.le_of_ble_eq_true rfl) (Nat.le_of_ble_eq_true rfl) (Nat.le_of_ble_eq_true rfl) (Nat.le_of_ble_eq_true rfl) HPf_4_6 HPg_9 hx1 HPa_9 ?_
  have hF := Option.some.inj hF
  subst hF
  exact ev_return dX4_copy_26 rfl

set_option maxRecDepth 100000 in
set_option maxHeartbeats 4000000 in
theorem R_X6_copy_to0 {g : tv_G} {l : Launch} {si : Nat → Int32} {sa : Nat → Nat → Int32} {hs : Nat → (Nat → Int32) × (Nat → Nat → Int32)} {tx : Nat → Int32} {tl : Int32} {hc : Int32} {hn : Int32} {v : Nat → Int32} {pa : Nat → Int32} {mt : Nat → Int32} {pm : Int32} {ty : Int32} {ra : Int32} {dI : Nat → Int32} {dA : Nat → Nat → Int32}  {p : (Nat → Int32) × (Nat → Nat → Int32)} (hF : F_X6_copy si sa dI dA = some p) : tv_E g l yX6_copy cX6_copy 2 none 2 0 0 0 [.ref 32, .ref 10] [] (HP si sa (va_up hs 0 (dI, dA)) tx tl hc hn v pa mt pm ty ra) none (HP si sa (va_up hs 0 (p.1, p.2)) tx tl hc hn v pa mt pm ty ra) := by
  unfold F_X6_copy at hF
  refine ev_aload_n (i := 0) 1 dX6_copy_0 rfl rfl rfl ?_
  refine ev_aload_n (i := 1) 2 dX6_copy_1 rfl rfl rfl ?_
  refine ev_getfield 5 dX6_copy_2 rfl okf_X6_36 (Nat.le_of_ble_eq_true rfl) HPg_10 rfl ?_
  refine ev_putfield 8 dX6_copy_5 rfl okf_X6_36 (Nat.le_of_ble_eq_true rfl) HPt_0_7 (Nat.le_of_ble_eq_true rfl) rfl rfl HPst_0_7_0 ?_
  refine ev_aload_n (i := 1) 9 dX6_copy_8 rfl rfl rfl ?_
  refine ev_getfield 12 dX6_copy_9 rfl okf_X6_9 (Nat.le_of_ble_eq_true rfl) HPg_10 rfl ?_
  refine ev_aload_n (i := 0) 13 dX6_copy_12 rfl rfl rfl ?_
  refine ev_getfield 16 dX6_copy_13 rfl okf_X6_9 (Nat.le_of_ble_eq_true rfl) HPt_0_7 rfl ?_
  obtain ⟨x1, hx1, hF⟩ := tv_bind hF
  refine ev_callSv 19 [.ref 11, .ref 33] [] dX6_copy_16 rfl okS_X6_40 rfl rfl (Nat.le_of_ble_eq_true rfl) rfl (Nat.le_of_ble_eq_true rfl) (Nat.le_of_ble_eq_true rfl) (R_copyRow (Nat.le_of_ble_eq_true rfl) (Nat.le_of_ble_eq_true rfl) HPg_11 HPt_0_8 hx1 HPat_0_8) ?_
  refine ev_aload_n (i := 1) 20 dX6_copy_19 rfl rfl rfl ?_
  refine ev_getfield 23 dX6_copy_20 rfl okf_X6_15 (Nat.le_of_ble_eq_true rfl) HPg_10 rfl ?_
  refine ev_aload_n (i := 0) 24 dX6_copy_23 rfl rfl rfl ?_
  refine ev_getfield 27 dX6_copy_24 rfl okf_X6_15 (Nat.le_of_ble_eq_true rfl) HPt_0_7 rfl ?_
  obtain ⟨x2, hx2, hF⟩ := tv_bind hF
  refine ev_callSv 30 [.ref 12, .ref 34] [] dX6_copy_27 rfl okS_X6_40 rfl rfl (Nat.le_of_ble_eq_true rfl) rfl (Nat.le_of_ble_eq_true rfl) (Nat.le_of_ble_eq_true rfl) (R_copyRow (Nat.le_of_ble_eq_true rfl) (Nat.le_of_ble_eq_true rfl) HPg_12 HPt_0_9 hx2 HPat_0_9) ?_
  refine ev_aload_n (i := 1) 31 dX6_copy_30 rfl rfl rfl ?_
  refine ev_getfield 34 dX6_copy_31 rfl okf_X6_18 (Nat.le_of_ble_eq_true rfl) HPg_10 rfl ?_
  refine ev_aload_n (i := 0) 35 dX6_copy_34 rfl rfl rfl ?_
  refine ev_getfield 38 dX6_copy_35 rfl okf_X6_18 (Nat.le_of_ble_eq_true rfl) HPt_0_7 rfl ?_
  obtain ⟨x3, hx3, hF⟩ := tv_bind hF
  refine ev_callSv 41 [.ref 13, .ref 35] [] dX6_copy_38 rfl okS_X6_40 rfl rfl (Nat.le_of_ble_eq_true rfl) rfl (Nat.le_of_ble_eq_true rfl) (Nat.le_of_ble_eq_true rfl) (R_copyRow (Nat.le_of_ble_eq_true rfl) (Nat.le_of_ble_eq_true rfl) HPg_13 HPt_0_10 hx3 HPat_0_10) ?_
  refine ev_aload_n (i := 1) 42 dX6_copy_41 rfl rfl rfl ?_
  refine ev_getfield 45 dX6_copy_42 rfl okf_X6_21 (Nat.le_of_ble_eq_true rfl) HPg_10 rfl ?_
  refine ev_aload_n (i := 0) 46 dX6_copy_45 rfl rfl rfl ?_
  refine ev_getfield 49 dX6_copy_46 rfl okf_X6_21 (Nat.le_of_ble_eq_true rfl) HPt_0_7 rfl ?_
  obtain ⟨x4, hx4, hF⟩ := tv_bind hF
  refine ev_callSv 52 [.ref 14, .ref 36] [] dX6_copy_49 rfl okS_X6_40 rfl rfl (Nat.le_of_ble_eq_true rfl) rfl (Nat.le_of_ble_eq_true rfl) (Nat.le_of_ble_eq_true rfl) (R_copyRow (Nat.le_of_ble_eq_true rfl) (Nat.le_of_ble_eq_true rfl) HPg_14 HPt_0_11 hx4 HPat_0_11) ?_
  refine ev_aload_n (i := 1) 53 dX6_copy_52 rfl rfl rfl ?_
  refine ev_getfield 56 dX6_copy_53 rfl okf_X6_24 (Nat.le_of_ble_eq_true rfl) HPg_10 rfl ?_
  refine ev_aload_n (i := 0) 57 dX6_copy_56 rfl rfl rfl ?_
  refine ev_getfield 60 dX6_copy_57 rfl okf_X6_24 (Nat.le_of_ble_eq_true rfl) HPt_0_7 rfl ?_
  obtain ⟨x5, hx5, hF⟩ := tv_bind hF
  refine ev_callSv 63 [.ref 15, .ref 37] [] dX6_copy_60 rfl okS_X6_40 rfl rfl (Nat.le_of_ble_eq_true rfl) rfl (Nat.le_of_ble_eq_true rfl) (Nat.le_of_ble_eq_true rfl) (R_copyRow (Nat.le_of_ble_eq_true rfl) (Nat.le_of_ble_eq_true rfl) HPg_15 HPt_0_12 hx5 HPat_0_12) ?_
  refine ev_aload_n (i := 1) 64 dX6_copy_63 rfl rfl rfl ?_
  refine ev_getfield 67 dX6_copy_64 rfl okf_X6_27 (Nat.le_of_ble_eq_true rfl) HPg_10 rfl ?_
  refine ev_aload_n (i := 0) 68 dX6_copy_67 rfl rfl rfl ?_
  refine ev_getfield 71 dX6_copy_68 rfl okf_X6_27 (Nat.le_of_ble_eq_true rfl) HPt_0_7 rfl ?_
  obtain ⟨x6, hx6, hF⟩ := tv_bind hF
  refine ev_callSv 74 [.ref 16, .ref 38] [] dX6_copy_71 rfl okS_X6_40 rfl rfl (Nat.le_of_ble_eq_true rfl) rfl (Nat.le_of_ble_eq_true rfl) (Nat.le_of_ble_eq_true rfl) (R_copyRow (Nat.le_of_ble_eq_true rfl) (Nat.le_of_ble_eq_true rfl) HPg_16 HPt_0_13 hx6 HPat_0_13) ?_
  refine ev_aload_n (i := 1) 75 dX6_copy_74 rfl rfl rfl ?_
  refine ev_getfield 78 dX6_copy_75 rfl okf_X6_30 (Nat.le_of_ble_eq_true rfl) HPg_10 rfl ?_
  refine ev_aload_n (i := 0) 79 dX6_copy_78 rfl rfl rfl ?_
  refine ev_getfield 82 dX6_copy_79 rfl okf_X6_30 (Nat.le_of_ble_eq_true rfl) HPt_0_7 rfl ?_
  obtain ⟨x7, hx7, hF⟩ := tv_bind hF
  refine ev_callSv 85 [.ref 17, .ref 39] [] dX6_copy_82 rfl okS_X6_40 rfl rfl (Nat.le_of_ble_eq_true rfl) rfl (Nat.le_of_ble_eq_true rfl) (Nat.le_of_ble_eq_true rfl) (R_copyRow (Nat.le_of_ble_eq_true rfl) (Nat.le_of_ble_eq_true rfl) HPg_17 HPt_0_14 hx7 HPat_0_14) ?_
  refine ev_aload_n (i := 1) 86 dX6_copy_85 rfl rfl rfl ?_
  refine ev_getfield 89 dX6_copy_86 rfl okf_X6_33 (Nat.le_of_ble_eq_true rfl) HPg_10 rfl ?_
  refine ev_aload_n (i := 0) 90 dX6_copy_89 rfl rfl rfl ?_
  refine ev_getfield 93 dX6_copy_90 rfl okf_X6_33 (Nat.le_of_ble_eq_true rfl) HPt_0_7 rfl ?_
  obtain ⟨x8, hx8, hF⟩ := tv_bind hF
  refine ev_callSv 96 [.ref 18, .ref 40] [] dX6_copy_93 rfl okS_X6_40 rfl rfl (Nat.le_of_ble_eq_true rfl) rfl (Nat.le_of_ble_eq_true rfl) (Nat.le_of_ble_eq_true rfl) (R_copyRow (Nat.le_of_ble_eq_true rfl) (Nat.le_of_ble_eq_true rfl) HPg_18 HPt_0_15 hx8 HPat_0_15) ?_
  have hF := Option.some.inj hF
  subst hF
  exact ev_return dX6_copy_96 rfl

set_option maxRecDepth 100000 in
set_option maxHeartbeats 4000000 in
theorem R_X6_copy_to1 {g : tv_G} {l : Launch} {si : Nat → Int32} {sa : Nat → Nat → Int32} {hs : Nat → (Nat → Int32) × (Nat → Nat → Int32)} {tx : Nat → Int32} {tl : Int32} {hc : Int32} {hn : Int32} {v : Nat → Int32} {pa : Nat → Int32} {mt : Nat → Int32} {pm : Int32} {ty : Int32} {ra : Int32} {dI : Nat → Int32} {dA : Nat → Nat → Int32}  {p : (Nat → Int32) × (Nat → Nat → Int32)} (hF : F_X6_copy si sa dI dA = some p) : tv_E g l yX6_copy cX6_copy 2 none 2 0 0 0 [.ref 52, .ref 10] [] (HP si sa (va_up hs 1 (dI, dA)) tx tl hc hn v pa mt pm ty ra) none (HP si sa (va_up hs 1 (p.1, p.2)) tx tl hc hn v pa mt pm ty ra) := by
  unfold F_X6_copy at hF
  refine ev_aload_n (i := 0) 1 dX6_copy_0 rfl rfl rfl ?_
  refine ev_aload_n (i := 1) 2 dX6_copy_1 rfl rfl rfl ?_
  refine ev_getfield 5 dX6_copy_2 rfl okf_X6_36 (Nat.le_of_ble_eq_true rfl) HPg_10 rfl ?_
  refine ev_putfield 8 dX6_copy_5 rfl okf_X6_36 (Nat.le_of_ble_eq_true rfl) HPt_1_7 (Nat.le_of_ble_eq_true rfl) rfl rfl HPst_1_7_0 ?_
  refine ev_aload_n (i := 1) 9 dX6_copy_8 rfl rfl rfl ?_
  refine ev_getfield 12 dX6_copy_9 rfl okf_X6_9 (Nat.le_of_ble_eq_true rfl) HPg_10 rfl ?_
  refine ev_aload_n (i := 0) 13 dX6_copy_12 rfl rfl rfl ?_
  refine ev_getfield 16 dX6_copy_13 rfl okf_X6_9 (Nat.le_of_ble_eq_true rfl) HPt_1_7 rfl ?_
  obtain ⟨x1, hx1, hF⟩ := tv_bind hF
  refine ev_callSv 19 [.ref 11, .ref 53] [] dX6_copy_16 rfl okS_X6_40 rfl rfl (Nat.le_of_ble_eq_true rfl) rfl (Nat.le_of_ble_eq_true rfl) (Nat.le_of_ble_eq_true rfl) (R_copyRow (Nat.le_of_ble_eq_true rfl) (Nat.le_of_ble_eq_true rfl) HPg_11 HPt_1_8 hx1 HPat_1_8) ?_
  refine ev_aload_n (i := 1) 20 dX6_copy_19 rfl rfl rfl ?_
  refine ev_getfield 23 dX6_copy_20 rfl okf_X6_15 (Nat.le_of_ble_eq_true rfl) HPg_10 rfl ?_
  refine ev_aload_n (i := 0) 24 dX6_copy_23 rfl rfl rfl ?_
  refine ev_getfield 27 dX6_copy_24 rfl okf_X6_15 (Nat.le_of_ble_eq_true rfl) HPt_1_7 rfl ?_
  obtain ⟨x2, hx2, hF⟩ := tv_bind hF
  refine ev_callSv 30 [.ref 12, .ref 54] [] dX6_copy_27 rfl okS_X6_40 rfl rfl (Nat.le_of_ble_eq_true rfl) rfl (Nat.le_of_ble_eq_true rfl) (Nat.le_of_ble_eq_true rfl) (R_copyRow (Nat.le_of_ble_eq_true rfl) (Nat.le_of_ble_eq_true rfl) HPg_12 HPt_1_9 hx2 HPat_1_9) ?_
  refine ev_aload_n (i := 1) 31 dX6_copy_30 rfl rfl rfl ?_
  refine ev_getfield 34 dX6_copy_31 rfl okf_X6_18 (Nat.le_of_ble_eq_true rfl) HPg_10 rfl ?_
  refine ev_aload_n (i := 0) 35 dX6_copy_34 rfl rfl rfl ?_
  refine ev_getfield 38 dX6_copy_35 rfl okf_X6_18 (Nat.le_of_ble_eq_true rfl) HPt_1_7 rfl ?_
  obtain ⟨x3, hx3, hF⟩ := tv_bind hF
  refine ev_callSv 41 [.ref 13, .ref 55] [] dX6_copy_38 rfl okS_X6_40 rfl rfl (Nat.le_of_ble_eq_true rfl) rfl (Nat.le_of_ble_eq_true rfl) (Nat.le_of_ble_eq_true rfl) (R_copyRow (Nat.le_of_ble_eq_true rfl) (Nat.le_of_ble_eq_true rfl) HPg_13 HPt_1_10 hx3 HPat_1_10) ?_
  refine ev_aload_n (i := 1) 42 dX6_copy_41 rfl rfl rfl ?_
  refine ev_getfield 45 dX6_copy_42 rfl okf_X6_21 (Nat.le_of_ble_eq_true rfl) HPg_10 rfl ?_
  refine ev_aload_n (i := 0) 46 dX6_copy_45 rfl rfl rfl ?_
  refine ev_getfield 49 dX6_copy_46 rfl okf_X6_21 (Nat.le_of_ble_eq_true rfl) HPt_1_7 rfl ?_
  obtain ⟨x4, hx4, hF⟩ := tv_bind hF
  refine ev_callSv 52 [.ref 14, .ref 56] [] dX6_copy_49 rfl okS_X6_40 rfl rfl (Nat.le_of_ble_eq_true rfl) rfl (Nat.le_of_ble_eq_true rfl) (Nat.le_of_ble_eq_true rfl) (R_copyRow (Nat.le_of_ble_eq_true rfl) (Nat.le_of_ble_eq_true rfl) HPg_14 HPt_1_11 hx4 HPat_1_11) ?_
  refine ev_aload_n (i := 1) 53 dX6_copy_52 rfl rfl rfl ?_
  refine ev_getfield 56 dX6_copy_53 rfl okf_X6_24 (Nat.le_of_ble_eq_true rfl) HPg_10 rfl ?_
  refine ev_aload_n (i := 0) 57 dX6_copy_56 rfl rfl rfl ?_
  refine ev_getfield 60 dX6_copy_57 rfl okf_X6_24 (Nat.le_of_ble_eq_true rfl) HPt_1_7 rfl ?_
  obtain ⟨x5, hx5, hF⟩ := tv_bind hF
  refine ev_callSv 63 [.ref 15, .ref 57] [] dX6_copy_60 rfl okS_X6_40 rfl rfl (Nat.le_of_ble_eq_true rfl) rfl (Nat.le_of_ble_eq_true rfl) (Nat.le_of_ble_eq_true rfl) (R_copyRow (Nat.le_of_ble_eq_true rfl) (Nat.le_of_ble_eq_true rfl) HPg_15 HPt_1_12 hx5 HPat_1_12) ?_
  refine ev_aload_n (i := 1) 64 dX6_copy_63 rfl rfl rfl ?_
  refine ev_getfield 67 dX6_copy_64 rfl okf_X6_27 (Nat.le_of_ble_eq_true rfl) HPg_10 rfl ?_
  refine ev_aload_n (i := 0) 68 dX6_copy_67 rfl rfl rfl ?_
  refine ev_getfield 71 dX6_copy_68 rfl okf_X6_27 (Nat.le_of_ble_eq_true rfl) HPt_1_7 rfl ?_
  obtain ⟨x6, hx6, hF⟩ := tv_bind hF
  refine ev_callSv 74 [.ref 16, .ref 58] [] dX6_copy_71 rfl okS_X6_40 rfl rfl (Nat.le_of_ble_eq_true rfl) rfl (Nat.le_of_ble_eq_true rfl) (Nat.le_of_ble_eq_true rfl) (R_copyRow (Nat.le_of_ble_eq_true rfl) (Nat.le_of_ble_eq_true rfl) HPg_16 HPt_1_13 hx6 HPat_1_13) ?_
  refine ev_aload_n (i := 1) 75 dX6_copy_74 rfl rfl rfl ?_
  refine ev_getfield 78 dX6_copy_75 rfl okf_X6_30 (Nat.le_of_ble_eq_true rfl) HPg_10 rfl ?_
  refine ev_aload_n (i := 0) 79 dX6_copy_78 rfl rfl rfl ?_
  refine ev_getfield 82 dX6_copy_79 rfl okf_X6_30 (Nat.le_of_ble_eq_true rfl) HPt_1_7 rfl ?_
  obtain ⟨x7, hx7, hF⟩ := tv_bind hF
  refine ev_callSv 85 [.ref 17, .ref 59] [] dX6_copy_82 rfl okS_X6_40 rfl rfl (Nat.le_of_ble_eq_true rfl) rfl (Nat.le_of_ble_eq_true rfl) (Nat.le_of_ble_eq_true rfl) (R_copyRow (Nat.le_of_ble_eq_true rfl) (Nat.le_of_ble_eq_true rfl) HPg_17 HPt_1_14 hx7 HPat_1_14) ?_
  refine ev_aload_n (i := 1) 86 dX6_copy_85 rfl rfl rfl ?_
  refine ev_getfield 89 dX6_copy_86 rfl okf_X6_33 (Nat.le_of_ble_eq_true rfl) HPg_10 rfl ?_
  refine ev_aload_n (i := 0) 90 dX6_copy_89 rfl rfl rfl ?_
  refine ev_getfield 93 dX6_copy_90 rfl okf_X6_33 (Nat.le_of_ble_eq_true rfl) HPt_1_7 rfl ?_
  obtain ⟨x8, hx8, hF⟩ := tv_bind hF
  refine ev_callSv 96 [.ref 18, .ref 60] [] dX6_copy_93 rfl okS_X6_40 rfl rfl (Nat.le_of_ble_eq_true rfl) rfl (Nat.le_of_ble_eq_true rfl) (Nat.le_of_ble_eq_true rfl) (R_copyRow (Nat.le_of_ble_eq_true rfl) (Nat.le_of_ble_eq_true rfl) HPg_18 HPt_1_15 hx8 HPat_1_15) ?_
  have hF := Option.some.inj hF
  subst hF
  exact ev_return dX6_copy_96 rfl

set_option maxRecDepth 100000 in
set_option maxHeartbeats 4000000 in
theorem R_X6_copy_to2 {g : tv_G} {l : Launch} {si : Nat → Int32} {sa : Nat → Nat → Int32} {hs : Nat → (Nat → Int32) × (Nat → Nat → Int32)} {tx : Nat → Int32} {tl : Int32} {hc : Int32} {hn : Int32} {v : Nat → Int32} {pa : Nat → Int32} {mt : Nat → Int32} {pm : Int32} {ty : Int32} {ra : Int32} {dI : Nat → Int32} {dA : Nat → Nat → Int32}  {p : (Nat → Int32) × (Nat → Nat → Int32)} (hF : F_X6_copy si sa dI dA = some p) : tv_E g l yX6_copy cX6_copy 2 none 2 0 0 0 [.ref 72, .ref 10] [] (HP si sa (va_up hs 2 (dI, dA)) tx tl hc hn v pa mt pm ty ra) none (HP si sa (va_up hs 2 (p.1, p.2)) tx tl hc hn v pa mt pm ty ra) := by
  unfold F_X6_copy at hF
  refine ev_aload_n (i := 0) 1 dX6_copy_0 rfl rfl rfl ?_
  refine ev_aload_n (i := 1) 2 dX6_copy_1 rfl rfl rfl ?_
  refine ev_getfield 5 dX6_copy_2 rfl okf_X6_36 (Nat.le_of_ble_eq_true rfl) HPg_10 rfl ?_
  refine ev_putfield 8 dX6_copy_5 rfl okf_X6_36 (Nat.le_of_ble_eq_true rfl) HPt_2_7 (Nat.le_of_ble_eq_true rfl) rfl rfl HPst_2_7_0 ?_
  refine ev_aload_n (i := 1) 9 dX6_copy_8 rfl rfl rfl ?_
  refine ev_getfield 12 dX6_copy_9 rfl okf_X6_9 (Nat.le_of_ble_eq_true rfl) HPg_10 rfl ?_
  refine ev_aload_n (i := 0) 13 dX6_copy_12 rfl rfl rfl ?_
  refine ev_getfield 16 dX6_copy_13 rfl okf_X6_9 (Nat.le_of_ble_eq_true rfl) HPt_2_7 rfl ?_
  obtain ⟨x1, hx1, hF⟩ := tv_bind hF
  refine ev_callSv 19 [.ref 11, .ref 73] [] dX6_copy_16 rfl okS_X6_40 rfl rfl (Nat.le_of_ble_eq_true rfl) rfl (Nat.le_of_ble_eq_true rfl) (Nat.le_of_ble_eq_true rfl) (R_copyRow (Nat.le_of_ble_eq_true rfl) (Nat.le_of_ble_eq_true rfl) HPg_11 HPt_2_8 hx1 HPat_2_8) ?_
  refine ev_aload_n (i := 1) 20 dX6_copy_19 rfl rfl rfl ?_
  refine ev_getfield 23 dX6_copy_20 rfl okf_X6_15 (Nat.le_of_ble_eq_true rfl) HPg_10 rfl ?_
  refine ev_aload_n (i := 0) 24 dX6_copy_23 rfl rfl rfl ?_
  refine ev_getfield 27 dX6_copy_24 rfl okf_X6_15 (Nat.le_of_ble_eq_true rfl) HPt_2_7 rfl ?_
  obtain ⟨x2, hx2, hF⟩ := tv_bind hF
  refine ev_callSv 30 [.ref 12, .ref 74] [] dX6_copy_27 rfl okS_X6_40 rfl rfl (Nat.le_of_ble_eq_true rfl) rfl (Nat.le_of_ble_eq_true rfl) (Nat.le_of_ble_eq_true rfl) (R_copyRow (Nat.le_of_ble_eq_true rfl) (Nat.le_of_ble_eq_true rfl) HPg_12 HPt_2_9 hx2 HPat_2_9) ?_
  refine ev_aload_n (i := 1) 31 dX6_copy_30 rfl rfl rfl ?_
  refine ev_getfield 34 dX6_copy_31 rfl okf_X6_18 (Nat.le_of_ble_eq_true rfl) HPg_10 rfl ?_
  refine ev_aload_n (i := 0) 35 dX6_copy_34 rfl rfl rfl ?_
  refine ev_getfield 38 dX6_copy_35 rfl okf_X6_18 (Nat.le_of_ble_eq_true rfl) HPt_2_7 rfl ?_
  obtain ⟨x3, hx3, hF⟩ := tv_bind hF
  refine ev_callSv 41 [.ref 13, .ref 75] [] dX6_copy_38 rfl okS_X6_40 rfl rfl (Nat.le_of_ble_eq_true rfl) rfl (Nat.le_of_ble_eq_true rfl) (Nat.le_of_ble_eq_true rfl) (R_copyRow (Nat.le_of_ble_eq_true rfl) (Nat.le_of_ble_eq_true rfl) HPg_13 HPt_2_10 hx3 HPat_2_10) ?_
  refine ev_aload_n (i := 1) 42 dX6_copy_41 rfl rfl rfl ?_
  refine ev_getfield 45 dX6_copy_42 rfl okf_X6_21 (Nat.le_of_ble_eq_true rfl) HPg_10 rfl ?_
  refine ev_aload_n (i := 0) 46 dX6_copy_45 rfl rfl rfl ?_
  refine ev_getfield 49 dX6_copy_46 rfl okf_X6_21 (Nat.le_of_ble_eq_true rfl) HPt_2_7 rfl ?_
  obtain ⟨x4, hx4, hF⟩ := tv_bind hF
  refine ev_callSv 52 [.ref 14, .ref 76] [] dX6_copy_49 rfl okS_X6_40 rfl rfl (Nat.le_of_ble_eq_true rfl) rfl (Nat.le_of_ble_eq_true rfl) (Nat.le_of_ble_eq_true rfl) (R_copyRow (Nat.le_of_ble_eq_true rfl) (Nat.le_of_ble_eq_true rfl) HPg_14 HPt_2_11 hx4 HPat_2_11) ?_
  refine ev_aload_n (i := 1) 53 dX6_copy_52 rfl rfl rfl ?_
  refine ev_getfield 56 dX6_copy_53 rfl okf_X6_24 (Nat.le_of_ble_eq_true rfl) HPg_10 rfl ?_
  refine ev_aload_n (i := 0) 57 dX6_copy_56 rfl rfl rfl ?_
  refine ev_getfield 60 dX6_copy_57 rfl okf_X6_24 (Nat.le_of_ble_eq_true rfl) HPt_2_7 rfl ?_
  obtain ⟨x5, hx5, hF⟩ := tv_bind hF
  refine ev_callSv 63 [.ref 15, .ref 77] [] dX6_copy_60 rfl okS_X6_40 rfl rfl (Nat.le_of_ble_eq_true rfl) rfl (Nat.le_of_ble_eq_true rfl) (Nat.le_of_ble_eq_true rfl) (R_copyRow (Nat.le_of_ble_eq_true rfl) (Nat.le_of_ble_eq_true rfl) HPg_15 HPt_2_12 hx5 HPat_2_12) ?_
  refine ev_aload_n (i := 1) 64 dX6_copy_63 rfl rfl rfl ?_
  refine ev_getfield 67 dX6_copy_64 rfl okf_X6_27 (Nat.le_of_ble_eq_true rfl) HPg_10 rfl ?_
  refine ev_aload_n (i := 0) 68 dX6_copy_67 rfl rfl rfl ?_
  refine ev_getfield 71 dX6_copy_68 rfl okf_X6_27 (Nat.le_of_ble_eq_true rfl) HPt_2_7 rfl ?_
  obtain ⟨x6, hx6, hF⟩ := tv_bind hF
  refine ev_callSv 74 [.ref 16, .ref 78] [] dX6_copy_71 rfl okS_X6_40 rfl rfl (Nat.le_of_ble_eq_true rfl) rfl (Nat.le_of_ble_eq_true rfl) (Nat.le_of_ble_eq_true rfl) (R_copyRow (Nat.le_of_ble_eq_true rfl) (Nat.le_of_ble_eq_true rfl) HPg_16 HPt_2_13 hx6 HPat_2_13) ?_
  refine ev_aload_n (i := 1) 75 dX6_copy_74 rfl rfl rfl ?_
  refine ev_getfield 78 dX6_copy_75 rfl okf_X6_30 (Nat.le_of_ble_eq_true rfl) HPg_10 rfl ?_
  refine ev_aload_n (i := 0) 79 dX6_copy_78 rfl rfl rfl ?_
  refine ev_getfield 82 dX6_copy_79 rfl okf_X6_30 (Nat.le_of_ble_eq_true rfl) HPt_2_7 rfl ?_
  obtain ⟨x7, hx7, hF⟩ := tv_bind hF
  refine ev_callSv 85 [.ref 17, .ref 79] [] dX6_copy_82 rfl okS_X6_40 rfl rfl (Nat.le_of_ble_eq_true rfl) rfl (Nat.le_of_ble_eq_true rfl) (Nat.le_of_ble_eq_true rfl) (R_copyRow (Nat.le_of_ble_eq_true rfl) (Nat.le_of_ble_eq_true rfl) HPg_17 HPt_2_14 hx7 HPat_2_14) ?_
  refine ev_aload_n (i := 1) 86 dX6_copy_85 rfl rfl rfl ?_
  refine ev_getfield 89 dX6_copy_86 rfl okf_X6_33 (Nat.le_of_ble_eq_true rfl) HPg_10 rfl ?_
  refine ev_aload_n (i := 0) 90 dX6_copy_89 rfl rfl rfl ?_
  refine ev_getfield 93 dX6_copy_90 rfl okf_X6_33 (Nat.le_of_ble_eq_true rfl) HPt_2_7 rfl ?_
  obtain ⟨x8, hx8, hF⟩ := tv_bind hF
  refine ev_callSv 96 [.ref 18, .ref 80] [] dX6_copy_93 rfl okS_X6_40 rfl rfl (Nat.le_of_ble_eq_true rfl) rfl (Nat.le_of_ble_eq_true rfl) (Nat.le_of_ble_eq_true rfl) (R_copyRow (Nat.le_of_ble_eq_true rfl) (Nat.le_of_ble_eq_true rfl) HPg_18 HPt_2_15 hx8 HPat_2_15) ?_
  have hF := Option.some.inj hF
  subst hF
  exact ev_return dX6_copy_96 rfl

set_option maxRecDepth 100000 in
set_option maxHeartbeats 4000000 in
theorem R_X6_copy_to3 {g : tv_G} {l : Launch} {si : Nat → Int32} {sa : Nat → Nat → Int32} {hs : Nat → (Nat → Int32) × (Nat → Nat → Int32)} {tx : Nat → Int32} {tl : Int32} {hc : Int32} {hn : Int32} {v : Nat → Int32} {pa : Nat → Int32} {mt : Nat → Int32} {pm : Int32} {ty : Int32} {ra : Int32} {dI : Nat → Int32} {dA : Nat → Nat → Int32}  {p : (Nat → Int32) × (Nat → Nat → Int32)} (hF : F_X6_copy si sa dI dA = some p) : tv_E g l yX6_copy cX6_copy 2 none 2 0 0 0 [.ref 92, .ref 10] [] (HP si sa (va_up hs 3 (dI, dA)) tx tl hc hn v pa mt pm ty ra) none (HP si sa (va_up hs 3 (p.1, p.2)) tx tl hc hn v pa mt pm ty ra) := by
  unfold F_X6_copy at hF
  refine ev_aload_n (i := 0) 1 dX6_copy_0 rfl rfl rfl ?_
  refine ev_aload_n (i := 1) 2 dX6_copy_1 rfl rfl rfl ?_
  refine ev_getfield 5 dX6_copy_2 rfl okf_X6_36 (Nat.le_of_ble_eq_true rfl) HPg_10 rfl ?_
  refine ev_putfield 8 dX6_copy_5 rfl okf_X6_36 (Nat.le_of_ble_eq_true rfl) HPt_3_7 (Nat.le_of_ble_eq_true rfl) rfl rfl HPst_3_7_0 ?_
  refine ev_aload_n (i := 1) 9 dX6_copy_8 rfl rfl rfl ?_
  refine ev_getfield 12 dX6_copy_9 rfl okf_X6_9 (Nat.le_of_ble_eq_true rfl) HPg_10 rfl ?_
  refine ev_aload_n (i := 0) 13 dX6_copy_12 rfl rfl rfl ?_
  refine ev_getfield 16 dX6_copy_13 rfl okf_X6_9 (Nat.le_of_ble_eq_true rfl) HPt_3_7 rfl ?_
  obtain ⟨x1, hx1, hF⟩ := tv_bind hF
  refine ev_callSv 19 [.ref 11, .ref 93] [] dX6_copy_16 rfl okS_X6_40 rfl rfl (Nat.le_of_ble_eq_true rfl) rfl (Nat.le_of_ble_eq_true rfl) (Nat.le_of_ble_eq_true rfl) (R_copyRow (Nat.le_of_ble_eq_true rfl) (Nat.le_of_ble_eq_true rfl) HPg_11 HPt_3_8 hx1 HPat_3_8) ?_
  refine ev_aload_n (i := 1) 20 dX6_copy_19 rfl rfl rfl ?_
  refine ev_getfield 23 dX6_copy_20 rfl okf_X6_15 (Nat.le_of_ble_eq_true rfl) HPg_10 rfl ?_
  refine ev_aload_n (i := 0) 24 dX6_copy_23 rfl rfl rfl ?_
  refine ev_getfield 27 dX6_copy_24 rfl okf_X6_15 (Nat.le_of_ble_eq_true rfl) HPt_3_7 rfl ?_
  obtain ⟨x2, hx2, hF⟩ := tv_bind hF
  refine ev_callSv 30 [.ref 12, .ref 94] [] dX6_copy_27 rfl okS_X6_40 rfl rfl (Nat.le_of_ble_eq_true rfl) rfl (Nat.le_of_ble_eq_true rfl) (Nat.le_of_ble_eq_true rfl) (R_copyRow (Nat.le_of_ble_eq_true rfl) (Nat.le_of_ble_eq_true rfl) HPg_12 HPt_3_9 hx2 HPat_3_9) ?_
  refine ev_aload_n (i := 1) 31 dX6_copy_30 rfl rfl rfl ?_
  refine ev_getfield 34 dX6_copy_31 rfl okf_X6_18 (Nat.le_of_ble_eq_true rfl) HPg_10 rfl ?_
  refine ev_aload_n (i := 0) 35 dX6_copy_34 rfl rfl rfl ?_
  refine ev_getfield 38 dX6_copy_35 rfl okf_X6_18 (Nat.le_of_ble_eq_true rfl) HPt_3_7 rfl ?_
  obtain ⟨x3, hx3, hF⟩ := tv_bind hF
  refine ev_callSv 41 [.ref 13, .ref 95] [] dX6_copy_38 rfl okS_X6_40 rfl rfl (Nat.le_of_ble_eq_true rfl) rfl (Nat.le_of_ble_eq_true rfl) (Nat.le_of_ble_eq_true rfl) (R_copyRow (Nat.le_of_ble_eq_true rfl) (Nat.le_of_ble_eq_true rfl) HPg_13 HPt_3_10 hx3 HPat_3_10) ?_
  refine ev_aload_n (i := 1) 42 dX6_copy_41 rfl rfl rfl ?_
  refine ev_getfield 45 dX6_copy_42 rfl okf_X6_21 (Nat.le_of_ble_eq_true rfl) HPg_10 rfl ?_
  refine ev_aload_n (i := 0) 46 dX6_copy_45 rfl rfl rfl ?_
  refine ev_getfield 49 dX6_copy_46 rfl okf_X6_21 (Nat.le_of_ble_eq_true rfl) HPt_3_7 rfl ?_
  obtain ⟨x4, hx4, hF⟩ := tv_bind hF
  refine ev_callSv 52 [.ref 14, .ref 96] [] dX6_copy_49 rfl okS_X6_40 rfl rfl (Nat.le_of_ble_eq_true rfl) rfl (Nat.le_of_ble_eq_true rfl) (Nat.le_of_ble_eq_true rfl) (R_copyRow (Nat.le_of_ble_eq_true rfl) (Nat.le_of_ble_eq_true rfl) HPg_14 HPt_3_11 hx4 HPat_3_11) ?_
  refine ev_aload_n (i := 1) 53 dX6_copy_52 rfl rfl rfl ?_
  refine ev_getfield 56 dX6_copy_53 rfl okf_X6_24 (Nat.le_of_ble_eq_true rfl) HPg_10 rfl ?_
  refine ev_aload_n (i := 0) 57 dX6_copy_56 rfl rfl rfl ?_
  refine ev_getfield 60 dX6_copy_57 rfl okf_X6_24 (Nat.le_of_ble_eq_true rfl) HPt_3_7 rfl ?_
  obtain ⟨x5, hx5, hF⟩ := tv_bind hF
  refine ev_callSv 63 [.ref 15, .ref 97] [] dX6_copy_60 rfl okS_X6_40 rfl rfl (Nat.le_of_ble_eq_true rfl) rfl (Nat.le_of_ble_eq_true rfl) (Nat.le_of_ble_eq_true rfl) (R_copyRow (Nat.le_of_ble_eq_true rfl) (Nat.le_of_ble_eq_true rfl) HPg_15 HPt_3_12 hx5 HPat_3_12) ?_
  refine ev_aload_n (i := 1) 64 dX6_copy_63 rfl rfl rfl ?_
  refine ev_getfield 67 dX6_copy_64 rfl okf_X6_27 (Nat.le_of_ble_eq_true rfl) HPg_10 rfl ?_
  refine ev_aload_n (i := 0) 68 dX6_copy_67 rfl rfl rfl ?_
  refine ev_getfield 71 dX6_copy_68 rfl okf_X6_27 (Nat.le_of_ble_eq_true rfl) HPt_3_7 rfl ?_
  obtain ⟨x6, hx6, hF⟩ := tv_bind hF
  refine ev_callSv 74 [.ref 16, .ref 98] [] dX6_copy_71 rfl okS_X6_40 rfl rfl (Nat.le_of_ble_eq_true rfl) rfl (Nat.le_of_ble_eq_true rfl) (Nat.le_of_ble_eq_true rfl) (R_copyRow (Nat.le_of_ble_eq_true rfl) (Nat.le_of_ble_eq_true rfl) HPg_16 HPt_3_13 hx6 HPat_3_13) ?_
  refine ev_aload_n (i := 1) 75 dX6_copy_74 rfl rfl rfl ?_
  refine ev_getfield 78 dX6_copy_75 rfl okf_X6_30 (Nat.le_of_ble_eq_true rfl) HPg_10 rfl ?_
  refine ev_aload_n (i := 0) 79 dX6_copy_78 rfl rfl rfl ?_
  refine ev_getfield 82 dX6_copy_79 rfl okf_X6_30 (Nat.le_of_ble_eq_true rfl) HPt_3_7 rfl ?_
  obtain ⟨x7, hx7, hF⟩ := tv_bind hF
  refine ev_callSv 85 [.ref 17, .ref 99] [] dX6_copy_82 rfl okS_X6_40 rfl rfl (Nat.le_of_ble_eq_true rfl) rfl (Nat.le_of_ble_eq_true rfl) (Nat.le_of_ble_eq_true rfl) (R_copyRow (Nat.le_of_ble_eq_true rfl) (Nat.le_of_ble_eq_true rfl) HPg_17 HPt_3_14 hx7 HPat_3_14) ?_
  refine ev_aload_n (i := 1) 86 dX6_copy_85 rfl rfl rfl ?_
  refine ev_getfield 89 dX6_copy_86 rfl okf_X6_33 (Nat.le_of_ble_eq_true rfl) HPg_10 rfl ?_
  refine ev_aload_n (i := 0) 90 dX6_copy_89 rfl rfl rfl ?_
  refine ev_getfield 93 dX6_copy_90 rfl okf_X6_33 (Nat.le_of_ble_eq_true rfl) HPt_3_7 rfl ?_
  obtain ⟨x8, hx8, hF⟩ := tv_bind hF
  refine ev_callSv 96 [.ref 18, .ref 100] [] dX6_copy_93 rfl okS_X6_40 rfl rfl (Nat.le_of_ble_eq_true rfl) rfl (Nat.le_of_ble_eq_true rfl) (Nat.le_of_ble_eq_true rfl) (R_copyRow (Nat.le_of_ble_eq_true rfl) (Nat.le_of_ble_eq_true rfl) HPg_18 HPt_3_15 hx8 HPat_3_15) ?_
  have hF := Option.some.inj hF
  subst hF
  exact ev_return dX6_copy_96 rfl

set_option maxRecDepth 100000 in
set_option maxHeartbeats 4000000 in
theorem R_X6_copy_to4 {g : tv_G} {l : Launch} {si : Nat → Int32} {sa : Nat → Nat → Int32} {hs : Nat → (Nat → Int32) × (Nat → Nat → Int32)} {tx : Nat → Int32} {tl : Int32} {hc : Int32} {hn : Int32} {v : Nat → Int32} {pa : Nat → Int32} {mt : Nat → Int32} {pm : Int32} {ty : Int32} {ra : Int32} {dI : Nat → Int32} {dA : Nat → Nat → Int32}  {p : (Nat → Int32) × (Nat → Nat → Int32)} (hF : F_X6_copy si sa dI dA = some p) : tv_E g l yX6_copy cX6_copy 2 none 2 0 0 0 [.ref 112, .ref 10] [] (HP si sa (va_up hs 4 (dI, dA)) tx tl hc hn v pa mt pm ty ra) none (HP si sa (va_up hs 4 (p.1, p.2)) tx tl hc hn v pa mt pm ty ra) := by
  unfold F_X6_copy at hF
  refine ev_aload_n (i := 0) 1 dX6_copy_0 rfl rfl rfl ?_
  refine ev_aload_n (i := 1) 2 dX6_copy_1 rfl rfl rfl ?_
  refine ev_getfield 5 dX6_copy_2 rfl okf_X6_36 (Nat.le_of_ble_eq_true rfl) HPg_10 rfl ?_
  refine ev_putfield 8 dX6_copy_5 rfl okf_X6_36 (Nat.le_of_ble_eq_true rfl) HPt_4_7 (Nat.le_of_ble_eq_true rfl) rfl rfl HPst_4_7_0 ?_
  refine ev_aload_n (i := 1) 9 dX6_copy_8 rfl rfl rfl ?_
  refine ev_getfield 12 dX6_copy_9 rfl okf_X6_9 (Nat.le_of_ble_eq_true rfl) HPg_10 rfl ?_
  refine ev_aload_n (i := 0) 13 dX6_copy_12 rfl rfl rfl ?_
  refine ev_getfield 16 dX6_copy_13 rfl okf_X6_9 (Nat.le_of_ble_eq_true rfl) HPt_4_7 rfl ?_
  obtain ⟨x1, hx1, hF⟩ := tv_bind hF
  refine ev_callSv 19 [.ref 11, .ref 113] [] dX6_copy_16 rfl okS_X6_40 rfl rfl (Nat.le_of_ble_eq_true rfl) rfl (Nat.le_of_ble_eq_true rfl) (Nat.le_of_ble_eq_true rfl) (R_copyRow (Nat.le_of_ble_eq_true rfl) (Nat.le_of_ble_eq_true rfl) HPg_11 HPt_4_8 hx1 HPat_4_8) ?_
  refine ev_aload_n (i := 1) 20 dX6_copy_19 rfl rfl rfl ?_
  refine ev_getfield 23 dX6_copy_20 rfl okf_X6_15 (Nat.le_of_ble_eq_true rfl) HPg_10 rfl ?_
  refine ev_aload_n (i := 0) 24 dX6_copy_23 rfl rfl rfl ?_
  refine ev_getfield 27 dX6_copy_24 rfl okf_X6_15 (Nat.le_of_ble_eq_true rfl) HPt_4_7 rfl ?_
  obtain ⟨x2, hx2, hF⟩ := tv_bind hF
  refine ev_callSv 30 [.ref 12, .ref 114] [] dX6_copy_27 rfl okS_X6_40 rfl rfl (Nat.le_of_ble_eq_true rfl) rfl (Nat.le_of_ble_eq_true rfl) (Nat.le_of_ble_eq_true rfl) (R_copyRow (Nat.le_of_ble_eq_true rfl) (Nat.le_of_ble_eq_true rfl) HPg_12 HPt_4_9 hx2 HPat_4_9) ?_
  refine ev_aload_n (i := 1) 31 dX6_copy_30 rfl rfl rfl ?_
  refine ev_getfield 34 dX6_copy_31 rfl okf_X6_18 (Nat.le_of_ble_eq_true rfl) HPg_10 rfl ?_
  refine ev_aload_n (i := 0) 35 dX6_copy_34 rfl rfl rfl ?_
  refine ev_getfield 38 dX6_copy_35 rfl okf_X6_18 (Nat.le_of_ble_eq_true rfl) HPt_4_7 rfl ?_
  obtain ⟨x3, hx3, hF⟩ := tv_bind hF
  refine ev_callSv 41 [.ref 13, .ref 115] [] dX6_copy_38 rfl okS_X6_40 rfl rfl (Nat.le_of_ble_eq_true rfl) rfl (Nat.le_of_ble_eq_true rfl) (Nat.le_of_ble_eq_true rfl) (R_copyRow (Nat.le_of_ble_eq_true rfl) (Nat.le_of_ble_eq_true rfl) HPg_13 HPt_4_10 hx3 HPat_4_10) ?_
  refine ev_aload_n (i := 1) 42 dX6_copy_41 rfl rfl rfl ?_
  refine ev_getfield 45 dX6_copy_42 rfl okf_X6_21 (Nat.le_of_ble_eq_true rfl) HPg_10 rfl ?_
  refine ev_aload_n (i := 0) 46 dX6_copy_45 rfl rfl rfl ?_
  refine ev_getfield 49 dX6_copy_46 rfl okf_X6_21 (Nat.le_of_ble_eq_true rfl) HPt_4_7 rfl ?_
  obtain ⟨x4, hx4, hF⟩ := tv_bind hF
  refine ev_callSv 52 [.ref 14, .ref 116] [] dX6_copy_49 rfl okS_X6_40 rfl rfl (Nat.le_of_ble_eq_true rfl) rfl (Nat.le_of_ble_eq_true rfl) (Nat.le_of_ble_eq_true rfl) (R_copyRow (Nat.le_of_ble_eq_true rfl) (Nat.le_of_ble_eq_true rfl) HPg_14 HPt_4_11 hx4 HPat_4_11) ?_
  refine ev_aload_n (i := 1) 53 dX6_copy_52 rfl rfl rfl ?_
  refine ev_getfield 56 dX6_copy_53 rfl okf_X6_24 (Nat.le_of_ble_eq_true rfl) HPg_10 rfl ?_
  refine ev_aload_n (i := 0) 57 dX6_copy_56 rfl rfl rfl ?_
  refine ev_getfield 60 dX6_copy_57 rfl okf_X6_24 (Nat.le_of_ble_eq_true rfl) HPt_4_7 rfl ?_
  obtain ⟨x5, hx5, hF⟩ := tv_bind hF
  refine ev_callSv 63 [.ref 15, .ref 117] [] dX6_copy_60 rfl okS_X6_40 rfl rfl (Nat.le_of_ble_eq_true rfl) rfl (Nat.le_of_ble_eq_true rfl) (Nat.le_of_ble_eq_true rfl) (R_copyRow (Nat.le_of_ble_eq_true rfl) (Nat.le_of_ble_eq_true rfl) HPg_15 HPt_4_12 hx5 HPat_4_12) ?_
  refine ev_aload_n (i := 1) 64 dX6_copy_63 rfl rfl rfl ?_
  refine ev_getfield 67 dX6_copy_64 rfl okf_X6_27 (Nat.le_of_ble_eq_true rfl) HPg_10 rfl ?_
  refine ev_aload_n (i := 0) 68 dX6_copy_67 rfl rfl rfl ?_
  refine ev_getfield 71 dX6_copy_68 rfl okf_X6_27 (Nat.le_of_ble_eq_true rfl) HPt_4_7 rfl ?_
  obtain ⟨x6, hx6, hF⟩ := tv_bind hF
  refine ev_callSv 74 [.ref 16, .ref 118] [] dX6_copy_71 rfl okS_X6_40 rfl rfl (Nat.le_of_ble_eq_true rfl) rfl (Nat.le_of_ble_eq_true rfl) (Nat.le_of_ble_eq_true rfl) (R_copyRow (Nat.le_of_ble_eq_true rfl) (Nat.le_of_ble_eq_true rfl) HPg_16 HPt_4_13 hx6 HPat_4_13) ?_
  refine ev_aload_n (i := 1) 75 dX6_copy_74 rfl rfl rfl ?_
  refine ev_getfield 78 dX6_copy_75 rfl okf_X6_30 (Nat.le_of_ble_eq_true rfl) HPg_10 rfl ?_
  refine ev_aload_n (i := 0) 79 dX6_copy_78 rfl rfl rfl ?_
  refine ev_getfield 82 dX6_copy_79 rfl okf_X6_30 (Nat.le_of_ble_eq_true rfl) HPt_4_7 rfl ?_
  obtain ⟨x7, hx7, hF⟩ := tv_bind hF
  refine ev_callSv 85 [.ref 17, .ref 119] [] dX6_copy_82 rfl okS_X6_40 rfl rfl (Nat.le_of_ble_eq_true rfl) rfl (Nat.le_of_ble_eq_true rfl) (Nat.le_of_ble_eq_true rfl) (R_copyRow (Nat.le_of_ble_eq_true rfl) (Nat.le_of_ble_eq_true rfl) HPg_17 HPt_4_14 hx7 HPat_4_14) ?_
  refine ev_aload_n (i := 1) 86 dX6_copy_85 rfl rfl rfl ?_
  refine ev_getfield 89 dX6_copy_86 rfl okf_X6_33 (Nat.le_of_ble_eq_true rfl) HPg_10 rfl ?_
  refine ev_aload_n (i := 0) 90 dX6_copy_89 rfl rfl rfl ?_
  refine ev_getfield 93 dX6_copy_90 rfl okf_X6_33 (Nat.le_of_ble_eq_true rfl) HPt_4_7 rfl ?_
  obtain ⟨x8, hx8, hF⟩ := tv_bind hF
  refine ev_callSv 96 [.ref 18, .ref 120] [] dX6_copy_93 rfl okS_X6_40 rfl rfl (Nat.le_of_ble_eq_true rfl) rfl (Nat.le_of_ble_eq_true rfl) (Nat.le_of_ble_eq_true rfl) (R_copyRow (Nat.le_of_ble_eq_true rfl) (Nat.le_of_ble_eq_true rfl) HPg_18 HPt_4_15 hx8 HPat_4_15) ?_
  have hF := Option.some.inj hF
  subst hF
  exact ev_return dX6_copy_96 rfl

set_option maxRecDepth 100000 in
set_option maxHeartbeats 4000000 in
theorem R_X6_copy_from0 {g : tv_G} {l : Launch} {si : Nat → Int32} {sa : Nat → Nat → Int32} {hs : Nat → (Nat → Int32) × (Nat → Nat → Int32)} {tx : Nat → Int32} {tl : Int32} {hc : Int32} {hn : Int32} {v : Nat → Int32} {pa : Nat → Int32} {mt : Nat → Int32} {pm : Int32} {ty : Int32} {ra : Int32}  {p : (Nat → Int32) × (Nat → Nat → Int32)} (hF : F_X6_copy (hs 0).1 (hs 0).2 si sa = some p) : tv_E g l yX6_copy cX6_copy 2 none 2 0 0 0 [.ref 10, .ref 32] [] (HP si sa hs tx tl hc hn v pa mt pm ty ra) none (HP p.1 p.2 hs tx tl hc hn v pa mt pm ty ra) := by
  unfold F_X6_copy at hF
  refine ev_aload_n (i := 0) 1 dX6_copy_0 rfl rfl rfl ?_
  refine ev_aload_n (i := 1) 2 dX6_copy_1 rfl rfl rfl ?_
  refine ev_getfield 5 dX6_copy_2 rfl okf_X6_36 (Nat.le_of_ble_eq_true rfl) HPf_0_7 rfl ?_
  refine ev_putfield 8 dX6_copy_5 rfl okf_X6_36 (Nat.le_of_ble_eq_true rfl) HPg_10 (Nat.le_of_ble_eq_true rfl) rfl rfl HPs_10_0 ?_
  refine ev_aload_n (i := 1) 9 dX6_copy_8 rfl rfl rfl ?_
  refine ev_getfield 12 dX6_copy_9 rfl okf_X6_9 (Nat.le_of_ble_eq_true rfl) HPf_0_7 rfl ?_
  refine ev_aload_n (i := 0) 13 dX6_copy_12 rfl rfl rfl ?_
  refine ev_getfield 16 dX6_copy_13 rfl okf_X6_9 (Nat.le_of_ble_eq_true rfl) HPg_10 rfl ?_
  obtain ⟨x1, hx1, hF⟩ := tv_bind hF
  refine ev_callSv 19 [.ref 33, .ref 11] [] dX6_copy_16 rfl okS_X6_40 rfl rfl (Nat.le_of_ble_eq_true rfl) rfl (Nat.le_of_ble_eq_true rfl) (Nat.le_of_ble_eq_true rfl) (R_copyRow (Nat.le_of_ble_eq_true rfl) (Nat.le_of_ble_eq_true rfl) HPf_0_8 HPg_11 hx1 HPa_11) ?_
  refine ev_aload_n (i := 1) 20 dX6_copy_19 rfl rfl rfl ?_
  refine ev_getfield 23 dX6_copy_20 rfl okf_X6_15 (Nat.le_of_ble_eq_true rfl) HPf_0_7 rfl ?_
  refine ev_aload_n (i := 0) 24 dX6_copy_23 rfl rfl rfl ?_
  refine ev_getfield 27 dX6_copy_24 rfl okf_X6_15 (Nat.le_of_ble_eq_true rfl) HPg_10 rfl ?_
  obtain ⟨x2, hx2, hF⟩ := tv_bind hF
  refine ev_callSv 30 [.ref 34, .ref 12] [] dX6_copy_27 rfl okS_X6_40 rfl rfl (Nat.le_of_ble_eq_true rfl) rfl (Nat.le_of_ble_eq_true rfl) (Nat.le_of_ble_eq_true rfl) (R_copyRow (Nat.le_of_ble_eq_true rfl) (Nat.le_of_ble_eq_true rfl) HPf_0_9 HPg_12 hx2 HPa_12) ?_
  refine ev_aload_n (i := 1) 31 dX6_copy_30 rfl rfl rfl ?_
  refine ev_getfield 34 dX6_copy_31 rfl okf_X6_18 (Nat.le_of_ble_eq_true rfl) HPf_0_7 rfl ?_
  refine ev_aload_n (i := 0) 35 dX6_copy_34 rfl rfl rfl ?_
  refine ev_getfield 38 dX6_copy_35 rfl okf_X6_18 (Nat.le_of_ble_eq_true rfl) HPg_10 rfl ?_
  obtain ⟨x3, hx3, hF⟩ := tv_bind hF
  refine ev_callSv 41 [.ref 35, .ref 13] [] dX6_copy_38 rfl okS_X6_40 rfl rfl (Nat.le_of_ble_eq_true rfl) rfl (Nat.le_of_ble_eq_true rfl) (Nat.le_of_ble_eq_true rfl) (R_copyRow (Nat.le_of_ble_eq_true rfl) (Nat.le_of_ble_eq_true rfl) HPf_0_10 HPg_13 hx3 HPa_13) ?_
  refine ev_aload_n (i := 1) 42 dX6_copy_41 rfl rfl rfl ?_
  refine ev_getfield 45 dX6_copy_42 rfl okf_X6_21 (Nat.le_of_ble_eq_true rfl) HPf_0_7 rfl ?_
  refine ev_aload_n (i := 0) 46 dX6_copy_45 rfl rfl rfl ?_
  refine ev_getfield 49 dX6_copy_46 rfl okf_X6_21 (Nat.le_of_ble_eq_true rfl) HPg_10 rfl ?_
  obtain ⟨x4, hx4, hF⟩ := tv_bind hF
  refine ev_callSv 52 [.ref 36, .ref 14] [] dX6_copy_49 rfl okS_X6_40 rfl rfl (Nat.le_of_ble_eq_true rfl) rfl (Nat.le_of_ble_eq_true rfl) (Nat.le_of_ble_eq_true rfl) (R_copyRow (Nat.le_of_ble_eq_true rfl) (Nat.le_of_ble_eq_true rfl) HPf_0_11 HPg_14 hx4 HPa_14) ?_
  refine ev_aload_n (i := 1) 53 dX6_copy_52 rfl rfl rfl ?_
  refine ev_getfield 56 dX6_copy_53 rfl okf_X6_24 (Nat.le_of_ble_eq_true rfl) HPf_0_7 rfl ?_
  refine ev_aload_n (i := 0) 57 dX6_copy_56 rfl rfl rfl ?_
  refine ev_getfield 60 dX6_copy_57 rfl okf_X6_24 (Nat.le_of_ble_eq_true rfl) HPg_10 rfl ?_
  obtain ⟨x5, hx5, hF⟩ := tv_bind hF
  refine ev_callSv 63 [.ref 37, .ref 15] [] dX6_copy_60 rfl okS_X6_40 rfl rfl (Nat.le_of_ble_eq_true rfl) rfl (Nat.le_of_ble_eq_true rfl) (Nat.le_of_ble_eq_true rfl) (R_copyRow (Nat.le_of_ble_eq_true rfl) (Nat.le_of_ble_eq_true rfl) HPf_0_12 HPg_15 hx5 HPa_15) ?_
  refine ev_aload_n (i := 1) 64 dX6_copy_63 rfl rfl rfl ?_
  refine ev_getfield 67 dX6_copy_64 rfl okf_X6_27 (Nat.le_of_ble_eq_true rfl) HPf_0_7 rfl ?_
  refine ev_aload_n (i := 0) 68 dX6_copy_67 rfl rfl rfl ?_
  refine ev_getfield 71 dX6_copy_68 rfl okf_X6_27 (Nat.le_of_ble_eq_true rfl) HPg_10 rfl ?_
  obtain ⟨x6, hx6, hF⟩ := tv_bind hF
  refine ev_callSv 74 [.ref 38, .ref 16] [] dX6_copy_71 rfl okS_X6_40 rfl rfl (Nat.le_of_ble_eq_true rfl) rfl (Nat.le_of_ble_eq_true rfl) (Nat.le_of_ble_eq_true rfl) (R_copyRow (Nat.le_of_ble_eq_true rfl) (Nat.le_of_ble_eq_true rfl) HPf_0_13 HPg_16 hx6 HPa_16) ?_
  refine ev_aload_n (i := 1) 75 dX6_copy_74 rfl rfl rfl ?_
  refine ev_getfield 78 dX6_copy_75 rfl okf_X6_30 (Nat.le_of_ble_eq_true rfl) HPf_0_7 rfl ?_
  refine ev_aload_n (i := 0) 79 dX6_copy_78 rfl rfl rfl ?_
  refine ev_getfield 82 dX6_copy_79 rfl okf_X6_30 (Nat.le_of_ble_eq_true rfl) HPg_10 rfl ?_
  obtain ⟨x7, hx7, hF⟩ := tv_bind hF
  refine ev_callSv 85 [.ref 39, .ref 17] [] dX6_copy_82 rfl okS_X6_40 rfl rfl (Nat.le_of_ble_eq_true rfl) rfl (Nat.le_of_ble_eq_true rfl) (Nat.le_of_ble_eq_true rfl) (R_copyRow (Nat.le_of_ble_eq_true rfl) (Nat.le_of_ble_eq_true rfl) HPf_0_14 HPg_17 hx7 HPa_17) ?_
  refine ev_aload_n (i := 1) 86 dX6_copy_85 rfl rfl rfl ?_
  refine ev_getfield 89 dX6_copy_86 rfl okf_X6_33 (Nat.le_of_ble_eq_true rfl) HPf_0_7 rfl ?_
  refine ev_aload_n (i := 0) 90 dX6_copy_89 rfl rfl rfl ?_
  refine ev_getfield 93 dX6_copy_90 rfl okf_X6_33 (Nat.le_of_ble_eq_true rfl) HPg_10 rfl ?_
  obtain ⟨x8, hx8, hF⟩ := tv_bind hF
  refine ev_callSv 96 [.ref 40, .ref 18] [] dX6_copy_93 rfl okS_X6_40 rfl rfl (Nat.le_of_ble_eq_true rfl) rfl (Nat.le_of_ble_eq_true rfl) (Nat.le_of_ble_eq_true rfl) (R_copyRow (Nat.le_of_ble_eq_true rfl) (Nat.le_of_ble_eq_true rfl) HPf_0_15 HPg_18 hx8 HPa_18) ?_
  have hF := Option.some.inj hF
  subst hF
  exact ev_return dX6_copy_96 rfl

set_option maxRecDepth 100000 in
set_option maxHeartbeats 4000000 in
theorem R_X6_copy_from1 {g : tv_G} {l : Launch} {si : Nat → Int32} {sa : Nat → Nat → Int32} {hs : Nat → (Nat → Int32) × (Nat → Nat → Int32)} {tx : Nat → Int32} {tl : Int32} {hc : Int32} {hn : Int32} {v : Nat → Int32} {pa : Nat → Int32} {mt : Nat → Int32} {pm : Int32} {ty : Int32} {ra : Int32}  {p : (Nat → Int32) × (Nat → Nat → Int32)} (hF : F_X6_copy (hs 1).1 (hs 1).2 si sa = some p) : tv_E g l yX6_copy cX6_copy 2 none 2 0 0 0 [.ref 10, .ref 52] [] (HP si sa hs tx tl hc hn v pa mt pm ty ra) none (HP p.1 p.2 hs tx tl hc hn v pa mt pm ty ra) := by
  unfold F_X6_copy at hF
  refine ev_aload_n (i := 0) 1 dX6_copy_0 rfl rfl rfl ?_
  refine ev_aload_n (i := 1) 2 dX6_copy_1 rfl rfl rfl ?_
  refine ev_getfield 5 dX6_copy_2 rfl okf_X6_36 (Nat.le_of_ble_eq_true rfl) HPf_1_7 rfl ?_
  refine ev_putfield 8 dX6_copy_5 rfl okf_X6_36 (Nat.le_of_ble_eq_true rfl) HPg_10 (Nat.le_of_ble_eq_true rfl) rfl rfl HPs_10_0 ?_
  refine ev_aload_n (i := 1) 9 dX6_copy_8 rfl rfl rfl ?_
  refine ev_getfield 12 dX6_copy_9 rfl okf_X6_9 (Nat.le_of_ble_eq_true rfl) HPf_1_7 rfl ?_
  refine ev_aload_n (i := 0) 13 dX6_copy_12 rfl rfl rfl ?_
  refine ev_getfield 16 dX6_copy_13 rfl okf_X6_9 (Nat.le_of_ble_eq_true rfl) HPg_10 rfl ?_
  obtain ⟨x1, hx1, hF⟩ := tv_bind hF
  refine ev_callSv 19 [.ref 53, .ref 11] [] dX6_copy_16 rfl okS_X6_40 rfl rfl (Nat.le_of_ble_eq_true rfl) rfl (Nat.le_of_ble_eq_true rfl) (Nat.le_of_ble_eq_true rfl) (R_copyRow (Nat.le_of_ble_eq_true rfl) (Nat.le_of_ble_eq_true rfl) HPf_1_8 HPg_11 hx1 HPa_11) ?_
  refine ev_aload_n (i := 1) 20 dX6_copy_19 rfl rfl rfl ?_
  refine ev_getfield 23 dX6_copy_20 rfl okf_X6_15 (Nat.le_of_ble_eq_true rfl) HPf_1_7 rfl ?_
  refine ev_aload_n (i := 0) 24 dX6_copy_23 rfl rfl rfl ?_
  refine ev_getfield 27 dX6_copy_24 rfl okf_X6_15 (Nat.le_of_ble_eq_true rfl) HPg_10 rfl ?_
  obtain ⟨x2, hx2, hF⟩ := tv_bind hF
  refine ev_callSv 30 [.ref 54, .ref 12] [] dX6_copy_27 rfl okS_X6_40 rfl rfl (Nat.le_of_ble_eq_true rfl) rfl (Nat.le_of_ble_eq_true rfl) (Nat.le_of_ble_eq_true rfl) (R_copyRow (Nat.le_of_ble_eq_true rfl) (Nat.le_of_ble_eq_true rfl) HPf_1_9 HPg_12 hx2 HPa_12) ?_
  refine ev_aload_n (i := 1) 31 dX6_copy_30 rfl rfl rfl ?_
  refine ev_getfield 34 dX6_copy_31 rfl okf_X6_18 (Nat.le_of_ble_eq_true rfl) HPf_1_7 rfl ?_
  refine ev_aload_n (i := 0) 35 dX6_copy_34 rfl rfl rfl ?_
  refine ev_getfield 38 dX6_copy_35 rfl okf_X6_18 (Nat.le_of_ble_eq_true rfl) HPg_10 rfl ?_
  obtain ⟨x3, hx3, hF⟩ := tv_bind hF
  refine ev_callSv 41 [.ref 55, .ref 13] [] dX6_copy_38 rfl okS_X6_40 rfl rfl (Nat.le_of_ble_eq_true rfl) rfl (Nat.le_of_ble_eq_true rfl) (Nat.le_of_ble_eq_true rfl) (R_copyRow (Nat.le_of_ble_eq_true rfl) (Nat.le_of_ble_eq_true rfl) HPf_1_10 HPg_13 hx3 HPa_13) ?_
  refine ev_aload_n (i := 1) 42 dX6_copy_41 rfl rfl rfl ?_
  refine ev_getfield 45 dX6_copy_42 rfl okf_X6_21 (Nat.le_of_ble_eq_true rfl) HPf_1_7 rfl ?_
  refine ev_aload_n (i := 0) 46 dX6_copy_45 rfl rfl rfl ?_
  refine ev_getfield 49 dX6_copy_46 rfl okf_X6_21 (Nat.le_of_ble_eq_true rfl) HPg_10 rfl ?_
  obtain ⟨x4, hx4, hF⟩ := tv_bind hF
  refine ev_callSv 52 [.ref 56, .ref 14] [] dX6_copy_49 rfl okS_X6_40 rfl rfl (Nat.le_of_ble_eq_true rfl) rfl (Nat.le_of_ble_eq_true rfl) (Nat.le_of_ble_eq_true rfl) (R_copyRow (Nat.le_of_ble_eq_true rfl) (Nat.le_of_ble_eq_true rfl) HPf_1_11 HPg_14 hx4 HPa_14) ?_
  refine ev_aload_n (i := 1) 53 dX6_copy_52 rfl rfl rfl ?_
  refine ev_getfield 56 dX6_copy_53 rfl okf_X6_24 (Nat.le_of_ble_eq_true rfl) HPf_1_7 rfl ?_
  refine ev_aload_n (i := 0) 57 dX6_copy_56 rfl rfl rfl ?_
  refine ev_getfield 60 dX6_copy_57 rfl okf_X6_24 (Nat.le_of_ble_eq_true rfl) HPg_10 rfl ?_
  obtain ⟨x5, hx5, hF⟩ := tv_bind hF
  refine ev_callSv 63 [.ref 57, .ref 15] [] dX6_copy_60 rfl okS_X6_40 rfl rfl (Nat.le_of_ble_eq_true rfl) rfl (Nat.le_of_ble_eq_true rfl) (Nat.le_of_ble_eq_true rfl) (R_copyRow (Nat.le_of_ble_eq_true rfl) (Nat.le_of_ble_eq_true rfl) HPf_1_12 HPg_15 hx5 HPa_15) ?_
  refine ev_aload_n (i := 1) 64 dX6_copy_63 rfl rfl rfl ?_
  refine ev_getfield 67 dX6_copy_64 rfl okf_X6_27 (Nat.le_of_ble_eq_true rfl) HPf_1_7 rfl ?_
  refine ev_aload_n (i := 0) 68 dX6_copy_67 rfl rfl rfl ?_
  refine ev_getfield 71 dX6_copy_68 rfl okf_X6_27 (Nat.le_of_ble_eq_true rfl) HPg_10 rfl ?_
  obtain ⟨x6, hx6, hF⟩ := tv_bind hF
  refine ev_callSv 74 [.ref 58, .ref 16] [] dX6_copy_71 rfl okS_X6_40 rfl rfl (Nat.le_of_ble_eq_true rfl) rfl (Nat.le_of_ble_eq_true rfl) (Nat.le_of_ble_eq_true rfl) (R_copyRow (Nat.le_of_ble_eq_true rfl) (Nat.le_of_ble_eq_true rfl) HPf_1_13 HPg_16 hx6 HPa_16) ?_
  refine ev_aload_n (i := 1) 75 dX6_copy_74 rfl rfl rfl ?_
  refine ev_getfield 78 dX6_copy_75 rfl okf_X6_30 (Nat.le_of_ble_eq_true rfl) HPf_1_7 rfl ?_
  refine ev_aload_n (i := 0) 79 dX6_copy_78 rfl rfl rfl ?_
  refine ev_getfield 82 dX6_copy_79 rfl okf_X6_30 (Nat.le_of_ble_eq_true rfl) HPg_10 rfl ?_
  obtain ⟨x7, hx7, hF⟩ := tv_bind hF
  refine ev_callSv 85 [.ref 59, .ref 17] [] dX6_copy_82 rfl okS_X6_40 rfl rfl (Nat.le_of_ble_eq_true rfl) rfl (Nat.le_of_ble_eq_true rfl) (Nat.le_of_ble_eq_true rfl) (R_copyRow (Nat.le_of_ble_eq_true rfl) (Nat.le_of_ble_eq_true rfl) HPf_1_14 HPg_17 hx7 HPa_17) ?_
  refine ev_aload_n (i := 1) 86 dX6_copy_85 rfl rfl rfl ?_
  refine ev_getfield 89 dX6_copy_86 rfl okf_X6_33 (Nat.le_of_ble_eq_true rfl) HPf_1_7 rfl ?_
  refine ev_aload_n (i := 0) 90 dX6_copy_89 rfl rfl rfl ?_
  refine ev_getfield 93 dX6_copy_90 rfl okf_X6_33 (Nat.le_of_ble_eq_true rfl) HPg_10 rfl ?_
  obtain ⟨x8, hx8, hF⟩ := tv_bind hF
  refine ev_callSv 96 [.ref 60, .ref 18] [] dX6_copy_93 rfl okS_X6_40 rfl rfl (Nat.le_of_ble_eq_true rfl) rfl (Nat.le_of_ble_eq_true rfl) (Nat.le_of_ble_eq_true rfl) (R_copyRow (Nat.le_of_ble_eq_true rfl) (Nat.le_of_ble_eq_true rfl) HPf_1_15 HPg_18 hx8 HPa_18) ?_
  have hF := Option.some.inj hF
  subst hF
  exact ev_return dX6_copy_96 rfl

set_option maxRecDepth 100000 in
set_option maxHeartbeats 4000000 in
theorem R_X6_copy_from2 {g : tv_G} {l : Launch} {si : Nat → Int32} {sa : Nat → Nat → Int32} {hs : Nat → (Nat → Int32) × (Nat → Nat → Int32)} {tx : Nat → Int32} {tl : Int32} {hc : Int32} {hn : Int32} {v : Nat → Int32} {pa : Nat → Int32} {mt : Nat → Int32} {pm : Int32} {ty : Int32} {ra : Int32}  {p : (Nat → Int32) × (Nat → Nat → Int32)} (hF : F_X6_copy (hs 2).1 (hs 2).2 si sa = some p) : tv_E g l yX6_copy cX6_copy 2 none 2 0 0 0 [.ref 10, .ref 72] [] (HP si sa hs tx tl hc hn v pa mt pm ty ra) none (HP p.1 p.2 hs tx tl hc hn v pa mt pm ty ra) := by
  unfold F_X6_copy at hF
  refine ev_aload_n (i := 0) 1 dX6_copy_0 rfl rfl rfl ?_
  refine ev_aload_n (i := 1) 2 dX6_copy_1 rfl rfl rfl ?_
  refine ev_getfield 5 dX6_copy_2 rfl okf_X6_36 (Nat.le_of_ble_eq_true rfl) HPf_2_7 rfl ?_
  refine ev_putfield 8 dX6_copy_5 rfl okf_X6_36 (Nat.le_of_ble_eq_true rfl) HPg_10 (Nat.le_of_ble_eq_true rfl) rfl rfl HPs_10_0 ?_
  refine ev_aload_n (i := 1) 9 dX6_copy_8 rfl rfl rfl ?_
  refine ev_getfield 12 dX6_copy_9 rfl okf_X6_9 (Nat.le_of_ble_eq_true rfl) HPf_2_7 rfl ?_
  refine ev_aload_n (i := 0) 13 dX6_copy_12 rfl rfl rfl ?_
  refine ev_getfield 16 dX6_copy_13 rfl okf_X6_9 (Nat.le_of_ble_eq_true rfl) HPg_10 rfl ?_
  obtain ⟨x1, hx1, hF⟩ := tv_bind hF
  refine ev_callSv 19 [.ref 73, .ref 11] [] dX6_copy_16 rfl okS_X6_40 rfl rfl (Nat.le_of_ble_eq_true rfl) rfl (Nat.le_of_ble_eq_true rfl) (Nat.le_of_ble_eq_true rfl) (R_copyRow (Nat.le_of_ble_eq_true rfl) (Nat.le_of_ble_eq_true rfl) HPf_2_8 HPg_11 hx1 HPa_11) ?_
  refine ev_aload_n (i := 1) 20 dX6_copy_19 rfl rfl rfl ?_
  refine ev_getfield 23 dX6_copy_20 rfl okf_X6_15 (Nat.le_of_ble_eq_true rfl) HPf_2_7 rfl ?_
  refine ev_aload_n (i := 0) 24 dX6_copy_23 rfl rfl rfl ?_
  refine ev_getfield 27 dX6_copy_24 rfl okf_X6_15 (Nat.le_of_ble_eq_true rfl) HPg_10 rfl ?_
  obtain ⟨x2, hx2, hF⟩ := tv_bind hF
  refine ev_callSv 30 [.ref 74, .ref 12] [] dX6_copy_27 rfl okS_X6_40 rfl rfl (Nat.le_of_ble_eq_true rfl) rfl (Nat.le_of_ble_eq_true rfl) (Nat.le_of_ble_eq_true rfl) (R_copyRow (Nat.le_of_ble_eq_true rfl) (Nat.le_of_ble_eq_true rfl) HPf_2_9 HPg_12 hx2 HPa_12) ?_
  refine ev_aload_n (i := 1) 31 dX6_copy_30 rfl rfl rfl ?_
  refine ev_getfield 34 dX6_copy_31 rfl okf_X6_18 (Nat.le_of_ble_eq_true rfl) HPf_2_7 rfl ?_
  refine ev_aload_n (i := 0) 35 dX6_copy_34 rfl rfl rfl ?_
  refine ev_getfield 38 dX6_copy_35 rfl okf_X6_18 (Nat.le_of_ble_eq_true rfl) HPg_10 rfl ?_
  obtain ⟨x3, hx3, hF⟩ := tv_bind hF
  refine ev_callSv 41 [.ref 75, .ref 13] [] dX6_copy_38 rfl okS_X6_40 rfl rfl (Nat.le_of_ble_eq_true rfl) rfl (Nat.le_of_ble_eq_true rfl) (Nat.le_of_ble_eq_true rfl) (R_copyRow (Nat.le_of_ble_eq_true rfl) (Nat.le_of_ble_eq_true rfl) HPf_2_10 HPg_13 hx3 HPa_13) ?_
  refine ev_aload_n (i := 1) 42 dX6_copy_41 rfl rfl rfl ?_
  refine ev_getfield 45 dX6_copy_42 rfl okf_X6_21 (Nat.le_of_ble_eq_true rfl) HPf_2_7 rfl ?_
  refine ev_aload_n (i := 0) 46 dX6_copy_45 rfl rfl rfl ?_
  refine ev_getfield 49 dX6_copy_46 rfl okf_X6_21 (Nat.le_of_ble_eq_true rfl) HPg_10 rfl ?_
  obtain ⟨x4, hx4, hF⟩ := tv_bind hF
  refine ev_callSv 52 [.ref 76, .ref 14] [] dX6_copy_49 rfl okS_X6_40 rfl rfl (Nat.le_of_ble_eq_true rfl) rfl (Nat.le_of_ble_eq_true rfl) (Nat.le_of_ble_eq_true rfl) (R_copyRow (Nat.le_of_ble_eq_true rfl) (Nat.le_of_ble_eq_true rfl) HPf_2_11 HPg_14 hx4 HPa_14) ?_
  refine ev_aload_n (i := 1) 53 dX6_copy_52 rfl rfl rfl ?_
  refine ev_getfield 56 dX6_copy_53 rfl okf_X6_24 (Nat.le_of_ble_eq_true rfl) HPf_2_7 rfl ?_
  refine ev_aload_n (i := 0) 57 dX6_copy_56 rfl rfl rfl ?_
  refine ev_getfield 60 dX6_copy_57 rfl okf_X6_24 (Nat.le_of_ble_eq_true rfl) HPg_10 rfl ?_
  obtain ⟨x5, hx5, hF⟩ := tv_bind hF
  refine ev_callSv 63 [.ref 77, .ref 15] [] dX6_copy_60 rfl okS_X6_40 rfl rfl (Nat.le_of_ble_eq_true rfl) rfl (Nat.le_of_ble_eq_true rfl) (Nat.le_of_ble_eq_true rfl) (R_copyRow (Nat.le_of_ble_eq_true rfl) (Nat.le_of_ble_eq_true rfl) HPf_2_12 HPg_15 hx5 HPa_15) ?_
  refine ev_aload_n (i := 1) 64 dX6_copy_63 rfl rfl rfl ?_
  refine ev_getfield 67 dX6_copy_64 rfl okf_X6_27 (Nat.le_of_ble_eq_true rfl) HPf_2_7 rfl ?_
  refine ev_aload_n (i := 0) 68 dX6_copy_67 rfl rfl rfl ?_
  refine ev_getfield 71 dX6_copy_68 rfl okf_X6_27 (Nat.le_of_ble_eq_true rfl) HPg_10 rfl ?_
  obtain ⟨x6, hx6, hF⟩ := tv_bind hF
  refine ev_callSv 74 [.ref 78, .ref 16] [] dX6_copy_71 rfl okS_X6_40 rfl rfl (Nat.le_of_ble_eq_true rfl) rfl (Nat.le_of_ble_eq_true rfl) (Nat.le_of_ble_eq_true rfl) (R_copyRow (Nat.le_of_ble_eq_true rfl) (Nat.le_of_ble_eq_true rfl) HPf_2_13 HPg_16 hx6 HPa_16) ?_
  refine ev_aload_n (i := 1) 75 dX6_copy_74 rfl rfl rfl ?_
  refine ev_getfield 78 dX6_copy_75 rfl okf_X6_30 (Nat.le_of_ble_eq_true rfl) HPf_2_7 rfl ?_
  refine ev_aload_n (i := 0) 79 dX6_copy_78 rfl rfl rfl ?_
  refine ev_getfield 82 dX6_copy_79 rfl okf_X6_30 (Nat.le_of_ble_eq_true rfl) HPg_10 rfl ?_
  obtain ⟨x7, hx7, hF⟩ := tv_bind hF
  refine ev_callSv 85 [.ref 79, .ref 17] [] dX6_copy_82 rfl okS_X6_40 rfl rfl (Nat.le_of_ble_eq_true rfl) rfl (Nat.le_of_ble_eq_true rfl) (Nat.le_of_ble_eq_true rfl) (R_copyRow (Nat.le_of_ble_eq_true rfl) (Nat.le_of_ble_eq_true rfl) HPf_2_14 HPg_17 hx7 HPa_17) ?_
  refine ev_aload_n (i := 1) 86 dX6_copy_85 rfl rfl rfl ?_
  refine ev_getfield 89 dX6_copy_86 rfl okf_X6_33 (Nat.le_of_ble_eq_true rfl) HPf_2_7 rfl ?_
  refine ev_aload_n (i := 0) 90 dX6_copy_89 rfl rfl rfl ?_
  refine ev_getfield 93 dX6_copy_90 rfl okf_X6_33 (Nat.le_of_ble_eq_true rfl) HPg_10 rfl ?_
  obtain ⟨x8, hx8, hF⟩ := tv_bind hF
  refine ev_callSv 96 [.ref 80, .ref 18] [] dX6_copy_93 rfl okS_X6_40 rfl rfl (Nat.le_of_ble_eq_true rfl) rfl (Nat.le_of_ble_eq_true rfl) (Nat.le_of_ble_eq_true rfl) (R_copyRow (Nat.le_of_ble_eq_true rfl) (Nat.le_of_ble_eq_true rfl) HPf_2_15 HPg_18 hx8 HPa_18) ?_
  have hF := Option.some.inj hF
  subst hF
  exact ev_return dX6_copy_96 rfl

set_option maxRecDepth 100000 in
set_option maxHeartbeats 4000000 in
theorem R_X6_copy_from3 {g : tv_G} {l : Launch} {si : Nat → Int32} {sa : Nat → Nat → Int32} {hs : Nat → (Nat → Int32) × (Nat → Nat → Int32)} {tx : Nat → Int32} {tl : Int32} {hc : Int32} {hn : Int32} {v : Nat → Int32} {pa : Nat → Int32} {mt : Nat → Int32} {pm : Int32} {ty : Int32} {ra : Int32}  {p : (Nat → Int32) × (Nat → Nat → Int32)} (hF : F_X6_copy (hs 3).1 (hs 3).2 si sa = some p) : tv_E g l yX6_copy cX6_copy 2 none 2 0 0 0 [.ref 10, .ref 92] [] (HP si sa hs tx tl hc hn v pa mt pm ty ra) none (HP p.1 p.2 hs tx tl hc hn v pa mt pm ty ra) := by
  unfold F_X6_copy at hF
  refine ev_aload_n (i := 0) 1 dX6_copy_0 rfl rfl rfl ?_
  refine ev_aload_n (i := 1) 2 dX6_copy_1 rfl rfl rfl ?_
  refine ev_getfield 5 dX6_copy_2 rfl okf_X6_36 (Nat.le_of_ble_eq_true rfl) HPf_3_7 rfl ?_
  refine ev_putfield 8 dX6_copy_5 rfl okf_X6_36 (Nat.le_of_ble_eq_true rfl) HPg_10 (Nat.le_of_ble_eq_true rfl) rfl rfl HPs_10_0 ?_
  refine ev_aload_n (i := 1) 9 dX6_copy_8 rfl rfl rfl ?_
  refine ev_getfield 12 dX6_copy_9 rfl okf_X6_9 (Nat.le_of_ble_eq_true rfl) HPf_3_7 rfl ?_
  refine ev_aload_n (i := 0) 13 dX6_copy_12 rfl rfl rfl ?_
  refine ev_getfield 16 dX6_copy_13 rfl okf_X6_9 (Nat.le_of_ble_eq_true rfl) HPg_10 rfl ?_
  obtain ⟨x1, hx1, hF⟩ := tv_bind hF
  refine ev_callSv 19 [.ref 93, .ref 11] [] dX6_copy_16 rfl okS_X6_40 rfl rfl (Nat.le_of_ble_eq_true rfl) rfl (Nat.le_of_ble_eq_true rfl) (Nat.le_of_ble_eq_true rfl) (R_copyRow (Nat.le_of_ble_eq_true rfl) (Nat.le_of_ble_eq_true rfl) HPf_3_8 HPg_11 hx1 HPa_11) ?_
  refine ev_aload_n (i := 1) 20 dX6_copy_19 rfl rfl rfl ?_
  refine ev_getfield 23 dX6_copy_20 rfl okf_X6_15 (Nat.le_of_ble_eq_true rfl) HPf_3_7 rfl ?_
  refine ev_aload_n (i := 0) 24 dX6_copy_23 rfl rfl rfl ?_
  refine ev_getfield 27 dX6_copy_24 rfl okf_X6_15 (Nat.le_of_ble_eq_true rfl) HPg_10 rfl ?_
  obtain ⟨x2, hx2, hF⟩ := tv_bind hF
  refine ev_callSv 30 [.ref 94, .ref 12] [] dX6_copy_27 rfl okS_X6_40 rfl rfl (Nat.le_of_ble_eq_true rfl) rfl (Nat.le_of_ble_eq_true rfl) (Nat.le_of_ble_eq_true rfl) (R_copyRow (Nat.le_of_ble_eq_true rfl) (Nat.le_of_ble_eq_true rfl) HPf_3_9 HPg_12 hx2 HPa_12) ?_
  refine ev_aload_n (i := 1) 31 dX6_copy_30 rfl rfl rfl ?_
  refine ev_getfield 34 dX6_copy_31 rfl okf_X6_18 (Nat.le_of_ble_eq_true rfl) HPf_3_7 rfl ?_
  refine ev_aload_n (i := 0) 35 dX6_copy_34 rfl rfl rfl ?_
  refine ev_getfield 38 dX6_copy_35 rfl okf_X6_18 (Nat.le_of_ble_eq_true rfl) HPg_10 rfl ?_
  obtain ⟨x3, hx3, hF⟩ := tv_bind hF
  refine ev_callSv 41 [.ref 95, .ref 13] [] dX6_copy_38 rfl okS_X6_40 rfl rfl (Nat.le_of_ble_eq_true rfl) rfl (Nat.le_of_ble_eq_true rfl) (Nat.le_of_ble_eq_true rfl) (R_copyRow (Nat.le_of_ble_eq_true rfl) (Nat.le_of_ble_eq_true rfl) HPf_3_10 HPg_13 hx3 HPa_13) ?_
  refine ev_aload_n (i := 1) 42 dX6_copy_41 rfl rfl rfl ?_
  refine ev_getfield 45 dX6_copy_42 rfl okf_X6_21 (Nat.le_of_ble_eq_true rfl) HPf_3_7 rfl ?_
  refine ev_aload_n (i := 0) 46 dX6_copy_45 rfl rfl rfl ?_
  refine ev_getfield 49 dX6_copy_46 rfl okf_X6_21 (Nat.le_of_ble_eq_true rfl) HPg_10 rfl ?_
  obtain ⟨x4, hx4, hF⟩ := tv_bind hF
  refine ev_callSv 52 [.ref 96, .ref 14] [] dX6_copy_49 rfl okS_X6_40 rfl rfl (Nat.le_of_ble_eq_true rfl) rfl (Nat.le_of_ble_eq_true rfl) (Nat.le_of_ble_eq_true rfl) (R_copyRow (Nat.le_of_ble_eq_true rfl) (Nat.le_of_ble_eq_true rfl) HPf_3_11 HPg_14 hx4 HPa_14) ?_
  refine ev_aload_n (i := 1) 53 dX6_copy_52 rfl rfl rfl ?_
  refine ev_getfield 56 dX6_copy_53 rfl okf_X6_24 (Nat.le_of_ble_eq_true rfl) HPf_3_7 rfl ?_
  refine ev_aload_n (i := 0) 57 dX6_copy_56 rfl rfl rfl ?_
  refine ev_getfield 60 dX6_copy_57 rfl okf_X6_24 (Nat.le_of_ble_eq_true rfl) HPg_10 rfl ?_
  obtain ⟨x5, hx5, hF⟩ := tv_bind hF
  refine ev_callSv 63 [.ref 97, .ref 15] [] dX6_copy_60 rfl okS_X6_40 rfl rfl (Nat.le_of_ble_eq_true rfl) rfl (Nat.le_of_ble_eq_true rfl) (Nat.le_of_ble_eq_true rfl) (R_copyRow (Nat.le_of_ble_eq_true rfl) (Nat.le_of_ble_eq_true rfl) HPf_3_12 HPg_15 hx5 HPa_15) ?_
  refine ev_aload_n (i := 1) 64 dX6_copy_63 rfl rfl rfl ?_
  refine ev_getfield 67 dX6_copy_64 rfl okf_X6_27 (Nat.le_of_ble_eq_true rfl) HPf_3_7 rfl ?_
  refine ev_aload_n (i := 0) 68 dX6_copy_67 rfl rfl rfl ?_
  refine ev_getfield 71 dX6_copy_68 rfl okf_X6_27 (Nat.le_of_ble_eq_true rfl) HPg_10 rfl ?_
  obtain ⟨x6, hx6, hF⟩ := tv_bind hF
  refine ev_callSv 74 [.ref 98, .ref 16] [] dX6_copy_71 rfl okS_X6_40 rfl rfl (Nat.le_of_ble_eq_true rfl) rfl (Nat.le_of_ble_eq_true rfl) (Nat.le_of_ble_eq_true rfl) (R_copyRow (Nat.le_of_ble_eq_true rfl) (Nat.le_of_ble_eq_true rfl) HPf_3_13 HPg_16 hx6 HPa_16) ?_
  refine ev_aload_n (i := 1) 75 dX6_copy_74 rfl rfl rfl ?_
  refine ev_getfield 78 dX6_copy_75 rfl okf_X6_30 (Nat.le_of_ble_eq_true rfl) HPf_3_7 rfl ?_
  refine ev_aload_n (i := 0) 79 dX6_copy_78 rfl rfl rfl ?_
  refine ev_getfield 82 dX6_copy_79 rfl okf_X6_30 (Nat.le_of_ble_eq_true rfl) HPg_10 rfl ?_
  obtain ⟨x7, hx7, hF⟩ := tv_bind hF
  refine ev_callSv 85 [.ref 99, .ref 17] [] dX6_copy_82 rfl okS_X6_40 rfl rfl (Nat.le_of_ble_eq_true rfl) rfl (Nat.le_of_ble_eq_true rfl) (Nat.le_of_ble_eq_true rfl) (R_copyRow (Nat.le_of_ble_eq_true rfl) (Nat.le_of_ble_eq_true rfl) HPf_3_14 HPg_17 hx7 HPa_17) ?_
  refine ev_aload_n (i := 1) 86 dX6_copy_85 rfl rfl rfl ?_
  refine ev_getfield 89 dX6_copy_86 rfl okf_X6_33 (Nat.le_of_ble_eq_true rfl) HPf_3_7 rfl ?_
  refine ev_aload_n (i := 0) 90 dX6_copy_89 rfl rfl rfl ?_
  refine ev_getfield 93 dX6_copy_90 rfl okf_X6_33 (Nat.le_of_ble_eq_true rfl) HPg_10 rfl ?_
  obtain ⟨x8, hx8, hF⟩ := tv_bind hF
  refine ev_callSv 96 [.ref 100, .ref 18] [] dX6_copy_93 rfl okS_X6_40 rfl rfl (Nat.le_of_ble_eq_true rfl) rfl (Nat.le_of_ble_eq_true rfl) (Nat.le_of_ble_eq_true rfl) (R_copyRow (Nat.le_of_ble_eq_true rfl) (Nat.le_of_ble_eq_true rfl) HPf_3_15 HPg_18 hx8 HPa_18) ?_
  have hF := Option.some.inj hF
  subst hF
  exact ev_return dX6_copy_96 rfl

set_option maxRecDepth 100000 in
set_option maxHeartbeats 4000000 in
theorem R_X6_copy_from4 {g : tv_G} {l : Launch} {si : Nat → Int32} {sa : Nat → Nat → Int32} {hs : Nat → (Nat → Int32) × (Nat → Nat → Int32)} {tx : Nat → Int32} {tl : Int32} {hc : Int32} {hn : Int32} {v : Nat → Int32} {pa : Nat → Int32} {mt : Nat → Int32} {pm : Int32} {ty : Int32} {ra : Int32}  {p : (Nat → Int32) × (Nat → Nat → Int32)} (hF : F_X6_copy (hs 4).1 (hs 4).2 si sa = some p) : tv_E g l yX6_copy cX6_copy 2 none 2 0 0 0 [.ref 10, .ref 112] [] (HP si sa hs tx tl hc hn v pa mt pm ty ra) none (HP p.1 p.2 hs tx tl hc hn v pa mt pm ty ra) := by
  unfold F_X6_copy at hF
  refine ev_aload_n (i := 0) 1 dX6_copy_0 rfl rfl rfl ?_
  refine ev_aload_n (i := 1) 2 dX6_copy_1 rfl rfl rfl ?_
  refine ev_getfield 5 dX6_copy_2 rfl okf_X6_36 (Nat.le_of_ble_eq_true rfl) HPf_4_7 rfl ?_
  refine ev_putfield 8 dX6_copy_5 rfl okf_X6_36 (Nat.le_of_ble_eq_true rfl) HPg_10 (Nat.le_of_ble_eq_true rfl) rfl rfl HPs_10_0 ?_
  refine ev_aload_n (i := 1) 9 dX6_copy_8 rfl rfl rfl ?_
  refine ev_getfield 12 dX6_copy_9 rfl okf_X6_9 (Nat.le_of_ble_eq_true rfl) HPf_4_7 rfl ?_
  refine ev_aload_n (i := 0) 13 dX6_copy_12 rfl rfl rfl ?_
  refine ev_getfield 16 dX6_copy_13 rfl okf_X6_9 (Nat.le_of_ble_eq_true rfl) HPg_10 rfl ?_
  obtain ⟨x1, hx1, hF⟩ := tv_bind hF
  refine ev_callSv 19 [.ref 113, .ref 11] [] dX6_copy_16 rfl okS_X6_40 rfl rfl (Nat.le_of_ble_eq_true rfl) rfl (Nat.le_of_ble_eq_true rfl) (Nat.le_of_ble_eq_true rfl) (R_copyRow (Nat.le_of_ble_eq_true rfl) (Nat.le_of_ble_eq_true rfl) HPf_4_8 HPg_11 hx1 HPa_11) ?_
  refine ev_aload_n (i := 1) 20 dX6_copy_19 rfl rfl rfl ?_
  refine ev_getfield 23 dX6_copy_20 rfl okf_X6_15 (Nat.le_of_ble_eq_true rfl) HPf_4_7 rfl ?_
  refine ev_aload_n (i := 0) 24 dX6_copy_23 rfl rfl rfl ?_
  refine ev_getfield 27 dX6_copy_24 rfl okf_X6_15 (Nat.le_of_ble_eq_true rfl) HPg_10 rfl ?_
  obtain ⟨x2, hx2, hF⟩ := tv_bind hF
  refine ev_callSv 30 [.ref 114, .ref 12] [] dX6_copy_27 rfl okS_X6_40 rfl rfl (Nat.le_of_ble_eq_true rfl) rfl (Nat.le_of_ble_eq_true rfl) (Nat.le_of_ble_eq_true rfl) (R_copyRow (Nat.le_of_ble_eq_true rfl) (Nat.le_of_ble_eq_true rfl) HPf_4_9 HPg_12 hx2 HPa_12) ?_
  refine ev_aload_n (i := 1) 31 dX6_copy_30 rfl rfl rfl ?_
  refine ev_getfield 34 dX6_copy_31 rfl okf_X6_18 (Nat.le_of_ble_eq_true rfl) HPf_4_7 rfl ?_
  refine ev_aload_n (i := 0) 35 dX6_copy_34 rfl rfl rfl ?_
  refine ev_getfield 38 dX6_copy_35 rfl okf_X6_18 (Nat.le_of_ble_eq_true rfl) HPg_10 rfl ?_
  obtain ⟨x3, hx3, hF⟩ := tv_bind hF
  refine ev_callSv 41 [.ref 115, .ref 13] [] dX6_copy_38 rfl okS_X6_40 rfl rfl (Nat.le_of_ble_eq_true rfl) rfl (Nat.le_of_ble_eq_true rfl) (Nat.le_of_ble_eq_true rfl) (R_copyRow (Nat.le_of_ble_eq_true rfl) (Nat.le_of_ble_eq_true rfl) HPf_4_10 HPg_13 hx3 HPa_13) ?_
  refine ev_aload_n (i := 1) 42 dX6_copy_41 rfl rfl rfl ?_
  refine ev_getfield 45 dX6_copy_42 rfl okf_X6_21 (Nat.le_of_ble_eq_true rfl) HPf_4_7 rfl ?_
  refine ev_aload_n (i := 0) 46 dX6_copy_45 rfl rfl rfl ?_
  refine ev_getfield 49 dX6_copy_46 rfl okf_X6_21 (Nat.le_of_ble_eq_true rfl) HPg_10 rfl ?_
  obtain ⟨x4, hx4, hF⟩ := tv_bind hF
  refine ev_callSv 52 [.ref 116, .ref 14] [] dX6_copy_49 rfl okS_X6_40 rfl rfl (Nat.le_of_ble_eq_true rfl) rfl (Nat.le_of_ble_eq_true rfl) (Nat.le_of_ble_eq_true rfl) (R_copyRow (Nat.le_of_ble_eq_true rfl) (Nat.le_of_ble_eq_true rfl) HPf_4_11 HPg_14 hx4 HPa_14) ?_
  refine ev_aload_n (i := 1) 53 dX6_copy_52 rfl rfl rfl ?_
  refine ev_getfield 56 dX6_copy_53 rfl okf_X6_24 (Nat.le_of_ble_eq_true rfl) HPf_4_7 rfl ?_
  refine ev_aload_n (i := 0) 57 dX6_copy_56 rfl rfl rfl ?_
  refine ev_getfield 60 dX6_copy_57 rfl okf_X6_24 (Nat.le_of_ble_eq_true rfl) HPg_10 rfl ?_
  obtain ⟨x5, hx5, hF⟩ := tv_bind hF
  refine ev_callSv 63 [.ref 117, .ref 15] [] dX6_copy_60 rfl okS_X6_40 rfl rfl (Nat.le_of_ble_eq_true rfl) rfl (Nat.le_of_ble_eq_true rfl) (Nat.le_of_ble_eq_true rfl) (R_copyRow (Nat.le_of_ble_eq_true rfl) (Nat.le_of_ble_eq_true rfl) HPf_4_12 HPg_15 hx5 HPa_15) ?_
  refine ev_aload_n (i := 1) 64 dX6_copy_63 rfl rfl rfl ?_
  refine ev_getfield 67 dX6_copy_64 rfl okf_X6_27 (Nat.le_of_ble_eq_true rfl) HPf_4_7 rfl ?_
  refine ev_aload_n (i := 0) 68 dX6_copy_67 rfl rfl rfl ?_
  refine ev_getfield 71 dX6_copy_68 rfl okf_X6_27 (Nat.le_of_ble_eq_true rfl) HPg_10 rfl ?_
  obtain ⟨x6, hx6, hF⟩ := tv_bind hF
  refine ev_callSv 74 [.ref 118, .ref 16] [] dX6_copy_71 rfl okS_X6_40 rfl rfl (Nat.le_of_ble_eq_true rfl) rfl (Nat.le_of_ble_eq_true rfl) (Nat.le_of_ble_eq_true rfl) (R_copyRow (Nat.le_of_ble_eq_true rfl) (Nat.le_of_ble_eq_true rfl) HPf_4_13 HPg_16 hx6 HPa_16) ?_
  refine ev_aload_n (i := 1) 75 dX6_copy_74 rfl rfl rfl ?_
  refine ev_getfield 78 dX6_copy_75 rfl okf_X6_30 (Nat.le_of_ble_eq_true rfl) HPf_4_7 rfl ?_
  refine ev_aload_n (i := 0) 79 dX6_copy_78 rfl rfl rfl ?_
  refine ev_getfield 82 dX6_copy_79 rfl okf_X6_30 (Nat.le_of_ble_eq_true rfl) HPg_10 rfl ?_
  obtain ⟨x7, hx7, hF⟩ := tv_bind hF
  refine ev_callSv 85 [.ref 119, .ref 17] [] dX6_copy_82 rfl okS_X6_40 rfl rfl (Nat.le_of_ble_eq_true rfl) rfl (Nat.le_of_ble_eq_true rfl) (Nat.le_of_ble_eq_true rfl) (R_copyRow (Nat.le_of_ble_eq_true rfl) (Nat.le_of_ble_eq_true rfl) HPf_4_14 HPg_17 hx7 HPa_17) ?_
  refine ev_aload_n (i := 1) 86 dX6_copy_85 rfl rfl rfl ?_
  refine ev_getfield 89 dX6_copy_86 rfl okf_X6_33 (Nat.le_of_ble_eq_true rfl) HPf_4_7 rfl ?_
  refine ev_aload_n (i := 0) 90 dX6_copy_89 rfl rfl rfl ?_
  refine ev_getfield 93 dX6_copy_90 rfl okf_X6_33 (Nat.le_of_ble_eq_true rfl) HPg_10 rfl ?_
  obtain ⟨x8, hx8, hF⟩ := tv_bind hF
  refine ev_callSv 96 [.ref 120, .ref 18] [] dX6_copy_93 rfl okS_X6_40 rfl rfl (Nat.le_of_ble_eq_true rfl) rfl (Nat.le_of_ble_eq_true rfl) (Nat.le_of_ble_eq_true rfl) (R_copyRow (Nat.le_of_ble_eq_true rfl) (Nat.le_of_ble_eq_true rfl) HPf_4_15 HPg_18 hx8 HPa_18) ?_
  have hF := Option.some.inj hF
  subst hF
  exact ev_return dX6_copy_96 rfl

set_option maxRecDepth 100000 in
set_option maxHeartbeats 4000000 in
theorem R_X1_copy_to0 {g : tv_G} {l : Launch} {si : Nat → Int32} {sa : Nat → Nat → Int32} {hs : Nat → (Nat → Int32) × (Nat → Nat → Int32)} {tx : Nat → Int32} {tl : Int32} {hc : Int32} {hn : Int32} {v : Nat → Int32} {pa : Nat → Int32} {mt : Nat → Int32} {pm : Int32} {ty : Int32} {ra : Int32} {dI : Nat → Int32} {dA : Nat → Nat → Int32}  {p : (Nat → Int32) × (Nat → Nat → Int32)} (hF : F_X1_copy si sa dI dA = some p) : tv_E g l yX1_copy cX1_copy 2 none 1 0 0 0 [.ref 41, .ref 19] [] (HP si sa (va_up hs 0 (dI, dA)) tx tl hc hn v pa mt pm ty ra) none (HP si sa (va_up hs 0 (p.1, p.2)) tx tl hc hn v pa mt pm ty ra) := by
  unfold F_X1_copy at hF
  refine ev_aload_n (i := 0) 1 dX1_copy_0 rfl rfl rfl ?_
  refine ev_aload_n (i := 1) 2 dX1_copy_1 rfl rfl rfl ?_
  refine ev_getfield 5 dX1_copy_2 rfl okf_X1_21 (Nat.le_of_ble_eq_true rfl) HPg_19 rfl ?_
  refine ev_putfield 8 dX1_copy_5 rfl okf_X1_21 (Nat.le_of_ble_eq_true rfl) HPt_0_16 (Nat.le_of_ble_eq_true rfl) rfl rfl HPst_0_16_0 ?_
  refine ev_aload_n (i := 1) 9 dX1_copy_8 rfl rfl rfl ?_
  refine ev_getfield 12 dX1_copy_9 rfl okf_X1_9 (Nat.le_of_ble_eq_true rfl) HPg_19 rfl ?_
  refine ev_iconst 13 dX1_copy_12 rfl kI_0 ?_
  refine ev_aload_n (i := 0) 14 dX1_copy_13 rfl rfl rfl ?_
  refine ev_getfield 17 dX1_copy_14 rfl okf_X1_9 (Nat.le_of_ble_eq_true rfl) HPt_0_16 rfl ?_
  refine ev_iconst 18 dX1_copy_17 rfl kI_0 ?_
  refine ev_aload_n (i := 0) 19 dX1_copy_18 rfl rfl rfl ?_
  refine ev_getfield 22 dX1_copy_19 rfl okf_X1_9 (Nat.le_of_ble_eq_true rfl) HPt_0_16 rfl ?_
  refine ev_arraylength 23 dX1_copy_22 rfl (Nat.le_of_ble_eq_true rfl) HPt_0_17 kN_20 ?_
  obtain ⟨x1, hx1, hF⟩ := tv_bind hF
  refine ev_arraycopy 26 dX1_copy_23 rfl wc_X1_25 wc_native wc_static wc_init (Nat.le_of_ble_eq_true rfl) (Nat.le_of_ble_eq_true rfl) (Nat.le_of_ble_eq_true rfl) (Nat.le_of_ble_eq_true rfl) HPg_20 HPt_0_17 hx1 HPat_0_17 ?_
  refine ev_aload_n (i := 1) 27 dX1_copy_26 rfl rfl rfl ?_
  refine ev_getfield 30 dX1_copy_27 rfl okf_X1_15 (Nat.le_of_ble_eq_true rfl) HPg_19 rfl ?_
  refine ev_iconst 31 dX1_copy_30 rfl kI_0 ?_
  refine ev_aload_n (i := 0) 32 dX1_copy_31 rfl rfl rfl ?_
  refine ev_getfield 35 dX1_copy_32 rfl okf_X1_15 (Nat.le_of_ble_eq_true rfl) HPt_0_16 rfl ?_
  refine ev_iconst 36 dX1_copy_35 rfl kI_0 ?_
  refine ev_aload_n (i := 0) 37 dX1_copy_36 rfl rfl rfl ?_
  refine ev_getfield 40 dX1_copy_37 rfl okf_X1_15 (Nat.le_of_ble_eq_true rfl) HPt_0_16 rfl ?_
  refine ev_arraylength 41 dX1_copy_40 rfl (Nat.le_of_ble_eq_true rfl) HPt_0_18 kN_20 ?_
  obtain ⟨x2, hx2, hF⟩ := tv_bind hF
  refine ev_arraycopy 44 dX1_copy_41 rfl wc_X1_25 wc_native wc_static wc_init (Nat.le_of_ble_eq_true rfl) (Nat.le_of_ble_eq_true rfl) (Nat.le_of_ble_eq_true rfl) (Nat.le_of_ble_eq_true rfl) HPg_21 HPt_0_18 hx2 HPat_0_18 ?_
  refine ev_aload_n (i := 1) 45 dX1_copy_44 rfl rfl rfl ?_
  refine ev_getfield 48 dX1_copy_45 rfl okf_X1_18 (Nat.le_of_ble_eq_true rfl) HPg_19 rfl ?_
  refine ev_iconst 49 dX1_copy_48 rfl kI_0 ?_
  refine ev_aload_n (i := 0) 50 dX1_copy_49 rfl rfl rfl ?_
  refine ev_getfield 53 dX1_copy_50 rfl okf_X1_18 (Nat.le_of_ble_eq_true rfl) HPt_0_16 rfl ?_
  refine ev_iconst 54 dX1_copy_53 rfl kI_0 ?_
  refine ev_aload_n (i := 0) 55 dX1_copy_54 rfl rfl rfl ?_
  refine ev_getfield 58 dX1_copy_55 rfl okf_X1_18 (Nat.le_of_ble_eq_true rfl) HPt_0_16 rfl ?_
  refine ev_arraylength 59 dX1_copy_58 rfl (Nat.le_of_ble_eq_true rfl) HPt_0_19 kN_20 ?_
  obtain ⟨x3, hx3, hF⟩ := tv_bind hF
  refine ev_arraycopy 62 dX1_copy_59 rfl wc_X1_25 wc_native wc_static wc_init (Nat.le_of_ble_eq_true rfl) (Nat.le_of_ble_eq_true rfl) (Nat.le_of_ble_eq_true rfl) (Nat.le_of_ble_eq_true rfl) HPg_22 HPt_0_19 hx3 HPat_0_19 ?_
  have hF := Option.some.inj hF
  subst hF
  exact ev_return dX1_copy_62 rfl

set_option maxRecDepth 100000 in
set_option maxHeartbeats 4000000 in
theorem R_X1_copy_to1 {g : tv_G} {l : Launch} {si : Nat → Int32} {sa : Nat → Nat → Int32} {hs : Nat → (Nat → Int32) × (Nat → Nat → Int32)} {tx : Nat → Int32} {tl : Int32} {hc : Int32} {hn : Int32} {v : Nat → Int32} {pa : Nat → Int32} {mt : Nat → Int32} {pm : Int32} {ty : Int32} {ra : Int32} {dI : Nat → Int32} {dA : Nat → Nat → Int32}  {p : (Nat → Int32) × (Nat → Nat → Int32)} (hF : F_X1_copy si sa dI dA = some p) : tv_E g l yX1_copy cX1_copy 2 none 1 0 0 0 [.ref 61, .ref 19] [] (HP si sa (va_up hs 1 (dI, dA)) tx tl hc hn v pa mt pm ty ra) none (HP si sa (va_up hs 1 (p.1, p.2)) tx tl hc hn v pa mt pm ty ra) := by
  unfold F_X1_copy at hF
  refine ev_aload_n (i := 0) 1 dX1_copy_0 rfl rfl rfl ?_
  refine ev_aload_n (i := 1) 2 dX1_copy_1 rfl rfl rfl ?_
  refine ev_getfield 5 dX1_copy_2 rfl okf_X1_21 (Nat.le_of_ble_eq_true rfl) HPg_19 rfl ?_
  refine ev_putfield 8 dX1_copy_5 rfl okf_X1_21 (Nat.le_of_ble_eq_true rfl) HPt_1_16 (Nat.le_of_ble_eq_true rfl) rfl rfl HPst_1_16_0 ?_
  refine ev_aload_n (i := 1) 9 dX1_copy_8 rfl rfl rfl ?_
  refine ev_getfield 12 dX1_copy_9 rfl okf_X1_9 (Nat.le_of_ble_eq_true rfl) HPg_19 rfl ?_
  refine ev_iconst 13 dX1_copy_12 rfl kI_0 ?_
  refine ev_aload_n (i := 0) 14 dX1_copy_13 rfl rfl rfl ?_
  refine ev_getfield 17 dX1_copy_14 rfl okf_X1_9 (Nat.le_of_ble_eq_true rfl) HPt_1_16 rfl ?_
  refine ev_iconst 18 dX1_copy_17 rfl kI_0 ?_
  refine ev_aload_n (i := 0) 19 dX1_copy_18 rfl rfl rfl ?_
  refine ev_getfield 22 dX1_copy_19 rfl okf_X1_9 (Nat.le_of_ble_eq_true rfl) HPt_1_16 rfl ?_
  refine ev_arraylength 23 dX1_copy_22 rfl (Nat.le_of_ble_eq_true rfl) HPt_1_17 kN_20 ?_
  obtain ⟨x1, hx1, hF⟩ := tv_bind hF
  refine ev_arraycopy 26 dX1_copy_23 rfl wc_X1_25 wc_native wc_static wc_init (Nat.le_of_ble_eq_true rfl) (Nat.le_of_ble_eq_true rfl) (Nat.le_of_ble_eq_true rfl) (Nat.le_of_ble_eq_true rfl) HPg_20 HPt_1_17 hx1 HPat_1_17 ?_
  refine ev_aload_n (i := 1) 27 dX1_copy_26 rfl rfl rfl ?_
  refine ev_getfield 30 dX1_copy_27 rfl okf_X1_15 (Nat.le_of_ble_eq_true rfl) HPg_19 rfl ?_
  refine ev_iconst 31 dX1_copy_30 rfl kI_0 ?_
  refine ev_aload_n (i := 0) 32 dX1_copy_31 rfl rfl rfl ?_
  refine ev_getfield 35 dX1_copy_32 rfl okf_X1_15 (Nat.le_of_ble_eq_true rfl) HPt_1_16 rfl ?_
  refine ev_iconst 36 dX1_copy_35 rfl kI_0 ?_
  refine ev_aload_n (i := 0) 37 dX1_copy_36 rfl rfl rfl ?_
  refine ev_getfield 40 dX1_copy_37 rfl okf_X1_15 (Nat.le_of_ble_eq_true rfl) HPt_1_16 rfl ?_
  refine ev_arraylength 41 dX1_copy_40 rfl (Nat.le_of_ble_eq_true rfl) HPt_1_18 kN_20 ?_
  obtain ⟨x2, hx2, hF⟩ := tv_bind hF
  refine ev_arraycopy 44 dX1_copy_41 rfl wc_X1_25 wc_native wc_static wc_init (Nat.le_of_ble_eq_true rfl) (Nat.le_of_ble_eq_true rfl) (Nat.le_of_ble_eq_true rfl) (Nat.le_of_ble_eq_true rfl) HPg_21 HPt_1_18 hx2 HPat_1_18 ?_
  refine ev_aload_n (i := 1) 45 dX1_copy_44 rfl rfl rfl ?_
  refine ev_getfield 48 dX1_copy_45 rfl okf_X1_18 (Nat.le_of_ble_eq_true rfl) HPg_19 rfl ?_
  refine ev_iconst 49 dX1_copy_48 rfl kI_0 ?_
  refine ev_aload_n (i := 0) 50 dX1_copy_49 rfl rfl rfl ?_
  refine ev_getfield 53 dX1_copy_50 rfl okf_X1_18 (Nat.le_of_ble_eq_true rfl) HPt_1_16 rfl ?_
  refine ev_iconst 54 dX1_copy_53 rfl kI_0 ?_
  refine ev_aload_n (i := 0) 55 dX1_copy_54 rfl rfl rfl ?_
  refine ev_getfield 58 dX1_copy_55 rfl okf_X1_18 (Nat.le_of_ble_eq_true rfl) HPt_1_16 rfl ?_
  refine ev_arraylength 59 dX1_copy_58 rfl (Nat.le_of_ble_eq_true rfl) HPt_1_19 kN_20 ?_
  obtain ⟨x3, hx3, hF⟩ := tv_bind hF
  refine ev_arraycopy 62 dX1_copy_59 rfl wc_X1_25 wc_native wc_static wc_init (Nat.le_of_ble_eq_true rfl) (Nat.le_of_ble_eq_true rfl) (Nat.le_of_ble_eq_true rfl) (Nat.le_of_ble_eq_true rfl) HPg_22 HPt_1_19 hx3 HPat_1_19 ?_
  have hF := Option.some.inj hF
  subst hF
  exact ev_return dX1_copy_62 rfl
