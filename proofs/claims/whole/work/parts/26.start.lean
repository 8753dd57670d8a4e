/-! ===== the law from its first row ===== -/
section TVL
theorem okn_L_7 : tv_okn RL 7 7 3 [.null, .null, .null] := ⟨RX7, TX7, tyX7, rfl, in_X7, tyX7_ok, (List.mem_of_getElem? (i := 52) (by decide +kernel)), (List.mem_of_getElem? (i := 53) (by decide +kernel)), (List.mem_of_getElem? (i := 39) (by decide +kernel)), fun j hj => by
  rcases (show j = 0 ∨ j = 1 ∨ j = 2 by omega) with rfl | rfl | rfl <;> rfl⟩
theorem okn_L_10 : tv_okn RL 10 8 6 [.null, .null, .int 0, .null, .int 0, .int 0] := ⟨RX8, TX8, tyX8, rfl, in_X8, tyX8_ok, (List.mem_of_getElem? (i := 649) (by decide +kernel)), (List.mem_of_getElem? (i := 650) (by decide +kernel)), (List.mem_of_getElem? (i := 49) (by decide +kernel)), fun j hj => by
  rcases (show j = 0 ∨ j = 1 ∨ j = 2 ∨ j = 3 ∨ j = 4 ∨ j = 5 by omega) with rfl | rfl | rfl | rfl | rfl | rfl <;> rfl⟩
theorem okI_L_9 : tv_okm RL 9 yX7_init cX7_init 1 none 0 := ⟨Or.inl (List.mem_of_getElem? (i := 54) (by decide +kernel)), (List.mem_of_getElem? (i := 39) (by decide +kernel)), (List.mem_of_getElem? (i := 56) (by decide +kernel)), by decide +kernel, ⟨by decide +kernel, by decide +kernel, by decide +kernel⟩, (Nat.le_of_ble_eq_true rfl)⟩
theorem okJ_X7_init : Cond.instanceMethod yX7_init ∈ lw_tbl ∧ yX7_init.name = "<init>" := ⟨(List.mem_of_getElem? (i := 55) (by decide +kernel)), rfl⟩
theorem okI_L_12 : tv_okm RL 12 yX8_init cX8_init 1 none 0 := ⟨Or.inl (List.mem_of_getElem? (i := 651) (by decide +kernel)), (List.mem_of_getElem? (i := 49) (by decide +kernel)), (List.mem_of_getElem? (i := 653) (by decide +kernel)), by decide +kernel, ⟨by decide +kernel, by decide +kernel, by decide +kernel⟩, (Nat.le_of_ble_eq_true rfl)⟩
theorem okJ_X8_init : Cond.instanceMethod yX8_init ∈ lw_tbl ∧ yX8_init.name = "<init>" := ⟨(List.mem_of_getElem? (i := 652) (by decide +kernel)), rfl⟩
def v0 : Nat → Int32 := upd (upd (upd (upd (upd (upd (upd (fun _ => 0) 0 100) 1 2) 2 1) 3 50) 4 50) 5 3) 8 (-9)
def tv_initv : Nat → Int32 := fun i => if i = 0 then 100 else if i = 1 then 2 else if i = 2 then 1 else if i = 3 then 50 else if i = 4 then 50 else 3
def si0 : Nat → Int32 := fun k => if k = 5 then -9 else 0
def sa0 (g : tv_G) : Nat → Nat → Int32 := fun j => if j = 0 then va_cpy (tv_X g 3) (fun _ => 0) 0 0 6 else if j = 2 then tv_fill 100 (-9) (fun _ => 0) else fun _ => 0
theorem v0_hi {i : Nat} (h : 9 ≤ i) : v0 i = 0 := by
  unfold v0
  rw [pk_un (by omega), pk_un (by omega), pk_un (by omega), pk_un (by omega), pk_un (by omega), pk_un (by omega), pk_un (by omega)]
theorem v0_6 : v0 6 = 0 := by
  unfold v0
  rw [pk_un (by omega), pk_un (by omega), pk_un (by omega), pk_un (by omega), pk_un (by omega), pk_un (by omega), pk_un (by omega)]
theorem v0_7 : v0 7 = 0 := by
  unfold v0
  rw [pk_un (by omega), pk_un (by omega), pk_un (by omega), pk_un (by omega), pk_un (by omega), pk_un (by omega), pk_un (by omega)]
theorem v0_8 : v0 8 = -9 := by
  unfold v0
  rw [pk_us]
theorem sa0_0 (g : tv_G) (hX : tv_X g 3 = tv_initv) {i : Nat} (hi : i < 6) : sa0 g 0 i = v0 i := by
  show va_cpy (tv_X g 3) (fun _ => 0) 0 0 6 i = v0 i
  rw [hX]
  rcases (show i = 0 ∨ i = 1 ∨ i = 2 ∨ i = 3 ∨ i = 4 ∨ i = 5 by omega) with rfl | rfl | rfl | rfl | rfl | rfl <;> rfl
theorem v0_z {i : Nat} (h : 9 ≤ i) (B : Nat) (hB : B < 2 ^ 31) : isN v0 i B := isN_of (k := 0) (v0_hi h) (by omega) hB
theorem v0_t {i : Nat} (h : 9 ≤ i) : tN v0 i = 0 := tN_of (k := 0) (v0_hi h) (by omega)
theorem init_RO (g : tv_G) (hX : tv_X g 3 = tv_initv) : RO 0 si0 (sa0 g) v0 := by
  refine ⟨⟨fun i hi => ⟨sa0_0 g hX hi, ?_⟩, ⟨v0_6.symm, v0_7.symm, v0_8.symm, (v0_hi (by omega)).symm, (v0_hi (by omega)).symm, (v0_hi (by omega)).symm, (v0_hi (by omega)).symm, (v0_hi (by omega)).symm⟩, ⟨isN_of (k := 0) v0_6 (by omega) (by omega), v0_z (by omega) _ (by omega), v0_z (by omega) _ (by omega), v0_z (by omega) _ (by omega), v0_z (by omega) _ (by omega), Or.inl (v0_hi (by omega)), Or.inl ⟨v0_7, v0_8⟩⟩, ⟨fun m hm => ?_, Bm_zero (fun m hm => v0_hi (by omega)), Bm_zero (fun m hm => v0_hi (by omega)), Bm_zero (fun m hm => v0_hi (by omega))⟩, fun s hs => ?_, fun i hi => ⟨(v0_hi (by omega)).symm, (v0_hi (by omega)).symm, (v0_hi (by omega)).symm⟩, fun i hi => (v0_hi (by omega)).symm⟩, fun z => ?_⟩
  · rcases (show i = 0 ∨ i = 1 ∨ i = 2 ∨ i = 3 ∨ i = 4 ∨ i = 5 by omega) with rfl | rfl | rfl | rfl | rfl | rfl <;> exact ⟨by decide, by decide⟩
  · refine ⟨(v0_hi (by omega)).symm, v0_z (by omega) _ (by omega), v0_z (by omega) _ (by omega), v0_z (by omega) _ (by omega), v0_z (by omega) _ (by omega), v0_z (by omega) _ (by omega), ?_, fun _ => ⟨v0_t (by omega), v0_t (by omega), v0_t (by omega)⟩, fun k hk => ?_, fun k hk => ?_⟩
    · rw [v0_t (by omega), v0_t (by omega)]
      exact Nat.le_refl _
    · rw [v0_t (by omega), if_neg (by omega)]
      show tv_fill 100 (-9) (fun _ => 0) (10 * m + k) = -9
      exact if_pos (by omega)
    · rw [v0_t (by omega)] at hk
      omega
  · rw [v0_t (by omega)] at hs
    omega
  · rw [v0_7] at z
    exact absurd z (by decide)
theorem hst_eq : va_up (va_up (va_up (va_up (va_up (fun _ => none) 0 (some (0 + 25))) 1 (some (0 + 45))) 2 (some (0 + 65))) 3 (some (0 + 85))) 4 (some (0 + 105)) = tv_hst := by
  funext j
  unfold tv_hst va_up
  by_cases c4 : j = 4
  · subst c4; rfl
  by_cases c3 : j = 3
  · subst c3; rfl
  by_cases c2 : j = 2
  · subst c2; rfl
  by_cases c1 : j = 1
  · subst c1; rfl
  by_cases c0 : j = 0
  · subst c0; rfl
  rw [if_neg c4, if_neg c3, if_neg c2, if_neg c1, if_neg c0, if_neg (by omega)]
set_option maxRecDepth 100000 in
set_option maxHeartbeats 4000000 in
theorem R_L_start {g : tv_G} {l : Launch} {sL : Nat} {sX : Nat → Int32} (hX2 : tv_XL g 1 = 6 ∧ tv_X g 1 = tv_least ∧ tv_XL g 2 = 6 ∧ tv_X g 2 = tv_great) (hX : tv_XL g 0 = sL ∧ tv_X g 0 = sX) (hX3 : tv_XL g 3 = 6) (hX4 : tv_X g 3 = tv_initv) (hL : sL ≤ 2560) : ∃ h', tv_E g l yL_law cL_law 4 (some .boolean) 8 129 12717 0 [.ref 1000, .null, .null, .null] [] [] (some (.int 1)) h' := by
  obtain ⟨p, hF, hp⟩ := law_ok (sX := sX) hL (hs := fun _ => (si0, sa0 g)) (tx := fun _ => 0) (tl := 0) (hc := 0) (hn := 0) (pa := fun _ => 0) (mt := fun _ => 0) (pm := 0) (ty := 0) (ra := 0) (init_RO g hX4) ⟨0, 0, by omega, by omega, rfl, rfl, rfl, fun j hj => by omega⟩ ⟨0, by omega, rfl, rfl, fun i hi => by omega⟩
  have hR := R_L_law (g := g) (l := l) hX2 hX hF
  rw [hp] at hR
  obtain ⟨hf, hR⟩ : ∃ hf, tv_E g l yL_law cL_law 4 (some .boolean) 8 0 0 18 [.ref 1000, .ref 0, .ref 125, .int 0] [] (HP si0 (sa0 g) (fun _ => (si0, sa0 g)) (fun _ => 0) 0 0 0 v0 (fun _ => 0) (fun _ => 0) 0 0 0) (some (.int 1)) hf := ⟨_, hR⟩
  refine ⟨hf, ?_⟩
  refine ev_new (ci := 7) (N := 3) (i := 0) (fs := [.null, .null, .null]) (kc := 128) (ks := 12714) 3 dL_law_0 rfl okn_L_7 (fun _ => rfl) rfl (Nat.le_of_ble_eq_true rfl) ?_
  refine ev_dup 4 dL_law_3 rfl rfl ?_
  refine ev_callIg (i := 0) (kc1 := 124) (ks1 := 6068) (kc := 4) (ks := 6646) 7 [] [.ref 0] dL_law_4 rfl okI_L_9 okJ_X7_init rfl rfl (Nat.le_of_ble_eq_true rfl) (Nat.le_of_ble_eq_true rfl) (L1 := [.ref 0]) rfl (Nat.le_of_ble_eq_true rfl) (Nat.le_of_ble_eq_true rfl) (R_X7_init (h0 := []) (i := 0) rfl (by omega) hX3) ?_
  rw [hst_eq]
  refine ev_astore_n (i := 1) (L2 := [.ref 1000, .ref 0, .null, .null]) 8 dL_law_7 rfl rfl (Nat.le_of_ble_eq_true rfl) rfl ?_
  refine ev_new (ci := 8) (N := 6) (i := 125) (fs := [.null, .null, .int 0, .null, .int 0, .int 0]) (kc := 3) (ks := 6640) 11 dL_law_8 rfl okn_L_10 (fun _ => rfl) rfl (Nat.le_of_ble_eq_true rfl) ?_
  refine ev_dup 12 dL_law_11 rfl rfl ?_
  refine ev_callIg (i := 125) (kc1 := 3) (ks1 := 6640) (kc := 0) (ks := 0) 15 [] [.ref 125] dL_law_12 rfl okI_L_12 okJ_X8_init rfl rfl (Nat.le_of_ble_eq_true rfl) (Nat.le_of_ble_eq_true rfl) (L1 := [.ref 125]) rfl (Nat.le_of_ble_eq_true rfl) (Nat.le_of_ble_eq_true rfl) (R_X8_init (i := 125) rfl (by omega)) ?_
  refine ev_astore_n (i := 2) (L2 := [.ref 1000, .ref 0, .ref 125, .null]) 16 dL_law_15 rfl rfl (Nat.le_of_ble_eq_true rfl) rfl ?_
  refine ev_iconst (v := 0) 17 dL_law_16 rfl (by decide) ?_
  refine ev_istore_n (i := 3) (L2 := [.ref 1000, .ref 0, .ref 125, .int 0]) 18 dL_law_17 rfl rfl (Nat.le_of_ble_eq_true rfl) rfl ?_
  refine ev_heq ?_ hR
  rfl
end TVL
