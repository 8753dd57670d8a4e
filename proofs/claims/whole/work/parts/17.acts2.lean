/-! ===== the acts, second part: join, open, nominate, deed, sign, grade, type, clear ===== -/
section A2
variable {b : Nat} {si : Nat → Int32} {sa : Nat → Nat → Int32} {v : Nat → Int32} {hs : Nat → (Nat → Int32) × (Nat → Nat → Int32)} {hc hn : Int32} {pa : Nat → Int32} {pm : Int32}
theorem Pm1_more {w : Nat → Int32} {sb : Nat → Nat → Int32} {m : Nat} (h : Pm1 sa v m) (hv : ∀ i, 20 + 15 * m ≤ i → i < 35 + 15 * m → w i = v i) (h10 : tN v 10 ≤ tN w 10) (ha : sb 1 m = sa 1 m) (hb : ∀ k, k < 10 → sb 2 (10 * m + k) = sa 2 (10 * m + k)) : Pm1 sb w m := by
  have q := Pm1_congr (w := fun i => if i = 10 then v 10 else w i) h (fun i g1 g2 => by show (if i = 10 then v 10 else w i) = v i; rw [if_neg (by omega)]; exact hv i g1 g2) (if_pos rfl) ha hb
  have e : ∀ i, 20 ≤ i → (fun i => if i = 10 then v 10 else w i) i = w i := fun i hi => if_neg (by omega)
  have t : ∀ i, 20 ≤ i → tN (fun i => if i = 10 then v 10 else w i) i = tN w i := fun i hi => tN_congr (v := w) (w := fun i => if i = 10 then v 10 else w i) (e i hi)
  have t10 : tN (fun i => if i = 10 then v 10 else w i) 10 = tN v 10 := tN_congr (v := v) (w := fun i => if i = 10 then v 10 else w i) (if_pos rfl)
  have n : ∀ i B, 20 ≤ i → isN (fun i => if i = 10 then v 10 else w i) i B → isN w i B := fun i B hi z => isN_congr z (e i hi).symm
  obtain ⟨h1, h2, h3, h4, h5, h6, h7, h8, h9, h11⟩ := q
  rw [t _ (by omega), t _ (by omega)] at h7
  rw [t10, t _ (by omega), t _ (by omega), t _ (by omega)] at h8
  refine ⟨by rw [h1]; exact e _ (by omega), n _ _ (by omega) h2, n _ _ (by omega) h3, n _ _ (by omega) h4, n _ _ (by omega) h5, n _ _ (by omega) h6, h7, fun z => h8 (by omega), fun k hk => ?_, fun k hk => n _ _ (by omega) (h11 k (by rw [t _ (by omega)]; exact hk))⟩
  rw [h9 k hk, t _ (by omega)]
  split
  · exact e _ (by omega)
  · rfl
theorem join_L42 (l1 : Int32) {M : Nat} (hM : M < 10) : ∀ (k i n : Nat) (w : Nat → Int32), i + k = 15 → k < n → ∃ w', F_X8_join_L42 l1 (nI M) n (nI i) w = some w' ∧ ∀ j, w' j = if 20 + 15 * M + i ≤ j ∧ j < 35 + 15 * M then 0 else w j
  | 0, i, n + 1, w, hi, hn => by
    refine ⟨w, ?_, fun j => ?_⟩
    · rw [F_X8_join_L42, if_pos (show (15 : Int32) ≤ nI i from nI_le (a := 15) (by omega) (by omega))]
    · rw [if_neg (by omega)]
  | k + 1, i, n + 1, w, hi, hn => by
    obtain ⟨w', h1, h2⟩ := join_L42 l1 hM k (i + 1) n (upd w (20 + 15 * M + i) 0) (by omega) (by omega)
    refine ⟨w', ?_, fun j => ?_⟩
    · rw [F_X8_join_L42, if_neg (show ¬ (15 : Int32) ≤ nI i from nI_ge (b := 15) (by omega) (by omega)), at_n, wr_n (by omega) (by omega), Option.bind_some, show nI i + 1 = nI (i + 1) from nI_1 i]
      exact h1
    · rw [h2 j]
      by_cases e : j = 20 + 15 * M + i
      · subst e
        rw [if_neg (by omega), pk_us, if_pos (by omega)]
      · by_cases e2 : 20 + 15 * M + (i + 1) ≤ j ∧ j < 35 + 15 * M
        · rw [if_pos e2, if_pos (by omega)]
        · rw [if_neg e2, pk_un e, if_neg (by omega)]
  | k, i, 0, w, hi, hn => by omega
theorem enrol_ok (h : RO b si sa v) {M : Nat} (hM : tN v 10 = M) (hM9 : M < 10) {key : Nat} (hk : key ≤ 996) {w : Nat → Int32} (hw0 : w (20 + 15 * M) = nI key) (hw1 : w (21 + 15 * M) = 1) (hw2 : ∀ j, 22 + 15 * M ≤ j → j < 35 + 15 * M → w j = 0) (hw10 : w 10 = nI (M + 1)) (hw : ∀ j, j ≠ 10 → (j < 20 + 15 * M ∨ 35 + 15 * M ≤ j) → w j = v j) : RO b (upd (upd si 1 (nI (M + 1))) 2 (nI ((si 2).toNatClampNeg ||| 2 ^ M))) (va_up sa 1 (upd (sa 1) M (nI key))) w := by
  obtain ⟨h, ho⟩ := h
  have hsi : ∀ j, j ≠ 1 → j ≠ 2 → upd (upd si 1 (nI (M + 1))) 2 (nI ((si 2).toNatClampNeg ||| 2 ^ M)) j = si j := fun j g1 g2 => by rw [pk_un g2, pk_un g1]
  have hA : ∀ j, j ≠ 1 → va_up sa 1 (upd (sa 1) M (nI key)) j = sa j := fun j g => up_n g
  have pM := RS_m h hM9
  have z := pM.2.2.2.2.2.2.2.1 (by omega)
  have zc := pM.2.2.2.2.2.2.1
  have w10 : tN w 10 = M + 1 := tN_of hw10 (by omega)
  have v22 : v (22 + 15 * M) = 0 := (n1_iff0 pM.2.2.2.1).mpr (by omega)
  have v23 : v (23 + 15 * M) = 0 := (n1_iff0 pM.2.2.2.2.1).mpr z.2.1
  have e22 : w (22 + 15 * M) = v (22 + 15 * M) := by rw [hw2 _ (by omega) (by omega), v22]
  have e23 : w (23 + 15 * M) = v (23 + 15 * M) := by rw [hw2 _ (by omega) (by omega), v23]
  have e24 : w (24 + 15 * M) = nI 0 := hw2 _ (by omega) (by omega)
  have h2 := h.2.2.2.1.2.1
  refine ⟨⟨Pset_congr h.1 (fun i hi => hw i (by omega) (by omega)) (fun i hi => by rw [hA 0 (by omega)]), ?_, ?_, ⟨fun m hm => ?_, ⟨?_, ?_, fun m hm => ?_⟩, ?_, ?_⟩, Pter_congr h.2.2.2.2.1 (hw 9 (by omega) (by omega)) (RS_T h).2 (fun i g1 g2 => hw i (by omega) (by omega)) (fun j g1 g2 => hA j (by omega)), Pev_congr h.2.2.2.2.2.1 (fun i g1 g2 => hw i (by omega) (by omega)) (fun j g1 g2 => hA j (by omega)), Ptal_congr h.2.2.2.2.2.2 (fun i g1 g2 => hw i (by omega) (by omega)) (hA 3 (by omega))⟩, ?_⟩
  · obtain ⟨a1, a2, a3, a4, a5, a6, a7, a8⟩ := h.2.1
    exact ⟨by rw [hsi 0 (by omega) (by omega), hw 6 (by omega) (by omega)]; exact a1, by rw [hsi 4 (by omega) (by omega), hw 7 (by omega) (by omega)]; exact a2, by rw [hsi 5 (by omega) (by omega), hw 8 (by omega) (by omega)]; exact a3, by rw [hsi 9 (by omega) (by omega), hw 9 (by omega) (by omega)]; exact a4, by rw [pk_un (by omega), pk_us, hw10], by rw [hsi 6 (by omega) (by omega), hw 11 (by omega) (by omega)]; exact a6, by rw [hsi 10 (by omega) (by omega), hw 12 (by omega) (by omega)]; exact a7, by rw [hsi 8 (by omega) (by omega), hw 13 (by omega) (by omega)]; exact a8⟩
  · obtain ⟨a1, a2, a3, a4, a5, a6, a7⟩ := h.2.2.1
    refine ⟨isN_congr a1 (hw 6 (by omega) (by omega)), isN_congr a2 (hw 9 (by omega) (by omega)), isN_of hw10 (by omega) (by omega), isN_congr a4 (hw 12 (by omega) (by omega)), isN_congr a5 (hw 13 (by omega) (by omega)), ?_, ?_⟩
    · rw [hw 11 (by omega) (by omega), tN_congr (hw 9 (by omega) (by omega))]; exact a6
    · rw [hw 7 (by omega) (by omega), hw 8 (by omega) (by omega), tN_congr (hw 8 (by omega) (by omega)), w10]
      exact a7.imp id (fun z => ⟨z.1, isN_congr z.2.1 (hw 8 (by omega) (by omega)), by omega⟩)
  · by_cases c : m = M
    · subst c
      refine ⟨by rw [up_s, pk_us, hw0], isN_of hw0 (by omega) (by omega), isN_of (k := 1) hw1 (by omega) (by omega), isN_congr pM.2.2.2.1 e22, isN_congr pM.2.2.2.2.1 e23, isN_of e24 (by omega) (by omega), ?_, fun z => by omega, fun k hk => ?_, fun k hk => ?_⟩
      · rw [tN_congr e22]
        omega
      · rw [hA 2 (by omega), pM.2.2.2.2.2.2.2.2.1 k hk, tN_of e24 (by omega), z.2.2, if_neg (by omega), if_neg (by omega)]
      · rw [tN_of e24 (by omega)] at hk
        omega
    · exact Pm1_more (RS_m h hm) (fun i g1 g2 => hw i (by omega) (by omega)) (by omega) (by rw [up_s, pk_un c]) (fun k _ => by rw [hA 2 (by omega)])
  · rw [pk_us, nI_clamp (by have := set_lt h2.2.1 hM9; omega)]
  · rw [pk_us, nI_clamp (by have := set_lt h2.2.1 hM9; omega)]
    exact set_lt h2.2.1 hM9
  · rw [pk_us, nI_clamp (by have := set_lt h2.2.1 hM9; omega), set_bit hm, h2.2.2 m hm]
    by_cases c : m = M
    · subst c
      rw [show tN w (21 + 15 * m) = 1 from tN_of (k := 1) hw1 (by omega)]
      simp
    · rw [tN_congr (hw (21 + 15 * m) (by omega) (by omega)), decide_eq_false (show ¬ M = m from fun z => c z.symm), Bool.or_false]
  · refine Bm_congr h.2.2.2.1.2.2.1 (hsi 7 (by omega) (by omega)) (fun m hm => ?_)
    by_cases c : m = M
    · subst c; exact e22
    · exact hw _ (by omega) (by omega)
  · refine Bm_congr h.2.2.2.1.2.2.2 (hsi 3 (by omega) (by omega)) (fun m hm => ?_)
    by_cases c : m = M
    · subst c; exact e23
    · exact hw _ (by omega) (by omega)
  · have hT := (RS_T h).2
    exact off_congr ho (hw 7 (by omega) (by omega)) (hw 8 (by omega) (by omega)) (hw 9 (by omega) (by omega)) (fun _ => hw _ (by omega) (by omega)) (fun z => hw _ (by have := hold_le h (Or.inl z); omega) (by have := hold_le h (Or.inl z); omega))
theorem join_ok (hb : b < 2 ^ 29) (h : RO b si sa v) (hh : RH b hs hc hn pa pm) (a1 : Int32) : ∃ r si' sa' hs' hc' hn' v' pa' pm', F_X7_join si sa hs hc hn a1 = some (r, si', sa', hs', hc', hn') ∧ F_X8_join v pa pm a1 = some (r, v', pa', pm') ∧ RO (b + 2) si' sa' v' ∧ RH (b + 2) hs' hc' hn' pa' pm' := by
  unfold F_X7_join F_X8_join
  have same : ∀ r : Int32, ∃ r' si' sa' hs' hc' hn' v' pa' pm', some (r, si, sa, hs, hc, hn) = some (r', si', sa', hs', hc', hn') ∧ some (r, v, pa, pm) = some (r', v', pa', pm') ∧ RO (b + 2) si' sa' v' ∧ RH (b + 2) hs' hc' hn' pa' pm' := fun r => ⟨_, _, _, _, _, _, _, _, _, rfl, rfl, RO_mono h (by omega), RH_mono hh (by omega)⟩
  rcases small a1 997 (by omega) (by omega) with ⟨key, hk, rfl, z1, z2, z3⟩ | ⟨z1, z2⟩
  · obtain ⟨eM, hM⟩ := RS_M h.1
    have e1 : si 1 = nI (tN v 10) := by rw [← eM]; exact h.1.2.1.2.2.2.2.1
    have r10 : tv_rd 1100 v 10 = some (nI (tN v 10)) := by rw [← eM]; exact rd_n (k := 10) (by omega) (by omega)
    rw [if_neg z2, if_pos (show nI key < 997 from z3), show (996 : Int32) = nI (997 - 1) from rfl, z1, if_neg h10, e1, r10, Option.bind_some]
    generalize hMe : tN v 10 = M at eM hM e1 r10
    by_cases c : M = 10
    · subst c
      rw [if_neg (show ¬ nI 10 < 10 from by decide), if_pos (show nI 10 = 10 from rfl)]
      exact same _
    · have hM9 : M < 10 := by omega
      rw [if_pos (show nI M < 10 from nI_lt (b := 10) hM9 (by omega)), if_neg (show ¬ nI M = 10 from fun z => c ((nI_eq (b := 10) (by omega) (by omega)).mp z))]
      obtain ⟨hs', hc', hn', pa', pm', k1, k2, k3⟩ := hist_ok h hh
      obtain ⟨w, w1, w2⟩ := join_L42 (nI key) hM9 15 0 tv_fu v (by omega) (by rw [tv_fu_eq]; omega)
      rw [nI_0] at w1
      have h2 := h.1.2.2.2.1.2.1
      have hadm := enrol_ok h hMe hM9 (key := key) (by omega) (w := upd (upd (upd w (20 + 15 * M) (nI key)) (21 + 15 * M) 1) 10 (nI (M + 1))) (by rw [pk_un (by omega), pk_un (by omega), pk_us]) (by rw [pk_un (by omega), pk_us]) (fun j g1 g2 => by rw [pk_un (by omega), pk_un (by omega), pk_un (by omega), w2, if_pos (by omega)]) pk_us (fun j g1 g2 => by rw [pk_un g1, pk_un (by omega), pk_un (by omega), w2, if_neg (by omega)])
      obtain ⟨si', sa', v', u1, u2, u3, _⟩ := looks_ok hb hadm
      have r10' : ∀ x : Nat → Int32, tv_rd 1100 x 10 = some (x 10) := fun x => rd_n (k := 10) (by omega) (by omega)
      have w10' : ∀ (x : Nat → Int32) (y : Int32), tv_wr 1100 x 10 y = some (upd x 10 y) := fun x y => wr_n (k := 10) (by omega) (by omega)
      unfold F_X5_enrol
      rw [k1, k2, Option.bind_some, Option.bind_some, e1, wr_n hM9 (by omega), Option.bind_some, Option.bind_some, pk_un (show (2 : Nat) ≠ 1 by omega), show nI M + 1 = nI (M + 1) from nI_1 M, h2.1, set_n hM9]
      dsimp only
      rw [u1, Option.bind_some, Option.bind_some, w1, Option.bind_some, at0, wr_n (by omega) (by omega), Option.bind_some, at1, wr_n (by omega) (by omega), Option.bind_some, r10', Option.bind_some, w10', Option.bind_some, pk_un (show (10 : Nat) ≠ 21 + 15 * M by omega), pk_un (show (10 : Nat) ≠ 20 + 15 * M by omega), show w 10 = nI M from by rw [w2, if_neg (by omega)]; exact eM, show nI M + 1 = nI (M + 1) from nI_1 M, u2]
      exact ⟨_, _, _, _, _, _, _, _, _, rfl, rfl, u3, RH_mono k3 (by omega)⟩
  · rw [show (996 : Int32) = nI (997 - 1) from rfl, z1, if_pos h00]
    rcases z2 with z2 | ⟨z2, z3⟩
    · rw [if_pos z2]
      exact same _
    · rw [if_neg z2, if_neg (show ¬ a1 < 997 from z3)]
      exact same _
/-! open -/
theorem open_ok (h : RO b si sa v) (hh : RH b hs hc hn pa pm) : ∃ r si' hs' hc' hn' v' pa' pm', F_X7_open si sa hs hc hn = some (r, si', hs', hc', hn') ∧ F_X8_open v pa pm = some (r, v', pa', pm') ∧ RO b si' sa v' ∧ RH b hs' hc' hn' pa' pm' := by
  unfold F_X7_open F_X8_open
  have same : ∀ r : Int32, ∃ r' si' hs' hc' hn' v' pa' pm', some (r, si, hs, hc, hn) = some (r', si', hs', hc', hn') ∧ some (r, v, pa, pm) = some (r', v', pa', pm') ∧ RO b si' sa v' ∧ RH b hs' hc' hn' pa' pm' := fun r => ⟨_, _, _, _, _, _, _, _, rfl, rfl, h, hh⟩
  obtain ⟨eT, hT⟩ := RS_T h.1
  have e9 : si 9 = nI (tN v 9) := by rw [← eT]; exact h.1.2.1.2.2.2.1
  rw [show si 6 = v 11 from h.1.2.1.2.2.2.2.2.1, show si 4 = v 7 from h.1.2.1.2.1, e9, show tv_rd 1100 v 11 = some (v 11) from rd_n (k := 11) (by omega) (by omega), Option.bind_some, show tv_rd 1100 v 7 = some (v 7) from rd_n (k := 7) (by omega) (by omega), Option.bind_some, show tv_rd 1100 v 9 = some (nI (tN v 9)) from by rw [← eT]; exact rd_n (k := 9) (by omega) (by omega), Option.bind_some]
  rcases h.1.2.2.1.2.2.2.2.2.1 with z | ⟨z, _⟩
  · rw [z, if_pos h00, if_neg (show ¬ (0 : Int32) = 1 from by decide)]
    by_cases c : v 7 = 2
    · rw [if_pos c, if_pos c]
      exact same _
    · rw [if_neg c, if_neg c]
      by_cases c2 : tN v 9 = 40
      · rw [c2, if_neg (show ¬ nI 40 < 40 from by decide), if_pos (show nI 40 = 40 from rfl)]
        exact same _
      · rw [if_pos (show nI (tN v 9) < 40 from nI_lt (b := 40) (by omega) (by omega)), if_neg (show ¬ nI (tN v 9) = 40 from fun q => c2 ((nI_eq (b := 40) (by omega) (by omega)).mp q))]
        obtain ⟨hs', hc', hn', pa', pm', k1, k2, k3⟩ := hist_ok h hh
        have r9 : ∀ x : Nat → Int32, tv_rd 1100 x 9 = some (x 9) := fun x => rd_n (k := 9) (by omega) (by omega)
        rw [k1, k2, Option.bind_some, Option.bind_some, show tv_wr 1100 v 11 1 = some (upd v 11 1) from wr_n (k := 11) (by omega) (by omega), Option.bind_some, r9, Option.bind_some, pk_un (show (9 : Nat) ≠ 6 by omega), pk_un (show (9 : Nat) ≠ 11 by omega), e9, ← eT]
        refine ⟨_, _, _, _, _, _, _, _, rfl, rfl, ?_, k3⟩
        have hv : ∀ i, i ≠ 11 → upd v 11 1 i = v i := fun i g => pk_un g
        have hsi : ∀ j, j ≠ 6 → upd si 6 1 j = si j := fun j g => pk_un g
        obtain ⟨h, ho⟩ := h
        refine ⟨⟨Pset_congr h.1 (fun i hi => hv i (by omega)) (fun _ _ => rfl), ?_, ?_, Pmem_congr h.2.2.2.1 (fun i g1 g2 => hv i (by omega)) (hv 10 (by omega)) rfl rfl (hsi 2 (by omega)) (hsi 7 (by omega)) (hsi 3 (by omega)), Pter_congr h.2.2.2.2.1 (hv 9 (by omega)) hT (fun i g1 g2 => hv i (by omega)) (fun _ _ _ => rfl), Pev_congr h.2.2.2.2.2.1 (fun i g1 g2 => hv i (by omega)) (fun _ _ _ => rfl), Ptal_congr h.2.2.2.2.2.2 (fun i g1 g2 => hv i (by omega)) rfl⟩, off_congr ho (hv 7 (by omega)) (hv 8 (by omega)) (hv 9 (by omega)) (fun _ => hv _ (by omega)) (fun _ => hv _ (by omega))⟩
        · obtain ⟨a1, a2, a3, a4, a5, a6, a7, a8⟩ := h.2.1
          exact ⟨by rw [hsi 0 (by omega), hv 6 (by omega)]; exact a1, by rw [hsi 4 (by omega), hv 7 (by omega)]; exact a2, by rw [hsi 5 (by omega), hv 8 (by omega)]; exact a3, by rw [hsi 9 (by omega), hv 9 (by omega)]; exact a4, by rw [hsi 1 (by omega), hv 10 (by omega)]; exact a5, by rw [pk_us, pk_us], by rw [hsi 10 (by omega), hv 12 (by omega)]; exact a7, by rw [hsi 8 (by omega), hv 13 (by omega)]; exact a8⟩
        · obtain ⟨a1, a2, a3, a4, a5, a6, a7⟩ := h.2.2.1
          refine ⟨isN_congr a1 (hv 6 (by omega)), isN_congr a2 (hv 9 (by omega)), isN_congr a3 (hv 10 (by omega)), isN_congr a4 (hv 12 (by omega)), isN_congr a5 (hv 13 (by omega)), ?_, ?_⟩
          · rw [pk_us, tN_congr (hv 9 (by omega))]; exact Or.inr ⟨rfl, by omega⟩
          · rw [hv 7 (by omega), hv 8 (by omega), tN_congr (hv 8 (by omega)), tN_congr (hv 10 (by omega))]
            exact a7.imp id (fun z => ⟨z.1, isN_congr z.2.1 (hv 8 (by omega)), z.2.2⟩)
  · rw [z, if_neg h10, if_pos (show (1 : Int32) = 1 from rfl)]
    exact same _
/-! one flag of one member -/
theorem flag_ok (h : RS b si sa v) {m : Nat} (hm : m < 10) {w sj : Nat → Int32} {o : Nat} (ho : o = 21 ∨ o = 22 ∨ o = 23) (hv : ∀ i, i ≠ o + 15 * m → w i = v i) (hn : isN w (o + 15 * m) 1) (hM : tN v 10 ≤ m → tN w (o + 15 * m) = 0) (hc : tN w (22 + 15 * m) ≤ tN w (21 + 15 * m)) (hsi : ∀ j, j ≠ 2 → j ≠ 7 → j ≠ 3 → sj j = si j) (b2 : Bm (sj 2) w 21) (b7 : Bm (sj 7) w 22) (b3 : Bm (sj 3) w 23) : RS b sj sa w := by
  have ov : ∀ m', m' < 10 → m' ≠ m → ∀ i, 20 + 15 * m' ≤ i → i < 35 + 15 * m' → w i = v i := fun m' h1 h2 i g1 g2 => hv i (by rcases ho with e | e | e <;> omega)
  have lo : ∀ i, i < 20 → w i = v i := fun i hi => hv i (by rcases ho with e | e | e <;> omega)
  have hiv : ∀ i, 170 ≤ i → w i = v i := fun i hi => hv i (by rcases ho with e | e | e <;> omega)
  refine ⟨Pset_congr h.1 (fun i hi => lo i (by omega)) (fun _ _ => rfl), ?_, ?_, ⟨fun m' hm' => ?_, b2, b7, b3⟩, Pter_congr h.2.2.2.2.1 (lo 9 (by omega)) (RS_T h).2 (fun i g1 g2 => hiv i (by omega)) (fun _ _ _ => rfl), Pev_congr h.2.2.2.2.2.1 (fun i g1 g2 => hiv i (by omega)) (fun _ _ _ => rfl), Ptal_congr h.2.2.2.2.2.2 (fun i g1 g2 => hiv i (by omega)) rfl⟩
  · obtain ⟨a1, a2, a3, a4, a5, a6, a7, a8⟩ := h.2.1
    exact ⟨by rw [hsi 0 (by omega) (by omega) (by omega), lo 6 (by omega)]; exact a1, by rw [hsi 4 (by omega) (by omega) (by omega), lo 7 (by omega)]; exact a2, by rw [hsi 5 (by omega) (by omega) (by omega), lo 8 (by omega)]; exact a3, by rw [hsi 9 (by omega) (by omega) (by omega), lo 9 (by omega)]; exact a4, by rw [hsi 1 (by omega) (by omega) (by omega), lo 10 (by omega)]; exact a5, by rw [hsi 6 (by omega) (by omega) (by omega), lo 11 (by omega)]; exact a6, by rw [hsi 10 (by omega) (by omega) (by omega), lo 12 (by omega)]; exact a7, by rw [hsi 8 (by omega) (by omega) (by omega), lo 13 (by omega)]; exact a8⟩
  · obtain ⟨a1, a2, a3, a4, a5, a6, a7⟩ := h.2.2.1
    refine ⟨isN_congr a1 (lo 6 (by omega)), isN_congr a2 (lo 9 (by omega)), isN_congr a3 (lo 10 (by omega)), isN_congr a4 (lo 12 (by omega)), isN_congr a5 (lo 13 (by omega)), ?_, ?_⟩
    · rw [lo 11 (by omega), tN_congr (lo 9 (by omega))]; exact a6
    · rw [lo 7 (by omega), lo 8 (by omega), tN_congr (lo 8 (by omega)), tN_congr (lo 10 (by omega))]
      exact a7.imp id (fun z => ⟨z.1, isN_congr z.2.1 (lo 8 (by omega)), z.2.2⟩)
  · by_cases c : m' = m
    · subst c
      have p := RS_m h hm'
      have f : ∀ o', (o' = 21 ∨ o' = 22 ∨ o' = 23) → isN v (o' + 15 * m') 1 → isN w (o' + 15 * m') 1 := fun o' h1 h2 => by
        by_cases e : o' = o
        · rw [e]; exact hn
        · exact isN_congr h2 (hv _ (by omega))
      refine Pm1_flags p (fun i g1 g2 g3 g4 g5 => hv i (by rcases ho with e | e | e <;> omega)) (lo 10 (by omega)) rfl (fun _ _ => rfl) (f 21 (Or.inl rfl) p.2.2.1) (f 22 (Or.inr (Or.inl rfl)) p.2.2.2.1) (f 23 (Or.inr (Or.inr rfl)) p.2.2.2.2.1) hc (fun z => ?_)
      have z0 := p.2.2.2.2.2.2.2.1 z
      constructor
      · by_cases e : o = 21
        · subst e; exact hM z
        · rw [tN_congr (hv (21 + 15 * m') (by omega))]; exact z0.1
      · by_cases e : o = 23
        · subst e; exact hM z
        · rw [tN_congr (hv (23 + 15 * m') (by omega))]; exact z0.2.1
    · exact Pm1_congr (RS_m h hm') (ov m' hm' c) (lo 10 (by omega)) rfl (fun _ _ => rfl)
theorem Bm_set {x : Int32} {o m : Nat} (hB : Bm x v o) (hm : m < 10) {w : Nat → Int32} (hw : w (o + 15 * m) = 1) (hv : ∀ j, j < 10 → j ≠ m → w (o + 15 * j) = v (o + 15 * j)) : Bm (x ||| F_X7_only (nI m)) w o := by
  have e : x ||| F_X7_only (nI m) = nI (x.toNatClampNeg ||| 2 ^ m) := by
    conv => lhs; rw [hB.1]
    exact set_n hm
  have hlt := set_lt hB.2.1 hm
  have c : (x ||| F_X7_only (nI m)).toNatClampNeg = x.toNatClampNeg ||| 2 ^ m := by rw [e]; exact nI_clamp (by omega)
  refine ⟨by rw [c]; exact e, by rw [c]; exact hlt, fun j hj => ?_⟩
  rw [c, set_bit hj, hB.2.2 j hj]
  by_cases q : j = m
  · subst q
    rw [show tN w (o + 15 * j) = 1 from tN_of (k := 1) hw (by omega)]
    simp
  · rw [tN_congr (hv j hj q), decide_eq_false (show ¬ m = j from fun z => q z.symm), Bool.or_false]
theorem Bm_clr {x : Int32} {o m : Nat} (hB : Bm x v o) (hm : m < 10) {w : Nat → Int32} (hw : w (o + 15 * m) = 0) (hv : ∀ j, j < 10 → j ≠ m → w (o + 15 * j) = v (o + 15 * j)) : Bm (x &&& (F_X7_only (nI m) ^^^ (-1))) w o := by
  have e : x &&& (F_X7_only (nI m) ^^^ (-1)) = nI (x.toNatClampNeg &&& (1023 ^^^ 2 ^ m)) := by
    conv => lhs; rw [hB.1]
    exact clr_n hB.2.1 hm
  have hlt := clr_lt (k := 1023 ^^^ 2 ^ m) hB.2.1
  have c : (x &&& (F_X7_only (nI m) ^^^ (-1))).toNatClampNeg = x.toNatClampNeg &&& (1023 ^^^ 2 ^ m) := by rw [e]; exact nI_clamp (by omega)
  refine ⟨by rw [c]; exact e, by rw [c]; exact hlt, fun j hj => ?_⟩
  rw [c, clr_bit hj, hB.2.2 j hj]
  by_cases q : j = m
  · subst q
    rw [show tN w (o + 15 * j) = 0 from tN_of (k := 0) hw (by omega)]
    simp
  · rw [tN_congr (hv j hj q), decide_eq_false (show ¬ m = j from fun z => q z.symm), Bool.not_false, Bool.and_true]
/-! candidates -/
def cndN (v : Nat → Int32) (m : Nat) : Nat := tN v (22 + 15 * m)
theorem cnd_L (h : RS b si sa v) : ∀ (k i acc n : Nat), i + k = tN v 10 → k < n → F_X8_candidates_L4 v n (nI acc) (nI i) = some (nI (acc + sg (cndN v) i k))
  | 0, i, acc, n + 1, hi, hn => by
    obtain ⟨eM, hM⟩ := RS_M h
    rw [F_X8_candidates_L4, show tv_rd 1100 v 10 = some (nI (tN v 10)) from by rw [← eM]; exact rd_n (k := 10) (by omega) (by omega), Option.bind_some, if_pos (nI_le (by omega) (by omega))]
    rfl
  | k + 1, i, acc, n + 1, hi, hn => by
    obtain ⟨eM, hM⟩ := RS_M h
    have ih := fun a => cnd_L h k (i + 1) a n (by omega) (by omega)
    have p := RS_m h (m := i) (by omega)
    rw [F_X8_candidates_L4, show tv_rd 1100 v 10 = some (nI (tN v 10)) from by rw [← eM]; exact rd_n (k := 10) (by omega) (by omega), Option.bind_some, if_neg (nI_ge (by omega) (by omega)), at2, rd1 (by omega), Option.bind_some, show nI i + 1 = nI (i + 1) from nI_1 i, p.2.2.2.1.1, nI_add, ih, sg, cndN]
    congr 2
    omega
  | k, i, acc, 0, hi, hn => by omega
theorem cnd_z (h : RS b si sa v) {m : Nat} (hm : m < 10) (hM : tN v 10 ≤ m) : tN v (22 + 15 * m) = 0 := by
  have p := RS_m h hm
  have := (p.2.2.2.2.2.2.2.1 hM).1
  have := p.2.2.2.2.2.2.1
  omega
theorem cnd_m (h : RS b si sa v) : F_X8_candidates v = some (nI (sg (cndN v) 0 10)) := by
  obtain ⟨eM, hM⟩ := RS_M h
  have e := cnd_L h (tN v 10) 0 0 tv_fu (by omega) (by rw [tv_fu_eq]; omega)
  rw [nI_0, Nat.zero_add] at e
  unfold F_X8_candidates
  rw [e, Option.bind_some, sg_cut (f := cndN v) hM (fun j h1 h2 => cnd_z h h2 h1)]
theorem cnd_c (h : RS b si sa v) : tv_bc (si 7) = nI (sg (cndN v) 0 10) := by
  have h2 := h.2.2.2.1.2.2.1
  rw [h2.1, bc_n _ h2.2.1]
  congr 1
  exact sg_congr _ _ 10 0 (fun j _ hj => Bm_bN h2 (by omega) (RS_m h (by omega)).2.2.2.1)
theorem nominate_ok (h : RO b si sa v) (hh : RH b hs hc hn pa pm) (a1 : Int32) : ∃ r si' hs' hc' hn' v' pa' pm', F_X7_nominate si sa hs hc hn a1 = some (r, si', hs', hc', hn') ∧ F_X8_nominate v pa pm a1 = some (r, v', pa', pm') ∧ RO b si' sa v' ∧ RH b hs' hc' hn' pa' pm' := by
  unfold F_X7_nominate F_X8_nominate
  have same : ∀ r : Int32, ∃ r' si' hs' hc' hn' v' pa' pm', some (r, si, hs, hc, hn) = some (r', si', hs', hc', hn') ∧ some (r, v, pa, pm) = some (r', v', pa', pm') ∧ RO b si' sa v' ∧ RH b hs' hc' hn' pa' pm' := fun r => ⟨_, _, _, _, _, _, _, _, rfl, rfl, h, hh⟩
  rcases mem_ok h.1 a1 with ⟨m, hm0, hm, rfl, q1, q2⟩ | ⟨q1, q2⟩
  · have p := RS_m h.1 hm
    rw [q1, q2, Option.bind_some, if_neg h10, if_neg h10, show si 6 = v 11 from h.1.2.1.2.2.2.2.2.1, show tv_rd 1100 v 11 = some (v 11) from rd_n (k := 11) (by omega) (by omega), Option.bind_some]
    by_cases c1 : v 11 = 0
    · rw [if_pos c1, if_pos c1]
      exact same _
    · rw [if_neg c1, if_neg c1, cand_c h.1 hm, at2, rd1 (by omega), Option.bind_some]
      by_cases c2 : v (22 + 15 * m) = 1
      · rw [c2, if_neg h10, if_pos (show (1 : Int32) = 1 from rfl)]
        exact same _
      · have c2' : v (22 + 15 * m) = 0 := (n1_or p.2.2.2.1).resolve_right c2
        obtain ⟨x, hx, hx1, x1, x2⟩ := can_ok h.1 hm
        rw [c2', if_pos h00, if_neg (show ¬ (0 : Int32) = 1 from by decide), x1, x2, Option.bind_some, Option.bind_some]
        rcases hx with e | e
        · rw [e, if_pos h00, if_pos h00]
          exact same _
        · rw [e, if_neg h10, if_neg h10]
          obtain ⟨hs', hc', hn', pa', pm', k1, k2, k3⟩ := hist_ok h hh
          rw [k1, k2, Option.bind_some, Option.bind_some, wr_n (by omega) (by omega), Option.bind_some]
          have hp := hx1 e
          have hv : ∀ i, i ≠ 22 + 15 * m → upd v (22 + 15 * m) 1 i = v i := fun i g => pk_un g
          have hsi : ∀ j, j ≠ 7 → upd si 7 (si 7 ||| F_X7_only (nI m)) j = si j := fun j g => pk_un g
          have hnew : RS b (upd si 7 (si 7 ||| F_X7_only (nI m))) sa (upd v (22 + 15 * m) 1) := flag_ok h.1 hm (Or.inr (Or.inl rfl)) hv (isN_of (k := 1) pk_us (by omega) (by omega)) (fun z => by omega) (by rw [tN_of (k := 1) (v := upd v (22 + 15 * m) 1) (i := 22 + 15 * m) pk_us (by omega), tN_congr (hv (21 + 15 * m) (by omega))]; omega) (fun j g1 g2 g3 => hsi j g2) (Bm_congr h.1.2.2.2.1.2.1 (hsi 2 (by omega)) (fun j hj => hv _ (by omega))) (by rw [pk_us]; exact Bm_set h.1.2.2.2.1.2.2.1 hm pk_us (fun j hj g => hv _ (by omega))) (Bm_congr h.1.2.2.2.1.2.2.2 (hsi 3 (by omega)) (fun j hj => hv _ (by omega)))
          rw [cnd_c hnew, cnd_m hnew]
          exact ⟨_, _, _, _, _, _, _, _, rfl, rfl, ⟨hnew, off_congr h.2 (hv 7 (by omega)) (hv 8 (by omega)) (hv 9 (by omega)) (fun _ => hv _ (by omega)) (fun _ => hv _ (by omega))⟩, k3⟩
  · rw [q1, q2, Option.bind_some, if_pos h00, if_pos h00]
    exact same _
end A2
