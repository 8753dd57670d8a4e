/-! ===== the acts, third part: deed, sign, grade; the text ===== -/
section A3
variable {b : Nat} {si : Nat → Int32} {sa : Nat → Nat → Int32} {v : Nat → Int32} {hs : Nat → (Nat → Int32) × (Nat → Nat → Int32)} {hc hn : Int32} {pa : Nat → Int32} {pm : Int32}
/-- one term changes, behind its first cell -/
theorem term1_ok (h : RO b si sa v) {s : Nat} (hs : s < tN v 9) {w : Nat → Int32} {sb : Nat → Nat → Int32} (hv : ∀ i, (i < 171 + 18 * s ∨ 188 + 18 * s ≤ i) → w i = v i) (hA : ∀ j, j < 4 ∨ 11 < j → sb j = sa j) (hA2 : ∀ j t, 4 ≤ j → j ≤ 10 → t ≠ s + 1 → sb j t = sa j t) (hA3 : ∀ t m, t ≠ s → m < 10 → sb 11 (10 * (t + 1) + m) = sa 11 (10 * (t + 1) + m)) (hnew : Pt1 sb w s) : RO b si sb w := by
  obtain ⟨h, ho⟩ := h
  obtain ⟨eT, hT⟩ := RS_T h
  refine ⟨⟨Pset_congr h.1 (fun i hi => hv i (by omega)) (fun i hi => by rw [hA 0 (by omega)]), ?_, ?_, Pmem_congr h.2.2.2.1 (fun i g1 g2 => hv i (by omega)) (hv 10 (by omega)) (hA 1 (by omega)) (hA 2 (by omega)) rfl rfl rfl, fun t ht => ?_, Pev_congr h.2.2.2.2.2.1 (fun i g1 g2 => hv i (by omega)) (fun j g1 g2 => hA j (by omega)), Ptal_congr h.2.2.2.2.2.2 (fun i g1 g2 => hv i (by omega)) (hA 3 (by omega))⟩, off_congr ho (hv 7 (by omega)) (hv 8 (by omega)) (hv 9 (by omega)) (fun _ => ?_) (fun z => hv _ (by have := hold_le h (Or.inl z); have := this.1.2; omega))⟩
  · obtain ⟨a1, a2, a3, a4, a5, a6, a7, a8⟩ := h.2.1
    refine ⟨?_, ?_, ?_, ?_, ?_, ?_, ?_, ?_⟩ <;> rw [hv _ (by omega)] <;> assumption
  · obtain ⟨a1, a2, a3, a4, a5, a6, a7⟩ := h.2.2.1
    refine ⟨isN_congr a1 (hv 6 (by omega)), isN_congr a2 (hv 9 (by omega)), isN_congr a3 (hv 10 (by omega)), isN_congr a4 (hv 12 (by omega)), isN_congr a5 (hv 13 (by omega)), ?_, ?_⟩
    · rw [hv 11 (by omega), tN_congr (hv 9 (by omega))]; exact a6
    · rw [hv 7 (by omega), hv 8 (by omega), tN_congr (hv 8 (by omega)), tN_congr (hv 10 (by omega))]
      exact a7.imp id (fun z => ⟨z.1, isN_congr z.2.1 (hv 8 (by omega)), z.2.2⟩)
  · rw [tN_congr (hv 9 (by omega))] at ht
    by_cases c : t = s
    · rw [c]; exact hnew
    · exact Pt1_congr (RS_t h ht) (fun i g1 g2 => hv i (by omega)) (fun j g1 g2 => hA2 j _ g1 g2 (by omega)) (fun m hm => hA3 t m c hm)
  · by_cases c : tN v 9 - 1 = s
    · rw [c]; exact hv _ (by omega)
    · exact hv _ (by omega)
theorem deed_ok (h : RO b si sa v) (hh : RH b hs hc hn pa pm) (a1 : Int32) : ∃ r sa' hs' hc' hn' v' pa' pm', F_X7_deed si sa hs hc hn a1 = some (r, sa', hs', hc', hn') ∧ F_X8_deed v pa pm a1 = some (r, v', pa', pm') ∧ RO b si sa' v' ∧ RH b hs' hc' hn' pa' pm' := by
  unfold F_X7_deed F_X8_deed
  have same : ∀ r : Int32, ∃ r' sa' hs' hc' hn' v' pa' pm', some (r, sa, hs, hc, hn) = some (r', sa', hs', hc', hn') ∧ some (r, v, pa, pm) = some (r', v', pa', pm') ∧ RO b si sa' v' ∧ RH b hs' hc' hn' pa' pm' := fun r => ⟨_, _, _, _, _, _, _, _, rfl, rfl, h, hh⟩
  rw [show si 4 = v 7 from h.1.2.1.2.1, show tv_rd 1100 v 7 = some (v 7) from rd_n (k := 7) (by omega) (by omega), Option.bind_some]
  by_cases c : v 7 = 2
  · obtain ⟨eT, hT⟩ := RS_T h.1
    obtain ⟨o1, o2, o3⟩ := h.2 c
    obtain ⟨s, hs0⟩ : ∃ s, tN v 9 = s + 1 := ⟨tN v 9 - 1, by omega⟩
    have e9 : si 9 = nI (s + 1) := by rw [← hs0, ← eT]; exact h.1.2.1.2.2.2.1
    have r9 : tv_rd 1100 v 9 = some (nI (s + 1)) := by rw [← hs0, ← eT]; exact rd_n (k := 9) (by omega) (by omega)
    have p := RS_t h.1 (s := s) (by omega)
    obtain ⟨h1, h2, h3, h4, ⟨d1, d2, d3⟩, h6, h7, h8, h9⟩ := id p
    unfold F_X6_latestDeeds F_X6_setLatestDeeds
    obtain ⟨y, y1, y2, y3⟩ : ∃ y : Int32, (if a1 = 0 then some (-1 : Int32) else some 1) = some y ∧ (if a1 = 0 then some (v (174 + 18 * s) + -1) else some (v (174 + 18 * s) + 1)) = some (v (174 + 18 * s) + y) ∧ -1 ≤ y.toInt ∧ y.toInt ≤ 1 := by
      by_cases q : a1 = 0
      · exact ⟨-1, if_pos q, if_pos q, by decide, by decide⟩
      · exact ⟨1, if_neg q, if_neg q, by decide, by decide⟩
    have e : (v (174 + 18 * s) + y).toInt = (v (174 + 18 * s)).toInt + y.toInt := toI_add (by omega) (by omega)
    rw [if_pos c, if_pos c, e9, rd_n (by omega) (by omega), Option.bind_some, Option.bind_some, d1, y1, Option.bind_some, r9, Option.bind_some, of4, rd1 (by omega), Option.bind_some, y2, Option.bind_some]
    generalize v (174 + 18 * s) + y = z at e ⊢
    by_cases c1 : 20 < z
    · rw [if_pos c1, in_0 (Or.inr c1), if_pos h00]
      exact same _
    · rw [if_neg c1]
      by_cases c2 : -20 ≤ z
      · have c2' : ¬ z < -20 := by rw [toI_lt]; rw [toI_le] at c2; omega
        rw [if_pos c2, in_1 c2' c1, if_neg h10]
        obtain ⟨hs', hc', hn', pa', pm', k1, k2, k3⟩ := hist_ok h hh
        rw [k1, k2, Option.bind_some, Option.bind_some, wr_n (by omega) (by omega), Option.bind_some, Option.bind_some, Option.bind_some, of4, wr_n (by omega) (by omega), Option.bind_some]
        rw [toI_lt, show ((20 : Int32)).toInt = 20 from by decide] at c1
        rw [toI_lt, show ((-20 : Int32)).toInt = -20 from by decide] at c2'
        have hv : ∀ i, i ≠ 174 + 18 * s → upd v (174 + 18 * s) z i = v i := fun i g => pk_un g
        have hA : ∀ j, j ≠ 8 → va_up sa 8 (upd (sa 8) (s + 1) z) j = sa j := fun j g => up_n g
        have e4 : upd v (174 + 18 * s) z (174 + 18 * s) = z := pk_us
        refine ⟨_, _, _, _, _, _, _, _, rfl, rfl, term1_ok h (s := s) (by omega) (fun i g => hv i (by omega)) (fun j g => hA j (by omega)) (fun j t g1 g2 g3 => ?_) (fun t m g1 g2 => by rw [hA 11 (by omega)]) ⟨⟨by rw [hA 4 (by omega), hv _ (by omega)]; exact h1.1, isN_congr h1.2 (hv _ (by omega))⟩, by rw [hA 5 (by omega), hv _ (by omega)]; exact h2, ⟨by rw [hA 6 (by omega), hv _ (by omega)]; exact h3.1, isN_congr h3.2 (hv _ (by omega))⟩, ⟨by rw [hA 7 (by omega), hv _ (by omega)]; exact h4.1, by rw [hv _ (by omega)]; exact h4.2.imp id (fun q => isN_congr q (hv _ (by omega)))⟩, ⟨by rw [up_s, pk_us, e4], by rw [e4]; omega, by rw [e4]; omega⟩, ⟨by rw [hA 9 (by omega), hv _ (by omega)]; exact h6.1, isN_congr h6.2 (hv _ (by omega))⟩, ⟨by rw [hA 10 (by omega), hv _ (by omega)]; exact h7.1, isN_congr h7.2 (hv _ (by omega))⟩, isN_congr h8 (hv _ (by omega)), fun m hm => ⟨isN_congr (h9 m hm).1 (hv _ (by omega)), by rw [hA 11 (by omega), tN_congr (hv (177 + 18 * s) (by omega)), hv (178 + 18 * s + m) (by omega)]; exact (h9 m hm).2⟩⟩, k3⟩
        by_cases q : j = 8
        · subst q; rw [up_s, pk_un g3]
        · rw [hA j q]
      · have c2' : z < -20 := by rw [toI_lt]; rw [toI_le] at c2; omega
        rw [if_neg c2, in_0 (Or.inl c2'), if_pos h00]
        exact same _
  · rw [if_neg c, if_neg c, Option.bind_some, show F_X8_in 99 (-20) 20 = 0 from in_0 (Or.inr (by decide)), if_pos h00]
    exact same _
theorem sign_ok (hb : b < 2 ^ 29) (h : RO b si sa v) (hh : RH b hs hc hn pa pm) (a1 a2 : Int32) (ha : a2 = 0 ∨ a2 = 1) : ∃ r si' sa' hs' hc' hn' v' pa' pm', F_X7_sign si sa hs hc hn a1 a2 = some (r, si', sa', hs', hc', hn') ∧ F_X8_sign v pa pm a1 a2 = some (r, v', pa', pm') ∧ RO (b + 2) si' sa' v' ∧ RH (b + 2) hs' hc' hn' pa' pm' := by
  unfold F_X7_sign F_X8_sign
  have same : ∀ r : Int32, ∃ r' si' sa' hs' hc' hn' v' pa' pm', some (r, si, sa, hs, hc, hn) = some (r', si', sa', hs', hc', hn') ∧ some (r, v, pa, pm) = some (r', v', pa', pm') ∧ RO (b + 2) si' sa' v' ∧ RH (b + 2) hs' hc' hn' pa' pm' := fun r => ⟨_, _, _, _, _, _, _, _, _, rfl, rfl, RO_mono h (by omega), RH_mono hh (by omega)⟩
  rcases mem_ok h.1 a1 with ⟨m, hm0, hm, rfl, q1, q2⟩ | ⟨q1, q2⟩
  · have p := RS_m h.1 hm
    have x6 : (if a2 = 0 then some (0 : Int32) else some 1) = some a2 := by
      rcases ha with e | e <;> subst e <;> rfl
    rw [q1, q2, Option.bind_some, if_neg h10, if_neg h10, show si 4 = v 7 from h.1.2.1.2.1, show tv_rd 1100 v 7 = some (v 7) from rd_n (k := 7) (by omega) (by omega), Option.bind_some, isPres_c h.1 hm, isPres_m h.1 hm, Option.bind_some, Option.bind_some, show si 5 = v 8 from h.1.2.1.2.2.1, show tv_rd 1100 v 8 = some (v 8) from rd_n (k := 8) (by omega) (by omega), Option.bind_some, sign_c h.1 hm, at3, rd1 (by omega), Option.bind_some, x6, Option.bind_some]
    by_cases c1 : v 7 = 2
    · rw [if_pos c1, if_pos c1]
      by_cases c2 : v (21 + 15 * m) = 0
      · rw [if_pos c2, if_pos c2]
        exact same _
      · rw [if_neg c2, if_neg c2]
        by_cases c3 : nI m = v 8
        · rw [if_pos c3, if_pos c3]
          exact same _
        · rw [if_neg c3, if_neg c3]
          by_cases c4 : v (23 + 15 * m) = a2
          · rw [if_pos c4, if_pos c4]
            exact same _
          · rw [if_neg c4, if_neg c4]
            obtain ⟨hs', hc', hn', pa', pm', k1, k2, k3⟩ := hist_ok h hh
            rw [k1, k2, Option.bind_some, Option.bind_some, Option.bind_some, wr_n (by omega) (by omega), Option.bind_some]
            have hv : ∀ i, i ≠ 23 + 15 * m → upd v (23 + 15 * m) a2 i = v i := fun i g => pk_un g
            have e3 : upd v (23 + 15 * m) a2 (23 + 15 * m) = a2 := pk_us
            have r7 : ∀ x : Nat → Int32, tv_rd 1100 x 7 = some (x 7) := fun x => rd_n (k := 7) (by omega) (by omega)
            have new : ∀ y : Int32, Bm y (upd v (23 + 15 * m) a2) 23 → RO b (upd si 3 y) sa (upd v (23 + 15 * m) a2) := fun y hy => by
              have hsi : ∀ j, j ≠ 3 → upd si 3 y j = si j := fun j g => pk_un g
              exact ⟨flag_ok h.1 hm (Or.inr (Or.inr rfl)) hv (by rcases ha with e | e <;> subst e; exact isN_of (k := 0) e3 (by omega) (by omega); exact isN_of (k := 1) e3 (by omega) (by omega)) (fun z => by omega) (by rw [tN_congr (hv (22 + 15 * m) (by omega)), tN_congr (hv (21 + 15 * m) (by omega))]; exact p.2.2.2.2.2.2.1) (fun j g1 g2 g3 => hsi j g3) (Bm_congr h.1.2.2.2.1.2.1 (hsi 2 (by omega)) (fun j hj => hv _ (by omega))) (Bm_congr h.1.2.2.2.1.2.2.1 (hsi 7 (by omega)) (fun j hj => hv _ (by omega))) (by rw [pk_us]; exact hy), off_congr h.2 (hv 7 (by omega)) (hv 8 (by omega)) (hv 9 (by omega)) (fun _ => hv _ (by omega)) (fun _ => hv _ (by omega))⟩
            rcases ha with e | e
            · subst e
              have hnew := new _ (Bm_clr h.1.2.2.2.1.2.2.2 hm e3 (fun j hj g => hv _ (by omega)))
              rw [if_pos h00, if_pos h00, Option.bind_some, Option.bind_some, r7, Option.bind_some, if_pos (by rw [hv 7 (by omega)]; exact c1), sig_m hnew.1, Option.bind_some, sig_c hnew.1]
              exact ⟨_, _, _, _, _, _, _, _, _, rfl, rfl, RO_mono hnew (by omega), RH_mono k3 (by omega)⟩
            · subst e
              have hnew := new _ (Bm_set h.1.2.2.2.1.2.2.2 hm e3 (fun j hj g => hv _ (by omega)))
              obtain ⟨si', sa', v', u1, u2, u3, u4⟩ := looks_ok hb hnew
              rw [if_neg h10, if_neg h10, u1, u2, Option.bind_some, Option.bind_some, Option.bind_some, Option.bind_some, r7, Option.bind_some, sig_m u3.1, Option.bind_some]
              dsimp only
              rw [sig_c u3.1]
              rcases u4 (by rw [hv 7 (by omega)]; exact c1) with z | ⟨z1, z2⟩
              · rw [if_pos z]
                exact ⟨_, _, _, _, _, _, _, _, _, rfl, rfl, u3, RH_mono k3 (by omega)⟩
              · have s0 : sg (sgnN v') 0 10 = 0 := sg_zero _ 10 0 (fun j _ hj => by
                  unfold sgnN
                  rw [if_neg]
                  intro q
                  have := z2 j (by omega)
                  omega)
                rw [if_neg z1, s0]
                exact ⟨_, _, _, _, _, _, _, _, _, rfl, rfl, u3, RH_mono k3 (by omega)⟩
    · rw [if_neg c1, if_neg c1]
      exact same _
  · rw [q1, q2, Option.bind_some, if_pos h00, if_pos h00]
    exact same _
theorem grade_ok (h : RO b si sa v) (hh : RH b hs hc hn pa pm) (a1 a2 a3 a4 : Int32) : ∃ r sa' hs' hc' hn' v' pa' pm', F_X7_grade si sa hs hc hn a1 a2 a3 a4 = some (r, sa', hs', hc', hn') ∧ F_X8_grade v pa pm a1 a2 a3 a4 = some (r, v', pa', pm') ∧ RO b si sa' v' ∧ RH b hs' hc' hn' pa' pm' := by
  unfold F_X7_grade F_X8_grade
  have same : ∀ r : Int32, ∃ r' sa' hs' hc' hn' v' pa' pm', some (r, sa, hs, hc, hn) = some (r', sa', hs', hc', hn') ∧ some (r, v, pa, pm) = some (r', v', pa', pm') ∧ RO b si sa' v' ∧ RH b hs' hc' hn' pa' pm' := fun r => ⟨_, _, _, _, _, _, _, _, rfl, rfl, h, hh⟩
  rcases mem_ok h.1 a1 with ⟨m, hm0, hm, rfl, q1, q2⟩ | ⟨q1, q2⟩
  · rw [q1, q2, Option.bind_some, if_neg h10, if_neg h10]
    rcases trm_ok h.1 a2 with ⟨s, hs0, rfl, t1, t2⟩ | ⟨t1, t2⟩
    · rw [t1, t2, Option.bind_some, if_neg h10, if_neg h10]
      rcases small a3 11 (by omega) (by omega) with ⟨pt, hpt, rfl, z1, z2, z3⟩ | ⟨z1, z2⟩
      · obtain ⟨eT, hT⟩ := RS_T h.1
        have p := RS_t h.1 hs0
        obtain ⟨h1, h2, h3, h4, h5, h6, h7, h8, h9⟩ := id p
        have pm1 := RS_m h.1 hm
        have le10 : nI pt ≤ 10 := nI_le (b := 10) (by omega) (by omega)
        rw [if_neg z2, if_pos le10, show (10 : Int32) = nI (11 - 1) from rfl, z1, if_neg h10]
        unfold F_X6_mayGrade F_X6_isOver
        have e10 : si 0 = v 6 := h.1.2.1.1
        have h7b := h7.2.2
        have h8b := h8.2
        have ew : (v (176 + 18 * s) >>> (nI m &&& 31)) &&& 1 = if (tN v (176 + 18 * s)).testBit m then 1 else 0 := by
          conv => lhs; rw [h7.2.1]
          exact shr_n (by omega) hm
        have ewc : F_X7_has (v (176 + 18 * s)) (nI m) = if (tN v (176 + 18 * s)).testBit m then 1 else 0 := by
          conv => lhs; rw [h7.2.1]
          exact has_n (by omega) hm
        rw [rd_n (by omega) (by omega), h4.1, Option.bind_some, of3, rd1 (by omega), Option.bind_some, e10, show tv_rd 1100 v 6 = some (v 6) from rd_n (k := 6) (by omega) (by omega), rd_n (by omega) (by omega), h1.1, rd_n (by omega) (by omega), h7.1, of0, rd1 (by omega), of6, rd1 (by omega)]
        simp only [Option.bind_some]
        by_cases c1 : v (173 + 18 * s) = -9
        · rw [if_pos c1, if_pos c1]
          simp only [Option.bind_some, if_pos h00]
          exact same _
        · rw [if_neg c1, if_neg c1]
          simp only [Option.bind_some, if_neg h10]
          by_cases c2 : v 6 - v (173 + 18 * s) ≤ 50
          · have c2' : ¬ (50 : Int32) < v 6 - v (173 + 18 * s) := by rw [toI_lt]; rw [toI_le] at c2; omega
            rw [if_pos c2, if_neg c2']
            simp only [Option.bind_some, if_neg h10]
            by_cases c3 : nI m = v (170 + 18 * s)
            · rw [if_pos c3, if_pos c3]
              simp only [Option.bind_some, if_pos h00]
              exact same _
            · rw [if_neg c3, if_neg c3, ewc, ew]
              by_cases c4 : (tN v (176 + 18 * s)).testBit m
              · rw [if_pos c4, if_neg h10]
                simp only [Option.bind_some, if_neg h10]
                rw [rd_n hm (by omega), Option.bind_some, pm1.1, at0, rd1 (by omega), Option.bind_some]
                by_cases c5 : a4 = 31 * nI (s + 1) + 17 * nI m + 7 * nI pt + v (20 + 15 * m) - (31 * nI (s + 1) + 17 * nI m + 7 * nI pt + v (20 + 15 * m)) / 997 * 997
                · rw [if_pos c5, if_pos c5]
                  obtain ⟨hs', hc', hn', pa', pm', k1, k2, k3⟩ := hist_ok h hh
                  unfold F_X6_putGrade
                  rw [k1, k2, Option.bind_some, Option.bind_some, show (10 : Int32) = nI 10 from rfl, pk_mul, nI_add, wr_n (by omega) (by omega), Option.bind_some, Option.bind_some, of7, rd1 (by omega), Option.bind_some, wr_n (by omega) (by omega), Option.bind_some, show (8 : Int32) = nI 8 from rfl, nI_add, of_n, wr_n (by omega) (by omega), Option.bind_some, show (s + 1) * 10 + m = 10 * (s + 1) + m by omega, show 170 + 18 * s + (8 + m) = 178 + 18 * s + m by omega]
                  have eg : v (177 + 18 * s) ||| (1 <<< (nI m &&& 31)) = nI (tN v (177 + 18 * s) ||| 2 ^ m) := by
                    conv => lhs; rw [h8.1]
                    rw [(shl_n m hm).2, nI_or]
                  rw [eg]
                  have glt := set_lt (n := tN v (177 + 18 * s)) (m := m) (by omega) hm
                  generalize hw : upd (upd v (177 + 18 * s) (nI (tN v (177 + 18 * s) ||| 2 ^ m))) (178 + 18 * s + m) (nI pt) = w
                  have hv : ∀ i, i ≠ 177 + 18 * s → i ≠ 178 + 18 * s + m → w i = v i := fun i g1 g2 => by rw [← hw, pk_un g2, pk_un g1]
                  have e7 : w (177 + 18 * s) = nI (tN v (177 + 18 * s) ||| 2 ^ m) := by rw [← hw, pk_un (by omega), pk_us]
                  have e8 : w (178 + 18 * s + m) = nI pt := by rw [← hw, pk_us]
                  have hA : ∀ j, j ≠ 11 → va_up sa 11 (upd (sa 11) (10 * (s + 1) + m) (nI pt)) j = sa j := fun j g => up_n g
                  have t7 : tN w (177 + 18 * s) = tN v (177 + 18 * s) ||| 2 ^ m := tN_of e7 (by omega)
                  have hnew : RO b si (va_up sa 11 (upd (sa 11) (10 * (s + 1) + m) (nI pt))) w := term1_ok h hs0 (fun i g => hv i (by omega) (by omega)) (fun j g => hA j (by omega)) (fun j t g1 g2 g3 => by rw [hA j (by omega)]) (fun t m' g1 g2 => by rw [up_s, pk_un (by omega)]) ⟨⟨by rw [hA 4 (by omega), hv _ (by omega) (by omega)]; exact h1.1, isN_congr h1.2 (hv _ (by omega) (by omega))⟩, by rw [hA 5 (by omega), hv _ (by omega) (by omega)]; exact h2, ⟨by rw [hA 6 (by omega), hv _ (by omega) (by omega)]; exact h3.1, isN_congr h3.2 (hv _ (by omega) (by omega))⟩, ⟨by rw [hA 7 (by omega), hv _ (by omega) (by omega)]; exact h4.1, by rw [hv _ (by omega) (by omega)]; exact h4.2.imp id (fun q => isN_congr q (hv _ (by omega) (by omega)))⟩, ⟨by rw [hA 8 (by omega), hv _ (by omega) (by omega)]; exact h5.1, by rw [hv _ (by omega) (by omega)]; exact h5.2⟩, ⟨by rw [hA 9 (by omega), hv _ (by omega) (by omega)]; exact h6.1, isN_congr h6.2 (hv _ (by omega) (by omega))⟩, ⟨by rw [hA 10 (by omega), hv _ (by omega) (by omega)]; exact h7.1, isN_congr h7.2 (hv _ (by omega) (by omega))⟩, isN_of e7 (by omega) (by omega), fun m' hm' => by
                    by_cases q : m' = m
                    · subst q
                      refine ⟨isN_of e8 (by omega) (by omega), ?_⟩
                      rw [up_s, pk_us, t7, set_bit hm', e8, if_pos (by simp)]
                    · have e9 : w (178 + 18 * s + m') = v (178 + 18 * s + m') := hv _ (by omega) (by omega)
                      refine ⟨isN_congr (h9 m' hm').1 e9, ?_⟩
                      rw [up_s, pk_un (by omega), t7, set_bit hm', e9, (h9 m' hm').2, decide_eq_false (show ¬ m = m' from fun z => q z.symm), Bool.or_false]⟩
                  have w9 : tN w 9 = tN v 9 := tN_congr (hv 9 (by omega) (by omega))
                  rw [cg_c hnew.1 (s := s) (by omega), cg_m hnew.1 (s := s) (by omega)]
                  exact ⟨_, _, _, _, _, _, _, _, rfl, rfl, hnew, k3⟩
                · rw [if_neg c5, if_neg c5]
                  exact same _
              · rw [if_neg c4, if_pos h00]
                simp only [Option.bind_some, if_pos h00]
                exact same _
          · have c2' : (50 : Int32) < v 6 - v (173 + 18 * s) := by rw [toI_lt]; rw [toI_le] at c2; omega
            rw [if_neg c2, if_pos c2']
            simp only [Option.bind_some, if_pos h00]
            exact same _
      · rw [show (10 : Int32) = nI (11 - 1) from rfl, z1, if_pos h00]
        rcases z2 with z2 | ⟨z2, z3⟩
        · rw [if_pos z2]
          exact same _
        · rw [if_neg z2, if_neg (show ¬ a3 ≤ nI (11 - 1) from fun q => z3 (by rw [toI_lt, nI_toInt (by omega)]; rw [toI_le, nI_toInt (by omega)] at q; omega))]
          exact same _
    · rw [t1, t2, Option.bind_some, if_pos h00, if_pos h00]
      exact same _
  · rw [q1, q2, Option.bind_some, if_pos h00, if_pos h00]
    exact same _
/-! the text -/
def RT (tx : Nat → Int32) (tl : Int32) (mt : Nat → Int32) (ty : Int32) : Prop := ∃ L : Nat, L ≤ 40 ∧ tl = nI L ∧ ty = nI L ∧ ∀ i, i < L → tx i = mt i ∧ 32 ≤ (tx i).toInt ∧ (tx i).toInt ≤ 126
theorem type_ok {tx mt : Nat → Int32} {tl ty : Int32} (h : RT tx tl mt ty) (a1 : Int32) : ∃ r tx' tl' mt' ty', F_X7_type tx tl a1 = some (r, tx', tl') ∧ F_X8_type mt ty a1 = some (r, mt', ty') ∧ RT tx' tl' mt' ty' := by
  unfold F_X7_type F_X8_type F_X0_append
  have same : ∀ r : Int32, ∃ r' tx' tl' mt' ty', some (r, tx, tl) = some (r', tx', tl') ∧ some (r, mt, ty) = some (r', mt', ty') ∧ RT tx' tl' mt' ty' := fun r => ⟨_, _, _, _, _, rfl, rfl, h⟩
  by_cases c1 : a1 < 32
  · rw [if_pos c1, in_0 (Or.inl c1), if_pos h00]
    exact same _
  · rw [if_neg c1]
    by_cases c2 : a1 ≤ 126
    · have c2' : ¬ (126 : Int32) < a1 := by rw [toI_lt]; rw [toI_le] at c2; omega
      rw [if_pos c2, in_1 c1 c2', if_neg h10]
      obtain ⟨L, hL, rfl, rfl, hL2⟩ := id h
      by_cases c3 : L = 40
      · subst c3
        rw [if_neg (show ¬ nI 40 < 40 from by decide), if_pos (show nI 40 = 40 from rfl)]
        exact same _
      · rw [if_pos (show nI L < 40 from nI_lt (b := 40) (by omega) (by omega)), if_neg (show ¬ nI L = 40 from fun q => c3 ((nI_eq (b := 40) (by omega) (by omega)).mp q)), wr_n (by omega) (by omega), Option.bind_some, wr_n (by omega) (by omega), Option.bind_some, Option.bind_some, show nI L + 1 = nI (L + 1) from nI_1 L]
        refine ⟨_, _, _, _, _, rfl, rfl, L + 1, by omega, rfl, rfl, fun i hi => ?_⟩
        rw [toI_lt, show ((32 : Int32)).toInt = 32 from by decide] at c1
        rw [toI_le, show ((126 : Int32)).toInt = 126 from by decide] at c2
        by_cases e : i = L
        · subst e
          dsimp only
          rw [pk_us, pk_us]
          exact ⟨rfl, by omega, by omega⟩
        · dsimp only
          rw [pk_un e, pk_un e]
          exact hL2 i (by omega)
    · have c2' : (126 : Int32) < a1 := by rw [toI_lt]; rw [toI_le] at c2; omega
      rw [if_neg c2, in_0 (Or.inr c2'), if_pos h00]
      exact same _
theorem clear_ok {tx mt : Nat → Int32} {tl ty : Int32} (h : RT tx tl mt ty) : ∃ r tl' ty', F_X7_clear tl = some (r, tl') ∧ F_X8_clear ty = some (r, ty') ∧ RT tx tl' mt ty' := by
  obtain ⟨L, hL, rfl, rfl, hL2⟩ := h
  exact ⟨_, _, _, rfl, rfl, 0, by omega, rfl, rfl, fun i hi => by omega⟩
end A3
