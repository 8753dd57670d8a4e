/-! ===== the acts, first part ===== -/
section AC
variable {b : Nat} {si : Nat → Int32} {sa : Nat → Nat → Int32} {v : Nat → Int32} {hs : Nat → (Nat → Int32) × (Nat → Nat → Int32)} {hc hn : Int32} {pa : Nat → Int32} {pm : Int32}
theorem in_01 (x lo hi : Int32) : F_X8_in x lo hi = 0 ∨ F_X8_in x lo hi = 1 := by
  unfold F_X8_in
  by_cases h1 : x < lo
  · rw [if_pos h1]; exact Or.inl rfl
  · rw [if_neg h1]
    by_cases h2 : hi < x
    · rw [if_pos h2]; exact Or.inl rfl
    · rw [if_neg h2]; exact Or.inr rfl
theorem isIn_k {k : Nat} (hk : k < 6) (x : Int32) : F_X8_isIn (nI k) x = some (F_X8_in x (tv_least k) (tv_great k)) := by
  have ck : ∀ lo hi : Int32, ¬ ¬ (F_X8_in x lo hi = 0 ∨ F_X8_in x lo hi = 1) := fun lo hi z => z (in_01 x lo hi)
  unfold F_X8_isIn
  rcases (show k = 0 ∨ k = 1 ∨ k = 2 ∨ k = 3 ∨ k = 4 ∨ k = 5 by omega) with e | e | e | e | e | e <;> subst e
  · rw [if_pos (by decide), if_neg (ck _ _)]; rfl
  · rw [if_neg (by decide), if_pos (by decide), if_neg (ck _ _)]; rfl
  · rw [if_neg (by decide), if_neg (by decide), if_pos (by decide), if_neg (ck _ _)]; rfl
  · rw [if_neg (by decide), if_neg (by decide), if_neg (by decide), if_pos (by decide), if_neg (ck _ _)]; rfl
  · rw [if_neg (by decide), if_neg (by decide), if_neg (by decide), if_neg (by decide), if_pos (by decide), if_neg (ck _ _)]; rfl
  · rw [if_neg (by decide), if_neg (by decide), if_neg (by decide), if_neg (by decide), if_neg (by decide), if_pos (by decide)]
    show _ = some (F_X8_in x 1 10)
    rcases in_01 x 1 10 with e | e
    · rw [e, if_pos h00]
    · rw [e, if_neg h10]
theorem isIn_out {a : Int32} (h : ∀ k, k < 6 → a ≠ nI k) (x : Int32) : F_X8_isIn a x = some 0 := by
  unfold F_X8_isIn
  rw [if_neg (show ¬ a = 0 from h 0 (by omega)), if_neg (show ¬ a = 1 from h 1 (by omega)), if_neg (show ¬ a = 2 from h 2 (by omega)), if_neg (show ¬ a = 3 from h 3 (by omega)), if_neg (show ¬ a = 4 from h 4 (by omega)), if_neg (show ¬ a = 5 from h 5 (by omega))]
theorem setting_ok (h : RO b si sa v) {k : Nat} (hk : k < 6) {x : Int32} (h1 : tv_least k ≤ x) (h2 : x ≤ tv_great k) : RO b si (va_up sa 0 (upd (sa 0) k x)) (upd v k x) := by
  have hv : ∀ i, 6 ≤ i → upd v k x i = v i := fun i hi => pk_un (by omega)
  have hA : ∀ j, j ≠ 0 → va_up sa 0 (upd (sa 0) k x) j = sa j := fun j hj => up_n hj
  obtain ⟨h, ho⟩ := h
  have h8 : tN v 8 ≤ 9 ∨ v 7 ≠ 2 := by
    by_cases c : v 7 = 2
    · exact Or.inl (hold_le h (Or.inl c)).1.2
    · exact Or.inr c
  refine ⟨⟨fun i hi => ?_, ?_, ?_, Pmem_congr h.2.2.2.1 (fun i g1 g2 => hv i (by omega)) (hv 10 (by omega)) (hA 1 (by omega)) (hA 2 (by omega)) rfl rfl rfl, Pter_congr h.2.2.2.2.1 (hv 9 (by omega)) (RS_T h).2 (fun i g1 g2 => hv i (by omega)) (fun j g1 g2 => hA j (by omega)), Pev_congr h.2.2.2.2.2.1 (fun i g1 g2 => hv i (by omega)) (fun j g1 g2 => hA j (by omega)), Ptal_congr h.2.2.2.2.2.2 (fun i g1 g2 => hv i (by omega)) (hA 3 (by omega))⟩, fun z => ?_⟩
  · rw [up_s]
    by_cases c : i = k
    · subst c
      rw [pk_us, pk_us]
      exact ⟨rfl, h1, h2⟩
    · rw [pk_un c, pk_un c]
      exact h.1 i hi
  · obtain ⟨a1, a2, a3, a4, a5, a6, a7, a8⟩ := h.2.1
    refine ⟨?_, ?_, ?_, ?_, ?_, ?_, ?_, ?_⟩ <;> rw [hv _ (by omega)] <;> assumption
  · obtain ⟨a1, a2, a3, a4, a5, a6, a7⟩ := h.2.2.1
    refine ⟨isN_congr a1 (hv 6 (by omega)), isN_congr a2 (hv 9 (by omega)), isN_congr a3 (hv 10 (by omega)), isN_congr a4 (hv 12 (by omega)), isN_congr a5 (hv 13 (by omega)), ?_, ?_⟩
    · rw [hv 11 (by omega), tN_congr (hv 9 (by omega))]; exact a6
    · rw [hv 7 (by omega), hv 8 (by omega), tN_congr (hv 8 (by omega)), tN_congr (hv 10 (by omega))]
      exact a7.imp id (fun z => ⟨z.1, isN_congr z.2.1 (hv 8 (by omega)), z.2.2⟩)
  · rw [hv 7 (by omega)] at z
    rw [tN_congr (hv 9 (by omega)), tN_congr (hv 8 (by omega)), hv 8 (by omega), hv _ (by omega), tN_congr (hv (21 + 15 * tN v 8) (by omega))]
    exact ho z
theorem set_ok (hb : b < 2 ^ 29) (h : RO b si sa v) (hh : RH b hs hc hn pa pm) (a1 a2 : Int32) : ∃ r si' sa' hs' hc' hn' v' pa' pm', F_X7_set si sa hs hc hn a1 a2 = some (r, si', sa', hs', hc', hn') ∧ F_X8_set v pa pm a1 a2 = some (r, v', pa', pm') ∧ RO (b + 2) si' sa' v' ∧ RH (b + 2) hs' hc' hn' pa' pm' := by
  unfold F_X7_set F_X8_set
  have same : ∀ r : Int32, ∃ r' si' sa' hs' hc' hn' v' pa' pm', some (r, si, sa, hs, hc, hn) = some (r', si', sa', hs', hc', hn') ∧ some (r, v, pa, pm) = some (r', v', pa', pm') ∧ RO (b + 2) si' sa' v' ∧ RH (b + 2) hs' hc' hn' pa' pm' := fun r => ⟨_, _, _, _, _, _, _, _, _, rfl, rfl, RO_mono h (by omega), RH_mono hh (by omega)⟩
  rcases pk_ix a1 (n := 6) (by omega) with q | q | ⟨k, hk, rfl⟩
  · rw [if_pos q, isIn_out (fun k hk e => by rw [e] at q; exact nI_pos (by omega) q), Option.bind_some, if_pos h00]
    exact same _
  · have q0 : ¬ a1 < 0 := by
      rw [toI_lt]
      rw [toI_le, nI_toInt (by omega)] at q
      rw [show ((0 : Int32)).toInt = 0 from by decide]
      omega
    have q6 : ¬ a1 < 6 := by
      rw [toI_lt]
      rw [toI_le] at q
      exact Int.not_lt.mpr q
    rw [if_neg q0, if_neg q6, isIn_out (fun k hk e => by rw [e] at q; exact nI_ge hk (by omega) q), Option.bind_some, if_pos h00]
    exact same _
  · rw [if_neg (nI_pos (by omega)), if_pos (show nI k < 6 from nI_lt (b := 6) hk (by omega)), rd_n hk (by omega), Option.bind_some, isIn_k hk, Option.bind_some]
    by_cases c1 : a2 < tv_least k
    · rw [if_pos c1, in_0 (Or.inl c1), if_pos h00]
      exact same _
    · rw [if_neg c1, rd_n hk (by omega), Option.bind_some]
      by_cases c2 : a2 ≤ tv_great k
      · have c2' : ¬ tv_great k < a2 := by rw [toI_lt]; rw [toI_le] at c2; omega
        have c1' : tv_least k ≤ a2 := by rw [toI_le]; rw [toI_lt] at c1; omega
        rw [if_pos c2, in_1 c1 c2', if_neg h10]
        obtain ⟨hs', hc', hn', pa', pm', k1, k2, k3⟩ := hist_ok h hh
        have hset := setting_ok h hk c1' c2
        rw [k1, k2, Option.bind_some, Option.bind_some, rd_n hk (by omega), Option.bind_some, wr_n hk (by omega), Option.bind_some, rd1 (by omega), Option.bind_some, wr_n (by omega) (by omega), Option.bind_some, RS_s h.1 hk]
        by_cases c3 : nI k = 3
        · rw [if_pos c3, if_pos c3]
          obtain ⟨si', sa', v', u1, u2, u3, _⟩ := looks_ok hb hset
          rw [u1, u2]
          exact ⟨_, _, _, _, _, _, _, _, _, rfl, rfl, u3, RH_mono k3 (by omega)⟩
        · rw [if_neg c3, if_neg c3]
          exact ⟨_, _, _, _, _, _, _, _, _, rfl, rfl, RO_mono hset (by omega), RH_mono k3 (by omega)⟩
      · have c2' : tv_great k < a2 := by rw [toI_lt]; rw [toI_le] at c2; omega
        rw [if_neg c2, in_0 (Or.inr c2'), if_pos h00]
        exact same _
/-! time -/
theorem time_ok (h : RS b si sa v) {t : Nat} (ht : t ≤ 1000000) {si' v' : Nat → Int32} (h0 : si' 0 = nI t) (hsi : ∀ j, j ≠ 0 → si' j = si j) (h6 : v' 6 = nI t) (hv : ∀ i, i ≠ 6 → v' i = v i) : RS b si' sa v' := by
  refine ⟨Pset_congr h.1 (fun i hi => hv i (by omega)) (fun _ _ => rfl), ?_, ?_, Pmem_congr h.2.2.2.1 (fun i g1 g2 => hv i (by omega)) (hv 10 (by omega)) rfl rfl (hsi 2 (by omega)) (hsi 7 (by omega)) (hsi 3 (by omega)), Pter_congr h.2.2.2.2.1 (hv 9 (by omega)) (RS_T h).2 (fun i g1 g2 => hv i (by omega)) (fun _ _ _ => rfl), Pev_congr h.2.2.2.2.2.1 (fun i g1 g2 => hv i (by omega)) (fun _ _ _ => rfl), Ptal_congr h.2.2.2.2.2.2 (fun i g1 g2 => hv i (by omega)) rfl⟩
  · obtain ⟨a1, a2, a3, a4, a5, a6, a7, a8⟩ := h.2.1
    exact ⟨by rw [h0, h6], by rw [hsi 4 (by omega), hv 7 (by omega)]; exact a2, by rw [hsi 5 (by omega), hv 8 (by omega)]; exact a3, by rw [hsi 9 (by omega), hv 9 (by omega)]; exact a4, by rw [hsi 1 (by omega), hv 10 (by omega)]; exact a5, by rw [hsi 6 (by omega), hv 11 (by omega)]; exact a6, by rw [hsi 10 (by omega), hv 12 (by omega)]; exact a7, by rw [hsi 8 (by omega), hv 13 (by omega)]; exact a8⟩
  · obtain ⟨a1, a2, a3, a4, a5, a6, a7⟩ := h.2.2.1
    refine ⟨isN_of h6 ht (by omega), isN_congr a2 (hv 9 (by omega)), isN_congr a3 (hv 10 (by omega)), isN_congr a4 (hv 12 (by omega)), isN_congr a5 (hv 13 (by omega)), ?_, ?_⟩
    · rw [hv 11 (by omega), tN_congr (hv 9 (by omega))]; exact a6
    · rw [hv 7 (by omega), hv 8 (by omega), tN_congr (hv 8 (by omega)), tN_congr (hv 10 (by omega))]
      exact a7.imp id (fun z => ⟨z.1, isN_congr z.2.1 (hv 8 (by omega)), z.2.2⟩)
theorem off_congr {w : Nat → Int32} (ho : Poff v) (h7 : w 7 = v 7) (h8 : w 8 = v 8) (h9 : w 9 = v 9) (hl : v 7 = 2 → w (170 + 18 * (tN v 9 - 1)) = v (170 + 18 * (tN v 9 - 1))) (hp : v 7 = 2 → w (21 + 15 * tN v 8) = v (21 + 15 * tN v 8)) : Poff w := by
  intro z
  rw [h7] at z
  rw [tN_congr h9, tN_congr h8, h8, hl z, tN_congr (hp z)]
  exact ho z
theorem pass_ok (hb : b < 2 ^ 29) (h : RO b si sa v) (hh : RH b hs hc hn pa pm) (a1 : Int32) : ∃ r si' sa' hs' hc' hn' v' pa' pm', F_X7_pass si sa hs hc hn a1 = some (r, si', sa', hs', hc', hn') ∧ F_X8_pass v pa pm a1 = some (r, v', pa', pm') ∧ RO (b + 2) si' sa' v' ∧ RH (b + 2) hs' hc' hn' pa' pm' := by
  unfold F_X7_pass F_X8_pass
  have same : ∀ r : Int32, ∃ r' si' sa' hs' hc' hn' v' pa' pm', some (r, si, sa, hs, hc, hn) = some (r', si', sa', hs', hc', hn') ∧ some (r, v, pa, pm) = some (r', v', pa', pm') ∧ RO (b + 2) si' sa' v' ∧ RH (b + 2) hs' hc' hn' pa' pm' := fun r => ⟨_, _, _, _, _, _, _, _, _, rfl, rfl, RO_mono h (by omega), RH_mono hh (by omega)⟩
  by_cases c1 : a1 < 1
  · rw [if_pos c1, in_0 (Or.inl c1), if_pos h00]
    exact same _
  · rw [if_neg c1]
    by_cases c2 : a1 ≤ 1000
    · have c2' : ¬ (1000 : Int32) < a1 := by rw [toI_lt]; rw [toI_le] at c2; omega
      obtain ⟨u, hu, hu1, rfl⟩ : ∃ u, u ≤ 1000 ∧ 1 ≤ u ∧ a1 = nI u := by
        rw [toI_lt, show ((1 : Int32)).toInt = 1 from by decide] at c1
        rw [toI_le, show ((1000 : Int32)).toInt = 1000 from by decide] at c2
        exact ⟨a1.toInt.toNat, by omega, by omega, nn_of (by omega)⟩
      rw [if_pos c2, in_1 c1 c2', if_neg h10]
      obtain ⟨e6, h6⟩ := h.1.2.2.1.1
      have r6 : tv_rd 1100 v 6 = some (v 6) := rd_n (k := 6) (by omega) (by omega)
      rw [show si 0 = v 6 from h.1.2.1.1, r6, Option.bind_some]
      have e6s : v 6 + nI u = nI (tN v 6 + u) := by rw [← nI_add, ← e6]
      rw [e6s]
      by_cases c3 : nI (tN v 6 + u) ≤ 1000000
      · have c3' : tN v 6 + u ≤ 1000000 := by
          rw [show (1000000 : Int32) = nI 1000000 from rfl, nI_leI (by omega) (by omega)] at c3
          exact c3
        rw [if_pos c3, if_pos c3]
        obtain ⟨hs', hc', hn', pa', pm', k1, k2, k3⟩ := hist_ok h hh
        rw [k1, k2, Option.bind_some, Option.bind_some, Option.bind_some, show tv_rd 1100 v 7 = some (v 7) from rd_n (k := 7) (by omega) (by omega), Option.bind_some, e6s]
        unfold F_X5_advance
        rw [show si 4 = v 7 from h.1.2.1.2.1, show si 0 = v 6 from h.1.2.1.1, e6s]
        have w6 : ∀ (w : Nat → Int32) (x : Int32), tv_wr 1100 w 6 x = some (upd w 6 x) := fun w x => wr_n (k := 6) (by omega) (by omega)
        have key : ∃ si1 sa1 v1, (if v 7 = 2 then ((F_X6_latestPlannedEnd si sa).bind fun x1 => if nI (tN v 6 + u) < x1 then some (si, sa) else (F_X6_latestPlannedEnd si sa).bind fun x2 => (F_X5_endTerm (upd si 0 x2) sa 2).bind fun x3 => some (x3.1, x3.2)) else some (si, sa)) = some (si1, sa1) ∧ (if v 7 = 2 then ((tv_rd 1100 v 9).bind fun x5 => (tv_rd 1100 v (F_X8_of x5 2)).bind fun x6 => if nI (tN v 6 + u) < x6 then some v else (tv_rd 1100 v 9).bind fun x7 => (tv_rd 1100 v (F_X8_of x7 2)).bind fun x8 => (tv_wr 1100 v 6 x8).bind fun x9 => (F_X8_ends x9 2).bind fun x10 => some x10) else some v) = some v1 ∧ RO (b + 2) si1 sa1 v1 := by
          by_cases c4 : v 7 = 2
          · rw [if_pos c4, if_pos c4]
            obtain ⟨o1, o2, o3⟩ := h.2 c4
            obtain ⟨eT, hT⟩ := RS_T h.1
            obtain ⟨s, hs⟩ : ∃ s, tN v 9 = s + 1 := ⟨tN v 9 - 1, by omega⟩
            have e9 : si 9 = nI (s + 1) := by rw [← hs, ← eT]; exact h.1.2.1.2.2.2.1
            have r9 : tv_rd 1100 v 9 = some (nI (s + 1)) := by rw [← hs, ← eT]; exact rd_n (k := 9) (by omega) (by omega)
            obtain ⟨_, _, ⟨t1, t2⟩, _⟩ := RS_t h.1 (s := s) (by omega)
            unfold F_X6_latestPlannedEnd
            rw [e9, rd_n (by omega) (by omega), t1, r9]
            simp only [Option.bind_some, of2, rd1 (show 172 + 18 * s < 1100 by omega), w6]
            by_cases c5 : nI (tN v 6 + u) < v (172 + 18 * s)
            · rw [if_pos c5, if_pos c5]
              exact ⟨_, _, _, rfl, rfl, RO_mono h (by omega)⟩
            · rw [if_neg c5, if_neg c5]
              have t2b := t2.2
              have le : tN v (172 + 18 * s) ≤ 1000000 := by
                rw [t2.1, nI_ltI (by omega) (by omega)] at c5
                omega
              have h' : RS b (upd si 0 (v (172 + 18 * s))) sa (upd v 6 (v (172 + 18 * s))) := time_ok h.1 le (by rw [pk_us]; exact t2.1) (fun j hj => pk_un hj) (by rw [pk_us]; exact t2.1) (fun i hi => pk_un hi)
              have g9 : upd v 6 (v (172 + 18 * s)) 9 = v 9 := pk_un (by omega)
              obtain ⟨si', sa', v', u1, u2, u3, u4, _⟩ := ends_ok hb h' (by rw [tN_congr g9]; omega) (by rw [tN_congr g9, pk_un (by omega), pk_un (by omega)]; exact o2) 2
              rw [u1, u2]
              exact ⟨_, _, _, rfl, rfl, u3⟩
          · rw [if_neg c4, if_neg c4]
            exact ⟨_, _, _, rfl, rfl, RO_mono h (by omega)⟩
        obtain ⟨si1, sa1, v1, g1, g2, g3⟩ := key
        rw [g1, g2, Option.bind_some, Option.bind_some, Option.bind_some, w6]
        have hfin : RO (b + 2) (upd si1 0 (nI (tN v 6 + u))) sa1 (upd v1 6 (nI (tN v 6 + u))) := ⟨time_ok g3.1 c3' pk_us (fun j hj => pk_un hj) pk_us (fun i hi => pk_un hi), off_congr g3.2 (pk_un (by omega)) (pk_un (by omega)) (pk_un (by omega)) (fun _ => pk_un (by omega)) (fun _ => pk_un (by omega))⟩
        refine ⟨_, _, _, _, _, _, _, _, _, rfl, ?_, hfin, RH_mono k3 (by omega)⟩
        rw [Option.bind_some]
        rfl
      · rw [if_neg c3, if_neg c3]
        exact same _
    · have c2' : (1000 : Int32) < a1 := by rw [toI_lt]; rw [toI_le] at c2; omega
      rw [if_neg c2, in_0 (Or.inr c2'), if_pos h00]
      exact same _
end AC
