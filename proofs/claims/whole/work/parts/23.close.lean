/-! ===== a term begins; close ===== -/
section A8
variable {b : Nat}
theorem beg_L97 {si : Nat → Int32} {s : Nat} (hs : s < 40) (h9 : si 9 = nI (s + 1)) : ∀ (k i n : Nat) (sa : Nat → Nat → Int32), i + k = 10 → k < n → ∃ sa', F_X6_begin_L97 si n (nI i) sa = some sa' ∧ (∀ t, t ≠ 11 → sa' t = sa t) ∧ (∀ t, sa' 11 t = if 10 * (s + 1) + i ≤ t ∧ t < 10 * (s + 1) + 10 then -9 else sa 11 t)
  | 0, i, n + 1, sa, hi, hn => by
    refine ⟨sa, ?_, fun _ _ => rfl, fun t => by rw [if_neg (by omega)]⟩
    rw [F_X6_begin_L97, if_pos (show (10 : Int32) ≤ nI i from nI_le (a := 10) (by omega) (by omega))]
  | k + 1, i, n + 1, sa, hi, hn => by
    obtain ⟨sa', r1, r2, r3⟩ := beg_L97 hs h9 k (i + 1) n (va_up sa 11 (upd (sa 11) (10 * (s + 1) + i) (-9))) (by omega) (by omega)
    refine ⟨sa', ?_, fun t ht => by rw [r2 t ht, up_n ht], fun t => ?_⟩
    · rw [F_X6_begin_L97, if_neg (lt10 (by omega)), h9, m10, nI_add, wr_n (by omega) (by omega), Option.bind_some, show nI i + 1 = nI (i + 1) from nI_1 i]
      exact r1
    · rw [r3 t, up_s]
      by_cases z : t = 10 * (s + 1) + i
      · subst z
        rw [if_neg (by omega), pk_us, if_pos (by omega)]
      · rw [pk_un z]
        by_cases z2 : 10 * (s + 1) + (i + 1) ≤ t ∧ t < 10 * (s + 1) + 10
        · rw [if_pos z2, if_pos (by omega)]
        · rw [if_neg z2, if_neg (by omega)]
  | k, i, 0, sa, hi, hn => by omega
theorem beg_L21 (l1 : Int32) {s : Nat} (hs : s < 40) : ∀ (k i n : Nat) (w : Nat → Int32), i + k = 18 → k < n → ∃ w', F_X8_begins_L21 l1 (nI (s + 1)) n (nI i) w = some w' ∧ (∀ t, w' t = if 170 + 18 * s + i ≤ t ∧ t < 188 + 18 * s then 0 else w t)
  | 0, i, n + 1, w, hi, hn => by
    refine ⟨w, ?_, fun t => by rw [if_neg (by omega)]⟩
    rw [F_X8_begins_L21, if_pos (show (18 : Int32) ≤ nI i from nI_le (a := 18) (by omega) (by omega))]
  | k + 1, i, n + 1, w, hi, hn => by
    obtain ⟨w', r1, r3⟩ := beg_L21 l1 hs k (i + 1) n (upd w (170 + 18 * s + i) 0) (by omega) (by omega)
    refine ⟨w', ?_, fun t => ?_⟩
    · rw [F_X8_begins_L21, if_neg (show ¬ (18 : Int32) ≤ nI i from nI_ge (b := 18) (by omega) (by omega)), of_n, wr_n (by omega) (by omega), Option.bind_some, show nI i + 1 = nI (i + 1) from nI_1 i]
      exact r1
    · rw [r3 t]
      by_cases z : t = 170 + 18 * s + i
      · subst z
        rw [if_neg (by omega), pk_us, if_pos (by omega)]
      · rw [pk_un z]
        by_cases z2 : 170 + 18 * s + (i + 1) ≤ t ∧ t < 188 + 18 * s
        · rw [if_pos z2, if_pos (by omega)]
        · rw [if_neg z2, if_neg (by omega)]
  | k, i, 0, w, hi, hn => by omega
theorem wit_L (l1 : Int32) {s M : Nat} (hs : s < 40) (hM : M ≤ 10) : ∀ (k i n W : Nat) (w : Nat → Int32), i + k = M → k < n → W < 1024 → w 10 = nI M → w (176 + 18 * s) = nI W → (∀ j, j < 10 → isN w (21 + 15 * j) 1) → (∀ j, j < 10 → W.testBit j = (decide (j < i) && decide (tN w (21 + 15 * j) = 1))) → ∃ w' W', F_X8_begins_L110 l1 (nI (s + 1)) n (nI i) w = some w' ∧ (∀ t, t ≠ 176 + 18 * s → w' t = w t) ∧ w' (176 + 18 * s) = nI W' ∧ W' < 1024 ∧ (∀ j, j < 10 → W'.testBit j = (decide (j < M) && decide (tN w (21 + 15 * j) = 1)))
  | 0, i, n + 1, W, w, hi, hn, hW, h10, h6, hN, hb => by
    refine ⟨w, W, ?_, fun _ _ => rfl, h6, hW, fun j hj => by rw [hb j hj, show i = M by omega]⟩
    rw [F_X8_begins_L110, show tv_rd 1100 w 10 = some (w 10) from rd_n (k := 10) (by omega) (by omega), Option.bind_some, h10, if_pos (nI_le (by omega) (by omega))]
  | k + 1, i, n + 1, W, w, hi, hn, hW, h10, h6, hN, hb => by
    obtain ⟨W1, w1, w2, w3⟩ := mask_st (i := i) (by omega) (n1_or (hN i (by omega))) hW
    have hv : ∀ t, t ≠ 176 + 18 * s → upd w (176 + 18 * s) (nI W1) t = w t := fun t ht => pk_un ht
    obtain ⟨w', W', r1, r2, r3, r4, r5⟩ := wit_L l1 hs hM k (i + 1) n W1 (upd w (176 + 18 * s) (nI W1)) (by omega) (by omega) w2 (by rw [hv 10 (by omega)]; exact h10) pk_us (fun j hj => isN_congr (hN j hj) (hv _ (by omega))) (fun j hj => by
      rw [w3 j hj, hb j hj, tN_congr (hv (21 + 15 * j) (by omega))]
      by_cases c : j = i
      · subst c
        rw [decide_eq_false (show ¬ j < j by omega), decide_eq_true (show j < j + 1 by omega), decide_eq_true (rfl : j = j), Bool.false_and, Bool.false_or, Bool.true_and, Bool.true_and]
        exact decide_eq_decide.mpr (n1_iff (hN j hj))
      · rw [decide_eq_false (show ¬ i = j from fun z => c z.symm), Bool.false_and, Bool.or_false, decide_eq_decide.mpr (show j < i ↔ j < i + 1 by omega)])
    refine ⟨w', W', ?_, fun t ht => by rw [r2 t ht, hv t ht], r3, r4, fun j hj => by rw [r5 j hj, tN_congr (hv (21 + 15 * j) (by omega))]⟩
    rw [F_X8_begins_L110, show tv_rd 1100 w 10 = some (w 10) from rd_n (k := 10) (by omega) (by omega), Option.bind_some, h10, if_neg (nI_ge (by omega) (by omega)), of6, rd1 (by omega), Option.bind_some, at1, rd1 (by omega), Option.bind_some, h6, w1, wr_n (by omega) (by omega), Option.bind_some, show nI i + 1 = nI (i + 1) from nI_1 i]
    exact r1
  | k, i, 0, W, w, hi, hn, hW, h10, h6, hN, hb => by omega
/-- the state in which a term has begun -/
theorem begun_ok {si : Nat → Int32} {sa : Nat → Nat → Int32} {v : Nat → Int32} (h : RS b si sa v) {s d : Nat} (hs : tN v 9 = s) (hs4 : s < 40) (h11 : v 11 = 0) (hd : d < tN v 10) {w : Nat → Int32} {sb : Nat → Nat → Int32} {now plan : Nat} (hnow : v 6 = nI now) (hpl : plan ≤ 1001000) (w9 : w 9 = nI (s + 1)) (w7 : w 7 = 2) (w8 : w 8 = nI d) (wa : w (170 + 18 * s) = nI d) (wb : w (171 + 18 * s) = nI now) (wc : w (172 + 18 * s) = nI plan) (wd : w (173 + 18 * s) = -9) (we : w (176 + 18 * s) = si 2) (wz : ∀ t, 174 + 18 * s ≤ t → t < 188 + 18 * s → t ≠ 176 + 18 * s → w t = 0) (hw : ∀ t, t ≠ 7 → t ≠ 8 → t ≠ 9 → (t < 170 + 18 * s ∨ 188 + 18 * s ≤ t) → w t = v t) (ha : ∀ t, t < 4 ∨ 11 < t → sb t = sa t) (s4 : sb 4 = upd (sa 4) (s + 1) (nI d)) (s5 : sb 5 = upd (sa 5) (s + 1) (nI now)) (s6 : sb 6 = upd (sa 6) (s + 1) (nI plan)) (s7 : sb 7 = upd (sa 7) (s + 1) (-9)) (s8 : sb 8 = upd (sa 8) (s + 1) 0) (s9 : sb 9 = upd (sa 9) (s + 1) 0) (s10 : sb 10 = upd (sa 10) (s + 1) (si 2)) (s11 : ∀ t, sb 11 t = if 10 * (s + 1) ≤ t ∧ t < 10 * (s + 1) + 10 then -9 else sa 11 t) : RS b (upd (upd (upd si 9 (nI (s + 1))) 4 2) 5 (nI d)) sb w := by
  have hM := (RS_M h).2
  have hsi : ∀ t, t ≠ 4 → t ≠ 5 → t ≠ 9 → upd (upd (upd si 9 (nI (s + 1))) 4 2) 5 (nI d) t = si t := fun t g1 g2 g3 => by rw [pk_un g2, pk_un g1, pk_un g3]
  have hB := h.2.2.2.1.2.1
  have hB2 := hB.2.1
  have t9 := tN_of w9 (by omega)
  refine ⟨Pset_congr h.1 (fun i hi => hw i (by omega) (by omega) (by omega) (by omega)) (fun i hi => by rw [ha 0 (by omega)]), ?_, ?_, Pmem_congr h.2.2.2.1 (fun i g1 g2 => hw i (by omega) (by omega) (by omega) (by omega)) (hw 10 (by omega) (by omega) (by omega) (by omega)) (ha 1 (by omega)) (ha 2 (by omega)) (hsi 2 (by omega) (by omega) (by omega)) (hsi 7 (by omega) (by omega) (by omega)) (hsi 3 (by omega) (by omega) (by omega)), fun t ht => ?_, Pev_congr h.2.2.2.2.2.1 (fun i z1 z2 => hw i (by omega) (by omega) (by omega) (by omega)) (fun j z1 z2 => ha j (by omega)), Ptal_congr h.2.2.2.2.2.2 (fun i z1 z2 => hw i (by omega) (by omega) (by omega) (by omega)) (ha 3 (by omega))⟩
  · obtain ⟨a1, a2, a3, a4, a5, a6, a7, a8⟩ := h.2.1
    exact ⟨by rw [hsi 0 (by omega) (by omega) (by omega), hw 6 (by omega) (by omega) (by omega) (by omega)]; exact a1, by rw [pk_un (by omega), pk_us, w7], by rw [pk_us, w8], by rw [pk_un (by omega), pk_un (by omega), pk_us, w9], by rw [hsi 1 (by omega) (by omega) (by omega), hw 10 (by omega) (by omega) (by omega) (by omega)]; exact a5, by rw [hsi 6 (by omega) (by omega) (by omega), hw 11 (by omega) (by omega) (by omega) (by omega)]; exact a6, by rw [hsi 10 (by omega) (by omega) (by omega), hw 12 (by omega) (by omega) (by omega) (by omega)]; exact a7, by rw [hsi 8 (by omega) (by omega) (by omega), hw 13 (by omega) (by omega) (by omega) (by omega)]; exact a8⟩
  · obtain ⟨a1, a2, a3, a4, a5, a6, a7⟩ := h.2.2.1
    exact ⟨isN_congr a1 (hw 6 (by omega) (by omega) (by omega) (by omega)), isN_of w9 (by omega) (by omega), isN_congr a3 (hw 10 (by omega) (by omega) (by omega) (by omega)), isN_congr a4 (hw 12 (by omega) (by omega) (by omega) (by omega)), isN_congr a5 (hw 13 (by omega) (by omega) (by omega) (by omega)), Or.inl (by rw [hw 11 (by omega) (by omega) (by omega) (by omega)]; exact h11), Or.inr ⟨Or.inr w7, isN_of w8 (by omega) (by omega), by rw [tN_of w8 (by omega), tN_congr (hw 10 (by omega) (by omega) (by omega) (by omega))]; exact hd⟩⟩
  · rw [t9] at ht
    by_cases c : t = s
    · subst c
      have z177 : tN w (177 + 18 * t) = 0 := tN_of (k := 0) (wz _ (by omega) (by omega) (by omega)) (by omega)
      exact ⟨⟨by rw [s4, pk_us, wa], isN_of wa (by omega) (by omega)⟩, by rw [s5, pk_us, wb], ⟨by rw [s6, pk_us, wc], isN_of wc hpl (by omega)⟩, ⟨by rw [s7, pk_us, wd], Or.inl wd⟩, ⟨by rw [s8, pk_us, wz _ (by omega) (by omega) (by omega)], by rw [wz _ (by omega) (by omega) (by omega)]; decide, by rw [wz _ (by omega) (by omega) (by omega)]; decide⟩, ⟨by rw [s9, pk_us, wz _ (by omega) (by omega) (by omega)], isN_of (k := 0) (wz _ (by omega) (by omega) (by omega)) (by omega) (by omega)⟩, ⟨by rw [s10, pk_us, we], isN_of (we.trans hB.1) (by omega) (by omega)⟩, isN_of (k := 0) (wz _ (by omega) (by omega) (by omega)) (by omega) (by omega), fun m hm => ⟨isN_of (k := 0) (wz _ (by omega) (by omega) (by omega)) (by omega) (by omega), by rw [s11, if_pos (by omega), z177, Nat.zero_testBit, if_neg Bool.false_ne_true]⟩⟩
    · refine Pt1_congr (RS_t h (s := t) (by omega)) (fun i g1 g2 => hw i (by omega) (by omega) (by omega) (by omega)) (fun j g1 g2 => ?_) (fun m hm => by rw [s11, if_neg (by omega)])
      rcases (show j = 4 ∨ j = 5 ∨ j = 6 ∨ j = 7 ∨ j = 8 ∨ j = 9 ∨ j = 10 by omega) with rfl | rfl | rfl | rfl | rfl | rfl | rfl
      · rw [s4, pk_un (by omega)]
      · rw [s5, pk_un (by omega)]
      · rw [s6, pk_un (by omega)]
      · rw [s7, pk_un (by omega)]
      · rw [s8, pk_un (by omega)]
      · rw [s9, pk_un (by omega)]
      · rw [s10, pk_un (by omega)]
theorem begin_ok (hb : b < 2 ^ 30) {si : Nat → Int32} {sa : Nat → Nat → Int32} {v : Nat → Int32} (h : RS b si sa v) (hs4 : tN v 9 < 40) (h11 : v 11 = 0) {d : Nat} (hd : d < tN v 10) (hp : tN v (21 + 15 * d) = 1) : ∃ si' sa' v', F_X5_beginTerm si sa (nI d) = some (si', sa') ∧ F_X8_begins v (nI d) = some v' ∧ RO (b + 1) si' sa' v' := by
  obtain ⟨eT, hT⟩ := RS_T h
  obtain ⟨eM, hM⟩ := RS_M h
  generalize hs : tN v 9 = s at hs4 eT hT
  have e9 : si 9 = nI s := by rw [← eT]; exact h.2.1.2.2.2.1
  obtain ⟨e6, h6⟩ := h.2.2.1.1
  obtain ⟨now, hnow⟩ : ∃ now, now = tN v 6 := ⟨_, rfl⟩
  rw [← hnow] at e6 h6
  have e0 : si 0 = nI now := by rw [← e6]; exact h.2.1.1
  obtain ⟨q1, q2, q3⟩ := h.1 0 (by omega)
  obtain ⟨len, hlen, hlen2⟩ : ∃ len, v 0 = nI len ∧ len ≤ 1000 := by
    rw [toI_le, show (tv_least 0).toInt = 10 from by decide] at q2
    rw [toI_le, show (tv_great 0).toInt = 1000 from by decide] at q3
    exact ⟨(v 0).toInt.toNat, nn_of (by omega), by omega⟩
  obtain ⟨x, hx⟩ : ∃ x, x = upd si 9 (nI (s + 1)) := ⟨_, rfl⟩
  have x9 : x 9 = nI (s + 1) := by rw [hx, pk_us]
  obtain ⟨s1, hs1⟩ : ∃ s1, s1 = va_up (va_up (va_up (va_up (va_up (va_up (va_up sa 4 (upd (sa 4) (s + 1) (nI d))) 5 (upd (sa 5) (s + 1) (nI now))) 6 (upd (sa 6) (s + 1) (nI (now + len)))) 7 (upd (sa 7) (s + 1) (-9))) 8 (upd (sa 8) (s + 1) 0)) 9 (upd (sa 9) (s + 1) 0)) 10 (upd (sa 10) (s + 1) (si 2)) := ⟨_, rfl⟩
  obtain ⟨sb, b1, b2, b3⟩ := beg_L97 hs4 x9 10 0 tv_fu s1 (by omega) (by rw [tv_fu_eq]; omega)
  rw [nI_0] at b1
  have hbeg : F_X6_begin si sa (nI d) (nI now) (nI len) (si 2) = some (x, sb) := by
    unfold F_X6_begin
    rw [e9, if_pos (show nI s < 40 from nI_lt (b := 40) hs4 (by omega)), show nI s + 1 = nI (s + 1) from nI_1 s, ← hx, x9, nI_add, wr_n (by omega) (by omega), Option.bind_some, up_n (show (5 : Nat) ≠ 4 by omega), wr_n (by omega) (by omega), Option.bind_some, up_n (show (6 : Nat) ≠ 5 by omega), up_n (show (6 : Nat) ≠ 4 by omega), wr_n (by omega) (by omega), Option.bind_some, up_n (show (7 : Nat) ≠ 6 by omega), up_n (show (7 : Nat) ≠ 5 by omega), up_n (show (7 : Nat) ≠ 4 by omega), wr_n (by omega) (by omega), Option.bind_some, up_n (show (8 : Nat) ≠ 7 by omega), up_n (show (8 : Nat) ≠ 6 by omega), up_n (show (8 : Nat) ≠ 5 by omega), up_n (show (8 : Nat) ≠ 4 by omega), wr_n (by omega) (by omega), Option.bind_some, up_n (show (9 : Nat) ≠ 8 by omega), up_n (show (9 : Nat) ≠ 7 by omega), up_n (show (9 : Nat) ≠ 6 by omega), up_n (show (9 : Nat) ≠ 5 by omega), up_n (show (9 : Nat) ≠ 4 by omega), wr_n (by omega) (by omega), Option.bind_some, up_n (show (10 : Nat) ≠ 9 by omega), up_n (show (10 : Nat) ≠ 8 by omega), up_n (show (10 : Nat) ≠ 7 by omega), up_n (show (10 : Nat) ≠ 6 by omega), up_n (show (10 : Nat) ≠ 5 by omega), up_n (show (10 : Nat) ≠ 4 by omega), wr_n (by omega) (by omega), Option.bind_some, ← hs1, b1, Option.bind_some]
  obtain ⟨w1, c1, c2⟩ := beg_L21 (nI d) hs4 18 0 tv_fu (upd v 9 (nI (s + 1))) (by omega) (by rw [tv_fu_eq]; omega)
  rw [nI_0] at c1
  generalize hw2 : upd (upd (upd (upd w1 (170 + 18 * s) (nI d)) (171 + 18 * s) (nI now)) (172 + 18 * s) (nI (now + len))) (173 + 18 * s) (-9) = w2
  have k2 : ∀ t, t < 170 + 18 * s ∨ 174 + 18 * s ≤ t → w2 t = w1 t := fun t ht => by rw [← hw2, pk_un (by omega), pk_un (by omega), pk_un (by omega), pk_un (by omega)]
  have l2 : ∀ t, t ≠ 9 → t < 170 + 18 * s ∨ 188 + 18 * s ≤ t → w2 t = v t := fun t g1 g2 => by rw [k2 t (by omega), c2 t, if_neg (by omega), pk_un g1]
  have z2 : ∀ t, 174 + 18 * s ≤ t → t < 188 + 18 * s → w2 t = 0 := fun t g1 g2 => by rw [k2 t (by omega), c2 t, if_pos (by omega)]
  obtain ⟨w3, W, d1, d2, d3, d4, d5⟩ := wit_L (nI d) hs4 hM (tN v 10) 0 tv_fu 0 w2 (by omega) (by rw [tv_fu_eq]; omega) (by omega) (by rw [l2 10 (by omega) (by omega)]; exact eM) (z2 _ (by omega) (by omega)) (fun j hj => isN_congr (RS_m h hj).2.2.1 (l2 _ (by omega) (by omega))) (fun j hj => by rw [Nat.zero_testBit, decide_eq_false (show ¬ j < 0 by omega), Bool.false_and])
  rw [nI_0] at d1
  have eW : nI W = si 2 := mask_eq d4 h.2.2.2.1.2.1 (fun j hj => by
    rw [d5 j hj, tN_congr (l2 (21 + 15 * j) (by omega) (by omega))]
    by_cases c : j < tN v 10
    · rw [decide_eq_true c, Bool.true_and]
    · rw [decide_eq_false c, Bool.false_and, ((RS_m h hj).2.2.2.2.2.2.2.1 (by omega)).1]
      rfl)
  have a2 : ∀ t, t ≠ 4 → t ≠ 5 → t ≠ 6 → t ≠ 7 → t ≠ 8 → t ≠ 9 → t ≠ 10 → t ≠ 11 → sb t = sa t := fun t g1 g2 g3 g4 g5 g6 g7 g8 => by rw [b2 t g8, hs1, up_n g7, up_n g6, up_n g5, up_n g4, up_n g3, up_n g2, up_n g1]
  have hw4 : ∀ t, t ≠ 7 → t ≠ 8 → upd (upd w3 7 2) 8 (nI d) t = w3 t := fun t g1 g2 => by rw [pk_un g2, pk_un g1]
  have hRS := begun_ok h hs hs4 h11 hd (w := upd (upd w3 7 2) 8 (nI d)) (sb := sb) e6 (plan := now + len) (by omega) (by rw [hw4 _ (by omega) (by omega), d2 _ (by omega), k2 _ (by omega), c2, if_neg (by omega), pk_us]) (by rw [pk_un (by omega), pk_us]) pk_us (by rw [hw4 _ (by omega) (by omega), d2 _ (by omega), ← hw2, pk_un (by omega), pk_un (by omega), pk_un (by omega), pk_us]) (by rw [hw4 _ (by omega) (by omega), d2 _ (by omega), ← hw2, pk_un (by omega), pk_un (by omega), pk_us]) (by rw [hw4 _ (by omega) (by omega), d2 _ (by omega), ← hw2, pk_un (by omega), pk_us]) (by rw [hw4 _ (by omega) (by omega), d2 _ (by omega), ← hw2, pk_us]) (by rw [hw4 _ (by omega) (by omega), d3, eW]) (fun t g1 g2 g3 => by rw [hw4 _ (by omega) (by omega), d2 _ g3, z2 t g1 g2]) (fun t g1 g2 g3 g4 => by rw [hw4 t g1 g2, d2 _ (by omega), l2 t g3 g4]) (fun t ht => a2 t (by omega) (by omega) (by omega) (by omega) (by omega) (by omega) (by omega) (by omega))
    (by rw [b2 4 (by omega), hs1, up_n (by omega), up_n (by omega), up_n (by omega), up_n (by omega), up_n (by omega), up_n (by omega), up_s])
    (by rw [b2 5 (by omega), hs1, up_n (by omega), up_n (by omega), up_n (by omega), up_n (by omega), up_n (by omega), up_s])
    (by rw [b2 6 (by omega), hs1, up_n (by omega), up_n (by omega), up_n (by omega), up_n (by omega), up_s])
    (by rw [b2 7 (by omega), hs1, up_n (by omega), up_n (by omega), up_n (by omega), up_s])
    (by rw [b2 8 (by omega), hs1, up_n (by omega), up_n (by omega), up_s])
    (by rw [b2 9 (by omega), hs1, up_n (by omega), up_s])
    (by rw [b2 10 (by omega), hs1, up_s])
    (fun t => by rw [b3 t, Nat.add_zero, hs1, up_n (by omega), up_n (by omega), up_n (by omega), up_n (by omega), up_n (by omega), up_n (by omega), up_n (by omega)])
  obtain ⟨si', sa', v', t1, t2, t3, t4⟩ := tell_ok hb hRS 1 (nI d)
  have r6 : ∀ y : Nat → Int32, tv_rd 1100 y 6 = some (y 6) := fun y => rd_n (k := 6) (by omega) (by omega)
  have f6 : ∀ y : Nat → Int32, (∀ t, t < 170 + 18 * s → y t = w1 t) → y 6 = nI now := fun y hy => by rw [hy 6 (by omega), c2, if_neg (by omega), pk_un (by omega)]; exact e6
  have f0 : ∀ y : Nat → Int32, (∀ t, t < 170 + 18 * s → y t = w1 t) → y 0 = nI len := fun y hy => by rw [hy 0 (by omega), c2, if_neg (by omega), pk_un (by omega)]; exact hlen
  refine ⟨si', sa', v', ?_, ?_, t3, fun _ => ?_⟩
  · unfold F_X5_beginTerm
    rw [show tv_rd 6 (sa 0) 0 = some (v 0) from by rw [← q1]; exact rd_n (k := 0) (by omega) (by omega), Option.bind_some, hlen, e0, hbeg, Option.bind_some]
    dsimp only
    rw [hx, t1, Option.bind_some]
  · unfold F_X8_begins
    rw [show tv_rd 1100 v 9 = some (v 9) from rd_n (k := 9) (by omega) (by omega), Option.bind_some, eT, show nI s + 1 = nI (s + 1) from nI_1 s, show tv_wr 1100 v 9 (nI (s + 1)) = some (upd v 9 (nI (s + 1))) from wr_n (k := 9) (by omega) (by omega), Option.bind_some, show tv_rd 1100 (upd v 9 (nI (s + 1))) 9 = some (upd v 9 (nI (s + 1)) 9) from rd_n (k := 9) (by omega) (by omega), Option.bind_some, pk_us, c1, Option.bind_some, of0, wr_n (by omega) (by omega), Option.bind_some, r6, Option.bind_some, f6 (upd w1 (170 + 18 * s) (nI d)) (fun t ht => pk_un (by omega)), of1, wr_n (by omega) (by omega), Option.bind_some, r6, Option.bind_some, f6 (upd (upd w1 (170 + 18 * s) (nI d)) (171 + 18 * s) (nI now)) (fun t ht => by rw [pk_un (by omega), pk_un (by omega)]), show ∀ y : Nat → Int32, tv_rd 1100 y 0 = some (y 0) from fun y => rd_n (k := 0) (by omega) (by omega), Option.bind_some, f0 (upd (upd w1 (170 + 18 * s) (nI d)) (171 + 18 * s) (nI now)) (fun t ht => by rw [pk_un (by omega), pk_un (by omega)]), nI_add, of2, wr_n (by omega) (by omega), Option.bind_some, of3, wr_n (by omega) (by omega), Option.bind_some, hw2, d1, Option.bind_some, show tv_wr 1100 w3 7 2 = some (upd w3 7 2) from wr_n (k := 7) (by omega) (by omega), Option.bind_some, show tv_wr 1100 (upd w3 7 2) 8 (nI d) = some (upd (upd w3 7 2) 8 (nI d)) from wr_n (k := 8) (by omega) (by omega), Option.bind_some, t2, Option.bind_some]
  · have u : ∀ t, t ≠ 12 → t ≠ 7 → t ≠ 8 → t ≠ 176 + 18 * s → t < 910 → v' t = w2 t := fun t g1 g2 g3 g4 g5 => by rw [t4 t g1 g5, hw4 t g2 g3, d2 t g4]
    have u8 : v' 8 = nI d := by rw [t4 8 (by omega) (by omega), pk_us]
    have u9 : v' 9 = nI (s + 1) := by rw [u 9 (by omega) (by omega) (by omega) (by omega) (by omega), k2 _ (by omega), c2, if_neg (by omega), pk_us]
    rw [tN_of u9 (by omega), tN_of u8 (by omega), u8, Nat.add_sub_cancel]
    refine ⟨by omega, ?_, ?_⟩
    · rw [u _ (by omega) (by omega) (by omega) (by omega) (by omega), ← hw2, pk_un (by omega), pk_un (by omega), pk_un (by omega), pk_us]
    · rw [tN_congr ((u (21 + 15 * d) (by omega) (by omega) (by omega) (by omega) (by omega)).trans (l2 _ (by omega) (by omega)))]
      exact hp
theorem pop0 : ∀ n, n < 1024 → (sg (bN n) 0 10 = 0 ↔ n = 0) := by decide +kernel
theorem close_ok (hb : b < 2 ^ 29) {si : Nat → Int32} {sa : Nat → Nat → Int32} {v : Nat → Int32} {hs : Nat → (Nat → Int32) × (Nat → Nat → Int32)} {hc hn : Int32} {pa : Nat → Int32} {pm : Int32} (h : RO b si sa v) (hh : RH b hs hc hn pa pm) (ra : Int32) : ∃ r si' sa' hs' hc' hn' v' pa' pm' ra', F_X7_close si sa hs hc hn = some (r, si', sa', hs', hc', hn') ∧ F_X8_close v pa pm ra = some (r, v', pa', pm', ra') ∧ RO (b + 2) si' sa' v' ∧ RH (b + 2) hs' hc' hn' pa' pm' := by
  unfold F_X7_close F_X8_close
  have same : ∀ r : Int32, ∃ r' si' sa' hs' hc' hn' v' pa' pm' ra', some (r, si, sa, hs, hc, hn) = some (r', si', sa', hs', hc', hn') ∧ some (r, v, pa, pm, ra) = some (r', v', pa', pm', ra') ∧ RO (b + 2) si' sa' v' ∧ RH (b + 2) hs' hc' hn' pa' pm' := fun r => ⟨_, _, _, _, _, _, _, _, _, _, rfl, rfl, RO_mono h (by omega), RH_mono hh (by omega)⟩
  rw [show si 6 = v 11 from h.1.2.1.2.2.2.2.2.1, show tv_rd 1100 v 11 = some (v 11) from rd_n (k := 11) (by omega) (by omega), Option.bind_some]
  by_cases c0 : v 11 = 0
  · rw [if_pos c0, if_pos c0]
    exact same _
  · have hT39 : tN v 9 ≤ 39 := (h.1.2.2.1.2.2.2.2.2.1.resolve_left c0).2
    rw [if_neg c0, if_neg c0, cnd_m h.1, Option.bind_some]
    have hB := h.1.2.2.2.1.2.2.1
    obtain ⟨A, hAe⟩ : ∃ A, A = (si 7).toNatClampNeg := ⟨_, rfl⟩
    have hA := hB.2.1
    have e7 := hB.1
    rw [← hAe] at hA e7
    have hbc := bc_n A hA
    rw [← e7, cnd_c h.1] at hbc
    have p10 := sg10 A
    have s10 : sg (cndN v) 0 10 ≤ 10 * 1 := sg_le (cndN v) 1 10 0 (fun j _ hj => (RS_m h.1 (show j < 10 by omega)).2.2.2.1.2)
    have hpop : sg (cndN v) 0 10 = sg (bN A) 0 10 := (nI_eq (by omega) (by omega)).mp hbc
    rw [hpop]
    by_cases cA : A = 0
    · rw [if_pos (show si 7 = 0 by rw [e7, cA]; rfl), (pop0 A hA).mpr cA, if_pos (show nI 0 = 0 from rfl)]
      exact same _
    · have cp : sg (bN A) 0 10 ≠ 0 := fun z => cA ((pop0 A hA).mp z)
      rw [if_neg (show ¬ si 7 = 0 by rw [e7]; exact nI_ne0 (by omega) (by omega)), if_neg (nI_ne0 (by omega) (by omega))]
      obtain ⟨hs', hc', hn', pa', pm', k1, k2, k3⟩ := hist_ok h hh
      have h0 := rnd_ok h.1 (r := 0) (by omega)
      have hv0 : ∀ t, t ≠ 13 → upd v 13 (nI 0) t = v t := fun t ht => pk_un ht
      have hcm := cmask_L h0 (-9) (tN v 10) 0 tv_fu 0 (by rw [tN_congr (hv0 10 (by omega))]; omega) (by rw [tv_fu_eq]; have := (RS_M h.1).2; omega) (by omega) (fun j hj => by rw [Nat.zero_testBit, decide_eq_false (show ¬ j < 0 by omega), Bool.false_and])
      rw [nI_0] at hcm h0 hv0
      rw [pk_un (show (7 : Nat) ≠ 8 by omega)] at hcm
      have e4 : tv_rd 1100 (upd v 13 0) 4 = some (v 4) := by rw [← hv0 4 (by omega)]; exact rd_n (k := 4) (by omega) (by omega)
      have s4 : tv_rd 6 (sa 0) 4 = some (v 4) := by rw [← RS_s h.1 (i := 4) (by omega)]; exact rd_n (k := 4) (by omega) (by omega)
      have w11 : ∀ x : Nat → Int32, tv_wr 1100 x 11 0 = some (upd x 11 0) := fun x => wr_n (k := 11) (by omega) (by omega)
      rw [k1, k2, Option.bind_some, Option.bind_some, show tv_wr 1100 v 13 0 = some (upd v 13 0) from wr_n (k := 13) (by omega) (by omega), Option.bind_some, hcm, Option.bind_some, balls_m h0, Option.bind_some, e4, Option.bind_some, prs_m h0, Option.bind_some]
      unfold F_X5_elect F_X5_hasQuorum
      rw [balls_c h0, Option.bind_some, s4, Option.bind_some, prs_c h0]
      generalize sg (balN (upd v 13 0)) 0 10 = B
      generalize sg (prsN (upd v 13 0)) 0 10 = P
      have fin : ∀ (r : Int32) (si1 : Nat → Int32) (sa1 : Nat → Nat → Int32) (v1 : Nat → Int32), RS b si1 sa1 v1 → (∀ t, t ≠ 13 → t < 980 ∨ 1080 ≤ t → v1 t = v t) → (r = -9 ∨ ∃ d, d < 10 ∧ r = nI d ∧ A.testBit d = true) → ∃ si' sa' v', ((F_X2_finish si1 sa1).bind fun x4 => if r = -9 then (F_X1_tell x4.1 x4.2 (x4.1 0) 6 (-9)).bind fun x6 => some (r, x6.1, x6.2) else (F_X5_beginTerm x4.1 x4.2 r).bind fun x5 => some (r, x5.1, x5.2)) = some (r, si', sa') ∧ (∀ ra' : Int32, ((tv_wr 1100 v1 11 0).bind fun x17 => (F_X8_close_L151 r tv_fu 0 x17).bind fun x20 => if 0 ≤ r then (F_X8_begins x20 r).bind fun x21 => some (r, x21, pa', pm', ra') else (F_X8_tells x20 6 (-9)).bind fun x22 => some (r, x22, pa', pm', ra')) = some (r, v', pa', pm', ra')) ∧ RO (b + 1) si' sa' v' := by
        intro r si1 sa1 v1 h1 hv1 hr
        obtain ⟨w, a1, a2, a3, a4, a5⟩ := away_ok h1 r
        have hw : ∀ t, t ≠ 13 → t ≠ 11 → t < 20 ∨ (170 ≤ t ∧ t < 980) → w t = v t := fun t g1 g2 g3 => by rw [a4 t g2 (by omega), hv1 t g1 (by omega)]
        have hw21 : ∀ j, j < 10 → w (21 + 15 * j) = v (21 + 15 * j) := fun j hj => by rw [a5 j hj, hv1 _ (by omega) (by omega)]
        unfold F_X2_finish
        rcases hr with rfl | ⟨d, hd, rfl, hbd⟩
        · obtain ⟨si', sa', v', t1, t2, t3, t4⟩ := tell_ok (by omega) a2 6 (-9)
          refine ⟨si', sa', v', ?_, fun ra' => ?_, t3, ?_⟩
          · rw [Option.bind_some, if_pos rfl]
            dsimp only
            rw [t1, Option.bind_some]
          · rw [w11, Option.bind_some, a1, Option.bind_some, if_neg m9_neg, t2, Option.bind_some]
          · exact off_congr h.2 ((t4 7 (by omega) (by omega)).trans (hw 7 (by omega) (by omega) (by omega))) ((t4 8 (by omega) (by omega)).trans (hw 8 (by omega) (by omega) (by omega))) ((t4 9 (by omega) (by omega)).trans (hw 9 (by omega) (by omega) (by omega))) (fun _ => (t4 _ (by omega) (by omega)).trans (hw _ (by omega) (by omega) (by omega))) (fun z => by
              have q := (hold_le h.1 (Or.inl z)).1.2
              exact (t4 _ (by omega) (by omega)).trans (hw21 _ (by omega)))
        · have hcd := hB.2.2 d hd
          rw [← hAe, hbd] at hcd
          have hc1 : tN v (22 + 15 * d) = 1 := of_decide_eq_true hcd.symm
          have pd := RS_m h.1 hd
          have hle := pd.2.2.2.2.2.2.1
          have hp1 := pd.2.2.1.2
          have hdM : d < tN v 10 := by
            by_cases y : tN v 10 ≤ d
            · have := (pd.2.2.2.2.2.2.2.1 y).1
              omega
            · omega
          obtain ⟨si', sa', v', t1, t2, t3⟩ := begin_ok (by omega) a2 (by rw [tN_congr (hw 9 (by omega) (by omega) (by omega))]; omega) a3 (d := d) (by rw [tN_congr (hw 10 (by omega) (by omega) (by omega))]; exact hdM) (by rw [tN_congr (hw21 d hd)]; omega)
          refine ⟨si', sa', v', ?_, fun ra' => ?_, t3⟩
          · rw [Option.bind_some, if_neg (nI_ne9 (by omega))]
            dsimp only
            rw [t1, Option.bind_some]
          · rw [w11, Option.bind_some, a1, Option.bind_some, if_pos (nI_ge0 (by omega)), t2, Option.bind_some]
      by_cases cq : 100 * nI B < v 4 * nI P
      · rw [if_pos cq, Option.bind_some, Option.bind_some, if_pos h00, Option.bind_some]
        obtain ⟨si', sa', v', f1, f2, f3⟩ := fin (-9) (upd si 8 0) sa (upd v 13 0) h0 (fun t g1 _ => hv0 t g1) (Or.inl rfl)
        have hl : F_X8_close_L107 0 tv_fu (-9) (upd v 13 0) (si 7) = some (-9, upd v 13 0, si 7) := by
          obtain ⟨n, hn⟩ : ∃ n, tv_fu = n + 1 := ⟨tv_fu - 1, by rw [tv_fu_eq]⟩
          rw [hn, F_X8_close_L107, if_pos h00]
        rw [hl, Option.bind_some]
        dsimp only
        rw [f1, f2, Option.bind_some]
        exact ⟨_, _, _, _, _, _, _, _, _, _, rfl, rfl, RO_mono f3 (by omega), RH_mono k3 (by omega)⟩
      · rw [if_neg cq, Option.bind_some, Option.bind_some, if_neg h10]
        obtain ⟨p, hp⟩ : ∃ p, sg (bN A) 0 10 = p + 1 := ⟨sg (bN A) 0 10 - 1, by omega⟩
        obtain ⟨d, si1, sa1, v1, ra', g1, g2, g3, g4, g5, g6⟩ := rounds_L p 0 tv_fu A (upd si 8 0) sa (upd v 13 0) h0 pk_us hA hp (by omega) (by rw [tv_fu_eq]; omega)
        rw [nI_0, ← e7] at g3
        rw [← e7] at g4
        obtain ⟨si', sa', v', f1, f2, f3⟩ := fin (nI d) si1 sa1 v1 g5 (fun t y1 y2 => by rw [g6 t y1 y2, hv0 t y1]) (Or.inr ⟨d, g1, rfl, g2⟩)
        unfold F_X5_holdRounds
        rw [pk_un (show (7 : Nat) ≠ 8 by omega), g3, g4, Option.bind_some, Option.bind_some, Option.bind_some]
        dsimp only
        rw [f1, f2, Option.bind_some]
        exact ⟨_, _, _, _, _, _, _, _, _, _, rfl, rfl, RO_mono f3 (by omega), RH_mono k3 (by omega)⟩
end A8
