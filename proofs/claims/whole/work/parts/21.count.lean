/-! ===== one round of the count ===== -/
section A6
variable {b : Nat} {si : Nat → Int32} {sa : Nat → Nat → Int32} {v : Nat → Int32}
theorem hasT {A i : Nat} (hA : A < 1024) (hi : i < 10) (h : A.testBit i = true) : F_X7_has (nI A) (nI i) = 1 := by
  rw [has_n (by omega) hi, h, if_pos rfl]
theorem hasF {A i : Nat} (hA : A < 1024) (hi : i < 10) (h : A.testBit i = false) : F_X7_has (nI A) (nI i) = 0 := by
  rw [has_n (by omega) hi, h, if_neg Bool.false_ne_true]
theorem shrT {A i : Nat} (hA : A < 1024) (hi : i < 10) (h : A.testBit i = true) : (nI A >>> (nI i &&& 31)) &&& 1 = 1 := by
  rw [shr_n (by omega) hi, h, if_pos rfl]
theorem shrF {A i : Nat} (hA : A < 1024) (hi : i < 10) (h : A.testBit i = false) : (nI A >>> (nI i &&& 31)) &&& 1 = 0 := by
  rw [shr_n (by omega) hi, h, if_neg Bool.false_ne_true]
theorem h01 : ¬ (0 : Int32) = 1 := by decide
theorem rep_si {sj : Nat → Int32} (e : sj 9 = si 9) (a x : Int32) : F_X6_reputation sj sa a x = F_X6_reputation si sa a x := by
  unfold F_X6_reputation
  rw [e]
theorem led_si {sj : Nat → Int32} (e : sj 9 = si 9) (a : Int32) : ∀ (n : Nat) (x y : Int32), F_X6_countLed_L4 sj sa a n x y = F_X6_countLed_L4 si sa a n x y
  | 0, x, y => by rw [F_X6_countLed_L4, F_X6_countLed_L4]
  | n + 1, x, y => by
    rw [F_X6_countLed_L4, F_X6_countLed_L4, e, led_si e a n]
    congr 1
    congr 1
    funext z
    rw [led_si e a n]
theorem led_sj {sj : Nat → Int32} (e : sj 9 = si 9) (a : Int32) : F_X6_countLed sj sa a = F_X6_countLed si sa a := by
  unfold F_X6_countLed
  rw [led_si e]
/-- the tallies change -/
theorem tal_ok (h : RS b si sa v) {sb : Nat → Nat → Int32} {w : Nat → Int32} (ha : ∀ t, t ≠ 3 → sb t = sa t) (hv : ∀ t, t < 980 ∨ 1080 ≤ t → w t = v t) (hT : Ptal sb w) : RS b si sb w := by
  refine ⟨Pset_congr h.1 (fun i hi => hv i (by omega)) (fun i hi => by rw [ha 0 (by omega)]), ?_, ?_, Pmem_congr h.2.2.2.1 (fun i g1 g2 => hv i (by omega)) (hv 10 (by omega)) (ha 1 (by omega)) (ha 2 (by omega)) rfl rfl rfl, Pter_congr h.2.2.2.2.1 (hv 9 (by omega)) (RS_T h).2 (fun i z1 z2 => hv i (by omega)) (fun j z1 z2 => ha j (by omega)), Pev_congr h.2.2.2.2.2.1 (fun i z1 z2 => hv i (by omega)) (fun j z1 z2 => ha j (by omega)), hT⟩
  · obtain ⟨a1, a2, a3, a4, a5, a6, a7, a8⟩ := h.2.1
    refine ⟨?_, ?_, ?_, ?_, ?_, ?_, ?_, ?_⟩ <;> rw [hv _ (by omega)] <;> assumption
  · obtain ⟨a1, a2, a3, a4, a5, a6, a7⟩ := h.2.2.1
    refine ⟨isN_congr a1 (hv 6 (by omega)), isN_congr a2 (hv 9 (by omega)), isN_congr a3 (hv 10 (by omega)), isN_congr a4 (hv 12 (by omega)), isN_congr a5 (hv 13 (by omega)), ?_, ?_⟩
    · rw [hv 11 (by omega), tN_congr (hv 9 (by omega))]; exact a6
    · rw [hv 7 (by omega), hv 8 (by omega), tN_congr (hv 8 (by omega)), tN_congr (hv 10 (by omega))]
      exact a7.imp id (fun z => ⟨z.1, isN_congr z.2.1 (hv 8 (by omega)), z.2.2⟩)
theorem Ptal_set (h : Ptal sa v) (j : Nat) (x : Int32) : Ptal (va_up sa 3 (upd (sa 3) j x)) (upd v (980 + j) x) := fun i hi => by
  rw [up_s]
  by_cases e : i = j
  · subst e
    rw [pk_us, pk_us]
  · rw [pk_un e, pk_un (by omega)]
    exact h i hi
/-! the first choice among those that run -/
theorem cho_n {m : Nat} (h : Pm1 sa v m) (hm : m < 10) {i : Nat} (hi : i < 10) : F_X2_choice sa (nI m) (nI i) = some (if i < tN v (24 + 15 * m) then v (25 + 15 * m + i) else -9) := by
  unfold F_X2_choice
  rw [m10, nI_add, rd_n (by omega) (by omega), Option.bind_some, h.2.2.2.2.2.2.2.2.1 i hi]
theorem fst_T {m : Nat} (h : Pm1 sa v m) (hm : m < 10) (x : Int32) : ∀ (k i n : Nat), i + k = 10 → tN v (24 + 15 * m) ≤ i → k < n → F_X2_firstAmong_L2 sa x (nI m) n (nI i) = some (-9)
  | 0, i, n + 1, hi, hL, hn => by
    rw [F_X2_firstAmong_L2, if_pos (show (10 : Int32) ≤ nI i from nI_le (a := 10) (by omega) (by omega))]
  | k + 1, i, n + 1, hi, hL, hn => by
    rw [F_X2_firstAmong_L2, if_neg (lt10 (by omega)), cho_n h hm (by omega), if_neg (show ¬ i < tN v (24 + 15 * m) by omega), Option.bind_some, if_pos rfl, show nI i + 1 = nI (i + 1) from nI_1 i]
    exact fst_T h hm x k (i + 1) n (by omega) (by omega) (by omega)
  | k, i, 0, hi, hL, hn => by omega
theorem fst_L {m : Nat} (h : Pm1 sa v m) (hm : m < 10) {A : Nat} (hA : A < 1024) : ∀ (k i n : Nat), i + k = tN v (24 + 15 * m) → 10 < n + i → ∃ x, F_X2_firstAmong_L2 sa (nI A) (nI m) n (nI i) = some x ∧ F_X8_firstOf_L2 v (nI A) (nI m) n (nI i) = some x ∧ (x = -9 ∨ ∃ d, d < 10 ∧ x = nI d ∧ A.testBit d = true)
  | 0, i, n + 1, hi, hn => by
    have hL := h.2.2.2.2.2.1
    have hL2 := hL.2
    refine ⟨-9, fst_T h hm (nI A) (10 - i) i (n + 1) (by omega) (by omega) (by omega), ?_, Or.inl rfl⟩
    rw [F_X8_firstOf_L2, at4, rd1 (by omega), Option.bind_some, hL.1, if_pos (nI_le (by omega) (by omega))]
  | k + 1, i, n + 1, hi, hn => by
    have hL := h.2.2.2.2.2.1
    have hL2 := hL.2
    obtain ⟨ed, hd⟩ := h.2.2.2.2.2.2.2.2.2 i (by omega)
    rw [F_X8_firstOf_L2, at4, rd1 (by omega), Option.bind_some, hL.1, if_neg (nI_ge (by omega) (by omega)), at5k, rd1 (by omega), Option.bind_some, F_X2_firstAmong_L2, if_neg (lt10 (by omega)), cho_n h hm (by omega), if_pos (show i < tN v (24 + 15 * m) by omega), Option.bind_some, show nI i + 1 = nI (i + 1) from nI_1 i]
    generalize hdd : tN v (25 + 15 * m + i) = d at ed hd
    rw [ed, if_neg (nI_ne9 (by omega))]
    cases hb : A.testBit d with
    | true =>
      rw [hasT hA (by omega) hb, shrT hA (by omega) hb, if_neg h10, if_pos rfl]
      exact ⟨_, rfl, rfl, Or.inr ⟨d, by omega, rfl, hb⟩⟩
    | false =>
      rw [hasF hA (by omega) hb, shrF hA (by omega) hb, if_pos h00, if_neg h01]
      exact fst_L h hm hA k (i + 1) n (by omega) (by omega)
  | k, i, 0, hi, hn => by
    have hL := h.2.2.2.2.2.1.2
    omega
theorem fst_ok {m : Nat} (h : Pm1 sa v m) (hm : m < 10) {A : Nat} (hA : A < 1024) : ∃ x, F_X2_firstAmong sa (nI A) (nI m) = some x ∧ F_X8_firstOf v (nI A) (nI m) = some x ∧ (x = -9 ∨ ∃ d, d < 10 ∧ x = nI d ∧ A.testBit d = true) := by
  have e := fst_L h hm hA (tN v (24 + 15 * m)) 0 tv_fu (by omega) (by rw [tv_fu_eq]; omega)
  rw [nI_0] at e
  exact e
theorem fst_no {m : Nat} (h : Pm1 sa v m) (hm : m < 10) (hz : tN v (24 + 15 * m) = 0) (x : Int32) : F_X2_firstAmong sa x (nI m) = some (-9) := by
  have e := fst_T h hm x 10 0 tv_fu (by omega) (by omega) (by rw [tv_fu_eq]; omega)
  rw [nI_0] at e
  exact e
/-! the count -/
theorem init_L {A r : Nat} (hA : A < 1024) (hr : r < 10) : ∀ (k i n : Nat) (sa : Nat → Nat → Int32) (v : Nat → Int32), i + k = 10 → k < n → Ptal sa v → ∃ sa' v', F_X4_count_L9 (nI r) (nI A) (nI (10 * r)) n (nI i) sa = some sa' ∧ F_X8_holdsRound_L4 (nI A) (nI r) 0 n (nI i) v = some v' ∧ Ptal sa' v' ∧ (∀ t, t ≠ 3 → sa' t = sa t) ∧ (∀ t, t < 980 + 10 * r + i ∨ 990 + 10 * r ≤ t → v' t = v t) ∧ (∀ d, i ≤ d → d < 10 → v' (980 + 10 * r + d) = if A.testBit d = true then 0 else -9)
  | 0, i, n + 1, sa, v, hi, hn, h => by
    refine ⟨sa, v, ?_, ?_, h, fun _ _ => rfl, fun _ _ => rfl, fun d g1 g2 => by omega⟩
    · rw [F_X4_count_L9, if_pos (show (10 : Int32) ≤ nI i from nI_le (a := 10) (by omega) (by omega))]
    · rw [F_X8_holdsRound_L4, if_pos (show (10 : Int32) ≤ nI i from nI_le (a := 10) (by omega) (by omega))]
  | k + 1, i, n + 1, sa, v, hi, hn, h => by
    have hset := Ptal_set h (10 * r + i) (if A.testBit i = true then 0 else -9)
    rw [show 980 + (10 * r + i) = 980 + 10 * r + i by omega] at hset
    obtain ⟨sa', v', r1, r2, r3, r4, r5, r6⟩ := init_L hA hr k (i + 1) n _ _ (by omega) (by omega) hset
    refine ⟨sa', v', ?_, ?_, r3, fun t ht => by rw [r4 t ht, up_n ht], fun t ht => by rw [r5 t (by omega), pk_un (by omega)], fun d g1 g2 => ?_⟩
    · rw [F_X4_count_L9, if_neg (lt10 (by omega)), has_n (by omega) (by omega), nI_add, show nI i + 1 = nI (i + 1) from nI_1 i]
      cases hb : A.testBit i with
      | true =>
        rw [hb, if_pos rfl] at r1
        rw [if_pos rfl, if_neg h10, Option.bind_some, wr_n (by omega) (by omega), Option.bind_some]
        exact r1
      | false =>
        rw [hb, if_neg Bool.false_ne_true] at r1
        rw [if_neg Bool.false_ne_true, if_pos h00, Option.bind_some, wr_n (by omega) (by omega), Option.bind_some]
        exact r1
    · rw [F_X8_holdsRound_L4, if_neg (lt10 (by omega)), shr_n (by omega) (by omega), tallyAt_n, show nI i + 1 = nI (i + 1) from nI_1 i]
      cases hb : A.testBit i with
      | true =>
        rw [hb, if_pos rfl] at r2
        rw [if_pos rfl, if_pos rfl, Option.bind_some, wr_n (by omega) (by omega), Option.bind_some]
        exact r2
      | false =>
        rw [hb, if_neg Bool.false_ne_true] at r2
        rw [if_neg Bool.false_ne_true, if_neg h01, Option.bind_some, wr_n (by omega) (by omega), Option.bind_some]
        exact r2
    · by_cases z : d = i
      · subst z
        rw [r5 _ (by omega), pk_us]
      · exact r6 d (by omega) g2
  | k, i, 0, sa, v, hi, hn, h => by omega
theorem cnt_T {A r : Nat} (h : RS b si sa v) : ∀ (k i n : Nat), i + k = 10 → tN v 10 ≤ i → k < n → F_X4_count_L50 (nI r) (nI A) (nI (10 * r)) n (nI i) sa = some sa
  | 0, i, n + 1, hi, hM, hn => by
    rw [F_X4_count_L50, if_pos (show (10 : Int32) ≤ nI i from nI_le (a := 10) (by omega) (by omega))]
  | k + 1, i, n + 1, hi, hM, hn => by
    have p := RS_m h (m := i) (by omega)
    rw [F_X4_count_L50, if_neg (lt10 (by omega)), fst_no p (by omega) (p.2.2.2.2.2.2.2.1 hM).2.2, Option.bind_some, if_pos (show (-9 : Int32) < 0 by decide), show nI i + 1 = nI (i + 1) from nI_1 i]
    exact cnt_T h k (i + 1) n (by omega) (by omega) (by omega)
  | k, i, 0, hi, hM, hn => by omega
def tlN (A r : Nat) (v : Nat → Int32) (d : Nat) : Nat := if A.testBit d = true then tN v (980 + 10 * r + d) else 0
theorem isN_mono {i B C : Nat} (h : isN v i B) (hB : B ≤ C) : isN v i C := ⟨h.1, Nat.le_trans h.2 hB⟩
theorem cnt_L {A r : Nat} (hA : A < 1024) (hr : r < 10) : ∀ (k i n c : Nat) (sa : Nat → Nat → Int32) (v : Nat → Int32), RS b si sa v → i + k = tN v 10 → 10 < n + i → (∀ d, d < 10 → A.testBit d = true → isN v (980 + 10 * r + d) i) → sg (tlN A r v) 0 10 = c → c ≤ i → ∃ sa' v' c', F_X4_count_L50 (nI r) (nI A) (nI (10 * r)) n (nI i) sa = some sa' ∧ F_X8_holdsRound_L47 (nI A) (nI r) n (nI c) (nI i) v = some (nI c', v') ∧ RS b si sa' v' ∧ (∀ d, d < 10 → A.testBit d = true → isN v' (980 + 10 * r + d) 10) ∧ sg (tlN A r v') 0 10 = c' ∧ c' ≤ 10 ∧ (∀ t, t ≠ 3 → sa' t = sa t) ∧ (∀ t, t < 980 ∨ 1080 ≤ t → v' t = v t)
  | 0, i, n + 1, c, sa, v, h, hi, hn, hN, hc, hci => by
    obtain ⟨eM, hM⟩ := RS_M h
    refine ⟨sa, v, c, cnt_T h (10 - i) i (n + 1) (by omega) (by omega) (by omega), ?_, h, fun d g1 g2 => isN_mono (hN d g1 g2) (by omega), hc, by omega, fun _ _ => rfl, fun _ _ => rfl⟩
    rw [F_X8_holdsRound_L47, show tv_rd 1100 v 10 = some (nI (tN v 10)) from by rw [← eM]; exact rd_n (k := 10) (by omega) (by omega), Option.bind_some, if_pos (nI_le (by omega) (by omega))]
  | k + 1, i, n + 1, c, sa, v, h, hi, hn, hN, hc, hci => by
    obtain ⟨eM, hM⟩ := RS_M h
    obtain ⟨x, x1, x2, x3⟩ := fst_ok (RS_m h (m := i) (by omega)) (by omega) hA
    rw [F_X4_count_L50, if_neg (lt10 (by omega)), x1, Option.bind_some, F_X8_holdsRound_L47, show tv_rd 1100 v 10 = some (nI (tN v 10)) from by rw [← eM]; exact rd_n (k := 10) (by omega) (by omega), Option.bind_some, if_neg (nI_ge (by omega) (by omega)), x2, Option.bind_some, show nI i + 1 = nI (i + 1) from nI_1 i, show nI c + 1 = nI (c + 1) from nI_1 c]
    rcases x3 with rfl | ⟨d, hd, rfl, hb⟩
    · rw [if_pos (show (-9 : Int32) < 0 by decide), if_pos (show (-9 : Int32) < 0 by decide)]
      exact cnt_L hA hr k (i + 1) n c sa v h (by omega) (by omega) (fun d g1 g2 => isN_mono (hN d g1 g2) (by omega)) hc (by omega)
    · have eT := h.2.2.2.2.2.2 (10 * r + d) (by omega)
      rw [show 980 + (10 * r + d) = 980 + 10 * r + d by omega] at eT
      obtain ⟨ed, hd2⟩ := hN d hd hb
      have hset := Ptal_set h.2.2.2.2.2.2 (10 * r + d) (nI (tN v (980 + 10 * r + d) + 1))
      rw [show 980 + (10 * r + d) = 980 + 10 * r + d by omega] at hset
      rw [if_neg (nI_pos (by omega)), if_neg (nI_pos (by omega)), if_neg (lt10 hd), nI_add, rd_n (by omega) (by omega), Option.bind_some, wr_n (by omega) (by omega), Option.bind_some, tallyAt_n, rd1 (by omega), Option.bind_some, wr_n (by omega) (by omega), Option.bind_some, eT, ed, show nI (tN v (980 + 10 * r + d)) + 1 = nI (tN v (980 + 10 * r + d) + 1) from nI_1 _]
      generalize hw : upd v (980 + 10 * r + d) (nI (tN v (980 + 10 * r + d) + 1)) = w at hset ⊢
      have hv : ∀ t, t ≠ 980 + 10 * r + d → w t = v t := fun t ht => by rw [← hw, pk_un ht]
      have wd : w (980 + 10 * r + d) = nI (tN v (980 + 10 * r + d) + 1) := by rw [← hw, pk_us]
      have td := tN_of wd (by omega)
      have h' : RS b si (va_up sa 3 (upd (sa 3) (10 * r + d) (nI (tN v (980 + 10 * r + d) + 1)))) w := tal_ok h (fun t ht => up_n ht) (fun t ht => hv t (by omega)) hset
      have hs : sg (tlN A r w) 0 10 = sg (tlN A r v) 0 10 + 1 := sg_point (k := d) (by unfold tlN; rw [if_pos hb, if_pos hb, td]) (fun j hj => by
        unfold tlN
        rw [tN_congr (hv (980 + 10 * r + j) (by omega))]) 10 0 (by omega) (by omega)
      obtain ⟨sa', v', c', r1, r2, r3, r4, r5, r6, r7, r8⟩ := cnt_L hA hr k (i + 1) n (c + 1) _ w h' (by rw [tN_congr (hv 10 (by omega))]; omega) (by omega) (fun j g1 g2 => by
        by_cases z : j = d
        · subst z; exact isN_of wd (by omega) (by omega)
        · exact isN_mono (isN_congr (hN j g1 g2) (hv _ (by omega))) (by omega)) (by omega) (by omega)
      exact ⟨sa', v', c', r1, r2, r3, r4, r5, r6, fun t ht => by rw [r7 t ht, up_n ht], fun t ht => by rw [r8 t ht, hv t (by omega)]⟩
  | k, i, 0, c, sa, v, h, hi, hn, hN, hc, hci => by
    have := (RS_M h).2
    omega
/-- all votes of the round -/
theorem vot_n (h : Ptal sa v) {r d : Nat} (hr : r < 10) (hd : d < 10) : F_X4_votesFor sa (nI d) (nI r) = some (v (980 + 10 * r + d)) := by
  have eT := h (10 * r + d) (by omega)
  rw [show 980 + (10 * r + d) = 980 + 10 * r + d by omega] at eT
  unfold F_X4_votesFor
  rw [m10, nI_add, rd_n (by omega) (by omega), Option.bind_some, eT]
theorem all_L {A r : Nat} (hA : A < 1024) (hr : r < 10) (h : Ptal sa v) (hN : ∀ d, d < 10 → A.testBit d = true → isN v (980 + 10 * r + d) 10) : ∀ (k i acc n : Nat), i + k = 10 → k < n → F_X4_countAll_L5 sa (nI r) (nI A) n (nI acc) (nI i) = some (nI (acc + sg (tlN A r v) i k))
  | 0, i, acc, n + 1, hi, hn => by
    rw [F_X4_countAll_L5, if_pos (show (10 : Int32) ≤ nI i from nI_le (a := 10) (by omega) (by omega))]
    rfl
  | k + 1, i, acc, n + 1, hi, hn => by
    rw [F_X4_countAll_L5, if_neg (lt10 (by omega)), show nI i + 1 = nI (i + 1) from nI_1 i, sg]
    cases hb : A.testBit i with
    | true =>
      rw [hasT hA (by omega) hb, if_neg h10, vot_n h hr (by omega), Option.bind_some, (hN i (by omega) hb).1, nI_add, all_L hA hr h hN k (i + 1) _ n (by omega) (by omega), show tlN A r v i = tN v (980 + 10 * r + i) from if_pos hb, Nat.add_assoc]
    | false =>
      rw [hasF hA (by omega) hb, if_pos h00, all_L hA hr h hN k (i + 1) _ n (by omega) (by omega), show tlN A r v i = 0 from if_neg (by rw [hb]; exact Bool.false_ne_true), Nat.zero_add]
  | k, i, acc, 0, hi, hn => by omega
theorem race_n {A : Nat} (hA : A < 1024) : ∀ (k i acc n : Nat), i + k = 10 → k < n → F_X8_raceMany_L4 (nI A) n (nI acc) (nI i) = some (nI (acc + sg (bN A) i k))
  | 0, i, acc, n + 1, hi, hn => by
    rw [F_X8_raceMany_L4, if_pos (show (10 : Int32) ≤ nI i from nI_le (a := 10) (by omega) (by omega))]
    rfl
  | k + 1, i, acc, n + 1, hi, hn => by
    rw [F_X8_raceMany_L4, if_neg (lt10 (by omega)), show nI i + 1 = nI (i + 1) from nI_1 i, sg]
    cases hb : A.testBit i with
    | true =>
      rw [shrT hA (by omega) hb, show nI acc + 1 = nI (acc + 1) from nI_1 acc, race_n hA k (i + 1) _ n (by omega) (by omega), show bN A i = 1 from if_pos hb, Nat.add_assoc]
    | false =>
      rw [shrF hA (by omega) hb, show nI acc + 0 = nI acc from Int32.add_zero _, race_n hA k (i + 1) _ n (by omega) (by omega), show bN A i = 0 from if_neg (by rw [hb]; exact Bool.false_ne_true), Nat.zero_add]
  | k, i, acc, 0, hi, hn => by omega
theorem race_ok {A : Nat} (hA : A < 1024) : F_X8_raceMany (nI A) = some (nI (sg (bN A) 0 10)) := by
  have e := race_n hA 10 0 0 tv_fu (by omega) (by rw [tv_fu_eq]; omega)
  rw [nI_0, Nat.zero_add] at e
  unfold F_X8_raceMany
  rw [e, Option.bind_some]
/-! who leaves -/
theorem dif {p q : Nat} (hp : p ≤ 100) (hq : q ≤ 100) : (nI p - nI q).toInt = (p : Int) - q := by
  rw [toI_sub, nI_toInt (by omega), nI_toInt (by omega)] <;> rw [nI_toInt (by omega), nI_toInt (by omega)] <;> omega
theorem dif0 {p q : Nat} (hp : p ≤ 100) (hq : q ≤ 100) : nI p - nI q = 0 ↔ p = q := by
  rw [toI_eq, dif hp hq, show ((0 : Int32)).toInt = 0 from by decide]
  omega
theorem dif_fin {p q d e : Nat} (hp : p ≤ 100) (hq : q ≤ 100) (hde : e < d) (hd : d < 10) : ∃ x : Int32, (x = 0 ∨ x = 1) ∧ (if 0 < nI p - nI q then some (0 : Int32) else some 1) = some x ∧ (if nI q - nI p = 0 then (if nI d ≤ nI e then some (0 : Int32) else some 1) else if nI q - nI p ≤ 0 then some 0 else some 1) = some x := by
  have e1 : 0 < nI p - nI q ↔ q < p := by rw [toI_lt, dif hp hq, show ((0 : Int32)).toInt = 0 from by decide]; omega
  have e2 : nI q - nI p ≤ 0 ↔ q ≤ p := by rw [toI_le, dif hq hp, show ((0 : Int32)).toInt = 0 from by decide]; omega
  rcases Nat.lt_trichotomy p q with z | z | z
  · exact ⟨1, Or.inr rfl, by rw [if_neg (fun y => by have := e1.mp y; omega)], by rw [if_neg (fun y => by have := (dif0 hq hp).mp y; omega), if_neg (fun y => by have := e2.mp y; omega)]⟩
  · exact ⟨1, Or.inr rfl, by rw [if_neg (fun y => by have := e1.mp y; omega)], by rw [if_pos ((dif0 hq hp).mpr z.symm), if_neg (nI_ge hde (by omega))]⟩
  · exact ⟨0, Or.inl rfl, by rw [if_pos (e1.mpr z)], by rw [if_neg (fun y => by have := (dif0 hq hp).mp y; omega), if_pos (e2.mpr (by omega))]⟩
theorem weak_ok (h : RS b si sa v) {sj : Nat → Int32} (e9 : sj 9 = si 9) {r d e : Nat} (hr : r < 10) (hd : d < 10) (hde : e < d) (nd : isN v (980 + 10 * r + d) 10) (ne : isN v (980 + 10 * r + e) 10) : ∃ x : Int32, (x = 0 ∨ x = 1) ∧ F_X5_leavesRather sj sa (nI d) (nI e) (nI r) = some x ∧ F_X8_isWeaker v (nI r) (nI d) (nI e) = some x := by
  obtain ⟨p1, g1, g2, g3⟩ := rep_ok h (nI d)
  obtain ⟨p2, g4, g5, g6⟩ := rep_ok h (nI e)
  obtain ⟨q1, k1, k2, k3⟩ := led_ok h (nI d)
  obtain ⟨q2, k4, k5, k6⟩ := led_ok h (nI e)
  have n1 := nd.2
  have n2 := ne.2
  unfold F_X5_leavesRather F_X8_isWeaker
  rw [show tv_rd 6 (sa 0) 5 = some (v 5) from by rw [← RS_s h (i := 5) (by omega)]; exact rd_n (k := 5) (by omega) (by omega), Option.bind_some, vot_n h.2.2.2.2.2.2 hr hd, Option.bind_some, vot_n h.2.2.2.2.2.2 hr (by omega), Option.bind_some, tallyAt_n, rd1 (by omega), Option.bind_some, tallyAt_n, rd1 (by omega), Option.bind_some, rep_si e9, rep_si e9, led_sj e9, led_sj e9, g2, g3, g5, g6, k2, k3, k5, k6, nd.1, ne.1]
  simp only [Option.bind_some]
  by_cases c1 : tN v (980 + 10 * r + d) = tN v (980 + 10 * r + e)
  · rw [if_pos ((dif0 (by omega) (by omega)).mpr c1), if_pos ((dif0 (by omega) (by omega)).mpr c1.symm)]
    simp only [Option.bind_some]
    by_cases c2 : p1 = p2
    · rw [if_pos ((dif0 (by omega) (by omega)).mpr c2), if_pos ((dif0 (by omega) (by omega)).mpr c2.symm)]
      simp only [Option.bind_some]
      exact dif_fin (by omega) (by omega) hde hd
    · rw [if_neg (fun y => c2 ((dif0 (by omega) (by omega)).mp y)), if_neg (fun y => c2 ((dif0 (by omega) (by omega)).mp y).symm)]
      simp only [Option.bind_some]
      exact dif_fin (by omega) (by omega) hde hd
  · rw [if_neg (fun y => c1 ((dif0 (by omega) (by omega)).mp y)), if_neg (fun y => c1 ((dif0 (by omega) (by omega)).mp y).symm)]
    simp only [Option.bind_some]
    rw [if_neg (fun y => c1 ((dif0 (by omega) (by omega)).mp y)), if_neg (fun y => c1 ((dif0 (by omega) (by omega)).mp y).symm)]
    simp only [Option.bind_some]
    exact dif_fin (by omega) (by omega) hde hd
/-- the search for a winner, and for who leaves -/
theorem find_L (h : RS b si sa v) {sj : Nat → Int32} (e9 : sj 9 = si 9) {A r c : Nat} (hA : A < 1024) (hr : r < 10) (hN : ∀ d, d < 10 → A.testBit d = true → isN v (980 + 10 * r + d) 10) (hc : c ≤ 10) {s : Int32} (hs : s = if sg (bN A) 0 10 = 1 then 1 else 0) : ∀ (k i n : Nat) (y : Int32), i + k = 10 → k < n → ((y = -9 ∧ ∀ d, d < i → A.testBit d = false) ∨ (∃ d, d < i ∧ y = nI d ∧ A.testBit d = true ∧ sg (bN A) 0 10 ≠ 1)) → (∃ d, d < 10 ∧ A.testBit d = true ∧ F_X4_winner_L25 sa (nI r) (nI A) s (nI c) n (nI i) = some (nI d) ∧ F_X8_holdsRound_L101 (nI r) (nI c) n y (nI i) v (nI A) = some (nI d, v, nI A)) ∨ (F_X4_winner_L25 sa (nI r) (nI A) s (nI c) n (nI i) = some (-9) ∧ ∃ z, F_X5_weakest_L6 sj sa (nI r) (nI A) n y (nI i) = some z ∧ F_X8_holdsRound_L101 (nI r) (nI c) n y (nI i) v (nI A) = some ((-9 : Int32), v, nI A &&& (((1 : Int32) <<< (z &&& 31)) ^^^ (-1))) ∧ ((z = -9 ∧ ∀ d, d < 10 → A.testBit d = false) ∨ (∃ d, d < 10 ∧ z = nI d ∧ A.testBit d = true ∧ sg (bN A) 0 10 ≠ 1)))
  | 0, i, n + 1, y, hi, hn, hy => by
    right
    have hi' : i = 10 := by omega
    subst hi'
    rw [F_X4_winner_L25, F_X8_holdsRound_L101, F_X5_weakest_L6, if_pos (show (10 : Int32) ≤ nI 10 from nI_le (a := 10) (by omega) (by omega)), if_pos (show (10 : Int32) ≤ nI 10 from nI_le (a := 10) (by omega) (by omega)), if_pos (show (10 : Int32) ≤ nI 10 from nI_le (a := 10) (by omega) (by omega))]
    exact ⟨rfl, y, rfl, rfl, hy⟩
  | k + 1, i, n + 1, y, hi, hn, hy => by
    rw [F_X4_winner_L25, F_X8_holdsRound_L101, F_X5_weakest_L6, if_neg (lt10 (by omega)), if_neg (lt10 (by omega)), if_neg (lt10 (by omega)), show nI i + 1 = nI (i + 1) from nI_1 i]
    cases hb : A.testBit i with
    | false =>
      rw [hasF hA (by omega) hb, shrF hA (by omega) hb, if_pos h00, if_pos h00, if_neg h01]
      refine find_L h e9 hA hr hN hc hs k (i + 1) n y (by omega) (by omega) ?_
      rcases hy with ⟨y1, y2⟩ | ⟨d, y1, y2, y3, y4⟩
      · refine Or.inl ⟨y1, fun d hd => ?_⟩
        by_cases z : d = i
        · rw [z]; exact hb
        · exact y2 d (by omega)
      · exact Or.inr ⟨d, by omega, y2, y3, y4⟩
    | true =>
      obtain ⟨ed, hd⟩ := hN i (by omega) hb
      rw [hasT hA (by omega) hb, shrT hA (by omega) hb, if_neg h10, if_neg h10, if_pos rfl, vot_n h.2.2.2.2.2.2 hr (by omega), Option.bind_some, tallyAt_n, rd1 (by omega), Option.bind_some, race_ok hA, Option.bind_some, ed, show (2 : Int32) = nI 2 from rfl, pk_mul]
      have hp10 := sg10 A
      by_cases c1 : sg (bN A) 0 10 = 1
      · left
        rw [hs, if_pos c1, if_neg h10, c1, if_pos (show nI 1 = 1 from rfl)]
        refine ⟨i, by omega, hb, rfl, ?_⟩
        split <;> rfl
      · rw [hs, if_neg c1, if_pos h00, if_neg (show ¬ nI (sg (bN A) 0 10) = 1 from fun z => c1 ((nI_eq (b := 1) (by omega) (by omega)).mp z))]
        by_cases c2 : 2 * tN v (980 + 10 * r + i) ≤ c
        · rw [if_pos (nI_le c2 (by omega)), if_neg (nI_nlt c2 (by omega))]
          have hnew : ∀ z : Int32, (z = y ∧ y ≠ -9 ∨ z = nI i) → ((z = -9 ∧ ∀ d, d < i + 1 → A.testBit d = false) ∨ (∃ d, d < i + 1 ∧ z = nI d ∧ A.testBit d = true ∧ sg (bN A) 0 10 ≠ 1)) := fun z hz => by
            right
            rcases hz with ⟨hz, hz9⟩ | hz
            · rcases hy with ⟨y1, _⟩ | ⟨d, y1, y2, y3, y4⟩
              · exact absurd y1 hz9
              · exact ⟨d, by omega, by rw [hz, y2], y3, y4⟩
            · exact ⟨i, by omega, hz, hb, c1⟩
          have go := fun z hz => find_L h e9 hA hr hN hc hs k (i + 1) n z (by omega) (by omega) (hnew z hz)
          rw [hs, if_neg c1] at go
          rcases hy with ⟨y1, y2⟩ | ⟨d, y1, y2, y3, y4⟩
          · rw [if_pos y1, if_pos (show y < 0 from by rw [y1]; decide)]
            exact go _ (Or.inr rfl)
          · have y9 : y ≠ -9 := by rw [y2]; exact nI_ne9 (by omega)
            obtain ⟨x, x0, x1, x2⟩ := weak_ok h e9 hr (d := i) (e := d) (by omega) y1 ⟨ed, hd⟩ (hN d (by omega) y3)
            rw [if_neg y9, if_neg (show ¬ y < 0 from by rw [y2]; exact nI_pos (by omega)), y2, x1, x2, Option.bind_some, Option.bind_some]
            rcases x0 with rfl | rfl
            · rw [if_pos h00, if_pos h00, ← y2]
              exact go _ (Or.inl ⟨rfl, y9⟩)
            · rw [if_neg h10, if_neg h10]
              exact go _ (Or.inr rfl)
        · left
          rw [if_neg (nI_ge (by omega) (by omega)), if_pos (nI_lt (by omega) (by omega))]
          exact ⟨i, by omega, hb, rfl, rfl⟩
  | k, i, 0, y, hi, hn, hy => by omega
end A6
