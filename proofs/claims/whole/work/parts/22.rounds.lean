/-! ===== the rounds, and the end of a vote ===== -/
section A7
variable {b : Nat}
theorem rnd_ok {si : Nat → Int32} {sa : Nat → Nat → Int32} {v : Nat → Int32} (h : RS b si sa v) {r : Nat} (hr : r ≤ 10) : RS b (upd si 8 (nI r)) sa (upd v 13 (nI r)) := by
  have hv : ∀ t, t ≠ 13 → upd v 13 (nI r) t = v t := fun t ht => pk_un ht
  have hsi : ∀ t, t ≠ 8 → upd si 8 (nI r) t = si t := fun t ht => pk_un ht
  refine ⟨Pset_congr h.1 (fun i hi => hv i (by omega)) (fun _ _ => rfl), ?_, ?_, Pmem_congr h.2.2.2.1 (fun i g1 g2 => hv i (by omega)) (hv 10 (by omega)) rfl rfl (hsi 2 (by omega)) (hsi 7 (by omega)) (hsi 3 (by omega)), Pter_congr h.2.2.2.2.1 (hv 9 (by omega)) (RS_T h).2 (fun i z1 z2 => hv i (by omega)) (fun _ _ _ => rfl), Pev_congr h.2.2.2.2.2.1 (fun i z1 z2 => hv i (by omega)) (fun _ _ _ => rfl), Ptal_congr h.2.2.2.2.2.2 (fun i z1 z2 => hv i (by omega)) rfl⟩
  · obtain ⟨a1, a2, a3, a4, a5, a6, a7, a8⟩ := h.2.1
    exact ⟨by rw [hsi 0 (by omega), hv 6 (by omega)]; exact a1, by rw [hsi 4 (by omega), hv 7 (by omega)]; exact a2, by rw [hsi 5 (by omega), hv 8 (by omega)]; exact a3, by rw [hsi 9 (by omega), hv 9 (by omega)]; exact a4, by rw [hsi 1 (by omega), hv 10 (by omega)]; exact a5, by rw [hsi 6 (by omega), hv 11 (by omega)]; exact a6, by rw [hsi 10 (by omega), hv 12 (by omega)]; exact a7, by rw [pk_us, pk_us]⟩
  · obtain ⟨a1, a2, a3, a4, a5, a6, a7⟩ := h.2.2.1
    refine ⟨isN_congr a1 (hv 6 (by omega)), isN_congr a2 (hv 9 (by omega)), isN_congr a3 (hv 10 (by omega)), isN_congr a4 (hv 12 (by omega)), isN_of pk_us hr (by omega), ?_, ?_⟩
    · rw [hv 11 (by omega), tN_congr (hv 9 (by omega))]; exact a6
    · rw [hv 7 (by omega), hv 8 (by omega), tN_congr (hv 8 (by omega)), tN_congr (hv 10 (by omega))]
      exact a7.imp id (fun z => ⟨z.1, isN_congr z.2.1 (hv 8 (by omega)), z.2.2⟩)
theorem only_b {A d : Nat} (hA : A < 1024) (hd : d < 10) : nI A &&& (((1 : Int32) <<< (nI d &&& 31)) ^^^ (-1)) = nI (A &&& (1023 ^^^ 2 ^ d)) := by
  rw [(shl_n d hd).2, ← only_n d hd, clr_n hA hd]
theorem round_ok {si : Nat → Int32} {sa : Nat → Nat → Int32} {v : Nat → Int32} (h : RS b si sa v) {A r : Nat} (hA : A < 1024) (hr : r < 10) (hp : sg (bN A) 0 10 ≠ 0) : ∃ sa' v', F_X4_count si sa (nI r) (nI A) = some (upd si 8 (nI (r + 1)), sa') ∧ RS b si sa' v' ∧ (∀ t, t < 980 ∨ 1080 ≤ t → v' t = v t) ∧ ((∃ d, d < 10 ∧ A.testBit d = true ∧ F_X4_winner sa' (nI r) (nI A) = some (nI d) ∧ F_X8_holdsRound v (nI A) (nI r) = some (nI d, v', nI A)) ∨ (F_X4_winner sa' (nI r) (nI A) = some (-9) ∧ ∃ d, d < 10 ∧ A.testBit d = true ∧ sg (bN A) 0 10 ≠ 1 ∧ F_X5_weakest (upd si 8 (nI (r + 1))) sa' (nI r) (nI A) = some (nI d) ∧ F_X8_holdsRound v (nI A) (nI r) = some ((-9 : Int32), v', nI (A &&& (1023 ^^^ 2 ^ d))))) := by
  have e0 : (0 : Int32) = nI 0 := rfl
  obtain ⟨sa1, v1, p1, p2, p3, p4, p5, p6⟩ := init_L hA hr 10 0 tv_fu sa v (by omega) (by rw [tv_fu_eq]; omega) h.2.2.2.2.2.2
  have h1 : RS b si sa1 v1 := tal_ok h p4 (fun t ht => p5 t (by omega)) p3
  obtain ⟨eM, hM⟩ := RS_M h1
  obtain ⟨sa2, v2, c, q1, q2, q3, q4, q5, q6, q7, q8⟩ := cnt_L hA hr (tN v1 10) 0 tv_fu 0 sa1 v1 h1 (by omega) (by rw [tv_fu_eq]; omega) (fun d g1 g2 => by
    have e := p6 d (by omega) g1
    rw [if_pos g2] at e
    exact isN_of (k := 0) e (by omega) (by omega)) (sg_zero _ 10 0 (fun d _ g1 => by
      unfold tlN
      by_cases g2 : A.testBit d = true
      · have e := p6 d (by omega) (by omega)
        rw [if_pos g2] at e
        rw [if_pos g2]
        exact tN_of (k := 0) e (by omega)
      · rw [if_neg g2])) (by omega)
  rw [nI_0] at p1 p2 q1 q2
  have hall := all_L hA hr q3.2.2.2.2.2.2 q4 10 0 0 tv_fu (by omega) (by rw [tv_fu_eq]; omega)
  rw [nI_0, Nat.zero_add, q5] at hall
  have key := find_L q3 (sj := upd si 8 (nI (r + 1))) (pk_un (by omega)) hA hr q4 q6 rfl 10 0 tv_fu (-9) (by omega) (by rw [tv_fu_eq]; omega) (Or.inl ⟨rfl, fun d hd => by omega⟩)
  rw [nI_0] at key
  have ew : F_X4_winner sa2 (nI r) (nI A) = F_X4_winner_L25 sa2 (nI r) (nI A) (if sg (bN A) 0 10 = 1 then 1 else 0) (nI c) tv_fu 0 := by
    unfold F_X4_winner F_X4_countAll
    have hp10 := sg10 A
    rw [bc_n A hA, hall, Option.bind_some]
    by_cases c1 : sg (bN A) 0 10 = 1
    · rw [c1, if_pos (show nI 1 = 1 from rfl), Option.bind_some, Option.bind_some, if_pos rfl]
    · rw [if_neg (show ¬ nI (sg (bN A) 0 10) = 1 from fun z => c1 ((nI_eq (b := 1) (by omega) (by omega)).mp z)), Option.bind_some, Option.bind_some, if_neg c1]
  have eh : F_X8_holdsRound v (nI A) (nI r) = F_X8_holdsRound_L101 (nI r) (nI c) tv_fu (-9) 0 v2 (nI A) := by
    unfold F_X8_holdsRound
    rw [p2, Option.bind_some, q2, Option.bind_some]
  refine ⟨sa2, v2, ?_, q3, fun t ht => by rw [q8 t ht, p5 t (by omega)], ?_⟩
  · unfold F_X4_count
    rw [m10, p1, Option.bind_some, q1, Option.bind_some, show nI r + 1 = nI (r + 1) from nI_1 r]
  · rw [ew, eh]
    rcases key with ⟨d, k1, k2, k3, k4⟩ | ⟨k1, z, k2, k3, k4⟩
    · exact Or.inl ⟨d, k1, k2, k3, k4⟩
    · right
      refine ⟨k1, ?_⟩
      rcases k4 with ⟨_, k5⟩ | ⟨d, k5, k6, k7, k8⟩
      · exfalso
        apply hp
        exact sg_zero _ 10 0 (fun d _ hd => by
          unfold bN
          rw [k5 d (by omega), if_neg Bool.false_ne_true])
      · subst k6
        refine ⟨d, k5, k7, k8, ?_, ?_⟩
        · unfold F_X5_weakest
          rw [k2, Option.bind_some]
        · rw [k3, only_b hA k5]
theorem rounds_L : ∀ (p r n A : Nat) (si : Nat → Int32) (sa : Nat → Nat → Int32) (v : Nat → Int32), RS b si sa v → v 13 = nI r → A < 1024 → sg (bN A) 0 10 = p + 1 → r + p < 10 → p + 2 < n → ∃ d si' sa' v' ra', d < 10 ∧ A.testBit d = true ∧ F_X5_holdRounds_L10 n (nI A) (nI r) si sa = some (nI d, si', sa') ∧ F_X8_close_L107 1 n (-9) v (nI A) = some (nI d, v', ra') ∧ RS b si' sa' v' ∧ (∀ t, t ≠ 13 → t < 980 ∨ 1080 ≤ t → v' t = v t)
  | p, r, 0, A, si, sa, v, h, h13, hA, hp, hrp, hn => by omega
  | p, r, n + 1, A, si, sa, v, h, h13, hA, hp, hrp, hn => by
    obtain ⟨sa1, v1, k1, k2, k3, k4⟩ := round_ok h hA (r := r) (by omega) (by omega)
    have hnew := rnd_ok k2 (r := r + 1) (by omega)
    have e13 : v1 13 = nI r := by rw [k3 13 (by omega)]; exact h13
    have r13 : ∀ x : Nat → Int32, tv_rd 1100 x 13 = some (x 13) := fun x => rd_n (k := 13) (by omega) (by omega)
    have w13 : ∀ (x : Nat → Int32) (y : Int32), tv_wr 1100 x 13 y = some (upd x 13 y) := fun x y => wr_n (k := 13) (by omega) (by omega)
    have hfr : ∀ t, t ≠ 13 → t < 980 ∨ 1080 ≤ t → upd v1 13 (nI (r + 1)) t = v t := fun t g1 g2 => by rw [pk_un g1, k3 t g2]
    rcases k4 with ⟨d, m1, m2, m3, m4⟩ | ⟨m0, d, m1, m2, m3, m4, m5⟩
    · refine ⟨d, _, sa1, _, nI A, m1, m2, ?_, ?_, hnew, hfr⟩
      · rw [F_X5_holdRounds_L10, if_neg (lt10 (by omega)), k1, Option.bind_some]
        dsimp only
        rw [m3, Option.bind_some, if_neg (nI_ne9 (by omega))]
      · obtain ⟨n, rfl⟩ : ∃ n', n = n' + 1 := ⟨n - 1, by omega⟩
        rw [F_X8_close_L107, if_neg h10, if_neg m9_neg, r13, Option.bind_some, h13, m4, Option.bind_some]
        dsimp only
        rw [r13, Option.bind_some, w13, Option.bind_some, e13, show nI r + 1 = nI (r + 1) from nI_1 r, F_X8_close_L107, if_neg h10, if_pos (nI_ge0 (by omega))]
    · have hpop := clr_pop m1 m2
      have hA' : A &&& (1023 ^^^ 2 ^ d) < 1024 := clr_lt hA
      cases p with
      | zero => omega
      | succ p =>
        obtain ⟨d', si', sa', v', ra', g1, g2, g3, g4, g5, g6⟩ := rounds_L p (r + 1) n (A &&& (1023 ^^^ 2 ^ d)) _ _ _ hnew pk_us hA' (by omega) (by omega) (by omega)
        refine ⟨d', si', sa', v', ra', g1, ?_, ?_, ?_, g5, fun t y1 y2 => by rw [g6 t y1 y2, hfr t y1 y2]⟩
        · rw [clr_bit g1, Bool.and_eq_true] at g2
          exact g2.1
        · rw [F_X5_holdRounds_L10, if_neg (lt10 (by omega)), k1, Option.bind_some]
          dsimp only
          rw [m0, Option.bind_some, if_pos rfl, m4, Option.bind_some, clr_n hA m1, show nI r + 1 = nI (r + 1) from nI_1 r]
          exact g3
        · rw [F_X8_close_L107, if_neg h10, if_neg m9_neg, r13, Option.bind_some, h13, m5, Option.bind_some]
          dsimp only
          rw [r13, Option.bind_some, w13, Option.bind_some, e13, show nI r + 1 = nI (r + 1) from nI_1 r]
          exact g4
theorem mask_eq {W : Nat} {x : Int32} {v : Nat → Int32} {o : Nat} (hW : W < 1024) (hB : Bm x v o) (h : ∀ j, j < 10 → W.testBit j = decide (tN v (o + 15 * j) = 1)) : nI W = x := by
  rw [hB.1]
  congr 1
  refine Nat.eq_of_testBit_eq (fun j => ?_)
  by_cases c : j < 10
  · rw [h j c, hB.2.2 j c]
  · have hj : 2 ^ 10 ≤ 2 ^ j := Nat.pow_le_pow_right (by omega) (by omega)
    have hB2 := hB.2.1
    rw [Nat.testBit_lt_two_pow (by omega), Nat.testBit_lt_two_pow (by omega)]
theorem mask_st {W i : Nat} {x : Int32} (hi : i < 10) (hx : x = 0 ∨ x = 1) (hW : W < 1024) : ∃ W', nI W ||| (x <<< (nI i &&& 31)) = nI W' ∧ W' < 1024 ∧ ∀ j, j < 10 → W'.testBit j = (W.testBit j || (decide (i = j) && decide (x = 1))) := by
  rcases hx with rfl | rfl
  · refine ⟨W, ?_, hW, fun j hj => ?_⟩
    · rw [(shl_n i hi).1, ← nI_0, nI_or, Nat.or_zero]
    · rw [decide_eq_false h01, Bool.and_false, Bool.or_false]
  · refine ⟨W ||| 2 ^ i, ?_, set_lt hW hi, fun j hj => ?_⟩
    · rw [(shl_n i hi).2, nI_or]
    · rw [set_bit hj, decide_eq_true (rfl : (1 : Int32) = 1), Bool.and_true]
theorem cmask_L {si : Nat → Int32} {sa : Nat → Nat → Int32} {v : Nat → Int32} (h : RS b si sa v) (l1 : Int32) : ∀ (k i n W : Nat), i + k = tN v 10 → k < n → W < 1024 → (∀ j, j < 10 → W.testBit j = (decide (j < i) && decide (tN v (22 + 15 * j) = 1))) → F_X8_close_L42 v l1 n (nI i) (nI W) = some (si 7)
  | 0, i, n + 1, W, hi, hn, hW, hb => by
    obtain ⟨eM, hM⟩ := RS_M h
    rw [F_X8_close_L42, show tv_rd 1100 v 10 = some (nI (tN v 10)) from by rw [← eM]; exact rd_n (k := 10) (by omega) (by omega), Option.bind_some, if_pos (nI_le (by omega) (by omega)), mask_eq hW h.2.2.2.1.2.2.1 (fun j hj => ?_)]
    rw [hb j hj]
    by_cases c : j < i
    · rw [decide_eq_true c, Bool.true_and]
    · have p := RS_m h hj
      have := (p.2.2.2.2.2.2.2.1 (by omega)).1
      have := p.2.2.2.2.2.2.1
      rw [decide_eq_false c, Bool.false_and, decide_eq_false (by omega)]
  | k + 1, i, n + 1, W, hi, hn, hW, hb => by
    obtain ⟨eM, hM⟩ := RS_M h
    have p := RS_m h (m := i) (by omega)
    obtain ⟨W', w1, w2, w3⟩ := mask_st (i := i) (by omega) (n1_or p.2.2.2.1) hW
    rw [F_X8_close_L42, show tv_rd 1100 v 10 = some (nI (tN v 10)) from by rw [← eM]; exact rd_n (k := 10) (by omega) (by omega), Option.bind_some, if_neg (nI_ge (by omega) (by omega)), at2, rd1 (by omega), Option.bind_some, w1, show nI i + 1 = nI (i + 1) from nI_1 i]
    refine cmask_L h l1 k (i + 1) n W' (by omega) (by omega) w2 (fun j hj => ?_)
    rw [w3 j hj, hb j hj]
    by_cases c : j = i
    · subst c
      rw [decide_eq_false (show ¬ j < j by omega), decide_eq_true (show j < j + 1 by omega), decide_eq_true (rfl : j = j), Bool.false_and, Bool.false_or, Bool.true_and, Bool.true_and]
      exact decide_eq_decide.mpr (n1_iff p.2.2.2.1)
    · rw [decide_eq_false (show ¬ i = j from fun z => c z.symm), Bool.false_and, Bool.or_false, decide_eq_decide.mpr (show j < i ↔ j < i + 1 by omega)]
  | k, i, 0, W, hi, hn, hW, hb => by omega
/-! the vote is put away -/
theorem away_L (l1 : Int32) : ∀ (k i n : Nat) (w : Nat → Int32), i + k = 10 → k < n → ∃ w', F_X8_close_L151 l1 n (nI i) w = some w' ∧ (∀ t, (∀ j, i ≤ j → j < 10 → t ≠ 22 + 15 * j ∧ t ≠ 24 + 15 * j) → w' t = w t) ∧ (∀ j, i ≤ j → j < 10 → w' (22 + 15 * j) = 0 ∧ w' (24 + 15 * j) = 0)
  | 0, i, n + 1, w, hi, hn => by
    refine ⟨w, ?_, fun _ _ => rfl, fun j g1 g2 => by omega⟩
    rw [F_X8_close_L151, if_pos (show (10 : Int32) ≤ nI i from nI_le (a := 10) (by omega) (by omega))]
  | k + 1, i, n + 1, w, hi, hn => by
    obtain ⟨w', r1, r2, r3⟩ := away_L l1 k (i + 1) n (upd (upd w (22 + 15 * i) 0) (24 + 15 * i) 0) (by omega) (by omega)
    refine ⟨w', ?_, fun t ht => ?_, fun j g1 g2 => ?_⟩
    · rw [F_X8_close_L151, if_neg (lt10 (by omega)), at2, wr_n (by omega) (by omega), Option.bind_some, at4, wr_n (by omega) (by omega), Option.bind_some, show nI i + 1 = nI (i + 1) from nI_1 i]
      exact r1
    · have := ht i (by omega) (by omega)
      rw [r2 t (fun j y1 y2 => ht j (by omega) y2), pk_un this.2, pk_un this.1]
    · by_cases z : j = i
      · subst z
        rw [r2 _ (fun j y1 y2 => ⟨by omega, by omega⟩), r2 _ (fun j y1 y2 => ⟨by omega, by omega⟩), pk_un (by omega), pk_us, pk_us]
        exact ⟨rfl, rfl⟩
      · exact r3 j (by omega) g2
  | k, i, 0, w, hi, hn => by omega
theorem away_ok {si : Nat → Int32} {sa : Nat → Nat → Int32} {v : Nat → Int32} (h : RS b si sa v) (l1 : Int32) : ∃ w', F_X8_close_L151 l1 tv_fu 0 (upd v 11 0) = some w' ∧ RS b (upd (upd si 6 0) 7 0) (va_up sa 2 (tv_fill 100 (-9) (sa 2))) w' ∧ w' 11 = 0 ∧ (∀ t, t ≠ 11 → (t < 20 ∨ 170 ≤ t) → w' t = v t) ∧ (∀ j, j < 10 → w' (21 + 15 * j) = v (21 + 15 * j)) := by
  obtain ⟨w, r1, r2, r3⟩ := away_L l1 10 0 tv_fu (upd v 11 0) (by omega) (by rw [tv_fu_eq]; omega)
  rw [nI_0] at r1
  have hv : ∀ t, t ≠ 11 → (t < 20 ∨ 170 ≤ t) → w t = v t := fun t g1 g2 => by rw [r2 t (fun j y1 y2 => ⟨by omega, by omega⟩), pk_un g1]
  have hk : ∀ j q, j < 10 → (q ≠ 22 ∧ q ≠ 24 ∧ 20 ≤ q ∧ q < 35) → w (q + 15 * j) = v (q + 15 * j) := fun j q g1 g2 => by rw [r2 _ (fun j' y1 y2 => ⟨by omega, by omega⟩), pk_un (by omega)]
  have e11 : w 11 = 0 := by rw [r2 _ (fun j y1 y2 => ⟨by omega, by omega⟩), pk_us]
  have hsi : ∀ t, t ≠ 6 → t ≠ 7 → upd (upd si 6 0) 7 0 t = si t := fun t g1 g2 => by rw [pk_un g2, pk_un g1]
  have hsa : ∀ t, t ≠ 2 → va_up sa 2 (tv_fill 100 (-9) (sa 2)) t = sa t := fun t g => up_n g
  refine ⟨w, r1, ⟨Pset_congr h.1 (fun i hi => hv i (by omega) (by omega)) (fun i hi => by rw [hsa 0 (by omega)]), ?_, ?_, ⟨fun m hm => ?_, Bm_congr h.2.2.2.1.2.1 (hsi 2 (by omega) (by omega)) (fun m hm => hk m 21 hm (by omega)), ?_, Bm_congr h.2.2.2.1.2.2.2 (hsi 3 (by omega) (by omega)) (fun m hm => hk m 23 hm (by omega))⟩, Pter_congr h.2.2.2.2.1 (hv 9 (by omega) (by omega)) (RS_T h).2 (fun i z1 z2 => hv i (by omega) (by omega)) (fun j z1 z2 => hsa j (by omega)), Pev_congr h.2.2.2.2.2.1 (fun i z1 z2 => hv i (by omega) (by omega)) (fun j z1 z2 => hsa j (by omega)), Ptal_congr h.2.2.2.2.2.2 (fun i z1 z2 => hv i (by omega) (by omega)) (hsa 3 (by omega))⟩, e11, hv, fun j hj => hk j 21 hj (by omega)⟩
  · obtain ⟨a1, a2, a3, a4, a5, a6, a7, a8⟩ := h.2.1
    exact ⟨by rw [hsi 0 (by omega) (by omega), hv 6 (by omega) (by omega)]; exact a1, by rw [hsi 4 (by omega) (by omega), hv 7 (by omega) (by omega)]; exact a2, by rw [hsi 5 (by omega) (by omega), hv 8 (by omega) (by omega)]; exact a3, by rw [hsi 9 (by omega) (by omega), hv 9 (by omega) (by omega)]; exact a4, by rw [hsi 1 (by omega) (by omega), hv 10 (by omega) (by omega)]; exact a5, by rw [pk_un (by omega), pk_us, e11], by rw [hsi 10 (by omega) (by omega), hv 12 (by omega) (by omega)]; exact a7, by rw [hsi 8 (by omega) (by omega), hv 13 (by omega) (by omega)]; exact a8⟩
  · obtain ⟨a1, a2, a3, a4, a5, a6, a7⟩ := h.2.2.1
    refine ⟨isN_congr a1 (hv 6 (by omega) (by omega)), isN_congr a2 (hv 9 (by omega) (by omega)), isN_congr a3 (hv 10 (by omega) (by omega)), isN_congr a4 (hv 12 (by omega) (by omega)), isN_congr a5 (hv 13 (by omega) (by omega)), Or.inl e11, ?_⟩
    rw [hv 7 (by omega) (by omega), hv 8 (by omega) (by omega), tN_congr (hv 8 (by omega) (by omega)), tN_congr (hv 10 (by omega) (by omega))]
    exact a7.imp id (fun z => ⟨z.1, isN_congr z.2.1 (hv 8 (by omega) (by omega)), z.2.2⟩)
  · obtain ⟨h1, h2, h3, h4, h5, h6, h7, h8, h9, h11⟩ := RS_m h hm
    have e22 := (r3 m (by omega) hm).1
    have e24 := (r3 m (by omega) hm).2
    have t22 : tN w (22 + 15 * m) = 0 := tN_of (k := 0) e22 (by omega)
    have t24 : tN w (24 + 15 * m) = 0 := tN_of (k := 0) e24 (by omega)
    refine ⟨by rw [hsa 1 (by omega), hk m 20 hm (by omega)]; exact h1, isN_congr h2 (hk m 20 hm (by omega)), isN_congr h3 (hk m 21 hm (by omega)), isN_of (k := 0) e22 (by omega) (by omega), isN_congr h5 (hk m 23 hm (by omega)), isN_of (k := 0) e24 (by omega) (by omega), by omega, fun y => ?_, fun k hk' => ?_, fun k hk' => by omega⟩
    · rw [tN_congr (hv 10 (by omega) (by omega))] at y
      rw [tN_congr (hk m 21 hm (by omega)), tN_congr (hk m 23 hm (by omega))]
      exact ⟨(h8 y).1, (h8 y).2.1, t24⟩
    · rw [t24, if_neg (by omega), up_s]
      exact if_pos (by omega)
  · rw [pk_us]
    exact Bm_zero (fun m hm => (r3 m (by omega) hm).1)
end A7
