/-! ===== the acts: cast ===== -/
section A5
variable {b : Nat} {si : Nat → Int32} {sa : Nat → Nat → Int32} {v : Nat → Int32} {hs : Nat → (Nat → Int32) × (Nat → Nat → Int32)} {hc hn : Int32} {pa : Nat → Int32} {pm : Int32}
theorem clr_pop {n k : Nat} (hk : k < 10) (hb : n.testBit k = true) : sg (bN n) 0 10 = sg (bN (n &&& (1023 ^^^ 2 ^ k))) 0 10 + 1 := by
  have e2 : sg (bN n) 0 10 = sg (fun j => if j < 10 then bN (n &&& (1023 ^^^ 2 ^ k)) j else bN n j) 0 10 + 1 := by
    refine sg_point (k := k) ?_ (fun j hj => ?_) 10 0 (by omega) (by omega)
    · rw [if_pos hk]
      unfold bN
      rw [clr_bit hk, hb]
      simp
    · by_cases c : j < 10
      · rw [if_pos c]
        unfold bN
        rw [clr_bit c]
        have : decide (k = j) = false := decide_eq_false (fun z => hj z.symm)
        rw [this, Bool.not_false, Bool.and_true]
      · rw [if_neg c]
  rw [e2]
  congr 1
theorem par_n : ∀ i, i < 41 → nI i - nI i / 2 * 2 = nI (i % 2) := by decide +kernel
theorem half_n : ∀ i, i < 41 → (nI i + 1) / 2 = nI ((i + 1) / 2) := by decide +kernel
theorem wrong_L (h : RS b si sa v) {tx mt : Nat → Int32} {L : Nat} (hL : L ≤ 40) (ht : ∀ i, i < L → tx i = mt i ∧ 32 ≤ (tx i).toInt ∧ (tx i).toInt ≤ 126) : ∀ (k i n A S : Nat), i + k = L → k < n → A < 1024 → S < 1024 → (∀ d, d < 10 → A.testBit d = (decide (tN v (22 + 15 * d) = 1) && !S.testBit d)) → sg (bN A) 0 10 + (i + 1) / 2 ≤ 10 → (∃ j, j ≤ 40 ∧ F_X0_errorPlace_L4 tx (nI L) n (nI A) (nI i) = some (nI j) ∧ F_X8_wrongAt_L4 v mt (nI L) n (nI S) (nI i) = some (nI j)) ∨ (F_X0_errorPlace_L4 tx (nI L) n (nI A) (nI i) = some (-9) ∧ F_X8_wrongAt_L4 v mt (nI L) n (nI S) (nI i) = some (-1) ∧ L % 2 = 1 ∧ (L + 1) / 2 ≤ 10 ∧ ∀ t, i ≤ t → t < L → t % 2 = 0 → ∃ d, d < 10 ∧ mt t - 48 = nI d)
  | 0, i, n + 1, A, S, hi, hn, hA, hS, hb, hp => by
    rw [F_X0_errorPlace_L4, F_X8_wrongAt_L4, if_pos (show nI L ≤ nI i from nI_le (by omega) (by omega)), if_pos (show nI L ≤ nI i from nI_le (by omega) (by omega)), par_n L (by omega)]
    rcases (show L % 2 = 0 ∨ L % 2 = 1 by omega) with e | e
    · rw [e, if_neg (show ¬ nI 0 = 1 from by decide), if_neg (show ¬ nI 0 = 1 from by decide)]
      exact Or.inl ⟨L, hL, rfl, rfl⟩
    · rw [e, if_pos (show nI 1 = 1 from rfl), if_pos (show nI 1 = 1 from rfl)]
      exact Or.inr ⟨rfl, rfl, rfl, by have : i = L := by omega
                                      subst this; omega, fun t g1 g2 => by omega⟩
  | k + 1, i, n + 1, A, S, hi, hn, hA, hS, hb, hp => by
    have here : ∃ j, j ≤ 40 ∧ (some (nI i) : Option Int32) = some (nI j) ∧ (some (nI i) : Option Int32) = some (nI j) := ⟨i, by omega, rfl, rfl⟩
    obtain ⟨et, t1, t2⟩ := ht i (by omega)
    rw [F_X0_errorPlace_L4, F_X8_wrongAt_L4, if_neg (show ¬ nI L ≤ nI i from nI_ge (by omega) (by omega)), if_neg (show ¬ nI L ≤ nI i from nI_ge (by omega) (by omega)), par_n i (by omega), rd_n (by omega) (by omega), Option.bind_some, rd_n (by omega) (by omega), Option.bind_some, Option.bind_some, Option.bind_some, et, show nI i + 1 = nI (i + 1) from nI_1 i]
    rcases (show i % 2 = 0 ∨ i % 2 = 1 by omega) with e | e
    · rw [e, if_neg (show ¬ nI 0 = 1 from by decide), if_neg (show ¬ nI 0 = 1 from by decide), if_pos (show nI 0 = 0 from rfl)]
      rcases mem_ok h (mt i - 48) with ⟨m, hm0, hm, ed, q1, q2⟩ | ⟨q1, q2⟩
      · rw [q2, Option.bind_some, if_neg h10, ed, at2, rd1 (by omega), Option.bind_some, if_neg (nI_pos (by omega)), if_neg (show ¬ (9 : Int32) < nI m from nI_nlt (a := 9) (by omega) (by omega)), has_n (by omega) hm, shr_n (by omega) hm]
        have hp2 := (RS_m h hm).2.2.2.1
        have hbm := hb m hm
        rcases n1_or hp2 with z | z
        · have z0 := (n1_iff0 hp2).mp z
          rw [z0] at hbm
          rw [if_pos z, hbm]
          left
          exact here
        · have z1 := (n1_iff hp2).mp z
          rw [z1] at hbm
          rw [if_neg (show ¬ v (22 + 15 * m) = 0 from by rw [z]; decide)]
          by_cases s : S.testBit m = true
          · rw [s] at hbm
            rw [s, hbm]
            left
            exact here
          · rw [Bool.not_eq_true] at s
            rw [s] at hbm
            have hA2 : A.testBit m = true := by rw [hbm]; rfl
            rw [s, hA2, if_pos rfl, if_neg h10, if_neg (by decide : ¬ (false = true)), if_neg (show ¬ (0 : Int32) = 1 by decide), clr_n hA hm, (shl_n m hm).2, nI_or]
            have hpop := clr_pop hm hA2
            rcases wrong_L h hL ht k (i + 1) n (A &&& (1023 ^^^ 2 ^ m)) (S ||| 2 ^ m) (by omega) (by omega) (clr_lt hA) (set_lt hS hm) (fun d hd => by
              rw [clr_bit hd, set_bit hd, hb d hd]
              cases decide (tN v (22 + 15 * d) = 1) <;> cases S.testBit d <;> cases decide (m = d) <;> rfl) (by omega) with ⟨j, g1, g2, g3⟩ | ⟨g2, g3, g4, g5, g6⟩
            · exact Or.inl ⟨j, g1, g2, g3⟩
            · refine Or.inr ⟨g2, g3, g4, g5, fun t y1 y2 y3 => ?_⟩
              by_cases z : t = i
              · subst z; exact ⟨m, hm, ed⟩
              · exact g6 t (by omega) y2 y3
      · rw [q2, Option.bind_some, if_pos h00]
        left
        by_cases c1 : mt i - 48 < 0
        · rw [if_pos c1]; exact here
        · rw [if_neg c1]
          by_cases c2 : (9 : Int32) < mt i - 48
          · rw [if_pos c2]; exact here
          · rw [if_neg c2]
            rcases small (mt i - 48) 10 (by omega) (by omega) with ⟨d, hd, ed, _⟩ | ⟨z1, z2⟩
            · rw [ed, has_n (by omega) hd, hb d hd]
              have : tN v (22 + 15 * d) = 0 := by
                have p := RS_m h hd
                by_cases y : tN v 10 ≤ d
                · have := (p.2.2.2.2.2.2.2.1 y).1
                  have := p.2.2.2.2.2.2.1
                  omega
                · exfalso
                  unfold F_X5_isMember at q1
                  have e1 : si 1 = nI (tN v 10) := by rw [← (RS_M h).1]; exact h.2.1.2.2.2.2.1
                  have hM := (RS_M h).2
                  rw [if_neg c1, e1, ed, if_neg (nI_ge (by omega) (by omega))] at q1
                  exact h10 q1
              rw [this]
              exact here
            · exfalso
              rcases z2 with z2 | ⟨_, z2⟩
              · exact c1 z2
              · apply z2
                rw [toI_lt, nI_toInt (by omega)]
                rw [toI_lt, show ((9 : Int32)).toInt = 9 from by decide] at c2
                omega
    · rw [e, if_pos (show nI 1 = 1 from rfl), if_pos (show nI 1 = 1 from rfl)]
      by_cases c : mt i = 62
      · rw [if_pos c, if_pos c, if_neg (show ¬ nI 1 = 0 from by decide)]
        rcases wrong_L h hL ht k (i + 1) n A S (by omega) (by omega) hA hS hb (by omega) with ⟨j, g1, g2, g3⟩ | ⟨g2, g3, g4, g5, g6⟩
        · exact Or.inl ⟨j, g1, g2, g3⟩
        · refine Or.inr ⟨g2, g3, g4, g5, fun t y1 y2 y3 => ?_⟩
          exact g6 t (by omega) y2 y3
      · rw [if_neg c, if_neg c]
        left
        exact here
  | k, i, 0, A, S, hi, hn, hA, hS, hb, hp => by omega
theorem take_L {tx : Nat → Int32} {L m : Nat} (hL : L ≤ 40) (hm : m < 10) : ∀ (k i n : Nat) (sa : Nat → Nat → Int32), i + k = 10 → k < n → ∃ sa', F_X2_take_L2 tx (nI L) (nI m) n (nI i) sa = some sa' ∧ (∀ t, t ≠ 2 → sa' t = sa t) ∧ (∀ t, t < 10 * m + i ∨ 10 * m + 10 ≤ t → sa' 2 t = sa 2 t) ∧ (∀ t, i ≤ t → t < 10 → sa' 2 (10 * m + t) = if L ≤ 2 * t then -9 else tx (2 * t) - 48)
  | 0, i, n + 1, sa, hi, hn => by
    refine ⟨sa, ?_, fun _ _ => rfl, fun _ _ => rfl, fun t g1 g2 => by omega⟩
    rw [F_X2_take_L2, if_pos (show (10 : Int32) ≤ nI i from nI_le (a := 10) (by omega) (by omega))]
  | k + 1, i, n + 1, sa, hi, hn => by
    have e : F_X0_choice tx (nI L) (nI i) = some (if L ≤ 2 * i then -9 else tx (2 * i) - 48) := by
      unfold F_X0_choice
      rw [show (2 : Int32) = nI 2 from rfl, pk_mul]
      by_cases c : L ≤ 2 * i
      · rw [if_pos c, if_pos (nI_le c (by omega))]
      · rw [if_neg c, if_neg (nI_ge (by omega) (by omega)), rd_n (by omega) (by omega), Option.bind_some]
    obtain ⟨sa', r1, r2, r3, r4⟩ := take_L (tx := tx) hL hm k (i + 1) n (va_up sa 2 (upd (sa 2) (10 * m + i) (if L ≤ 2 * i then -9 else tx (2 * i) - 48))) (by omega) (by omega)
    refine ⟨sa', ?_, fun t ht => by rw [r2 t ht, up_n ht], fun t ht => by rw [r3 t (by omega), up_s, pk_un (by omega)], fun t g1 g2 => ?_⟩
    · rw [F_X2_take_L2, if_neg (lt10 (by omega)), e, Option.bind_some, m10, nI_add, wr_n (by omega) (by omega), Option.bind_some, show nI i + 1 = nI (i + 1) from nI_1 i]
      exact r1
    · by_cases z : t = i
      · subst z
        rw [r3 _ (by omega), up_s, pk_us]
      · exact r4 t (by omega) g2
  | k, i, 0, sa, hi, hn => by omega
theorem put_L {mt : Nat → Int32} {K m : Nat} (hK : K ≤ 10) (hm : m < 10) : ∀ (k i n : Nat) (v : Nat → Int32), i + k = K → k < n → v (24 + 15 * m) = nI K → ∃ v', F_X8_cast_L69 mt (nI m) n (nI i) v = some v' ∧ (∀ t, t < 25 + 15 * m + i ∨ 35 + 15 * m ≤ t → v' t = v t) ∧ (∀ t, i ≤ t → t < K → v' (25 + 15 * m + t) = mt (2 * t) - 48)
  | 0, i, n + 1, v, hi, hn, h => by
    refine ⟨v, ?_, fun _ _ => rfl, fun t g1 g2 => by omega⟩
    rw [F_X8_cast_L69, at4, rd1 (by omega), Option.bind_some, h, if_pos (show nI K ≤ nI i from nI_le (by omega) (by omega))]
  | k + 1, i, n + 1, v, hi, hn, h => by
    obtain ⟨v', r1, r2, r3⟩ := put_L (mt := mt) hK hm k (i + 1) n (upd v (25 + 15 * m + i) (mt (2 * i) - 48)) (by omega) (by omega) (by rw [pk_un (by omega)]; exact h)
    refine ⟨v', ?_, fun t ht => by rw [r2 t (by omega), pk_un (by omega)], fun t g1 g2 => ?_⟩
    · rw [F_X8_cast_L69, at4, rd1 (by omega), Option.bind_some, h, if_neg (show ¬ nI K ≤ nI i from nI_ge (by omega) (by omega)), show (2 : Int32) = nI 2 from rfl, pk_mul, rd_n (by omega) (by omega), Option.bind_some, at5k, wr_n (by omega) (by omega), Option.bind_some, show nI i + 1 = nI (i + 1) from nI_1 i]
      exact r1
    · by_cases z : t = i
      · subst z
        rw [r2 _ (by omega), pk_us]
      · exact r3 t (by omega) g2
  | k, i, 0, v, hi, hn, h => by omega
/-! ballots are counted -/
def balN (v : Nat → Int32) (m : Nat) : Nat := if tN v (24 + 15 * m) = 0 then 0 else 1
theorem bal_c (h : RS b si sa v) : ∀ (k i acc n : Nat), i + k = 10 → k < n → F_X2_countBallots_L4 sa n (nI acc) (nI i) = some (nI (acc + sg (balN v) i k))
  | 0, i, acc, n + 1, hi, hn => by
    rw [F_X2_countBallots_L4, if_pos (show (10 : Int32) ≤ nI i from nI_le (a := 10) (by omega) (by omega))]
    rfl
  | k + 1, i, acc, n + 1, hi, hn => by
    have p := RS_m h (m := i) (by omega)
    have e : F_X2_choice sa (nI i) 0 = some (if 0 < tN v (24 + 15 * i) then v (25 + 15 * i) else -9) := by
      unfold F_X2_choice
      have e9 := p.2.2.2.2.2.2.2.2.1 0 (by omega)
      rw [m10, show nI (10 * i) + 0 = nI (10 * i) from Int32.add_zero _, rd_n (by omega) (by omega), Option.bind_some]
      rw [Nat.add_zero, Nat.add_zero] at e9
      rw [e9]
    rw [F_X2_countBallots_L4, if_neg (lt10 (by omega)), e, Option.bind_some, show nI i + 1 = nI (i + 1) from nI_1 i, show nI acc + 1 = nI (acc + 1) from nI_1 acc, sg]
    by_cases c : tN v (24 + 15 * i) = 0
    · rw [if_neg (show ¬ 0 < tN v (24 + 15 * i) by omega), if_pos rfl, bal_c h k (i + 1) acc n (by omega) (by omega), show balN v i = 0 from if_pos c, Nat.zero_add]
    · have q := p.2.2.2.2.2.2.2.2.2 0 (by omega)
      rw [Nat.add_zero] at q
      have q2 := q.2
      rw [if_pos (show 0 < tN v (24 + 15 * i) by omega), if_neg (by rw [q.1]; exact nI_ne9 (by omega)), bal_c h k (i + 1) (acc + 1) n (by omega) (by omega), show balN v i = 1 from if_neg c, Nat.add_assoc]
  | k, i, acc, 0, hi, hn => by omega
theorem bal_m (h : RS b si sa v) : ∀ (k i acc n : Nat), i + k = tN v 10 → k < n → F_X8_ballots_L4 v n (nI acc) (nI i) = some (nI (acc + sg (balN v) i k))
  | 0, i, acc, n + 1, hi, hn => by
    obtain ⟨eM, hM⟩ := RS_M h
    rw [F_X8_ballots_L4, show tv_rd 1100 v 10 = some (nI (tN v 10)) from by rw [← eM]; exact rd_n (k := 10) (by omega) (by omega), Option.bind_some, if_pos (show nI (tN v 10) ≤ nI i from nI_le (by omega) (by omega))]
    rfl
  | k + 1, i, acc, n + 1, hi, hn => by
    obtain ⟨eM, hM⟩ := RS_M h
    have p := RS_m h (m := i) (by omega)
    have q := p.2.2.2.2.2.1
    have q2 := q.2
    rw [F_X8_ballots_L4, show tv_rd 1100 v 10 = some (nI (tN v 10)) from by rw [← eM]; exact rd_n (k := 10) (by omega) (by omega), Option.bind_some, if_neg (show ¬ nI (tN v 10) ≤ nI i from nI_ge (by omega) (by omega)), at4, rd1 (by omega), Option.bind_some, show nI i + 1 = nI (i + 1) from nI_1 i, show nI acc + 1 = nI (acc + 1) from nI_1 acc, show nI acc + 0 = nI acc from Int32.add_zero _, sg]
    by_cases c : tN v (24 + 15 * i) = 0
    · rw [if_pos (by rw [q.1, c]; decide), bal_m h k (i + 1) acc n (by omega) (by omega), show balN v i = 0 from if_pos c, Nat.zero_add]
    · rw [if_neg (show ¬ v (24 + 15 * i) ≤ 0 from by rw [q.1]; exact nI_ge (a := 0) (by omega) (by omega)), bal_m h k (i + 1) (acc + 1) n (by omega) (by omega), show balN v i = 1 from if_neg c, Nat.add_assoc]
  | k, i, acc, 0, hi, hn => by omega
theorem balls_c (h : RS b si sa v) : F_X2_countBallots sa = some (nI (sg (balN v) 0 10)) := by
  have e := bal_c h 10 0 0 tv_fu (by omega) (by rw [tv_fu_eq]; omega)
  rw [nI_0, Nat.zero_add] at e
  unfold F_X2_countBallots
  rw [e, Option.bind_some]
theorem balls_m (h : RS b si sa v) : F_X8_ballots v = some (nI (sg (balN v) 0 10)) := by
  obtain ⟨eM, hM⟩ := RS_M h
  have e := bal_m h (tN v 10) 0 0 tv_fu (by omega) (by rw [tv_fu_eq]; omega)
  rw [nI_0, Nat.zero_add] at e
  unfold F_X8_ballots
  rw [e, Option.bind_some, sg_cut (f := balN v) hM (fun j h1 h2 => if_pos ((RS_m h h2).2.2.2.2.2.2.2.1 h1).2.2)]
/-- one ballot changes -/
theorem row_ok (h : RO b si sa v) {m : Nat} (hm : m < 10) {sb : Nat → Nat → Int32} {w : Nat → Int32} (ha : ∀ t, t ≠ 2 → sb t = sa t) (ha2 : ∀ t, t < 10 * m ∨ 10 * m + 10 ≤ t → sb 2 t = sa 2 t) (hv : ∀ t, t < 24 + 15 * m ∨ 35 + 15 * m ≤ t → w t = v t) (hnew : Pm1 sb w m) : RO b si sb w := by
  obtain ⟨h, ho⟩ := h
  have hT := (RS_T h).2
  refine ⟨⟨Pset_congr h.1 (fun i hi => hv i (by omega)) (fun i hi => by rw [ha 0 (by omega)]), ?_, ?_, ⟨fun t ht => ?_, Bm_congr h.2.2.2.1.2.1 rfl (fun t ht => hv _ (by omega)), Bm_congr h.2.2.2.1.2.2.1 rfl (fun t ht => hv _ (by omega)), Bm_congr h.2.2.2.1.2.2.2 rfl (fun t ht => hv _ (by omega))⟩, Pter_congr h.2.2.2.2.1 (hv 9 (by omega)) hT (fun i z1 z2 => hv i (by omega)) (fun j z1 z2 => ha j (by omega)), Pev_congr h.2.2.2.2.2.1 (fun i z1 z2 => hv i (by omega)) (fun j z1 z2 => ha j (by omega)), Ptal_congr h.2.2.2.2.2.2 (fun i z1 z2 => hv i (by omega)) (ha 3 (by omega))⟩, off_congr ho (hv 7 (by omega)) (hv 8 (by omega)) (hv 9 (by omega)) (fun _ => hv _ (by omega)) (fun z => hv _ (by have := hold_le h (Or.inl z); have := this.1.2; omega))⟩
  · obtain ⟨a1, a2, a3, a4, a5, a6, a7, a8⟩ := h.2.1
    refine ⟨?_, ?_, ?_, ?_, ?_, ?_, ?_, ?_⟩ <;> rw [hv _ (by omega)] <;> assumption
  · obtain ⟨a1, a2, a3, a4, a5, a6, a7⟩ := h.2.2.1
    refine ⟨isN_congr a1 (hv 6 (by omega)), isN_congr a2 (hv 9 (by omega)), isN_congr a3 (hv 10 (by omega)), isN_congr a4 (hv 12 (by omega)), isN_congr a5 (hv 13 (by omega)), ?_, ?_⟩
    · rw [hv 11 (by omega), tN_congr (hv 9 (by omega))]; exact a6
    · rw [hv 7 (by omega), hv 8 (by omega), tN_congr (hv 8 (by omega)), tN_congr (hv 10 (by omega))]
      exact a7.imp id (fun z => ⟨z.1, isN_congr z.2.1 (hv 8 (by omega)), z.2.2⟩)
  · by_cases z : t = m
    · rw [z]; exact hnew
    · exact Pm1_congr (RS_m h ht) (fun i g1 g2 => hv i (by omega)) (hv 10 (by omega)) (by rw [ha 1 (by omega)]) (fun k hk => ha2 _ (by omega))
theorem cast_ok (h : RO b si sa v) (hh : RH b hs hc hn pa pm) {tx mt : Nat → Int32} {tl ty : Int32} (ht : RT tx tl mt ty) (a1 : Int32) : ∃ r sa' hs' tl' hc' hn' v' pa' pm' ty', F_X7_cast si sa hs tx tl hc hn a1 = some (r, sa', hs', tl', hc', hn') ∧ F_X8_cast v pa mt pm ty a1 = some (r, v', pa', pm', ty') ∧ RO b si sa' v' ∧ RH b hs' hc' hn' pa' pm' ∧ RT tx tl' mt ty' := by
  unfold F_X7_cast F_X8_cast
  have same : ∀ r : Int32, ∃ r' sa' hs' tl' hc' hn' v' pa' pm' ty', some (r, sa, hs, tl, hc, hn) = some (r', sa', hs', tl', hc', hn') ∧ some (r, v, pa, pm, ty) = some (r', v', pa', pm', ty') ∧ RO b si sa' v' ∧ RH b hs' hc' hn' pa' pm' ∧ RT tx tl' mt ty' := fun r => ⟨_, _, _, _, _, _, _, _, _, _, rfl, rfl, h, hh, ht⟩
  rcases mem_ok h.1 a1 with ⟨m, hm0, hm, rfl, q1, q2⟩ | ⟨q1, q2⟩
  · have p := RS_m h.1 hm
    rw [q1, q2, Option.bind_some, if_neg h10, if_neg h10, show si 6 = v 11 from h.1.2.1.2.2.2.2.2.1, show tv_rd 1100 v 11 = some (v 11) from rd_n (k := 11) (by omega) (by omega), Option.bind_some, isPres_c h.1 hm, isPres_m h.1 hm, Option.bind_some, Option.bind_some]
    by_cases c1 : v 11 = 0
    · rw [if_pos c1, if_pos c1]
      exact same _
    · rw [if_neg c1, if_neg c1]
      by_cases c2 : v (21 + 15 * m) = 0
      · rw [if_pos c2, if_pos c2]
        exact same _
      · rw [if_neg c2, if_neg c2]
        obtain ⟨L, hL, rfl, rfl, hL2⟩ := id ht
        have hB := h.1.2.2.2.1.2.2.1
        unfold F_X0_errorPlace F_X8_wrongAt
        have key := wrong_L h.1 hL hL2 L 0 tv_fu (si 7).toNatClampNeg 0 (by omega) (by rw [tv_fu_eq]; omega) hB.2.1 (by omega) (fun d hd => by rw [hB.2.2 d hd, Nat.zero_testBit, Bool.not_false, Bool.and_true]) (by have := sg10 (si 7).toNatClampNeg; omega)
        rw [nI_0, ← hB.1] at key
        rcases key with ⟨j, hj, g2, g3⟩ | ⟨g2, g3, g4, g5, g6⟩
        · rw [g2, g3, Option.bind_some, Option.bind_some, if_neg (nI_ne9 (by omega)), if_neg (nI_pos (by omega))]
          exact same _
        · obtain ⟨hs', hc', hn', pa', pm', k1, k2, k3⟩ := hist_ok h hh
          obtain ⟨sa', s1, s2, s3, s4⟩ := take_L (tx := tx) hL hm 10 0 tv_fu sa (by omega) (by rw [tv_fu_eq]; omega)
          obtain ⟨v', w1, w2, w3⟩ := put_L (mt := mt) g5 hm ((L + 1) / 2) 0 tv_fu (upd v (24 + 15 * m) (nI ((L + 1) / 2))) (by omega) (by rw [tv_fu_eq]; omega) pk_us
          rw [nI_0] at s1 w1
          have hv : ∀ t, t < 24 + 15 * m ∨ 35 + 15 * m ≤ t → v' t = v t := fun t ht => by rw [w2 t (by omega), pk_un (by omega)]
          have e24 : v' (24 + 15 * m) = nI ((L + 1) / 2) := by rw [w2 _ (by omega), pk_us]
          have t24 := tN_of e24 (by omega)
          have hnew : RO b si sa' v' := row_ok h hm s2 (fun t ht => s3 t (by omega)) hv ⟨by rw [s2 1 (by omega), hv _ (by omega)]; exact p.1, isN_congr p.2.1 (hv _ (by omega)), isN_congr p.2.2.1 (hv _ (by omega)), isN_congr p.2.2.2.1 (hv _ (by omega)), isN_congr p.2.2.2.2.1 (hv _ (by omega)), isN_of e24 g5 (by omega), by rw [tN_congr (hv (22 + 15 * m) (by omega)), tN_congr (hv (21 + 15 * m) (by omega))]; exact p.2.2.2.2.2.2.1, fun y => by rw [tN_congr (hv 10 (by omega))] at y; omega, fun k hk => by
            rw [s4 k (by omega) hk, t24]
            by_cases c : L ≤ 2 * k
            · rw [if_pos c, if_neg (by omega)]
            · rw [if_neg c, if_pos (by omega), w3 k (by omega) (by omega), (hL2 (2 * k) (by omega)).1], fun k hk => by
            rw [t24] at hk
            obtain ⟨d, hd, ed⟩ := g6 (2 * k) (by omega) (by omega) (by omega)
            exact isN_of (k := d) (by rw [w3 k (by omega) hk]; exact ed) (by omega) (by omega)⟩
          unfold F_X2_take
          rw [g2, g3, Option.bind_some, Option.bind_some, if_pos rfl, if_pos (show (-1 : Int32) < 0 by decide), k1, k2, Option.bind_some, Option.bind_some, at4, half_n L (by omega), wr_n (by omega) (by omega), Option.bind_some, s1, w1, Option.bind_some, Option.bind_some, Option.bind_some, balls_c hnew.1, balls_m hnew.1, Option.bind_some, Option.bind_some]
          exact ⟨_, _, _, _, _, _, _, _, _, _, rfl, rfl, hnew, k3, 0, by omega, rfl, rfl, fun i hi => by omega⟩
  · rw [q1, q2, Option.bind_some, if_pos h00, if_pos h00]
    exact same _
end A5
