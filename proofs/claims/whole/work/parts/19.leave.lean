/-! ===== the acts: setPresent ===== -/
section A4
variable {b : Nat} {hs : Nat → (Nat → Int32) × (Nat → Nat → Int32)} {hc hn : Int32} {pa : Nat → Int32} {pm : Int32}
theorem at5k (m i : Nat) : F_X8_at (nI m) (5 + nI i) = nI (25 + 15 * m + i) := by
  rw [show (5 : Int32) = nI 5 from rfl, nI_add, at_n, show 20 + 15 * m + (5 + i) = 25 + 15 * m + i by omega]
theorem m10 (m : Nat) : nI m * 10 = nI (10 * m) := by
  rw [show (10 : Int32) = nI 10 from rfl, pk_mul, Nat.mul_comm]
theorem lt10 {i : Nat} (h : i < 10) : ¬ (10 : Int32) ≤ nI i := nI_ge (b := 10) h (by omega)
theorem st_L11 {m q L : Nat} (hm : m < 10) (hL : L ≤ 10) : ∀ (k i j : Nat) (sa : Nat → Nat → Int32) (v : Nat → Int32), i + k = L → j ≤ i → v (24 + 15 * m) = nI L → (∀ t, t < j → sa 2 (10 * m + t) = v (25 + 15 * m + t) ∧ isN v (25 + 15 * m + t) 9) → (∀ t, i ≤ t → t < 10 → sa 2 (10 * m + t) = if t < L then v (25 + 15 * m + t) else -9) → (∀ t, i ≤ t → t < L → isN v (25 + 15 * m + t) 9) → ∃ j' sa' v', j' ≤ L ∧ (∀ n, F_X2_strike_L11 (nI q) (nI (10 * m)) (n + k) (nI j) (nI i) sa = F_X2_strike_L11 (nI q) (nI (10 * m)) n (nI j') (nI L) sa') ∧ (∀ n, k < n → F_X8_strikes_L5 (nI m) (nI q) n (nI j) (nI i) v = some (nI j', v')) ∧ (∀ t, t < j' → sa' 2 (10 * m + t) = v' (25 + 15 * m + t) ∧ isN v' (25 + 15 * m + t) 9) ∧ (∀ t, L ≤ t → t < 10 → sa' 2 (10 * m + t) = -9) ∧ (∀ t, t ≠ 2 → sa' t = sa t) ∧ (∀ t, (t < 10 * m ∨ 10 * m + 10 ≤ t) → sa' 2 t = sa 2 t) ∧ (∀ t, (t < 25 + 15 * m ∨ 35 + 15 * m ≤ t) → v' t = v t)
  | 0, i, j, sa, v, hi, hj, h1, h2, h3, h4 => by
    refine ⟨j, sa, v, by omega, fun n => by rw [show i = L by omega]; rfl, fun n hn => ?_, h2, fun t g1 g2 => by rw [h3 t (by omega) g2, if_neg (by omega)], fun _ _ => rfl, fun _ _ => rfl, fun _ _ => rfl⟩
    obtain ⟨n, rfl⟩ : ∃ n', n = n' + 1 := ⟨n - 1, by omega⟩
    rw [F_X8_strikes_L5, at4, rd1 (by omega), Option.bind_some, h1, if_pos (show nI L ≤ nI i from nI_le (by omega) (by omega))]
  | k + 1, i, j, sa, v, hi, hj, h1, h2, h3, h4 => by
    have e := h3 i (by omega) (by omega)
    rw [if_pos (by omega)] at e
    have hc : ∀ n, F_X2_strike_L11 (nI q) (nI (10 * m)) (n + (k + 1)) (nI j) (nI i) sa = if v (25 + 15 * m + i) = nI q then F_X2_strike_L11 (nI q) (nI (10 * m)) (n + k) (nI j) (nI (i + 1)) sa else F_X2_strike_L11 (nI q) (nI (10 * m)) (n + k) (nI (j + 1)) (nI (i + 1)) (va_up sa 2 (upd (sa 2) (10 * m + j) (v (25 + 15 * m + i)))) := fun n => by
      show F_X2_strike_L11 (nI q) (nI (10 * m)) (n + k + 1) (nI j) (nI i) sa = _
      rw [F_X2_strike_L11, if_neg (lt10 (by omega)), nI_add, rd_n (by omega) (by omega), Option.bind_some, e, nI_add, wr_n (by omega) (by omega), Option.bind_some, show nI i + 1 = nI (i + 1) from nI_1 i, show nI j + 1 = nI (j + 1) from nI_1 j]
    have hmo : ∀ n, k + 1 < n → F_X8_strikes_L5 (nI m) (nI q) n (nI j) (nI i) v = if v (25 + 15 * m + i) = nI q then F_X8_strikes_L5 (nI m) (nI q) (n - 1) (nI j) (nI (i + 1)) (upd v (25 + 15 * m + j) (v (25 + 15 * m + i))) else F_X8_strikes_L5 (nI m) (nI q) (n - 1) (nI (j + 1)) (nI (i + 1)) (upd v (25 + 15 * m + j) (v (25 + 15 * m + i))) := fun n hn => by
      obtain ⟨n, rfl⟩ : ∃ n', n = n' + 1 := ⟨n - 1, by omega⟩
      rw [F_X8_strikes_L5, at4, rd1 (by omega), Option.bind_some, h1, if_neg (show ¬ nI L ≤ nI i from nI_ge (by omega) (by omega)), at5k, rd1 (by omega), Option.bind_some, at5k, wr_n (by omega) (by omega), Option.bind_some, show nI i + 1 = nI (i + 1) from nI_1 i, show nI j + 1 = nI (j + 1) from nI_1 j, show nI j + 0 = nI j from Int32.add_zero _]
      rfl
    by_cases c : v (25 + 15 * m + i) = nI q
    · obtain ⟨j', sa', v', r1, r2, r3, r4, r5, r6, r7, r8⟩ := st_L11 hm hL k (i + 1) j sa (upd v (25 + 15 * m + j) (v (25 + 15 * m + i))) (by omega) (by omega) (by rw [pk_un (by omega)]; exact h1) (fun t ht => by
        have e2 : upd v (25 + 15 * m + j) (v (25 + 15 * m + i)) (25 + 15 * m + t) = v (25 + 15 * m + t) := pk_un (by omega)
        rw [e2]; exact ⟨(h2 t ht).1, isN_congr (h2 t ht).2 e2⟩) (fun t g1 g2 => by rw [pk_un (by omega)]; exact h3 t (by omega) g2) (fun t g1 g2 => isN_congr (h4 t (by omega) g2) (pk_un (by omega)))
      exact ⟨j', sa', v', r1, fun n => by rw [hc, if_pos c]; exact r2 n, fun n hn => by rw [hmo n hn, if_pos c]; exact r3 _ (by omega), r4, r5, r6, r7, fun t ht => by rw [r8 t ht, pk_un (by omega)]⟩
    · obtain ⟨j', sa', v', r1, r2, r3, r4, r5, r6, r7, r8⟩ := st_L11 hm hL k (i + 1) (j + 1) (va_up sa 2 (upd (sa 2) (10 * m + j) (v (25 + 15 * m + i)))) (upd v (25 + 15 * m + j) (v (25 + 15 * m + i))) (by omega) (by omega) (by rw [pk_un (by omega)]; exact h1) (fun t ht => by
        by_cases z : t = j
        · subst z
          have e2 : upd v (25 + 15 * m + t) (v (25 + 15 * m + i)) (25 + 15 * m + t) = v (25 + 15 * m + i) := pk_us
          rw [e2, up_s, pk_us]
          exact ⟨rfl, isN_congr (h4 i (by omega) (by omega)) e2⟩
        · have e2 : upd v (25 + 15 * m + j) (v (25 + 15 * m + i)) (25 + 15 * m + t) = v (25 + 15 * m + t) := pk_un (by omega)
          rw [e2, up_s, pk_un (by omega)]; exact ⟨(h2 t (by omega)).1, isN_congr (h2 t (by omega)).2 e2⟩) (fun t g1 g2 => by rw [up_s, pk_un (by omega), pk_un (by omega)]; exact h3 t (by omega) g2) (fun t g1 g2 => isN_congr (h4 t (by omega) g2) (pk_un (by omega)))
      exact ⟨j', sa', v', r1, fun n => by rw [hc, if_neg c]; exact r2 n, fun n hn => by rw [hmo n hn, if_neg c]; exact r3 _ (by omega), r4, r5, fun t ht => by rw [r6 t ht, up_n ht], fun t ht => by rw [r7 t ht, up_s, pk_un (by omega)], fun t ht => by rw [r8 t ht, pk_un (by omega)]⟩
theorem st_T {m q : Nat} (hm : m < 10) (hq : q < 10) : ∀ (k i j n : Nat) (sa : Nat → Nat → Int32), i + k = 10 → j ≤ i → k < n → (∀ t, i ≤ t → t < 10 → sa 2 (10 * m + t) = -9) → ∃ j2 sa', j ≤ j2 ∧ j2 ≤ 10 ∧ F_X2_strike_L11 (nI q) (nI (10 * m)) n (nI j) (nI i) sa = some (nI j2, sa') ∧ (∀ t, j ≤ t → t < j2 → sa' 2 (10 * m + t) = -9) ∧ (∀ t, t ≠ 2 → sa' t = sa t) ∧ (∀ t, (t < 10 * m + j ∨ 10 * m + 10 ≤ t) → sa' 2 t = sa 2 t)
  | 0, i, j, n + 1, sa, hi, hj, hn, h => by
    refine ⟨j, sa, by omega, by omega, ?_, fun t g1 g2 => by omega, fun _ _ => rfl, fun _ _ => rfl⟩
    rw [F_X2_strike_L11, if_pos (show (10 : Int32) ≤ nI i from nI_le (a := 10) (by omega) (by omega))]
  | k + 1, i, j, n + 1, sa, hi, hj, hn, h => by
    obtain ⟨j2, sa', r1, r2, r3, r4, r5, r6⟩ := st_T hm hq k (i + 1) (j + 1) n (va_up sa 2 (upd (sa 2) (10 * m + j) (-9))) (by omega) (by omega) (by omega) (fun t g1 g2 => by rw [up_s, pk_un (by omega)]; exact h t (by omega) g2)
    refine ⟨j2, sa', by omega, r2, ?_, fun t g1 g2 => ?_, fun t ht => by rw [r5 t ht, up_n ht], fun t ht => by rw [r6 t (by omega), up_s, pk_un (by omega)]⟩
    · rw [F_X2_strike_L11, if_neg (lt10 (by omega)), nI_add, rd_n (by omega) (by omega), Option.bind_some, h i (by omega) (by omega), if_neg (fun z => nI_ne9 (k := q) (by omega) z.symm), nI_add, wr_n (by omega) (by omega), Option.bind_some, show nI i + 1 = nI (i + 1) from nI_1 i, show nI j + 1 = nI (j + 1) from nI_1 j]
      exact r3
    · by_cases z : t = j
      · subst z
        rw [r6 _ (by omega), up_s, pk_us]
      · exact r4 t (by omega) g2
  | k, i, j, 0, sa, hi, hj, hn, h => by omega
theorem st_L59 {m : Nat} (hm : m < 10) : ∀ (k i n : Nat) (sa : Nat → Nat → Int32), i + k = 10 → k < n → ∃ sa', F_X2_strike_L59 (nI (10 * m)) n (nI i) sa = some sa' ∧ (∀ t, t ≠ 2 → sa' t = sa t) ∧ (∀ t, sa' 2 t = if 10 * m + i ≤ t ∧ t < 10 * m + 10 then -9 else sa 2 t)
  | 0, i, n + 1, sa, hi, hn => by
    refine ⟨sa, ?_, fun _ _ => rfl, fun t => by rw [if_neg (by omega)]⟩
    rw [F_X2_strike_L59, if_pos (show (10 : Int32) ≤ nI i from nI_le (a := 10) (by omega) (by omega))]
  | k + 1, i, n + 1, sa, hi, hn => by
    obtain ⟨sa', r1, r2, r3⟩ := st_L59 hm k (i + 1) n (va_up sa 2 (upd (sa 2) (10 * m + i) (-9))) (by omega) (by omega)
    refine ⟨sa', ?_, fun t ht => by rw [r2 t ht, up_n ht], fun t => ?_⟩
    · rw [F_X2_strike_L59, if_neg (lt10 (by omega)), nI_add, wr_n (by omega) (by omega), Option.bind_some, show nI i + 1 = nI (i + 1) from nI_1 i]
      exact r1
    · rw [r3 t, up_s]
      by_cases z : t = 10 * m + i
      · subst z
        rw [if_neg (by omega), pk_us, if_pos (by omega)]
      · rw [pk_un z]
        by_cases z2 : 10 * m + (i + 1) ≤ t ∧ t < 10 * m + 10
        · rw [if_pos z2, if_pos (by omega)]
        · rw [if_neg z2, if_neg (by omega)]
  | k, i, 0, sa, hi, hn => by omega
theorem fg_L17 {m : Nat} (hm : m < 10) : ∀ (k i n : Nat) (sa : Nat → Nat → Int32), i + k = 10 → k < n → ∃ sa', F_X2_forget_L17 (nI m) n (nI i) sa = some sa' ∧ (∀ t, t ≠ 2 → sa' t = sa t) ∧ (∀ t, sa' 2 t = if 10 * m + i ≤ t ∧ t < 10 * m + 10 then -9 else sa 2 t)
  | 0, i, n + 1, sa, hi, hn => by
    refine ⟨sa, ?_, fun _ _ => rfl, fun t => by rw [if_neg (by omega)]⟩
    rw [F_X2_forget_L17, if_pos (show (10 : Int32) ≤ nI i from nI_le (a := 10) (by omega) (by omega))]
  | k + 1, i, n + 1, sa, hi, hn => by
    obtain ⟨sa', r1, r2, r3⟩ := fg_L17 hm k (i + 1) n (va_up sa 2 (upd (sa 2) (10 * m + i) (-9))) (by omega) (by omega)
    refine ⟨sa', ?_, fun t ht => by rw [r2 t ht, up_n ht], fun t => ?_⟩
    · rw [F_X2_forget_L17, if_neg (lt10 (by omega)), m10, nI_add, wr_n (by omega) (by omega), Option.bind_some, show nI i + 1 = nI (i + 1) from nI_1 i]
      exact r1
    · rw [r3 t, up_s]
      by_cases z : t = 10 * m + i
      · subst z
        rw [if_neg (by omega), pk_us, if_pos (by omega)]
      · rw [pk_un z]
        by_cases z2 : 10 * m + (i + 1) ≤ t ∧ t < 10 * m + 10
        · rw [if_pos z2, if_pos (by omega)]
        · rw [if_neg z2, if_neg (by omega)]
  | k, i, 0, sa, hi, hn => by omega
theorem strike_ok {sa : Nat → Nat → Int32} {v : Nat → Int32} {m q : Nat} (hm : m < 10) (hq : q < 10) (h : Pm1 sa v m) : ∃ sa' v', F_X2_strike sa (nI m) (nI q) = some sa' ∧ F_X8_strikes v (nI m) (nI q) = some v' ∧ Pm1 sa' v' m ∧ (∀ t, t ≠ 2 → sa' t = sa t) ∧ (∀ t, (t < 10 * m ∨ 10 * m + 10 ≤ t) → sa' 2 t = sa 2 t) ∧ (∀ t, (t < 24 + 15 * m ∨ 35 + 15 * m ≤ t) → v' t = v t) := by
  obtain ⟨h1, h2, h3, h4, h5, h6, h7, h8, h9, h11⟩ := id h
  have hL := h6.2
  obtain ⟨j, sa1, v1, r1, r2, r3, r4, r5, r6, r7, r8⟩ := st_L11 (q := q) hm hL (tN v (24 + 15 * m)) 0 0 sa v (by omega) (by omega) h6.1 (fun t ht => by omega) (fun t _ ht => h9 t ht) (fun t _ ht => h11 t ht)
  obtain ⟨n, hn⟩ : ∃ n, tv_fu = n + tN v (24 + 15 * m) := ⟨tv_fu - tN v (24 + 15 * m), by rw [tv_fu_eq]; omega⟩
  have hn2 : 100 < n := by rw [tv_fu_eq] at hn; omega
  obtain ⟨j2, sa2, p1, p2, p3, p4, p5, p6⟩ := st_T (q := q) hm hq (10 - tN v (24 + 15 * m)) (tN v (24 + 15 * m)) j n sa1 (by omega) r1 (by omega) r5
  obtain ⟨sa3, o1, o2, o3⟩ := st_L59 hm (10 - j2) j2 tv_fu sa2 (by omega) (by rw [tv_fu_eq]; omega)
  have e0 : (0 : Int32) = nI 0 := rfl
  have ha : ∀ t, t ≠ 2 → sa3 t = sa t := fun t ht => by rw [o2 t ht, p5 t ht, r6 t ht]
  have hw : ∀ t, (t < 24 + 15 * m ∨ 35 + 15 * m ≤ t) → upd v1 (24 + 15 * m) (nI j) t = v t := fun t ht => by rw [pk_un (by omega), r8 t (by omega)]
  have w24 : upd v1 (24 + 15 * m) (nI j) (24 + 15 * m) = nI j := pk_us
  have t24 := tN_of w24 (by omega)
  refine ⟨sa3, upd v1 (24 + 15 * m) (nI j), ?_, ?_, ⟨by rw [ha 1 (by omega), hw _ (by omega)]; exact h1, isN_congr h2 (hw _ (by omega)), isN_congr h3 (hw _ (by omega)), isN_congr h4 (hw _ (by omega)), isN_congr h5 (hw _ (by omega)), isN_of w24 (by omega) (by omega), ?_, ?_, fun k hk => ?_, fun k hk => ?_⟩, ha, fun t ht => by rw [o3 t, if_neg (by omega), p6 t (by omega), r7 t ht], hw⟩
  · unfold F_X2_strike
    rw [m10]
    have g := r2 n
    rw [nI_0] at g
    rw [hn, g, p3, Option.bind_some, ← hn]
    dsimp only
    rw [o1, Option.bind_some]
  · unfold F_X8_strikes
    have g := r3 tv_fu (by rw [tv_fu_eq]; omega)
    rw [nI_0] at g
    rw [g, Option.bind_some, at4, wr_n (by omega) (by omega), Option.bind_some]
  · rw [tN_congr (hw (22 + 15 * m) (by omega)), tN_congr (hw (21 + 15 * m) (by omega))]; exact h7
  · rw [tN_congr (hw (23 + 15 * m) (by omega)), tN_congr (hw (21 + 15 * m) (by omega)), tN_congr (hw 10 (by omega)), t24]
    intro z
    have := h8 z
    exact ⟨this.1, this.2.1, by omega⟩
  · rw [o3, t24]
    by_cases c : k < j
    · rw [if_neg (by omega), p6 _ (by omega), if_pos c, (r4 k c).1, pk_un (by omega)]
    · rw [if_neg c]
      by_cases c2 : j2 ≤ k
      · rw [if_pos (by omega)]
      · rw [if_neg (by omega), p4 k (by omega) (by omega)]
  · rw [t24] at hk
    exact isN_congr (r4 k hk).2 (pk_un (by omega))
/-- rows of absent numbers: the component alone -/
theorem strike_tail {q : Nat} (hq : q < 10) {v : Nat → Int32} : ∀ (k i n : Nat) (sa : Nat → Nat → Int32), i + k = 10 → tN v 10 ≤ i → k < n → (∀ m, m < 10 → Pm1 sa v m) → ∃ sa', F_X2_forget_L44 (nI q) n (nI i) sa = some sa' ∧ (∀ m, m < 10 → Pm1 sa' v m) ∧ (∀ t, t ≠ 2 → sa' t = sa t)
  | 0, i, n + 1, sa, hi, hM, hn, h => by
    refine ⟨sa, ?_, h, fun _ _ => rfl⟩
    rw [F_X2_forget_L44, if_pos (show (10 : Int32) ≤ nI i from nI_le (a := 10) (by omega) (by omega))]
  | k + 1, i, n + 1, sa, hi, hM, hn, h => by
    obtain ⟨sa1, v1, r1, r2, r3, r4, r5, r6⟩ := strike_ok (q := q) (show i < 10 by omega) hq (h i (by omega))
    have hrow : ∀ t, t < 10 → sa1 2 (10 * i + t) = sa 2 (10 * i + t) := fun t ht => by
      rw [r3.2.2.2.2.2.2.2.2.1 t ht, (h i (by omega)).2.2.2.2.2.2.2.2.1 t ht, (r3.2.2.2.2.2.2.2.1 (by rw [tN_congr (r6 10 (by omega))]; exact hM)).2.2, ((h i (by omega)).2.2.2.2.2.2.2.1 hM).2.2, if_neg (by omega), if_neg (by omega)]
    have hall : ∀ m, m < 10 → Pm1 sa1 v m := fun m hm => Pm1_congr (h m hm) (fun _ _ _ => rfl) rfl (by rw [r4 1 (by omega)]) (fun t ht => by
      by_cases z : m = i
      · subst z; exact hrow t ht
      · exact r5 _ (by omega))
    obtain ⟨sa', g1, g2, g3⟩ := strike_tail hq k (i + 1) n sa1 (by omega) (by omega) (by omega) hall
    refine ⟨sa', ?_, g2, fun t ht => by rw [g3 t ht, r4 t ht]⟩
    rw [F_X2_forget_L44, if_neg (lt10 (by omega)), r1, Option.bind_some, show nI i + 1 = nI (i + 1) from nI_1 i]
    exact g1
  | k, i, 0, sa, hi, hM, hn, h => by omega
theorem strike_L {q M : Nat} (hq : q < 10) (hM10 : M ≤ 10) : ∀ (k i n : Nat) (sa : Nat → Nat → Int32) (v : Nat → Int32), i + k = M → v 10 = nI M → 10 < n + i → (∀ m, m < 10 → Pm1 sa v m) → ∃ sa' v', F_X2_forget_L44 (nI q) n (nI i) sa = some sa' ∧ F_X8_leaves_L35 (nI q) n (nI i) v = some v' ∧ (∀ m, m < 10 → Pm1 sa' v' m) ∧ (∀ t, t ≠ 2 → sa' t = sa t) ∧ (∀ t, (t < 20 ∨ 170 ≤ t) → v' t = v t) ∧ (∀ m, m < 10 → v' (21 + 15 * m) = v (21 + 15 * m) ∧ v' (22 + 15 * m) = v (22 + 15 * m) ∧ v' (23 + 15 * m) = v (23 + 15 * m))
  | 0, i, n + 1, sa, v, hi, h10, hn, h => by
    obtain ⟨sa', g1, g2, g3⟩ := strike_tail hq (10 - i) i (n + 1) sa (by omega) (by rw [tN_of h10 (by omega)]; omega) (by omega) h
    refine ⟨sa', v, g1, ?_, g2, g3, fun _ _ => rfl, fun _ _ => ⟨rfl, rfl, rfl⟩⟩
    rw [F_X8_leaves_L35, show tv_rd 1100 v 10 = some (v 10) from rd_n (k := 10) (by omega) (by omega), Option.bind_some, h10, if_pos (show nI M ≤ nI i from nI_le (by omega) (by omega))]
  | k + 1, i, n + 1, sa, v, hi, h10, hn, h => by
    obtain ⟨sa1, v1, r1, r2, r3, r4, r5, r6⟩ := strike_ok (q := q) (show i < 10 by omega) hq (h i (by omega))
    have hall : ∀ m, m < 10 → Pm1 sa1 v1 m := fun m hm => by
      by_cases z : m = i
      · rw [z]; exact r3
      · exact Pm1_congr (h m hm) (fun t g1 g2 => r6 t (by omega)) (r6 10 (by omega)) (by rw [r4 1 (by omega)]) (fun t ht => r5 _ (by omega))
    obtain ⟨sa', v', g1, g2, g3, g4, g5, g6⟩ := strike_L hq hM10 k (i + 1) n sa1 v1 (by omega) (by rw [r6 10 (by omega)]; exact h10) (by omega) hall
    refine ⟨sa', v', ?_, ?_, g3, fun t ht => by rw [g4 t ht, r4 t ht], fun t ht => by rw [g5 t ht, r6 t (by omega)], fun m hm => ?_⟩
    · rw [F_X2_forget_L44, if_neg (lt10 (by omega)), r1, Option.bind_some, show nI i + 1 = nI (i + 1) from nI_1 i]
      exact g1
    · rw [F_X8_leaves_L35, show tv_rd 1100 v 10 = some (v 10) from rd_n (k := 10) (by omega) (by omega), Option.bind_some, h10, if_neg (show ¬ nI M ≤ nI i from nI_ge (by omega) (by omega)), r2, Option.bind_some, show nI i + 1 = nI (i + 1) from nI_1 i]
      exact g2
    · rw [(g6 m hm).1, (g6 m hm).2.1, (g6 m hm).2.2, r6 (21 + 15 * m) (by omega), r6 (22 + 15 * m) (by omega), r6 (23 + 15 * m) (by omega)]
      exact ⟨rfl, rfl, rfl⟩
  | k, i, 0, sa, v, hi, h10, hn, h => by omega
/-- what a member that leaves takes with it -/
theorem gone_ok {si : Nat → Int32} {sa : Nat → Nat → Int32} {v : Nat → Int32} (h : RS b si sa v) {m : Nat} (hm : m < 10) : ∃ si' sa' v1 v2 v', F_X2_forget (upd si 2 ((si 2) &&& ((F_X7_only (nI m)) ^^^ (-1)))) sa (nI m) = some (si', sa') ∧ tv_wr 1100 v (nI (21 + 15 * m)) 0 = some v1 ∧ tv_wr 1100 v1 (nI (22 + 15 * m)) 0 = some v2 ∧ ((tv_wr 1100 v2 (nI (24 + 15 * m)) 0).bind fun x => F_X8_leaves_L35 (nI m) tv_fu 0 x) = some v' ∧ RS b si' sa' v' ∧ (∀ t, (t < 20 ∨ 170 ≤ t) → v' t = v t) ∧ (∀ t, t < 10 → t ≠ m → v' (21 + 15 * t) = v (21 + 15 * t)) := by
  obtain ⟨eM, hM⟩ := RS_M h
  obtain ⟨sa1, p1, p2, p3⟩ := fg_L17 hm 10 0 tv_fu sa (by omega) (by rw [tv_fu_eq]; omega)
  generalize hw : upd (upd (upd v (21 + 15 * m) 0) (22 + 15 * m) 0) (24 + 15 * m) 0 = w
  have w0 : ∀ t, t ≠ 21 + 15 * m → t ≠ 22 + 15 * m → t ≠ 24 + 15 * m → w t = v t := fun t g1 g2 g3 => by rw [← hw, pk_un g3, pk_un g2, pk_un g1]
  have w1 : w (21 + 15 * m) = 0 := by rw [← hw, pk_un (by omega), pk_un (by omega), pk_us]
  have w2 : w (22 + 15 * m) = 0 := by rw [← hw, pk_un (by omega), pk_us]
  have w4 : w (24 + 15 * m) = 0 := by rw [← hw, pk_us]
  have t1 : tN w (21 + 15 * m) = 0 := tN_of (k := 0) w1 (by omega)
  have t2 : tN w (22 + 15 * m) = 0 := tN_of (k := 0) w2 (by omega)
  have t4 : tN w (24 + 15 * m) = 0 := tN_of (k := 0) w4 (by omega)
  have hall : ∀ t, t < 10 → Pm1 sa1 w t := fun t ht => by
    by_cases z : t = m
    · subst z
      obtain ⟨h1, h2, h3, h4, h5, h6, h7, h8, h9, h11⟩ := RS_m h ht
      refine ⟨by rw [p2 1 (by omega), w0 _ (by omega) (by omega) (by omega)]; exact h1, isN_congr h2 (w0 _ (by omega) (by omega) (by omega)), isN_of (k := 0) w1 (by omega) (by omega), isN_of (k := 0) w2 (by omega) (by omega), isN_congr h5 (w0 _ (by omega) (by omega) (by omega)), isN_of (k := 0) w4 (by omega) (by omega), by omega, fun y => ⟨t1, ?_, t4⟩, fun k hk => ?_, fun k hk => by omega⟩
      · rw [tN_congr (w0 (23 + 15 * t) (by omega) (by omega) (by omega))]
        rw [tN_congr (w0 10 (by omega) (by omega) (by omega))] at y
        exact (h8 y).2.1
      · rw [p3, if_pos (by omega), t4, if_neg (by omega)]
    · exact Pm1_congr (RS_m h ht) (fun i g1 g2 => w0 i (by omega) (by omega) (by omega)) (w0 10 (by omega) (by omega) (by omega)) (by rw [p2 1 (by omega)]) (fun k hk => by rw [p3, if_neg (by omega)])
  obtain ⟨sa', v', g1, g2, g3, g4, g5, g6⟩ := strike_L hm hM (tN v 10) 0 tv_fu sa1 w (by omega) (by rw [w0 10 (by omega) (by omega) (by omega)]; exact eM) (by rw [tv_fu_eq]; omega) hall
  rw [nI_0] at p1 g1 g2
  have hv : ∀ t, (t < 20 ∨ 170 ≤ t) → v' t = v t := fun t ht => by rw [g5 t ht, w0 t (by omega) (by omega) (by omega)]
  have hsa : ∀ t, t ≠ 2 → sa' t = sa t := fun t ht => by rw [g4 t ht, p2 t ht]
  have h21 : ∀ t, t < 10 → t ≠ m → v' (21 + 15 * t) = v (21 + 15 * t) := fun t ht z => by rw [(g6 t ht).1, w0 _ (by omega) (by omega) (by omega)]
  have h22 : ∀ t, t < 10 → t ≠ m → v' (22 + 15 * t) = v (22 + 15 * t) := fun t ht z => by rw [(g6 t ht).2.1, w0 _ (by omega) (by omega) (by omega)]
  have hsi : ∀ j, j ≠ 2 → j ≠ 7 → upd (upd si 2 ((si 2) &&& ((F_X7_only (nI m)) ^^^ (-1)))) 7 ((si 7) &&& ((F_X7_only (nI m)) ^^^ (-1))) j = si j := fun j z1 z2 => by rw [pk_un z2, pk_un z1]
  refine ⟨upd (upd si 2 ((si 2) &&& ((F_X7_only (nI m)) ^^^ (-1)))) 7 ((si 7) &&& ((F_X7_only (nI m)) ^^^ (-1))), sa', upd v (21 + 15 * m) 0, upd (upd v (21 + 15 * m) 0) (22 + 15 * m) 0, v', ?_, wr_n (by omega) (by omega), wr_n (by omega) (by omega), ?_, ⟨Pset_congr h.1 (fun i hi => hv i (by omega)) (fun i hi => by rw [hsa 0 (by omega)]), ?_, ?_, ⟨g3, by rw [pk_un (by omega), pk_us]; exact Bm_clr h.2.2.2.1.2.1 hm (by rw [(g6 m hm).1]; exact w1) h21, by rw [pk_us]; exact Bm_clr h.2.2.2.1.2.2.1 hm (by rw [(g6 m hm).2.1]; exact w2) h22, Bm_congr h.2.2.2.1.2.2.2 (hsi 3 (by omega) (by omega)) (fun t ht => by rw [(g6 t ht).2.2, w0 _ (by omega) (by omega) (by omega)])⟩, Pter_congr h.2.2.2.2.1 (hv 9 (by omega)) (RS_T h).2 (fun i z1 z2 => hv i (by omega)) (fun j z1 z2 => hsa j (by omega)), Pev_congr h.2.2.2.2.2.1 (fun i z1 z2 => hv i (by omega)) (fun j z1 z2 => hsa j (by omega)), Ptal_congr h.2.2.2.2.2.2 (fun i z1 z2 => hv i (by omega)) (hsa 3 (by omega))⟩, hv, h21⟩
  · unfold F_X2_forget
    rw [p1, Option.bind_some, g1, Option.bind_some, pk_un (show (7 : Nat) ≠ 2 by omega)]
  · rw [wr_n (by omega) (by omega), Option.bind_some, hw]
    exact g2
  · obtain ⟨a1, a2, a3, a4, a5, a6, a7, a8⟩ := h.2.1
    exact ⟨by rw [hsi 0 (by omega) (by omega), hv 6 (by omega)]; exact a1, by rw [hsi 4 (by omega) (by omega), hv 7 (by omega)]; exact a2, by rw [hsi 5 (by omega) (by omega), hv 8 (by omega)]; exact a3, by rw [hsi 9 (by omega) (by omega), hv 9 (by omega)]; exact a4, by rw [hsi 1 (by omega) (by omega), hv 10 (by omega)]; exact a5, by rw [hsi 6 (by omega) (by omega), hv 11 (by omega)]; exact a6, by rw [hsi 10 (by omega) (by omega), hv 12 (by omega)]; exact a7, by rw [hsi 8 (by omega) (by omega), hv 13 (by omega)]; exact a8⟩
  · obtain ⟨a1, a2, a3, a4, a5, a6, a7⟩ := h.2.2.1
    refine ⟨isN_congr a1 (hv 6 (by omega)), isN_congr a2 (hv 9 (by omega)), isN_congr a3 (hv 10 (by omega)), isN_congr a4 (hv 12 (by omega)), isN_congr a5 (hv 13 (by omega)), ?_, ?_⟩
    · rw [hv 11 (by omega), tN_congr (hv 9 (by omega))]; exact a6
    · rw [hv 7 (by omega), hv 8 (by omega), tN_congr (hv 8 (by omega)), tN_congr (hv 10 (by omega))]
      exact a7.imp id (fun z => ⟨z.1, isN_congr z.2.1 (hv 8 (by omega)), z.2.2⟩)
/-- leaving, both sides -/
theorem leave_ok (hb : b < 2 ^ 29) {si : Nat → Int32} {sa : Nat → Nat → Int32} {v : Nat → Int32} (h : RO b si sa v) {m : Nat} (hm : m < 10) : ∃ si' sa' v', F_X5_leave si sa (nI m) = some (si', sa') ∧ F_X8_leaves v (nI m) = some v' ∧ RO (b + 2) si' sa' v' := by
  obtain ⟨si1, sa1, v1, v2, w, p1, p2, p3, p4, p5, p6, p7⟩ := gone_ok h.1 hm
  have r8 : tv_rd 1100 w 8 = some (w 8) := rd_n (k := 8) (by omega) (by omega)
  have r7 : tv_rd 1100 w 7 = some (w 7) := rd_n (k := 7) (by omega) (by omega)
  have e5 : si1 5 = w 8 := p5.2.1.2.2.1
  have e4 : si1 4 = w 7 := p5.2.1.2.1
  have e8 := p6 8 (by omega)
  have e7 := p6 7 (by omega)
  have e9 := p6 9 (by omega)
  have hT := (RS_T h.1).2
  unfold F_X5_leave F_X8_leaves
  rw [p1, Option.bind_some, at1, p2, Option.bind_some, at2, p3, Option.bind_some, at4]
  obtain ⟨x, hx1, hx2⟩ : ∃ x, tv_wr 1100 v2 (nI (24 + 15 * m)) 0 = some x ∧ F_X8_leaves_L35 (nI m) tv_fu 0 x = some w := by
    cases q : tv_wr 1100 v2 (nI (24 + 15 * m)) 0 with
    | none => rw [q] at p4; cases p4
    | some x => rw [q] at p4; exact ⟨x, rfl, p4⟩
  rw [hx1, Option.bind_some, hx2, Option.bind_some, r8, Option.bind_some]
  dsimp only
  by_cases c : w 8 = nI m
  · rw [if_pos (show nI m = si1 5 by rw [e5, c]), if_pos c, r7, Option.bind_some]
    by_cases c2 : w 7 = 2
    · rw [if_pos (show si1 4 = 2 by rw [e4, c2]), if_pos c2]
      have o := h.2 (by rw [← e7]; exact c2)
      obtain ⟨si', sa', v', u1, u2, u3, _⟩ := ends_ok hb p5 (by rw [tN_congr e9]; exact o.1) (by rw [tN_congr e9, p6 _ (by omega), e8]; exact o.2.1) 4
      rw [u1, u2]
      exact ⟨_, _, _, rfl, rfl, u3⟩
    · rw [if_neg (show ¬ si1 4 = 2 by rw [e4]; exact c2), if_neg c2, Option.bind_some, if_pos c, Option.bind_some]
      have c1 : w 7 = 1 := by
        rcases p5.2.2.1.2.2.2.2.2.2 with q | q
        · exact absurd (q.2.symm.trans c) (fun z => nI_ne9 (k := m) (by omega) z.symm)
        · exact q.1.resolve_right c2
      rw [if_pos c1]
      obtain ⟨si', sa', v', u1, u2, u3, _⟩ := appoint_ok (by omega) p5 (-9)
      rw [u1, u2]
      exact ⟨_, _, _, rfl, rfl, RO_mono u3 (by omega)⟩
  · rw [if_neg (show ¬ nI m = si1 5 by rw [e5]; exact fun z => c z.symm), if_neg c, Option.bind_some, if_neg c]
    refine ⟨_, _, _, rfl, rfl, RO_mono ⟨p5, off_congr h.2 e7 e8 e9 (fun _ => p6 _ (by omega)) (fun z => ?_)⟩ (by omega)⟩
    have q := hold_le h.1 (Or.inl z)
    refine p7 _ (by have := q.1.2; omega) (fun y => c ?_)
    rw [e8, ← y]
    exact q.1.1
theorem present_ok (hb : b < 2 ^ 28) {si : Nat → Int32} {sa : Nat → Nat → Int32} {v : Nat → Int32} (h : RO b si sa v) (hh : RH b hs hc hn pa pm) (a1 a2 : Int32) (ha : a2 = 0 ∨ a2 = 1) : ∃ r si' sa' hs' hc' hn' v' pa' pm', F_X7_setPresent si sa hs hc hn a1 a2 = some (r, si', sa', hs', hc', hn') ∧ F_X8_setPresent v pa pm a1 a2 = some (r, v', pa', pm') ∧ RO (b + 4) si' sa' v' ∧ RH (b + 4) hs' hc' hn' pa' pm' := by
  unfold F_X7_setPresent F_X8_setPresent
  rcases mem_ok h.1 a1 with ⟨m, hm0, hm, rfl, q1, q2⟩ | ⟨q1, q2⟩
  · obtain ⟨hs', hc', hn', pa', pm', k1, k2, k3⟩ := hist_ok h hh
    have p := RS_m h.1 hm
    rw [q1, q2, Option.bind_some, if_neg h10, if_neg h10, k1, k2, Option.bind_some, Option.bind_some, isPres_c h.1 hm, Option.bind_some, at1, rd1 (by omega), Option.bind_some, asN (n1_or p.2.2.1)]
    rcases n1_or p.2.2.1 with z | z
    · rw [z]
      rcases ha with e | e
      · subst e
        rw [if_pos h00, if_pos h00, if_pos h00, if_neg (show ¬ (0 : Int32) = 1 by decide)]
        exact ⟨_, _, _, _, _, _, _, _, _, rfl, rfl, RO_mono h (by omega), RH_mono k3 (by omega)⟩
      · subst e
        have e1 : upd v (21 + 15 * m) 1 (21 + 15 * m) = 1 := pk_us
        have hv : ∀ i, i ≠ 21 + 15 * m → upd v (21 + 15 * m) 1 i = v i := fun i g => pk_un g
        have hsi : ∀ j, j ≠ 2 → upd si 2 ((si 2) ||| (F_X7_only (nI m))) j = si j := fun j g => pk_un g
        have c0 := p.2.2.2.2.2.2.1
        have t0 := (n1_iff0 p.2.2.1).mp z
        have t1 : tN (upd v (21 + 15 * m) 1) (21 + 15 * m) = 1 := tN_of (k := 1) e1 (by omega)
        have new : RO b (upd si 2 ((si 2) ||| (F_X7_only (nI m)))) sa (upd v (21 + 15 * m) 1) := ⟨flag_ok h.1 hm (Or.inl rfl) hv (isN_of (k := 1) e1 (by omega) (by omega)) (fun y => by omega) (by rw [t1, tN_congr (hv (22 + 15 * m) (by omega))]; omega) (fun j g1 g2 g3 => hsi j g1) (by rw [pk_us]; exact Bm_set h.1.2.2.2.1.2.1 hm e1 (fun j hj g => hv _ (by omega))) (Bm_congr h.1.2.2.2.1.2.2.1 (hsi 7 (by omega)) (fun j hj => hv _ (by omega))) (Bm_congr h.1.2.2.2.1.2.2.2 (hsi 3 (by omega)) (fun j hj => hv _ (by omega))), off_congr h.2 (hv 7 (by omega)) (hv 8 (by omega)) (hv 9 (by omega)) (fun _ => hv _ (by omega)) (fun y => hv _ (fun y2 => by have := (h.2 y).2.2; rw [y2] at this; omega))⟩
        obtain ⟨si', sa', v', u1, u2, u3, _⟩ := looks_ok (by omega) new
        rw [if_neg h10, if_neg h10, if_neg h10, if_pos h00, wr_n (by omega) (by omega), Option.bind_some, Option.bind_some]
        dsimp only
        rw [u1, u2]
        exact ⟨_, _, _, _, _, _, _, _, _, rfl, rfl, RO_mono u3 (by omega), RH_mono k3 (by omega)⟩
    · rw [z]
      rcases ha with e | e
      · subst e
        obtain ⟨si1, sa1, v1, w1, w2, w3⟩ := leave_ok (by omega) h hm
        obtain ⟨si', sa', v', u1, u2, u3, _⟩ := looks_ok (by omega) w3
        rw [if_neg (show ¬ (0 : Int32) = 1 by decide), if_pos h00, if_pos h00, if_pos h00, if_pos (show (1 : Int32) = 1 from rfl), w1, w2, Option.bind_some, Option.bind_some, Option.bind_some]
        dsimp only
        rw [u1, u2]
        exact ⟨_, _, _, _, _, _, _, _, _, rfl, rfl, u3, RH_mono k3 (by omega)⟩
      · subst e
        rw [if_pos (show (1 : Int32) = 1 from rfl), if_neg h10, if_neg h10, if_neg h10]
        exact ⟨_, _, _, _, _, _, _, _, _, rfl, rfl, RO_mono h (by omega), RH_mono k3 (by omega)⟩
  · rw [q1, q2, Option.bind_some, if_pos h00, if_pos h00]
    exact ⟨_, _, _, _, _, _, _, _, _, rfl, rfl, RO_mono h (by omega), RH_mono hh (by omega)⟩
end A4
