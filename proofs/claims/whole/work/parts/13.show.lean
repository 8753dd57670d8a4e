/-! ===== the calls that only show ===== -/
section SH
variable {b : Nat} {si : Nat → Int32} {sa : Nat → Nat → Int32} {v : Nat → Int32}
theorem rd1 {k : Nat} (hk : k < 1100) : tv_rd 1100 v (nI k) = some (v k) := rd_n hk (by omega)
theorem in_0 {x lo hi : Int32} (h : x < lo ∨ hi < x) : F_X8_in x lo hi = 0 := by
  unfold F_X8_in
  by_cases h1 : x < lo
  · rw [if_pos h1]
  · rw [if_neg h1, if_pos (h.resolve_left h1)]
theorem in_1 {x lo hi : Int32} (h1 : ¬ x < lo) (h2 : ¬ hi < x) : F_X8_in x lo hi = 1 := by
  unfold F_X8_in
  rw [if_neg h1, if_neg h2]
theorem h10 : ¬ (1 : Int32) = 0 := by decide
theorem h00 : (0 : Int32) = 0 := rfl
theorem num_ok (h : RS b si sa v) {s k : Nat} (hs : s < tN v 9) (hk : k < 8) : ∃ x, F_X6_number sa (nI (s + 1)) (nI k) = some x ∧ F_X8_toldOf v (nI (s + 1)) (nI k) = some x := by
  have hT := (RS_T h).2
  obtain ⟨⟨a0, _⟩, a1, ⟨a2, _⟩, ⟨a3, _⟩, ⟨a4, _⟩, ⟨a5, _⟩, _⟩ := RS_t h hs
  unfold F_X6_number F_X8_toldOf
  rcases (show k = 0 ∨ k = 1 ∨ k = 2 ∨ k = 3 ∨ k = 4 ∨ k = 5 ∨ k = 6 ∨ k = 7 by omega) with e | e | e | e | e | e | e | e <;> subst e
  · rw [if_pos (by decide), if_neg (by decide), rd_n (by omega) (by omega), of_n, rd1 (by omega), a0]
    exact ⟨_, rfl, rfl⟩
  · rw [if_neg (by decide), if_pos (by decide), if_neg (by decide), rd_n (by omega) (by omega), of_n, rd1 (by omega), a1, show 170 + 18 * s + 1 = 171 + 18 * s by omega]
    exact ⟨_, rfl, rfl⟩
  · rw [if_neg (by decide), if_neg (by decide), if_pos (by decide), if_neg (by decide), rd_n (by omega) (by omega), of_n, rd1 (by omega), a2, show 170 + 18 * s + 2 = 172 + 18 * s by omega]
    exact ⟨_, rfl, rfl⟩
  · rw [if_neg (by decide), if_neg (by decide), if_neg (by decide), if_pos (by decide), if_neg (by decide), rd_n (by omega) (by omega), of_n, rd1 (by omega), a3, show 170 + 18 * s + 3 = 173 + 18 * s by omega]
    exact ⟨_, rfl, rfl⟩
  · rw [if_neg (by decide), if_neg (by decide), if_neg (by decide), if_neg (by decide), if_pos (by decide), if_neg (by decide), rd_n (by omega) (by omega), of_n, rd1 (by omega), a4, show 170 + 18 * s + 4 = 174 + 18 * s by omega]
    exact ⟨_, rfl, rfl⟩
  · rw [if_neg (by decide), if_neg (by decide), if_neg (by decide), if_neg (by decide), if_neg (by decide), if_pos (by decide), if_neg (by decide), rd_n (by omega) (by omega), of_n, rd1 (by omega), a5, show 170 + 18 * s + 5 = 175 + 18 * s by omega]
    exact ⟨_, rfl, rfl⟩
  · rw [if_neg (by decide), if_neg (by decide), if_neg (by decide), if_neg (by decide), if_neg (by decide), if_neg (by decide), if_pos (by decide), if_pos (by decide), if_pos (by decide), cg_c h hs, cg_m h hs]
    exact ⟨_, rfl, rfl⟩
  · rw [if_neg (by decide), if_neg (by decide), if_neg (by decide), if_neg (by decide), if_neg (by decide), if_neg (by decide), if_neg (by decide), if_pos (by decide), if_neg (by decide), of3, rd1 (by omega), Option.bind_some]
    unfold F_X6_isOver
    rw [rd_n (by omega) (by omega), Option.bind_some, a3]
    obtain ⟨r, _, r1, r2⟩ := score_ok h hs
    by_cases c : v (173 + 18 * s) = -9
    · rw [if_pos c, if_pos c]
      exact ⟨_, rfl, rfl⟩
    · rw [if_neg c, if_neg c, Option.bind_some, if_neg (by decide), r1, r2]
      exact ⟨_, rfl, rfl⟩
theorem told_ok (h : RS b si sa v) {m k : Nat} (hm : m < 10) (hk : k < 6) : ∃ x, F_X5_numberOf si sa (nI m) (nI k) = some x ∧ F_X8_told v (nI m) (nI k) = some x := by
  obtain ⟨_, _, p1, p2, p3, _⟩ := RS_m h hm
  unfold F_X5_numberOf F_X8_told
  rcases (show k = 0 ∨ k = 1 ∨ k = 2 ∨ k = 3 ∨ k = 4 ∨ k = 5 by omega) with e | e | e | e | e | e <;> subst e
  · obtain ⟨r, _, r1, r2⟩ := rep_ok h (nI m)
    rw [if_pos (by decide), if_pos (by decide), show tv_rd 6 (sa 0) 5 = some (v 5) from by rw [← RS_s h (i := 5) (by omega)]; exact rd_n (k := 5) (by omega) (by omega), Option.bind_some, r1, r2]
    exact ⟨_, rfl, rfl⟩
  · obtain ⟨r, _, r1, r2⟩ := led_ok h (nI m)
    rw [if_neg (by decide), if_pos (by decide), if_neg (by decide), if_pos (by decide), r1, r2]
    exact ⟨_, rfl, rfl⟩
  · rw [if_neg (by decide), if_neg (by decide), if_pos (by decide), if_neg (by decide), if_neg (by decide), if_pos (by decide), isPres_c h hm, at1, rd1 (by omega), Option.bind_some, Option.bind_some, asN (n1_or p1)]
    exact ⟨_, rfl, rfl⟩
  · obtain ⟨x, hx, _, r1, r2⟩ := can_ok h hm
    rw [if_neg (by decide), if_neg (by decide), if_neg (by decide), if_pos (by decide), if_neg (by decide), if_neg (by decide), if_neg (by decide), if_pos (by decide), r1, r2, Option.bind_some, Option.bind_some, asN hx]
    rcases hx with e | e <;> subst e
    · exact ⟨_, rfl, rfl⟩
    · exact ⟨_, rfl, rfl⟩
  · rw [if_neg (by decide), if_neg (by decide), if_neg (by decide), if_neg (by decide), if_pos (by decide), if_neg (by decide), if_neg (by decide), if_neg (by decide), if_neg (by decide), if_pos (by decide), cand_c h hm, at2, rd1 (by omega), Option.bind_some, asN (n1_or p2)]
    exact ⟨_, rfl, rfl⟩
  · rw [if_neg (by decide), if_neg (by decide), if_neg (by decide), if_neg (by decide), if_neg (by decide), if_neg (by decide), if_neg (by decide), if_neg (by decide), if_neg (by decide), if_neg (by decide), sign_c h hm, at3, rd1 (by omega), Option.bind_some, asN (n1_or p3)]
    exact ⟨_, rfl, rfl⟩
theorem small (a : Int32) (n : Nat) (hn : 0 < n) (hn2 : n < 2 ^ 31) : (∃ k, k < n ∧ a = nI k ∧ F_X8_in a 0 (nI (n - 1)) = 1 ∧ ¬ a < 0 ∧ a < nI n) ∨ (F_X8_in a 0 (nI (n - 1)) = 0 ∧ (a < 0 ∨ (¬ a < 0 ∧ ¬ a < nI n))) := by
  rcases pk_ix a hn2 with q | q | ⟨j, hj, rfl⟩
  · exact Or.inr ⟨in_0 (Or.inl q), Or.inl q⟩
  · right
    have q0 : ¬ a < 0 := by
      rw [toI_lt]
      rw [toI_le, nI_toInt (by omega)] at q
      rw [show ((0 : Int32)).toInt = 0 from by decide]
      omega
    refine ⟨in_0 (Or.inr ?_), Or.inr ⟨q0, ?_⟩⟩
    · rw [toI_le, nI_toInt (by omega)] at q
      rw [toI_lt, nI_toInt (by omega)]
      omega
    · rw [toI_lt]
      rw [toI_le] at q
      omega
  · exact Or.inl ⟨j, hj, rfl, in_1 (nI_pos (by omega)) (nI_nlt (by omega) (by omega)), nI_pos (by omega), nI_lt hj (by omega)⟩
theorem term_ok (h : RS b si sa v) (a1 a2 : Int32) : ∃ x, F_X7_term si sa a1 a2 = some x ∧ F_X8_term v a1 a2 = some x := by
  unfold F_X7_term F_X8_term
  rcases trm_ok h a1 with ⟨s, hs, rfl, q1, q2⟩ | ⟨q1, q2⟩
  · rw [q1, q2, Option.bind_some, if_neg h10, if_neg h10]
    rcases small a2 8 (by omega) (by omega) with ⟨k, hk, rfl, z1, z2, z3⟩ | ⟨z1, z2⟩
    · obtain ⟨x, x1, x2⟩ := num_ok h hs hk
      rw [if_neg z2, show (8 : Int32) = nI 8 from rfl, if_pos z3, show (7 : Int32) = nI (8 - 1) from rfl, z1, if_neg h10, x1, x2]
      exact ⟨_, rfl, rfl⟩
    · rw [show (7 : Int32) = nI (8 - 1) from rfl, z1, if_pos h00]
      rcases z2 with z2 | ⟨z2, z3⟩
      · rw [if_pos z2]
        exact ⟨_, rfl, rfl⟩
      · rw [if_neg z2, show (8 : Int32) = nI 8 from rfl, if_neg z3]
        exact ⟨_, rfl, rfl⟩
  · rw [q1, q2, Option.bind_some, if_pos h00, if_pos h00]
    exact ⟨_, rfl, rfl⟩
theorem member_ok (h : RS b si sa v) (a1 a2 : Int32) : ∃ x, F_X7_member si sa a1 a2 = some x ∧ F_X8_member v a1 a2 = some x := by
  unfold F_X7_member F_X8_member
  rcases mem_ok h a1 with ⟨m, hm0, hm, rfl, q1, q2⟩ | ⟨q1, q2⟩
  · rw [q1, q2, Option.bind_some, if_neg h10, if_neg h10]
    rcases small a2 6 (by omega) (by omega) with ⟨k, hk, rfl, z1, z2, z3⟩ | ⟨z1, z2⟩
    · obtain ⟨x, x1, x2⟩ := told_ok h hm hk
      rw [if_neg z2, show (6 : Int32) = nI 6 from rfl, if_pos z3, show (5 : Int32) = nI (6 - 1) from rfl, z1, if_neg h10, x1, x2]
      exact ⟨_, rfl, rfl⟩
    · rw [show (5 : Int32) = nI (6 - 1) from rfl, z1, if_pos h00]
      rcases z2 with z2 | ⟨z2, z3⟩
      · rw [if_pos z2]
        exact ⟨_, rfl, rfl⟩
      · rw [if_neg z2, show (6 : Int32) = nI 6 from rfl, if_neg z3]
        exact ⟨_, rfl, rfl⟩
  · rw [q1, q2, Option.bind_some, if_pos h00, if_pos h00]
    exact ⟨_, rfl, rfl⟩
theorem points_ok (h : RS b si sa v) (a1 a2 : Int32) : ∃ x, F_X7_points si sa a1 a2 = some x ∧ F_X8_points v a1 a2 = some x := by
  have hT := (RS_T h).2
  unfold F_X7_points F_X8_points F_X6_givenPoints
  rcases mem_ok h a1 with ⟨m, hm0, hm, rfl, q1, q2⟩ | ⟨q1, q2⟩
  · rcases trm_ok h a2 with ⟨s, hs, rfl, t1, t2⟩ | ⟨t1, t2⟩
    · have hg := (RS_t h hs).2.2.2.2.2.2.2.1
      have hg2 := hg.2
      have ht := (RS_t h hs).2.2.2.2.2.2.2.2 m hm
      have e : (v (177 + 18 * s) >>> (nI m &&& 31)) &&& 1 = if (tN v (177 + 18 * s)).testBit m then 1 else 0 := by
        conv => lhs; rw [hg.1]
        exact shr_n (by omega) hm
      rw [q1, q2, t1, t2, Option.bind_some, Option.bind_some, if_neg h10, if_neg h10, if_neg h10, if_neg h10, nl 10, pk_mul, nI_add, rd_n (by omega) (by omega), show (s + 1) * 10 + m = 10 * (s + 1) + m by omega, ht.2, of7, rd1 (by omega), Option.bind_some, Option.bind_some, Option.bind_some, e, nl 8, nI_add, of_n, rd1 (by omega), show 170 + 18 * s + (8 + m) = 178 + 18 * s + m by omega]
      by_cases hb : (tN v (177 + 18 * s)).testBit m
      · rw [if_pos hb, if_pos hb, if_pos rfl]
        exact ⟨_, rfl, rfl⟩
      · rw [if_neg hb, if_neg hb, if_neg (by decide)]
        exact ⟨_, rfl, rfl⟩
    · rw [q1, q2, t1, t2, Option.bind_some, Option.bind_some, if_neg h10, if_neg h10, if_pos h00, if_pos h00]
      exact ⟨_, rfl, rfl⟩
  · rw [q1, q2, Option.bind_some, if_pos h00, if_pos h00]
    exact ⟨_, rfl, rfl⟩
theorem tally_ok (h : RS b si sa v) (a1 a2 : Int32) : ∃ x, F_X7_tally si sa a1 a2 = some x ∧ F_X8_tally v a1 a2 = some x := by
  obtain ⟨e13, h13⟩ := h.2.2.1.2.2.2.2.1
  have e8 : si 8 = nI (tN v 13) := by rw [← e13]; exact h.2.1.2.2.2.2.2.2.2
  have r13 : tv_rd 1100 v 13 = some (nI (tN v 13)) := by rw [← e13]; exact rd_n (k := 13) (by omega) (by omega)
  unfold F_X7_tally F_X8_tally F_X4_votesFor
  rw [r13, Option.bind_some, e8]
  generalize tN v 13 = R at h13 ⊢
  by_cases c0 : a1 < 0
  · rw [if_pos c0, in_0 (Or.inl c0), if_pos h00]
    exact ⟨_, rfl, rfl⟩
  · rw [if_neg c0]
    by_cases c1 : nI R ≤ a1
    · have c2 : nI R - 1 < a1 := by
        rw [toI_le, nI_toInt (by omega)] at c1
        cases R with
        | zero =>
          rw [toI_lt, show (nI 0 - 1).toInt = -1 from by decide]
          omega
        | succ R =>
          rw [nI_pred, toI_lt, nI_toInt (by omega)]
          omega
      rw [if_pos c1, in_0 (Or.inr c2), if_pos h00]
      exact ⟨_, rfl, rfl⟩
    · obtain ⟨r, hr, rfl⟩ : ∃ r, r < R ∧ a1 = nI r := by
        rcases pk_ix a1 (n := R) (by omega) with q | q | q
        · exact absurd q c0
        · exact absurd q c1
        · exact q
      have c2 : ¬ nI R - 1 < nI r := by
        cases R with
        | zero => omega
        | succ R => rw [nI_pred]; exact nI_nlt (by omega) (by omega)
      rw [if_neg c1, in_1 c0 c2, if_neg h10]
      rcases mem_ok h a2 with ⟨m, hm0, hm, rfl, q1, q2⟩ | ⟨q1, q2⟩
      · rw [q1, q2, Option.bind_some, if_neg h10, if_neg h10, nl 10, pk_mul, nI_add, rd_n (by omega) (by omega), h.2.2.2.2.2.2 _ (by omega), tallyAt_n, rd1 (by omega), show 980 + 10 * r + m = 980 + (r * 10 + m) by omega]
        exact ⟨_, rfl, rfl⟩
      · rw [q1, q2, Option.bind_some, if_pos h00, if_pos h00]
        exact ⟨_, rfl, rfl⟩
theorem ballot_ok (h : RS b si sa v) (a1 a2 : Int32) : ∃ x, F_X7_ballot si sa a1 a2 = some x ∧ F_X8_ballot v a1 a2 = some x := by
  unfold F_X7_ballot F_X8_ballot F_X2_choice
  rcases mem_ok h a1 with ⟨m, hm0, hm, rfl, q1, q2⟩ | ⟨q1, q2⟩
  · obtain ⟨_, _, _, _, _, ⟨p4, p5⟩, _, _, p6, _⟩ := RS_m h hm
    rw [q1, q2, Option.bind_some, if_neg h10, if_neg h10, show si 6 = v 11 from h.2.1.2.2.2.2.2.1, show tv_rd 1100 v 11 = some (v 11) from rd_n (k := 11) (by omega) (by omega), Option.bind_some]
    by_cases c0 : 0 ≤ a2
    · rw [if_pos c0, if_pos c0]
      by_cases c1 : v 11 = 0
      · rw [if_pos c1, if_pos c1]
        exact ⟨_, rfl, rfl⟩
      · rw [if_neg c1, if_neg c1, at4, rd1 (by omega), Option.bind_some, p4]
        rcases pk_ix a2 (n := 10) (by omega) with q | q | ⟨k, hk, rfl⟩
        · exact absurd (toI_le.mp c0) (by rw [toI_lt] at q; omega)
        · have q' : ¬ a2 < 10 := by
            rw [toI_lt]
            rw [toI_le, nI_toInt (by omega)] at q
            rw [show ((10 : Int32)).toInt = 10 from by decide]
            omega
          have q2 : nI (tN v (24 + 15 * m)) ≤ a2 := by
            rw [toI_le, nI_toInt (by omega)] at q
            rw [toI_le, nI_toInt (by omega)]
            omega
          rw [if_neg q', if_pos q2]
          exact ⟨_, rfl, rfl⟩
        · rw [if_pos (show nI k < 10 from nI_lt (b := 10) hk (by omega)), nl 10, pk_mul, nI_add, rd_n (by omega) (by omega), show m * 10 + k = 10 * m + k by omega, p6 k hk, nl 5, nI_add, at_n]
          by_cases c2 : k < tN v (24 + 15 * m)
          · rw [if_pos c2, if_neg (nI_ge c2 (by omega)), rd1 (by omega), show 20 + 15 * m + (5 + k) = 25 + 15 * m + k by omega]
            exact ⟨_, rfl, rfl⟩
          · rw [if_neg c2, if_pos (nI_le (by omega) (by omega))]
            exact ⟨_, rfl, rfl⟩
    · rw [if_neg c0, if_neg c0]
      exact ⟨_, rfl, rfl⟩
  · rw [q1, q2, Option.bind_some, if_pos h00, if_pos h00]
    exact ⟨_, rfl, rfl⟩
theorem event_ok (hb : b < 2 ^ 30) (h : RS b si sa v) (a1 a2 : Int32) : ∃ x, F_X7_event si sa a1 a2 = some x ∧ F_X8_event v a1 a2 = some x := by
  obtain ⟨e12, h12⟩ := h.2.2.1.2.2.2.1
  have e10 : si 10 = nI (tN v 12) := by rw [← e12]; exact h.2.1.2.2.2.2.2.2.1
  have r12 : tv_rd 1100 v 12 = some (nI (tN v 12)) := by rw [← e12]; exact rd_n (k := 12) (by omega) (by omega)
  have hev := h.2.2.2.2.2.1
  unfold F_X7_event F_X8_event F_X1_number
  rw [e10, r12, Option.bind_some, Option.bind_some]
  generalize tN v 12 = E at h12 ⊢
  by_cases c0 : a1 < 0
  · rw [if_pos c0, if_pos c0]
    exact ⟨_, rfl, rfl⟩
  · rw [if_neg c0, if_neg c0]
    rcases small a2 3 (by omega) (by omega) with ⟨k, hk, rfl, z1, z2, z3⟩ | ⟨z1, z2⟩
    · rw [if_neg z2, show (3 : Int32) = nI 3 from rfl, if_pos z3, show (2 : Int32) = nI (3 - 1) from rfl, z1, if_neg h10]
      rcases pk_ix a1 (n := 20) (by omega) with q | q | ⟨i, hi, rfl⟩
      · exact absurd q c0
      · have q' : ¬ a1 < 20 := by
          rw [toI_lt]
          rw [toI_le, nI_toInt (by omega)] at q
          rw [show ((20 : Int32)).toInt = 20 from by decide]
          omega
        rw [if_neg q', if_pos (show (20 : Int32) ≤ a1 from q)]
        by_cases c1 : nI E ≤ a1
        · rw [if_pos c1]
          exact ⟨_, rfl, rfl⟩
        · rw [if_neg c1]
          exact ⟨_, rfl, rfl⟩
      · rw [if_pos (show nI i < 20 from nI_lt (b := 20) hi (by omega)), if_neg (show ¬ (20 : Int32) ≤ nI i from nI_ge (b := 20) hi (by omega))]
        by_cases c1 : nI E ≤ nI i
        · rw [if_pos c1, if_pos c1]
          exact ⟨_, rfl, rfl⟩
        · have hlt : i < E := by
            rw [nI_leI (by omega) (by omega)] at c1
            omega
          have e1 : nI E - 1 - nI i = nI (E - 1 - i) := by
            rw [show (1 : Int32) = nI 1 from rfl, pk_sub (by omega), pk_sub (by omega)]
          have e2 : nI (E - 1 - i) - nI (E - 1 - i) / 20 * 20 = nI ((E - 1 - i) % 20) := pk_rem (d := 20) (by omega) (by omega) (by omega)
          have h20 : (E - 1 - i) % 20 < 20 := Nat.mod_lt _ (by omega)
          obtain ⟨v1, v2, v3⟩ := hev _ h20
          rw [if_neg c1, if_neg c1, e1, e2, rd_n (by omega) (by omega), rd_n (by omega) (by omega), rd_n (by omega) (by omega), v1, v2, v3, show (910 : Int32) = nI 910 from rfl, show (nI 3 : Int32) * nI ((E - 1 - i) % 20) = nI (3 * ((E - 1 - i) % 20)) from pk_mul _ _, nI_add, nI_add, rd1 (by omega)]
          rcases (show k = 0 ∨ k = 1 ∨ k = 2 by omega) with e | e | e <;> subst e
          · rw [if_pos (by decide)]
            exact ⟨_, rfl, rfl⟩
          · rw [if_neg (by decide), if_pos (by decide), show 910 + 3 * ((E - 1 - i) % 20) + 1 = 911 + 3 * ((E - 1 - i) % 20) by omega]
            exact ⟨_, rfl, rfl⟩
          · rw [if_neg (by decide), if_neg (by decide), show 910 + 3 * ((E - 1 - i) % 20) + 2 = 912 + 3 * ((E - 1 - i) % 20) by omega]
            exact ⟨_, rfl, rfl⟩
    · rw [show (2 : Int32) = nI (3 - 1) from rfl, z1, if_pos h00]
      rcases z2 with z2 | ⟨z2, z3⟩
      · rw [if_pos z2]
        exact ⟨_, rfl, rfl⟩
      · rw [if_neg z2, show (3 : Int32) = nI 3 from rfl, if_neg z3]
        exact ⟨_, rfl, rfl⟩
/-! fingerprint -/
theorem fp_L89 (h : RS b si sa v) {s : Nat} (hs : s < tN v 9) : ∀ (k i n : Nat) (x : Int64), i + k = 8 → k < n → ∃ y, F_X7_fingerprint_L89 sa (nI (s + 1)) n x (nI i) = some y ∧ F_X8_fingerprint_L83 v (nI (s + 1)) n x (nI i) = some y
  | 0, i, n + 1, x, hi, hn => by
    rw [F_X7_fingerprint_L89, F_X8_fingerprint_L83, if_pos (show (8 : Int32) ≤ nI i from nI_le (a := 8) (by omega) (by omega)), if_pos (show (8 : Int32) ≤ nI i from nI_le (a := 8) (by omega) (by omega))]
    exact ⟨_, rfl, rfl⟩
  | k + 1, i, n + 1, x, hi, hn => by
    obtain ⟨z, z1, z2⟩ := num_ok h hs (k := i) (by omega)
    rw [F_X7_fingerprint_L89, F_X8_fingerprint_L83, if_neg (show ¬ (8 : Int32) ≤ nI i from nI_ge (b := 8) (by omega) (by omega)), if_neg (show ¬ (8 : Int32) ≤ nI i from nI_ge (b := 8) (by omega) (by omega)), z1, z2, Option.bind_some, Option.bind_some, show nI i + 1 = nI (i + 1) from nI_1 i]
    exact fp_L89 h hs k (i + 1) n _ (by omega) (by omega)
  | k, i, 0, x, hi, hn => by omega
theorem fp_L72 (h : RS b si sa v) : ∀ (k i n : Nat) (x : Int64), i + k = tN v 9 → k < n → ∃ y, F_X7_fingerprint_L72 si sa n x (nI (i + 1)) = some y ∧ F_X8_fingerprint_L69 v n x (nI (i + 1)) = some y
  | 0, i, n + 1, x, hi, hn => by
    obtain ⟨eT, hT⟩ := RS_T h
    rw [F_X7_fingerprint_L72, F_X8_fingerprint_L69, show si 9 = nI (tN v 9) from by rw [← eT]; exact h.2.1.2.2.2.1, show tv_rd 1100 v 9 = some (nI (tN v 9)) from by rw [← eT]; exact rd_n (k := 9) (by omega) (by omega), Option.bind_some, if_pos (nI_lt (by omega) (by omega)), if_pos (nI_lt (by omega) (by omega))]
    exact ⟨_, rfl, rfl⟩
  | k + 1, i, n + 1, x, hi, hn => by
    obtain ⟨eT, hT⟩ := RS_T h
    obtain ⟨z, z1, z2⟩ := fp_L89 h (s := i) (by omega) 8 0 tv_fu x (by omega) (by rw [tv_fu_eq]; omega)
    rw [nI_0] at z1 z2
    rw [F_X7_fingerprint_L72, F_X8_fingerprint_L69, show si 9 = nI (tN v 9) from by rw [← eT]; exact h.2.1.2.2.2.1, show tv_rd 1100 v 9 = some (nI (tN v 9)) from by rw [← eT]; exact rd_n (k := 9) (by omega) (by omega), Option.bind_some, if_neg (nI_nlt (by omega) (by omega)), if_neg (nI_nlt (by omega) (by omega)), z1, z2, Option.bind_some, Option.bind_some, show nI (i + 1) + 1 = nI (i + 1 + 1) from nI_1 _]
    exact fp_L72 h k (i + 1) n _ (by omega) (by omega)
  | k, i, 0, x, hi, hn => by omega
theorem fp_L154 (h : RS b si sa v) {m : Nat} (hm : m < 10) : ∀ (k i n : Nat) (x : Int64), i + k = 6 → k < n → ∃ y, F_X7_fingerprint_L154 si sa (nI m) n x (nI i) = some y ∧ F_X8_fingerprint_L148 v (nI m) n x (nI i) = some y
  | 0, i, n + 1, x, hi, hn => by
    rw [F_X7_fingerprint_L154, F_X8_fingerprint_L148, if_pos (show (6 : Int32) ≤ nI i from nI_le (a := 6) (by omega) (by omega)), if_pos (show (6 : Int32) ≤ nI i from nI_le (a := 6) (by omega) (by omega))]
    exact ⟨_, rfl, rfl⟩
  | k + 1, i, n + 1, x, hi, hn => by
    obtain ⟨z, z1, z2⟩ := told_ok h hm (k := i) (by omega)
    rw [F_X7_fingerprint_L154, F_X8_fingerprint_L148, if_neg (show ¬ (6 : Int32) ≤ nI i from nI_ge (b := 6) (by omega) (by omega)), if_neg (show ¬ (6 : Int32) ≤ nI i from nI_ge (b := 6) (by omega) (by omega)), z1, z2, Option.bind_some, Option.bind_some, show nI i + 1 = nI (i + 1) from nI_1 i]
    exact fp_L154 h hm k (i + 1) n _ (by omega) (by omega)
  | k, i, 0, x, hi, hn => by omega
theorem fp_L140 (h : RS b si sa v) : ∀ (k i n : Nat) (x : Int64), i + k = tN v 10 → k < n → ∃ y, F_X7_fingerprint_L140 si sa n x (nI i) = some y ∧ F_X8_fingerprint_L134 v n x (nI i) = some y
  | 0, i, n + 1, x, hi, hn => by
    obtain ⟨eT, hT⟩ := RS_M h
    rw [F_X7_fingerprint_L140, F_X8_fingerprint_L134, show si 1 = nI (tN v 10) from by rw [← eT]; exact h.2.1.2.2.2.2.1, show tv_rd 1100 v 10 = some (nI (tN v 10)) from by rw [← eT]; exact rd_n (k := 10) (by omega) (by omega), Option.bind_some, if_pos (nI_le (by omega) (by omega)), if_pos (nI_le (by omega) (by omega))]
    exact ⟨_, rfl, rfl⟩
  | k + 1, i, n + 1, x, hi, hn => by
    obtain ⟨eT, hT⟩ := RS_M h
    obtain ⟨z, z1, z2⟩ := fp_L154 h (m := i) (by omega) 6 0 tv_fu x (by omega) (by rw [tv_fu_eq]; omega)
    rw [nI_0] at z1 z2
    rw [F_X7_fingerprint_L140, F_X8_fingerprint_L134, show si 1 = nI (tN v 10) from by rw [← eT]; exact h.2.1.2.2.2.2.1, show tv_rd 1100 v 10 = some (nI (tN v 10)) from by rw [← eT]; exact rd_n (k := 10) (by omega) (by omega), Option.bind_some, if_neg (nI_ge (by omega) (by omega)), if_neg (nI_ge (by omega) (by omega)), z1, z2, Option.bind_some, Option.bind_some, show nI i + 1 = nI (i + 1) from nI_1 _]
    exact fp_L140 h k (i + 1) n _ (by omega) (by omega)
  | k, i, 0, x, hi, hn => by omega
theorem fp_ok (h : RS b si sa v) : ∃ y, F_X7_fingerprint si sa = some y ∧ F_X8_fingerprint v = some y := by
  obtain ⟨a1, a2, a3, a4, a5, a6, a7, a8⟩ := h.2.1
  have hT := (RS_T h).2
  have hM := (RS_M h).2
  unfold F_X7_fingerprint F_X8_fingerprint
  rw [show tv_rd 1100 v 6 = some (v 6) from rd_n (k := 6) (by omega) (by omega), show tv_rd 1100 v 7 = some (v 7) from rd_n (k := 7) (by omega) (by omega), show tv_rd 1100 v 8 = some (v 8) from rd_n (k := 8) (by omega) (by omega), show tv_rd 1100 v 9 = some (v 9) from rd_n (k := 9) (by omega) (by omega), show tv_rd 1100 v 12 = some (v 12) from rd_n (k := 12) (by omega) (by omega), show tv_rd 1100 v 10 = some (v 10) from rd_n (k := 10) (by omega) (by omega), Option.bind_some, Option.bind_some, Option.bind_some, Option.bind_some, Option.bind_some, a1, a2, a3, a4, a5, a7]
  have e : F_X7_mixed (F_X7_mixed (F_X7_mixed (F_X7_mixed (F_X7_mixed 83 (v 6)) (v 7)) (v 8)) (v 9)) (v 12) = 31 * (31 * (31 * (31 * (2573 + Int32.toInt64 (v 6)) + Int32.toInt64 (v 7)) + Int32.toInt64 (v 8)) + Int32.toInt64 (v 9)) + Int32.toInt64 (v 12) := by
    unfold F_X7_mixed
    rw [show (31 : Int64) * 83 = 2573 from by decide]
  rw [e]
  obtain ⟨y, y1, y2⟩ := fp_L72 h (tN v 9) 0 tv_fu (31 * (31 * (31 * (31 * (2573 + Int32.toInt64 (v 6)) + Int32.toInt64 (v 7)) + Int32.toInt64 (v 8)) + Int32.toInt64 (v 9)) + Int32.toInt64 (v 12)) (by omega) (by rw [tv_fu_eq]; omega)
  rw [show nI (0 + 1) = 1 from rfl] at y1 y2
  rw [y1, y2, Option.bind_some, Option.bind_some, Option.bind_some]
  obtain ⟨z, z1, z2⟩ := fp_L140 h (tN v 10) 0 tv_fu (31 * y + Int32.toInt64 (v 10)) (by omega) (by rw [tv_fu_eq]; omega)
  rw [nI_0] at z1 z2
  rw [show F_X7_mixed y (v 10) = 31 * y + Int32.toInt64 (v 10) from rfl, z1, z2]
  exact ⟨_, rfl, rfl⟩
end SH
