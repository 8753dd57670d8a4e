/-! ===== what both sides read alike ===== -/
section RD
variable {b : Nat} {si : Nat → Int32} {sa : Nat → Nat → Int32} {v : Nat → Int32}
theorem RS_T (h : RS b si sa v) : v 9 = nI (tN v 9) ∧ tN v 9 ≤ 40 := h.2.2.1.2.1
theorem RS_M (h : RS b si sa v) : v 10 = nI (tN v 10) ∧ tN v 10 ≤ 10 := h.2.2.1.2.2.1
theorem RS_m (h : RS b si sa v) {m : Nat} (hm : m < 10) : Pm1 sa v m := h.2.2.2.1.1 m hm
theorem RS_t (h : RS b si sa v) {s : Nat} (hs : s < tN v 9) : Pt1 sa v s := h.2.2.2.2.1 s hs
theorem RS_s (h : RS b si sa v) {i : Nat} (hi : i < 6) : sa 0 i = v i := (h.1 i hi).1
theorem mem_ok (h : RS b si sa v) (a : Int32) : (∃ m, m < tN v 10 ∧ m < 10 ∧ a = nI m ∧ F_X5_isMember si a = 1 ∧ F_X8_isMember v a = some 1) ∨ (F_X5_isMember si a = 0 ∧ F_X8_isMember v a = some 0) := by
  obtain ⟨e, hM⟩ := RS_M h
  have e1 : si 1 = nI (tN v 10) := by rw [← e]; exact h.2.1.2.2.2.2.1
  have hrd : tv_rd 1100 v 10 = some (nI (tN v 10)) := by rw [← e]; exact rd_n (k := 10) (by omega) (by omega)
  unfold F_X5_isMember F_X8_isMember F_X8_in
  rw [hrd, Option.bind_some, e1]
  generalize tN v 10 = M at hM ⊢
  rcases pk_ix a (n := M) (by omega) with q | q | ⟨j, hj, rfl⟩
  · right
    simp only [if_pos q]
    exact ⟨trivial, by decide⟩
  · right
    have q0 : ¬ a < 0 := by
      rw [toI_lt]
      rw [toI_le, nI_toInt (by omega)] at q
      rw [show ((0 : Int32)).toInt = 0 from by decide]
      omega
    have q1 : nI M - 1 < a := by
      rw [toI_le, nI_toInt (by omega)] at q
      cases M with
      | zero =>
        rw [toI_lt, show (nI 0 - 1).toInt = -1 from by decide]
        omega
      | succ M =>
        rw [nI_pred, toI_lt, nI_toInt (by omega)]
        omega
    simp only [if_neg q0, if_pos q, if_pos q1]
    exact ⟨trivial, by decide⟩
  · left
    refine ⟨j, hj, by omega, rfl, ?_⟩
    cases M with
    | zero => omega
    | succ M =>
      rw [nI_pred]
      simp only [if_neg (nI_pos (show j < 2 ^ 31 by omega)), if_neg (nI_ge hj (show M + 1 < 2 ^ 31 by omega)), if_neg (nI_nlt (show j ≤ M by omega) (show M < 2 ^ 31 by omega))]
      exact ⟨trivial, by decide⟩
theorem trm_ok (h : RS b si sa v) (a : Int32) : (∃ s, s < tN v 9 ∧ a = nI (s + 1) ∧ F_X6_isTerm si a = 1 ∧ F_X8_isTerm v a = some 1) ∨ (F_X6_isTerm si a = 0 ∧ F_X8_isTerm v a = some 0) := by
  obtain ⟨e, hT⟩ := RS_T h
  have e1 : si 9 = nI (tN v 9) := by rw [← e]; exact h.2.1.2.2.2.1
  have hrd : tv_rd 1100 v 9 = some (nI (tN v 9)) := by rw [← e]; exact rd_n (k := 9) (by omega) (by omega)
  unfold F_X6_isTerm F_X8_isTerm F_X8_in
  rw [hrd, Option.bind_some, e1]
  generalize tN v 9 = T at hT ⊢
  by_cases q : a < 1
  · right
    simp only [if_pos q]
    exact ⟨trivial, by decide⟩
  · by_cases q2 : nI T < a
    · right
      simp only [if_neg q, if_pos q2]
      exact ⟨trivial, by decide⟩
    · left
      simp only [if_neg q, if_neg q2]
      rw [toI_lt, show ((1 : Int32)).toInt = 1 from by decide] at q
      rw [toI_lt, nI_toInt (by omega)] at q2
      refine ⟨a.toInt.toNat - 1, by omega, ?_, trivial, by decide⟩
      rw [toI_eq, nI_toInt (by omega)]
      omega
theorem has_ok {x : Int32} {o m : Nat} (hB : Bm x v o) (hN : isN v (o + 15 * m) 1) (hm : m < 10) : F_X7_has x (nI m) = v (o + 15 * m) := by
  obtain ⟨h1, h2, h3⟩ := hB
  rw [h1, has_n (by omega) hm, h3 m hm]
  obtain ⟨e, hle⟩ := hN
  rcases (show tN v (o + 15 * m) = 0 ∨ tN v (o + 15 * m) = 1 by omega) with z | z
  · rw [e, z]; rfl
  · rw [e, z]; rfl
theorem n1_or {i : Nat} (h : isN v i 1) : v i = 0 ∨ v i = 1 := by
  obtain ⟨e, hle⟩ := h
  rcases (show tN v i = 0 ∨ tN v i = 1 by omega) with z | z
  · left; rw [e, z]; rfl
  · right; rw [e, z]; rfl
theorem n1_iff {i : Nat} (h : isN v i 1) : v i = 1 ↔ tN v i = 1 := by
  obtain ⟨e, hle⟩ := h
  rw [nl 1, e, nI_eq (by omega) (by omega)]
theorem n1_iff0 {i : Nat} (h : isN v i 1) : v i = 0 ↔ tN v i = 0 := by
  obtain ⟨e, hle⟩ := h
  rw [nl 0, e, nI_eq (by omega) (by omega)]
theorem pres_c (h : RS b si sa v) {m : Nat} (hm : m < 10) : F_X7_has (si 2) (nI m) = v (21 + 15 * m) := has_ok h.2.2.2.1.2.1 (RS_m h hm).2.2.1 hm
theorem cand_c (h : RS b si sa v) {m : Nat} (hm : m < 10) : F_X7_has (si 7) (nI m) = v (22 + 15 * m) := has_ok h.2.2.2.1.2.2.1 (RS_m h hm).2.2.2.1 hm
theorem sign_c (h : RS b si sa v) {m : Nat} (hm : m < 10) : F_X7_has (si 3) (nI m) = v (23 + 15 * m) := has_ok h.2.2.2.1.2.2.2 (RS_m h hm).2.2.2.2.1 hm
theorem isPres_c (h : RS b si sa v) {m : Nat} (hm : m < 10) : F_X5_isPresent si (nI m) = some (v (21 + 15 * m)) := by
  unfold F_X5_isPresent
  rw [pres_c h hm, if_neg]
  exact fun z => z (n1_or (RS_m h hm).2.2.1)
theorem isPres_m (h : RS b si sa v) {m : Nat} (hm : m < 10) : F_X8_isPresent v (nI m) = some (v (21 + 15 * m)) := by
  unfold F_X8_isPresent
  rw [at1, rd_n (by omega) (by omega), Option.bind_some]
  rcases n1_or (RS_m h hm).2.2.1 with z | z <;> rw [z] <;> rfl
theorem asN {x : Int32} (h : x = 0 ∨ x = 1) : F_X7_asNumber x = x := by
  rcases h with h | h <;> subst h <;> rfl
/-! grades and scores -/
theorem grades_c (h : RS b si sa v) {s : Nat} (hs : s < tN v 9) : ∀ (k i acc n : Nat), i + k = 10 → k < n → F_X6_countGrades_L4 sa (nI (s + 1)) n (nI acc) (nI i) = some (nI (acc + sg (bN (tN v (177 + 18 * s))) i k))
  | 0, i, acc, n + 1, hi, hn => by
    rw [F_X6_countGrades_L4, if_pos (by rw [nl 10]; exact nI_le (by omega) (by omega))]
    rfl
  | k + 1, i, acc, n + 1, hi, hn => by
    have hT := (RS_T h).2
    have ih := fun a => grades_c h hs k (i + 1) a n (by omega) (by omega)
    have ht := (RS_t h hs).2.2.2.2.2.2.2.2 i (by omega)
    rw [F_X6_countGrades_L4, if_neg (by rw [nl 10]; exact nI_ge (by omega) (by omega))]
    unfold F_X6_givenPoints
    rw [nl 10, pk_mul, nI_add, rd_n (by omega) (by omega), Option.bind_some, Option.bind_some, nl 1, nI_add, nI_add, show (s + 1) * 10 + i = 10 * (s + 1) + i by omega, ht.2, sg, bN]
    by_cases hb : (tN v (177 + 18 * s)).testBit i
    · rw [if_pos hb, if_pos hb, if_neg (by rw [ht.1.1]; exact nI_ne9 (by have := ht.1.2; omega)), ih]
      congr 2
      omega
    · rw [if_neg hb, if_neg hb, if_pos rfl, ih]
      congr 2
      omega
  | k, i, acc, 0, hi, hn => by omega
theorem grades_m (h : RS b si sa v) {s : Nat} (hs : s < tN v 9) : ∀ (k i acc n : Nat), i + k = 10 → k < n → F_X8_grades_L4 v (nI (s + 1)) n (nI acc) (nI i) = some (nI (acc + sg (bN (tN v (177 + 18 * s))) i k))
  | 0, i, acc, n + 1, hi, hn => by
    rw [F_X8_grades_L4, if_pos (by rw [nl 10]; exact nI_le (by omega) (by omega))]
    rfl
  | k + 1, i, acc, n + 1, hi, hn => by
    have hT := (RS_T h).2
    have ih := fun a => grades_m h hs k (i + 1) a n (by omega) (by omega)
    have hg := (RS_t h hs).2.2.2.2.2.2.2.1
    have hg2 := hg.2
    rw [F_X8_grades_L4, if_neg (by rw [nl 10]; exact nI_ge (by omega) (by omega)), of7, rd_n (by omega) (by omega), Option.bind_some, hg.1, shr_n (by omega) (by omega), nl 1, nI_add, sg, bN]
    by_cases hb : (tN v (177 + 18 * s)).testBit i
    · rw [if_pos hb, if_pos hb, nI_add, ih]
      congr 2
      omega
    · rw [if_neg hb, if_neg hb, nl 0, nI_add, ih]
      congr 2
      omega
  | k, i, acc, 0, hi, hn => by omega
theorem sg10 (n : Nat) : sg (bN n) 0 10 ≤ 10 := by
  have := sg_le (bN n) 1 10 0 (fun j _ _ => by unfold bN; split <;> omega)
  omega
theorem cg_c (h : RS b si sa v) {s : Nat} (hs : s < tN v 9) : F_X6_countGrades sa (nI (s + 1)) = some (nI (sg (bN (tN v (177 + 18 * s))) 0 10)) := by
  unfold F_X6_countGrades
  rw [show (0 : Int32) = nI 0 from rfl, grades_c h hs 10 0 0 tv_fu (by omega) (by rw [tv_fu_eq]; omega), Option.bind_some, Nat.zero_add]
theorem cg_m (h : RS b si sa v) {s : Nat} (hs : s < tN v 9) : F_X8_grades v (nI (s + 1)) = some (nI (sg (bN (tN v (177 + 18 * s))) 0 10)) := by
  unfold F_X8_grades
  rw [show (0 : Int32) = nI 0 from rfl, grades_m h hs 10 0 0 tv_fu (by omega) (by rw [tv_fu_eq]; omega), Option.bind_some, Nat.zero_add]
def pN (v : Nat → Int32) (s m : Nat) : Nat := if (tN v (177 + 18 * s)).testBit m then tN v (178 + 18 * s + m) else 0
theorem score_L7 (h : RS b si sa v) {s : Nat} (hs : s < tN v 9) : ∀ (k i a c n : Nat), i + k = 10 → k < n → F_X6_score_L7 sa (nI (s + 1)) n (nI a) (nI c) (nI i) = some (nI (a + sg (pN v s) i k), nI (c + sg (bN (tN v (177 + 18 * s))) i k))
  | 0, i, a, c, n + 1, hi, hn => by
    rw [F_X6_score_L7, if_pos (by rw [nl 10]; exact nI_le (by omega) (by omega))]
    rfl
  | k + 1, i, a, c, n + 1, hi, hn => by
    have hT := (RS_T h).2
    have ih := fun a c => score_L7 h hs k (i + 1) a c n (by omega) (by omega)
    have ht := (RS_t h hs).2.2.2.2.2.2.2.2 i (by omega)
    rw [F_X6_score_L7, if_neg (by rw [nl 10]; exact nI_ge (by omega) (by omega)), nl 10, pk_mul, nI_add, rd_n (by omega) (by omega), Option.bind_some, nl 1, nI_add, nI_add, show (s + 1) * 10 + i = 10 * (s + 1) + i by omega, ht.2, sg, sg, pN, bN]
    by_cases hb : (tN v (177 + 18 * s)).testBit i
    · rw [if_pos hb, if_pos hb, if_pos hb, if_neg (by rw [ht.1.1]; exact nI_ne9 (by have := ht.1.2; omega))]
      conv => lhs; rw [ht.1.1, nI_add]
      rw [ih]
      simp only [Nat.add_assoc]
    · rw [if_neg hb, if_neg hb, if_neg hb, if_pos rfl, ih]
      rw [Nat.zero_add, Nat.zero_add]
  | k, i, a, c, 0, hi, hn => by omega
theorem score_L11 (h : RS b si sa v) {s : Nat} (hs : s < tN v 9) (z : Int32) : ∀ (k i a n : Nat), i + k = 10 → k < n → F_X8_scoreOf_L11 v (nI (s + 1)) z n (nI a) (nI i) = some (nI (a + sg (pN v s) i k))
  | 0, i, a, n + 1, hi, hn => by
    rw [F_X8_scoreOf_L11, if_pos (by rw [nl 10]; exact nI_le (by omega) (by omega))]
    rfl
  | k + 1, i, a, n + 1, hi, hn => by
    have hT := (RS_T h).2
    have ih := fun a => score_L11 h hs z k (i + 1) a n (by omega) (by omega)
    have hg := (RS_t h hs).2.2.2.2.2.2.2.1
    have hg2 := hg.2
    have ht := (RS_t h hs).2.2.2.2.2.2.2.2 i (by omega)
    rw [F_X8_scoreOf_L11, if_neg (by rw [nl 10]; exact nI_ge (by omega) (by omega)), of7, rd_n (by omega) (by omega), Option.bind_some]
    have e : (v (177 + 18 * s) >>> (nI i &&& 31)) &&& 1 = if (tN v (177 + 18 * s)).testBit i then 1 else 0 := by
      conv => lhs; rw [hg.1]
      exact shr_n (by omega) (by omega)
    rw [e, nl 8, nI_add, of_n, sg, pN]
    by_cases hb : (tN v (177 + 18 * s)).testBit i
    · rw [if_pos hb, if_pos hb, if_pos rfl, rd_n (by omega) (by omega), Option.bind_some, show 170 + 18 * s + (8 + i) = 178 + 18 * s + i by omega]
      conv => lhs; rw [ht.1.1, nI_add, nl 1, nI_add]
      rw [ih, Nat.add_assoc]
    · rw [if_neg hb, if_neg hb, if_neg (by decide), nl 0, nl 1, nI_add, nI_add, ih, Nat.zero_add, Nat.add_zero]
  | k, i, a, 0, hi, hn => by omega
theorem score_ok (h : RS b si sa v) {s : Nat} (hs : s < tN v 9) : ∃ r, r ≤ 100 ∧ F_X6_score sa (nI (s + 1)) = some (nI r) ∧ F_X8_scoreOf v (nI (s + 1)) = some (nI r) := by
  have hT := (RS_T h).2
  obtain ⟨_, _, _, _, ⟨t1, t2, t3⟩, ⟨t4, t5, t5b⟩, _, _, _⟩ := RS_t h hs
  have h10 := sg10 (tN v (177 + 18 * s))
  have hP : sg (pN v s) 0 10 ≤ 100 := by
    have := sg_le (pN v s) 10 10 0 (fun j _ _ => by
      unfold pN
      split
      · exact ((RS_t h hs).2.2.2.2.2.2.2.2 j (by omega)).1.2
      · omega)
    omega
  unfold F_X6_score F_X8_scoreOf
  have q1 : F_X6_score_L7 sa (nI (s + 1)) tv_fu 0 0 0 = _ := score_L7 h hs 10 0 0 0 tv_fu (by omega) (by rw [tv_fu_eq]; omega)
  have q2 : ∀ z, F_X8_scoreOf_L11 v (nI (s + 1)) z tv_fu 0 0 = _ := fun z => score_L11 h hs z 10 0 0 tv_fu (by omega) (by rw [tv_fu_eq]; omega)
  rw [cg_m h hs, Option.bind_some, q1, q2, Option.bind_some, Option.bind_some, Nat.zero_add, Nat.zero_add]
  generalize sg (bN (tN v (177 + 18 * s))) 0 10 = c at h10 ⊢
  generalize sg (pN v s) 0 10 = S at hP ⊢
  have hg : ∃ x, x ≤ 1000 ∧ (if nI c ≤ 0 then some (50 : Int32) else if nI c = 0 then none else some (10 * nI S / nI c)) = some (nI x) ∧ (if nI c = 0 then some (50 : Int32) else if nI c = 0 then none else some (10 * nI S / nI c)) = some (nI x) := by
    cases c with
    | zero => exact ⟨50, by omega, rfl, rfl⟩
    | succ c =>
      refine ⟨10 * S / (c + 1), ?_, ?_, ?_⟩
      · exact Nat.le_trans (Nat.div_le_self _ _) (by omega)
      · rw [if_neg (nI_nle (by omega) (by omega)), if_neg (nI_ne0 (by omega) (by omega)), nl 10, pk_mul, pk_div (by omega) (by omega) (by omega)]
      · rw [if_neg (nI_ne0 (by omega) (by omega)), if_neg (nI_ne0 (by omega) (by omega)), nl 10, pk_mul, pk_div (by omega) (by omega) (by omega)]
  obtain ⟨x, hx, g1, g2⟩ := hg
  dsimp only
  rw [g1, g2, Option.bind_some, Option.bind_some, rd_n (by omega) (by omega), rd_n (by omega) (by omega), of4, of5, rd_n (by omega) (by omega), rd_n (by omega) (by omega), t1, t4]
  simp only [Option.bind_some]
  have k5 : (5 * v (174 + 18 * s)).toInt = 5 * (v (174 + 18 * s)).toInt := toI_mul (a := 5) (by rw [show ((5 : Int32)).toInt = 5 from by decide]; omega) (by rw [show ((5 : Int32)).toInt = 5 from by decide]; omega)
  have k25 : (25 * v (175 + 18 * s)).toInt = 25 * (tN v (175 + 18 * s) : Int) := by
    rw [t5, nl 25, pk_mul, nI_toInt (by omega)]
    omega
  have ka : (nI x + 5 * v (174 + 18 * s)).toInt = x + 5 * (v (174 + 18 * s)).toInt := by
    rw [toI_add (by rw [k5, nI_toInt (by omega)]; omega) (by rw [k5, nI_toInt (by omega)]; omega), k5, nI_toInt (by omega)]
  have kb : (nI x + 5 * v (174 + 18 * s) - 25 * v (175 + 18 * s)).toInt = x + 5 * (v (174 + 18 * s)).toInt - 25 * (tN v (175 + 18 * s) : Int) := by
    rw [toI_sub (by rw [ka, k25]; omega) (by rw [ka, k25]; omega), ka, k25]
  generalize nI x + 5 * v (174 + 18 * s) - 25 * v (175 + 18 * s) = y at kb ⊢
  by_cases q : (0 : Int32) ≤ y
  · simp only [if_pos q]
    by_cases q2 : y ≤ 100
    · simp only [if_pos q2]
      rw [toI_le, show ((0 : Int32)).toInt = 0 from by decide] at q
      rw [toI_le, show ((100 : Int32)).toInt = 100 from by decide] at q2
      exact ⟨y.toInt.toNat, by omega, by rw [← nn_of q], by rw [← nn_of q]⟩
    · simp only [if_neg q2]
      exact ⟨100, by omega, rfl, rfl⟩
  · simp only [if_neg q]
    exact ⟨0, by omega, rfl, rfl⟩
/-! reputation, terms led -/
theorem rep_L (h : RS b si sa v) (a : Int32) : ∀ (k n S C : Nat), k ≤ tN v 9 → C + k ≤ 40 → S ≤ 100 * C → k < n → ∃ S' C', S' ≤ 100 * C' ∧ C' ≤ 40 ∧ F_X6_reputation_L11 sa a (v 5) n (nI S) (nI C) (nI k) = some (nI S', nI C') ∧ F_X8_reputation_L13 v a n (nI C) (nI S) (nI k) = some (nI C', nI S')
  | 0, n + 1, S, C, hk, hC, hS, hn => by
    refine ⟨S, C, hS, by omega, ?_, ?_⟩
    · rw [F_X6_reputation_L11, if_pos (by decide)]
    · rw [F_X8_reputation_L13, if_pos (by decide)]
  | k + 1, n + 1, S, C, hk, hC, hS, hn => by
    have hT := (RS_T h).2
    have ih := fun S C h1 h2 => rep_L h a k n S C (by omega) h1 h2 (by omega)
    have h1 : ¬ nI (k + 1) < 1 := by rw [nl 1]; exact nI_nlt (by omega) (by omega)
    rw [F_X6_reputation_L11, F_X8_reputation_L13, if_neg h1, if_neg h1, show tv_rd 1100 v 5 = some (v 5) from rd_n (k := 5) (by omega) (by omega), Option.bind_some]
    by_cases hm : v 5 ≤ nI C
    · rw [if_pos hm, if_pos hm]
      exact ⟨S, C, hS, by omega, rfl, rfl⟩
    · rw [if_neg hm, if_neg hm]
      obtain ⟨⟨t1, t2⟩, _, _, ⟨t3, t4⟩, _⟩ := RS_t h (s := k) (by omega)
      rw [rd_n (by omega) (by omega), rd_n (by omega) (by omega), of0, of3, rd_n (by omega) (by omega), rd_n (by omega) (by omega), t1, t3, pk_m1]
      simp only [Option.bind_some]
      by_cases hl : v (170 + 18 * k) = a
      · simp only [if_pos hl]
        by_cases h9 : v (173 + 18 * k) = -9
        · simp only [if_pos h9]
          exact ih S C (by omega) hS
        · simp only [if_neg h9]
          obtain ⟨r, hr, r1, r2⟩ := score_ok h (s := k) (by omega)
          rw [r1, r2, Option.bind_some, Option.bind_some, nI_add, nl 1, nI_add]
          exact ih (S + r) (C + 1) (by omega) (by omega)
      · simp only [if_neg hl]
        exact ih S C (by omega) hS
  | k, 0, S, C, hk, hC, hS, hn => by omega
theorem rep_ok (h : RS b si sa v) (a : Int32) : ∃ r, r ≤ 100 ∧ F_X6_reputation si sa a (v 5) = some (nI r) ∧ F_X8_reputation v a = some (nI r) := by
  obtain ⟨eT, hT⟩ := RS_T h
  obtain ⟨S, C, h1, h2, h3, h4⟩ := rep_L h a (tN v 9) tv_fu 0 0 (Nat.le_refl _) (by omega) (by omega) (by rw [tv_fu_eq]; omega)
  have e9 : si 9 = nI (tN v 9) := by rw [← eT]; exact h.2.1.2.2.2.1
  unfold F_X6_reputation F_X8_reputation
  have q1 : F_X6_reputation_L11 sa a (v 5) tv_fu 0 0 (nI (tN v 9)) = some (nI S, nI C) := by rw [← nI_0]; exact h3
  have q2 : F_X8_reputation_L13 v a tv_fu 0 0 (nI (tN v 9)) = some (nI C, nI S) := by rw [← nI_0]; exact h4
  rw [e9, show tv_rd 1100 v 9 = some (nI (tN v 9)) from by rw [← eT]; exact rd_n (k := 9) (by omega) (by omega), Option.bind_some, q1, q2, Option.bind_some, Option.bind_some]
  dsimp only
  cases C with
  | zero => exact ⟨50, by omega, rfl, rfl⟩
  | succ C =>
    rw [if_neg (nI_nle (by omega) (by omega)), if_neg (nI_ne0 (by omega) (by omega)), if_neg (nI_ne0 (by omega) (by omega)), pk_div (by omega) (by omega) (by omega)]
    exact ⟨S / (C + 1), by rw [Nat.div_le_iff_le_mul_add_pred (by omega)]; omega, rfl, rfl⟩
theorem led_L (h : RS b si sa v) (a : Int32) : ∀ (k i n c : Nat), i + k = tN v 9 → c ≤ i → k < n → ∃ r, r ≤ tN v 9 ∧ F_X6_countLed_L4 si sa a n (nI c) (nI (i + 1)) = some (nI r) ∧ F_X8_led_L4 v a n (nI c) (nI (i + 1)) = some (nI r)
  | 0, i, n + 1, c, hi, hc, hn => by
    obtain ⟨eT, hT⟩ := RS_T h
    have e9 : si 9 = nI (tN v 9) := by rw [← eT]; exact h.2.1.2.2.2.1
    refine ⟨c, by omega, ?_, ?_⟩
    · rw [F_X6_countLed_L4, e9, if_pos (nI_lt (by omega) (by omega))]
    · rw [F_X8_led_L4, show tv_rd 1100 v 9 = some (nI (tN v 9)) from by rw [← eT]; exact rd_n (k := 9) (by omega) (by omega), Option.bind_some, if_pos (nI_lt (by omega) (by omega))]
  | k + 1, i, n + 1, c, hi, hc, hn => by
    obtain ⟨eT, hT⟩ := RS_T h
    have e9 : si 9 = nI (tN v 9) := by rw [← eT]; exact h.2.1.2.2.2.1
    have ih := fun c h1 => led_L h a k (i + 1) n c (by omega) h1 (by omega)
    obtain ⟨⟨t1, t2⟩, _⟩ := RS_t h (s := i) (by omega)
    rw [F_X6_countLed_L4, F_X8_led_L4, e9, show tv_rd 1100 v 9 = some (nI (tN v 9)) from by rw [← eT]; exact rd_n (k := 9) (by omega) (by omega), Option.bind_some, if_neg (nI_nlt (by omega) (by omega)), if_neg (nI_nlt (by omega) (by omega)), rd_n (by omega) (by omega), of0, rd_n (by omega) (by omega), t1]
    simp only [Option.bind_some]
    rw [nl 1, nl 0, nI_add, nI_add, nI_add, Nat.add_zero]
    by_cases hl : v (170 + 18 * i) = a
    · simp only [if_pos hl]
      exact ih (c + 1) (by omega)
    · simp only [if_neg hl]
      exact ih c (by omega)
  | k, i, 0, c, hi, hc, hn => by omega
theorem led_ok (h : RS b si sa v) (a : Int32) : ∃ r, r ≤ 40 ∧ F_X6_countLed si sa a = some (nI r) ∧ F_X8_led v a = some (nI r) := by
  obtain ⟨eT, hT⟩ := RS_T h
  obtain ⟨r, h1, h2, h3⟩ := led_L h a (tN v 9) 0 tv_fu 0 (by omega) (by omega) (by rw [tv_fu_eq]; omega)
  unfold F_X6_countLed F_X8_led
  rw [show (0 : Int32) = nI 0 from rfl, show (1 : Int32) = nI (0 + 1) from rfl, h2, h3]
  exact ⟨r, by omega, rfl, rfl⟩
theorem row_L (h : RS b si sa v) (a : Int32) : ∀ (k n c : Nat), k ≤ tN v 9 → c + k ≤ 40 → k < n → ∃ r, r ≤ 40 ∧ F_X6_countLedInARow_L7 sa a n (nI c) (nI k) = some (nI r) ∧ F_X8_canLead_L10 v a n (nI c) (nI k) = some (nI r)
  | 0, n + 1, c, hk, hc, hn => by
    refine ⟨c, by omega, ?_, ?_⟩
    · rw [F_X6_countLedInARow_L7, if_pos (by decide)]
    · rw [F_X8_canLead_L10, if_pos (by decide)]
  | k + 1, n + 1, c, hk, hc, hn => by
    have hT := (RS_T h).2
    have h1 : ¬ nI (k + 1) < 1 := by rw [nl 1]; exact nI_nlt (by omega) (by omega)
    obtain ⟨⟨t1, t2⟩, _⟩ := RS_t h (s := k) (by omega)
    rw [F_X6_countLedInARow_L7, F_X8_canLead_L10, if_neg h1, if_neg h1, rd_n (by omega) (by omega), of0, rd_n (by omega) (by omega), t1]
    simp only [Option.bind_some]
    by_cases hl : v (170 + 18 * k) = a
    · simp only [if_pos hl]
      rw [pk_m1, nl 1, nI_add]
      exact row_L h a k n (c + 1) (by omega) (by omega) (by omega)
    · simp only [if_neg hl]
      exact ⟨c, by omega, rfl, rfl⟩
  | k, 0, c, hk, hc, hn => by omega
theorem can_c (h : RS b si sa v) {m q r : Nat} (hm : m < 10) (g2 : F_X6_countLed si sa (nI m) = some (nI q)) (h2 : F_X6_countLedInARow si sa (nI m) = some (nI r)) : F_X5_canLead si sa (nI m) = if v (21 + 15 * m) = 0 then some 0 else if v 1 ≤ nI q then some 0 else if v 2 ≤ nI r then some 0 else some 1 := by
  have r1 : tv_rd 6 (sa 0) 1 = some (v 1) := by rw [← RS_s h (i := 1) (by omega)]; exact rd_n (k := 1) (by omega) (by omega)
  have r2 : tv_rd 6 (sa 0) 2 = some (v 2) := by rw [← RS_s h (i := 2) (by omega)]; exact rd_n (k := 2) (by omega) (by omega)
  unfold F_X5_canLead
  rw [isPres_c h hm, Option.bind_some, g2, Option.bind_some, r1, Option.bind_some, h2, Option.bind_some, r2, Option.bind_some]
theorem can_m (h : RS b si sa v) {m q r : Nat} (hm : m < 10) (g3 : F_X8_led v (nI m) = some (nI q)) (h3 : F_X8_canLead_L10 v (nI m) tv_fu 0 (nI (tN v 9)) = some (nI r)) : F_X8_canLead v (nI m) = if v (21 + 15 * m) = 0 then some 0 else if v 1 ≤ nI q then some 0 else if v 2 ≤ nI r then some 0 else some 1 := by
  obtain ⟨eT, hT⟩ := RS_T h
  have r9 : tv_rd 1100 v 9 = some (nI (tN v 9)) := by rw [← eT]; exact rd_n (k := 9) (by omega) (by omega)
  have r1 : tv_rd 1100 v 1 = some (v 1) := rd_n (k := 1) (by omega) (by omega)
  have r2 : tv_rd 1100 v 2 = some (v 2) := rd_n (k := 2) (by omega) (by omega)
  unfold F_X8_canLead
  rw [r9, Option.bind_some, h3, Option.bind_some, isPres_m h hm, Option.bind_some, g3, Option.bind_some, r1, Option.bind_some, r2, Option.bind_some]
theorem can_ok (h : RS b si sa v) {m : Nat} (hm : m < 10) : ∃ x : Int32, (x = 0 ∨ x = 1) ∧ (x = 1 → tN v (21 + 15 * m) = 1) ∧ F_X5_canLead si sa (nI m) = some x ∧ F_X8_canLead v (nI m) = some x := by
  obtain ⟨eT, hT⟩ := RS_T h
  have e9 : si 9 = nI (tN v 9) := by rw [← eT]; exact h.2.1.2.2.2.1
  obtain ⟨r, h1, h2, h3⟩ := row_L h (nI m) (tN v 9) tv_fu 0 (Nat.le_refl _) (by omega) (by rw [tv_fu_eq]; omega)
  obtain ⟨q, g1, g2, g3⟩ := led_ok h (nI m)
  have q1 : F_X6_countLedInARow si sa (nI m) = some (nI r) := by unfold F_X6_countLedInARow; rw [e9, ← nI_0, h2, Option.bind_some]
  have q2 : F_X8_canLead_L10 v (nI m) tv_fu 0 (nI (tN v 9)) = some (nI r) := by rw [← nI_0]; exact h3
  rw [can_c h hm g2 q1, can_m h hm g3 q2]
  have hp := (RS_m h hm).2.2.1
  have hp1 : v (21 + 15 * m) ≠ 0 → tN v (21 + 15 * m) = 1 := fun z => by
    have z2 : ¬ tN v (21 + 15 * m) = 0 := fun e => z ((n1_iff0 hp).mpr e)
    have := hp.2
    omega
  by_cases c1 : v (21 + 15 * m) = 0
  · rw [if_pos c1]
    exact ⟨0, Or.inl rfl, fun z => absurd z (by decide), rfl, rfl⟩
  · rw [if_neg c1]
    by_cases c2 : v 1 ≤ nI q
    · rw [if_pos c2]
      exact ⟨0, Or.inl rfl, fun _ => hp1 c1, rfl, rfl⟩
    · rw [if_neg c2]
      by_cases c3 : v 2 ≤ nI r
      · rw [if_pos c3]
        exact ⟨0, Or.inl rfl, fun _ => hp1 c1, rfl, rfl⟩
      · rw [if_neg c3]
        exact ⟨1, Or.inr rfl, fun _ => hp1 c1, rfl, rfl⟩
end RD
