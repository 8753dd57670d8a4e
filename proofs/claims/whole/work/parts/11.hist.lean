/-! ===== the history: keep and act, undo ===== -/
theorem cp_n {n : Nat} {f f1 : Nat → Int32} (hn : n < 2 ^ 31) : tv_cp n f n f1 0 0 (nI n) = some (va_cpy f f1 0 0 n) := by
  unfold tv_cp
  have h0 : (0 : Int32).toNatClampNeg = 0 := by decide
  have hl : ¬ (0 : Int32) < 0 := by decide
  rw [if_neg]
  · rw [h0, nI_clamp hn]
  · rw [h0, nI_clamp hn]
    intro h
    rcases h with h | h | h | h | h
    · exact hl h
    · exact hl h
    · exact nI_pos hn h
    · omega
    · omega
theorem cp_at {f f1 : Nat → Int32} {n j : Nat} (h : j < n) : va_cpy f f1 0 0 n j = f j := by
  simp [va_cpy, h]
def Jok (j i : Nat) : Prop := j = 0 ∧ i < 6 ∨ j = 1 ∧ i < 10 ∨ (j = 2 ∨ j = 3) ∧ i < 100 ∨ (4 ≤ j ∧ j ≤ 10) ∧ i < 41 ∨ j = 11 ∧ i < 410 ∨ (12 ≤ j ∧ j ≤ 14) ∧ i < 20
theorem copy_ok (si : Nat → Int32) (sa : Nat → Nat → Int32) (dI : Nat → Int32) (dA : Nat → Nat → Int32) (h6 : si 6 = 0 ∨ si 6 = 1) : ∃ p, F_X5_copy si sa dI dA = some p ∧ (∀ k, k < 11 → p.1 k = si k) ∧ ∀ j i, Jok j i → p.2 j i = sa j i := by
  unfold F_X5_copy F_X2_copy F_X4_copy F_X6_copy F_X1_copy
  have hng : ¬ ¬ (si 6 = 0 ∨ si 6 = 1) := fun h => h h6
  simp only [if_neg hng, show (6 : Int32) = nI 6 from rfl, show (10 : Int32) = nI 10 from rfl, show (100 : Int32) = nI 100 from rfl, show (20 : Int32) = nI 20 from rfl, show Int32.ofNat 41 = nI 41 from rfl, show Int32.ofNat 410 = nI 410 from rfl, cp_n (show 6 < 2 ^ 31 by omega), cp_n (show 10 < 2 ^ 31 by omega), cp_n (show 100 < 2 ^ 31 by omega), cp_n (show 20 < 2 ^ 31 by omega), cp_n (show 41 < 2 ^ 31 by omega), cp_n (show 410 < 2 ^ 31 by omega), Option.bind_some]
  refine ⟨_, rfl, fun k hk => ?_, fun j i hj => ?_⟩
  · rcases (show k = 0 ∨ k = 1 ∨ k = 2 ∨ k = 3 ∨ k = 4 ∨ k = 5 ∨ k = 6 ∨ k = 7 ∨ k = 8 ∨ k = 9 ∨ k = 10 by omega) with h | h | h | h | h | h | h | h | h | h | h <;> subst h <;> rfl
  · unfold Jok at hj
    rcases (show j = 0 ∨ j = 1 ∨ j = 2 ∨ j = 3 ∨ j = 4 ∨ j = 5 ∨ j = 6 ∨ j = 7 ∨ j = 8 ∨ j = 9 ∨ j = 10 ∨ j = 11 ∨ j = 12 ∨ j = 13 ∨ j = 14 by omega) with h | h | h | h | h | h | h | h | h | h | h | h | h | h | h <;> subst h <;> exact cp_at (by omega)
theorem keep_ok (si : Nat → Int32) (sa : Nat → Nat → Int32) (hs : Nat → (Nat → Int32) × (Nat → Nat → Int32)) {c q : Nat} (hc : c ≤ 5) (hq : q < 5) (h6 : si 6 = 0 ∨ si 6 = 1) : ∃ p : (Nat → Int32) × (Nat → Nat → Int32), F_X3_keep si sa hs (nI c) (nI q) = some (va_up hs q p, nI (min (c + 1) 5), nI ((q + 1) % 5)) ∧ (∀ k, k < 11 → p.1 k = si k) ∧ ∀ j i, Jok j i → p.2 j i = sa j i := by
  have e1 : (if (5 : Int32) < nI c + 1 then 5 else nI c + 1) = nI (min (c + 1) 5) := by
    have : ∀ c, c ≤ 5 → (if (5 : Int32) < nI c + 1 then 5 else nI c + 1) = nI (min (c + 1) 5) := by decide +kernel
    exact this c hc
  obtain ⟨p, h1, h2, h3⟩ := copy_ok si sa (hs q).1 (hs q).2 h6
  refine ⟨p, ?_, h2, h3⟩
  unfold F_X3_keep
  rcases (show q = 0 ∨ q = 1 ∨ q = 2 ∨ q = 3 ∨ q = 4 by omega) with h | h | h | h | h <;> subst h
  · rw [if_pos (by decide), h1, e1]; rfl
  · rw [if_neg (by decide), if_pos (by decide), h1, e1]; rfl
  · rw [if_neg (by decide), if_neg (by decide), if_pos (by decide), h1, e1]; rfl
  · rw [if_neg (by decide), if_neg (by decide), if_neg (by decide), if_pos (by decide), h1, e1]; rfl
  · rw [if_neg (by decide), if_neg (by decide), if_neg (by decide), if_neg (by decide), if_pos (by decide), h1, e1]; rfl
theorem act_L10 : ∀ (k i n : Nat) (pa : Nat → Int32), i + k = 4400 → k < n → ∃ pb, F_X8_act_L10 n (nI i) pa = some pb ∧ ∀ j, pb j = if i ≤ j ∧ j < 4400 then pa (j + 1100) else pa j
  | 0, i, n + 1, pa, hi, hn => by
    refine ⟨pa, ?_, fun j => ?_⟩
    · rw [F_X8_act_L10, if_pos (by rw [nl 4400]; exact nI_le (by omega) (by omega))]
    · rw [if_neg (by omega)]
  | k + 1, i, n + 1, pa, hi, hn => by
    obtain ⟨pb, h1, h2⟩ := act_L10 k (i + 1) n (upd pa i (pa (i + 1100))) (by omega) (by omega)
    refine ⟨pb, ?_, fun j => ?_⟩
    · rw [F_X8_act_L10, if_neg (by rw [nl 4400]; exact nI_ge (by omega) (by omega)), nl 1100, nI_add, rd_n (by omega) (by omega), Option.bind_some, wr_n (by omega) (by omega), Option.bind_some, nl 1, nI_add]
      exact h1
    · rw [h2 j]
      by_cases e : j = i
      · subst e
        rw [if_neg (by omega), if_pos (by omega), pk_us]
      · by_cases e2 : i + 1 ≤ j ∧ j < 4400
        · rw [if_pos e2, if_pos (by omega), pk_un (by omega)]
        · rw [if_neg e2, if_neg (by omega), pk_un e]
  | k, i, 0, pa, hi, hn => by omega
theorem act_L51 (v : Nat → Int32) {c : Nat} (hc : c ≤ 4) : ∀ (k i n : Nat) (pa : Nat → Int32), i + k = 1100 → k < n → ∃ pb, F_X8_act_L51 v (nI c) n (nI i) pa = some pb ∧ ∀ j, pb j = if 1100 * c + i ≤ j ∧ j < 1100 * c + 1100 then v (j - 1100 * c) else pa j
  | 0, i, n + 1, pa, hi, hn => by
    refine ⟨pa, ?_, fun j => ?_⟩
    · rw [F_X8_act_L51, if_pos (by rw [nl 1100]; exact nI_le (by omega) (by omega))]
    · rw [if_neg (by omega)]
  | k + 1, i, n + 1, pa, hi, hn => by
    obtain ⟨pb, h1, h2⟩ := act_L51 v hc k (i + 1) n (upd pa (1100 * c + i) (v i)) (by omega) (by omega)
    refine ⟨pb, ?_, fun j => ?_⟩
    · rw [F_X8_act_L51, if_neg (by rw [nl 1100]; exact nI_ge (by omega) (by omega)), rd_n (by omega) (by omega), Option.bind_some, nl 1100, pk_mul, nI_add, wr_n (by omega) (by omega), Option.bind_some, nl 1, nI_add]
      exact h1
    · rw [h2 j]
      by_cases e : j = 1100 * c + i
      · subst e
        rw [if_neg (by omega), if_pos (by omega), pk_us]
        congr 1
        omega
      · by_cases e2 : 1100 * c + (i + 1) ≤ j ∧ j < 1100 * c + 1100
        · rw [if_pos e2, if_pos (by omega)]
        · rw [if_neg e2, if_neg (by omega), pk_un e]
  | k, i, 0, pa, hi, hn => by omega
theorem act_ok (v pa : Nat → Int32) {c : Nat} (hc : c ≤ 5) : ∃ pb, F_X8_act v pa (nI c) = some (pb, nI (min (c + 1) 5)) ∧ (∀ i, i < 1100 → pb (1100 * (min (c + 1) 5 - 1) + i) = v i) ∧ (∀ j, j < 1100 * (min (c + 1) 5 - 1) → pb j = pa (j + (if c = 5 then 1100 else 0))) := by
  unfold F_X8_act
  by_cases h5 : c = 5
  · subst h5
    obtain ⟨pa1, g1, g2⟩ := act_L10 4400 0 tv_fu pa (by omega) (by rw [tv_fu_eq]; omega)
    obtain ⟨pb, h1, h2⟩ := act_L51 v (c := 4) (by omega) 1100 0 tv_fu pa1 (by omega) (by rw [tv_fu_eq]; omega)
    refine ⟨pb, ?_, fun i hi => ?_, fun j hj => ?_⟩
    · rw [if_pos (by decide), show (0 : Int32) = nI 0 from rfl, g1]
      simp only [Option.bind_some, show nI 5 - 1 = nI 4 from by decide]
      rw [h1]
      rfl
    · have e : 1100 * (min (5 + 1) 5 - 1) + i - 1100 * 4 = i := by omega
      rw [h2, if_pos (by omega), e]
    · rw [h2, if_neg (by omega), g2, if_pos (by omega), if_pos rfl]
  · obtain ⟨pb, h1, h2⟩ := act_L51 v (c := c) (by omega) 1100 0 tv_fu pa (by omega) (by rw [tv_fu_eq]; omega)
    have hm : min (c + 1) 5 = c + 1 := by omega
    rw [hm]
    refine ⟨pb, ?_, fun i hi => ?_, fun j hj => ?_⟩
    · rw [if_neg (by rw [nl 5, nI_eq (by omega) (by omega)]; exact h5)]
      simp only [Option.bind_some]
      rw [show (0 : Int32) = nI 0 from rfl, h1]
      simp only [Option.bind_some]
      rw [nl 1, nI_add]
    · rw [h2, if_pos (by omega)]
      congr 1
      omega
    · rw [h2, if_neg (by omega), if_neg h5]
      rfl
def RH (b : Nat) (hs : Nat → (Nat → Int32) × (Nat → Nat → Int32)) (hc hn : Int32) (pa : Nat → Int32) (pm : Int32) : Prop := ∃ c q : Nat, c ≤ 5 ∧ q < 5 ∧ hc = nI c ∧ pm = nI c ∧ hn = nI q ∧ ∀ j, j < c → RO b (hs ((q + 4 - j) % 5)).1 (hs ((q + 4 - j) % 5)).2 (fun i => pa (1100 * (c - 1 - j) + i))
theorem RH_mono {b c : Nat} {hs : Nat → (Nat → Int32) × (Nat → Nat → Int32)} {hc hn : Int32} {pa : Nat → Int32} {pm : Int32} (h : RH b hs hc hn pa pm) (hb : b ≤ c) : RH c hs hc hn pa pm := by
  obtain ⟨k, q, h1, h2, h3, h4, h5, h6⟩ := h
  exact ⟨k, q, h1, h2, h3, h4, h5, fun j hj => RO_mono (h6 j hj) hb⟩
theorem RS_open {b : Nat} {si : Nat → Int32} {sa : Nat → Nat → Int32} {v : Nat → Int32} (h : RS b si sa v) : si 6 = 0 ∨ si 6 = 1 := by
  rw [h.2.1.2.2.2.2.2.1]
  rcases h.2.2.1.2.2.2.2.2.1 with z | z
  · exact Or.inl z
  · exact Or.inr z.1
theorem hist_ok {b : Nat} {si : Nat → Int32} {sa : Nat → Nat → Int32} {v : Nat → Int32} {hs : Nat → (Nat → Int32) × (Nat → Nat → Int32)} {hc hn : Int32} {pa : Nat → Int32} {pm : Int32} (h : RO b si sa v) (hh : RH b hs hc hn pa pm) :
    ∃ hs' hc' hn' pa' pm', F_X3_keep si sa hs hc hn = some (hs', hc', hn') ∧ F_X8_act v pa pm = some (pa', pm') ∧ RH b hs' hc' hn' pa' pm' := by
  obtain ⟨c, q, g1, g2, rfl, rfl, rfl, g6⟩ := hh
  obtain ⟨p, k1, k2, k3⟩ := keep_ok si sa hs g1 g2 (RS_open h.1)
  obtain ⟨pb, a1, a2, a3⟩ := act_ok v pa g1
  refine ⟨_, _, _, _, _, k1, a1, min (c + 1) 5, (q + 1) % 5, by omega, by omega, rfl, rfl, rfl, fun j hj => ?_⟩
  by_cases h0 : j = 0
  · subst h0
    have e : ((q + 1) % 5 + 4 - 0) % 5 = q := by omega
    rw [e, up_s]
    refine RO_copy h k2 (fun j i hj => k3 j i hj) (fun i hi => ?_)
    show pb (1100 * (min (c + 1) 5 - 1 - 0) + i) = v i
    rw [Nat.sub_zero]
    exact a2 i hi
  · have e : ((q + 1) % 5 + 4 - j) % 5 = (q + 4 - (j - 1)) % 5 := by omega
    have ne : (q + 4 - (j - 1)) % 5 ≠ q := by omega
    rw [e, up_n ne]
    refine RO_copy (g6 (j - 1) (by omega)) (fun _ _ => rfl) (fun _ _ _ => rfl) (fun i hi => ?_)
    show pb (1100 * (min (c + 1) 5 - 1 - j) + i) = pa (1100 * (c - 1 - (j - 1)) + i)
    have lt : 1100 * (min (c + 1) 5 - 1 - j) + i < 1100 * (min (c + 1) 5 - 1) := by
      have : min (c + 1) 5 - 1 - j + 1 ≤ min (c + 1) 5 - 1 := by omega
      have := Nat.mul_le_mul_left 1100 this
      omega
    rw [a3 _ lt]
    congr 1
    by_cases h5 : c = 5
    · rw [if_pos h5]
      subst h5
      have : 4 - j + 1 = 4 - (j - 1) := by omega
      show 1100 * (4 - j) + i + 1100 = 1100 * (4 - (j - 1)) + i
      omega
    · rw [if_neg h5, show min (c + 1) 5 = c + 1 by omega, show c + 1 - 1 - j = c - 1 - (j - 1) by omega]
      rfl
/-! undo -/
theorem undo_L22 (pa : Nat → Int32) {c : Nat} (hc : c ≤ 4) : ∀ (k i n : Nat) (v : Nat → Int32), i + k = 1100 → k < n → ∃ w, F_X8_undo_L22 pa (nI c) n (nI i) v = some w ∧ ∀ j, w j = if i ≤ j ∧ j < 1100 then pa (1100 * c + j) else v j
  | 0, i, n + 1, v, hi, hn => by
    refine ⟨v, ?_, fun j => ?_⟩
    · rw [F_X8_undo_L22, if_pos (by rw [nl 1100]; exact nI_le (by omega) (by omega))]
    · rw [if_neg (by omega)]
  | k + 1, i, n + 1, v, hi, hn => by
    obtain ⟨w, h1, h2⟩ := undo_L22 pa hc k (i + 1) n (upd v i (pa (1100 * c + i))) (by omega) (by omega)
    refine ⟨w, ?_, fun j => ?_⟩
    · rw [F_X8_undo_L22, if_neg (by rw [nl 1100]; exact nI_ge (by omega) (by omega)), nl 1100, pk_mul, nI_add, rd_n (by omega) (by omega), Option.bind_some, wr_n (by omega) (by omega), Option.bind_some, nl 1, nI_add]
      exact h1
    · rw [h2 j]
      by_cases e : j = i
      · subst e
        rw [if_neg (by omega), if_pos (by omega), pk_us]
      · by_cases e2 : i + 1 ≤ j ∧ j < 1100
        · rw [if_pos e2, if_pos (by omega)]
        · rw [if_neg e2, if_neg (by omega), pk_un e]
  | k, i, 0, v, hi, hn => by omega
theorem restore_ok (si : Nat → Int32) (sa : Nat → Nat → Int32) (hs : Nat → (Nat → Int32) × (Nat → Nat → Int32)) {c q : Nat} (hc : c ≤ 4) (hq : q < 5) (h6 : (hs ((q + 4) % 5)).1 6 = 0 ∨ (hs ((q + 4) % 5)).1 6 = 1) : ∃ p : (Nat → Int32) × (Nat → Nat → Int32), F_X3_restore si sa hs (nI (c + 1)) (nI q) = some (p.1, p.2, nI c, nI ((q + 4) % 5)) ∧ (∀ k, k < 11 → p.1 k = (hs ((q + 4) % 5)).1 k) ∧ ∀ j i, Jok j i → p.2 j i = (hs ((q + 4) % 5)).2 j i := by
  obtain ⟨p, h1, h2, h3⟩ := copy_ok (hs ((q + 4) % 5)).1 (hs ((q + 4) % 5)).2 si sa h6
  refine ⟨p, ?_, h2, h3⟩
  have e1 : nI (c + 1) - 1 = nI c := nI_pred c
  unfold F_X3_restore
  rw [e1]
  rcases (show q = 0 ∨ q = 1 ∨ q = 2 ∨ q = 3 ∨ q = 4 by omega) with h | h | h | h | h <;> subst h
  · rw [if_neg (by decide), if_neg (by decide), if_neg (by decide), if_neg (by decide), if_pos (by decide)]
    erw [h1]
    rfl
  · rw [if_pos (by decide)]
    erw [h1]
    rfl
  · rw [if_neg (by decide), if_pos (by decide)]
    erw [h1]
    rfl
  · rw [if_neg (by decide), if_neg (by decide), if_pos (by decide)]
    erw [h1]
    rfl
  · rw [if_neg (by decide), if_neg (by decide), if_neg (by decide), if_pos (by decide)]
    erw [h1]
    rfl
theorem undo_ok {b : Nat} {si : Nat → Int32} {sa : Nat → Nat → Int32} {v : Nat → Int32} {hs : Nat → (Nat → Int32) × (Nat → Nat → Int32)} {hc hn : Int32} {pa : Nat → Int32} {pm : Int32} (h : RO b si sa v) (hh : RH b hs hc hn pa pm) :
    ∃ r si' sa' hc' hn' v' pm', F_X7_undo si sa hs hc hn = some (r, si', sa', hc', hn') ∧ F_X8_undo v pa pm = some (r, v', pm') ∧ RO b si' sa' v' ∧ RH b hs hc' hn' pa pm' := by
  obtain ⟨c, q, g1, g2, rfl, rfl, rfl, g6⟩ := id hh
  unfold F_X7_undo F_X8_undo
  cases c with
  | zero =>
    rw [if_neg (by decide), if_pos (by decide)]
    exact ⟨_, _, _, _, _, _, _, rfl, rfl, h, hh⟩
  | succ c =>
    have g0 := g6 0 (by omega)
    rw [Nat.sub_zero] at g0
    obtain ⟨p, k1, k2, k3⟩ := restore_ok si sa hs (c := c) (by omega) g2 (RS_open g0.1)
    obtain ⟨w, u1, u2⟩ := undo_L22 pa (c := c) (by omega) 1100 0 tv_fu v (by omega) (by rw [tv_fu_eq]; omega)
    rw [if_pos (by rw [show (0 : Int32) = nI 0 from rfl]; exact nI_lt (by omega) (by omega)), k1, if_neg (nI_ne0 (by omega) (by omega)), nI_pred, show (0 : Int32) = nI 0 from rfl, u1]
    refine ⟨_, _, _, _, _, _, _, rfl, rfl, ?_, c, (q + 4) % 5, by omega, by omega, rfl, rfl, rfl, fun j hj => ?_⟩
    · refine RO_copy g0 k2 (fun j i hj => k3 j i hj) (fun i hi => ?_)
      rw [u2 i, if_pos (by omega)]
      rfl
    · have := g6 (j + 1) (by omega)
      rw [show ((q + 4) % 5 + 4 - j) % 5 = (q + 4 - (j + 1)) % 5 by omega, show c - 1 - j = c + 1 - 1 - (j + 1) by omega]
      exact this
