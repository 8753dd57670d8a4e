/-! ===== the end of a term; the petition ===== -/
section PE
variable {b : Nat} {si : Nat → Int32} {sa : Nat → Nat → Int32} {v : Nat → Int32}
theorem Pm1_flags {sb : Nat → Nat → Int32} {w : Nat → Int32} {m : Nat} (h : Pm1 sa v m) (hv : ∀ i, 20 + 15 * m ≤ i → i < 35 + 15 * m → i ≠ 21 + 15 * m → i ≠ 22 + 15 * m → i ≠ 23 + 15 * m → w i = v i) (h10 : w 10 = v 10) (ha : sb 1 m = sa 1 m) (hb : ∀ k, k < 10 → sb 2 (10 * m + k) = sa 2 (10 * m + k)) (f1 : isN w (21 + 15 * m) 1) (f2 : isN w (22 + 15 * m) 1) (f3 : isN w (23 + 15 * m) 1) (f4 : tN w (22 + 15 * m) ≤ tN w (21 + 15 * m)) (f5 : tN v 10 ≤ m → tN w (21 + 15 * m) = 0 ∧ tN w (23 + 15 * m) = 0) : Pm1 sb w m := by
  obtain ⟨h1, h2, h3, h4, h5, h6, h7, h8, h9, h11⟩ := h
  have e0 : w (20 + 15 * m) = v (20 + 15 * m) := hv _ (by omega) (by omega) (by omega) (by omega) (by omega)
  have e4 : w (24 + 15 * m) = v (24 + 15 * m) := hv _ (by omega) (by omega) (by omega) (by omega) (by omega)
  have t4 := tN_congr e4
  have t10 := tN_congr h10
  have hle := h6.2
  refine ⟨by rw [ha, h1]; exact e0.symm, isN_congr h2 e0, f1, f2, f3, isN_congr h6 e4, f4, by rw [t4, t10]; exact fun z => ⟨(f5 z).1, (f5 z).2, (h8 z).2.2⟩, fun k hk => ?_, fun k hk => ?_⟩
  · rw [hb k hk, h9 k hk, t4]
    split
    next hlt => exact (hv _ (by omega) (by omega) (by omega) (by omega) (by omega)).symm
    · rfl
  · rw [t4] at hk
    exact isN_congr (h11 k hk) (hv _ (by omega) (by omega) (by omega) (by omega) (by omega))
theorem ends_L59 (l1 l3 : Int32) : ∀ (k i n : Nat) (w : Nat → Int32), i + k = 10 → k < n → ∃ w', F_X8_ends_L59 l1 l3 n (nI i) w = some w' ∧ ∀ j, w' j = if 23 + 15 * i ≤ j ∧ j < 173 ∧ (j - 23) % 15 = 0 then 0 else w j
  | 0, i, n + 1, w, hi, hn => by
    refine ⟨w, ?_, fun j => ?_⟩
    · rw [F_X8_ends_L59, if_pos (show (10 : Int32) ≤ nI i from nI_le (a := 10) (by omega) (by omega))]
    · rw [if_neg (by omega)]
  | k + 1, i, n + 1, w, hi, hn => by
    obtain ⟨w', h1, h2⟩ := ends_L59 l1 l3 k (i + 1) n (upd w (23 + 15 * i) 0) (by omega) (by omega)
    refine ⟨w', ?_, fun j => ?_⟩
    · rw [F_X8_ends_L59, if_neg (show ¬ (10 : Int32) ≤ nI i from nI_ge (b := 10) (by omega) (by omega)), at3, wr_n (by omega) (by omega), Option.bind_some, show nI i + 1 = nI (i + 1) from nI_1 i]
      exact h1
    · rw [h2 j]
      by_cases e : j = 23 + 15 * i
      · subst e
        rw [if_neg (by omega), pk_us, if_pos (by omega)]
      · by_cases e2 : 23 + 15 * (i + 1) ≤ j ∧ j < 173 ∧ (j - 23) % 15 = 0
        · rw [if_pos e2, if_pos (by omega)]
        · rw [if_neg e2, pk_un e, if_neg (by omega)]
  | k, i, 0, w, hi, hn => by omega
theorem Bm_zero {w : Nat → Int32} {o : Nat} (h : ∀ m, m < 10 → w (o + 15 * m) = 0) : Bm 0 w o := by
  refine ⟨by decide, by decide, fun m hm => ?_⟩
  rw [show (0 : Int32).toNatClampNeg = 0 from by decide, Nat.zero_testBit]
  have : tN w (o + 15 * m) = 0 := by unfold tN; rw [h m hm]; decide
  rw [this]
  rfl
/-- the present term is over -/
theorem fin_ok (h : RS b si sa v) {s : Nat} (hs : tN v 9 = s + 1) {x : Int32} (hx : x = 0 ∨ x = 1) {w : Nat → Int32} (hw : ∀ j, w j = if 23 ≤ j ∧ j < 173 ∧ (j - 23) % 15 = 0 then 0 else upd (upd v (173 + 18 * s) (v 6)) (175 + 18 * s) x j) : RS b (upd si 3 0) (va_up (va_up sa 7 (upd (sa 7) (s + 1) (si 0))) 9 (upd (sa 9) (s + 1) x)) w := by
  obtain ⟨eT, hT⟩ := RS_T h
  have hv : ∀ i, i ≠ 173 + 18 * s → i ≠ 175 + 18 * s → ¬ (23 ≤ i ∧ i < 173 ∧ (i - 23) % 15 = 0) → w i = v i := fun i g1 g2 g3 => by
    rw [hw i, if_neg g3, pk_un g2, pk_un g1]
  have hA : ∀ j, j ≠ 7 → j ≠ 9 → va_up (va_up sa 7 (upd (sa 7) (s + 1) (si 0))) 9 (upd (sa 9) (s + 1) x) j = sa j := fun j g1 g2 => by rw [up_n g2, up_n g1]
  have w23 : ∀ m, m < 10 → w (23 + 15 * m) = 0 := fun m hm => by rw [hw, if_pos (by omega)]
  have hsi : ∀ j, j ≠ 3 → upd si 3 0 j = si j := fun j g => pk_un g
  refine ⟨Pset_congr h.1 (fun i hi => hv i (by omega) (by omega) (by omega)) (fun i hi => by rw [hA 0 (by omega) (by omega)]), ?_, ?_, ⟨fun m hm => ?_, ?_, ?_, ?_⟩, fun t ht => ?_, Pev_congr h.2.2.2.2.2.1 (fun i g1 g2 => hv i (by omega) (by omega) (by omega)) (fun j g1 g2 => hA j (by omega) (by omega)), Ptal_congr h.2.2.2.2.2.2 (fun i g1 g2 => hv i (by omega) (by omega) (by omega)) (hA 3 (by omega) (by omega))⟩
  · obtain ⟨a1, a2, a3, a4, a5, a6, a7, a8⟩ := h.2.1
    refine ⟨?_, ?_, ?_, ?_, ?_, ?_, ?_, ?_⟩
    · rw [hsi 0 (by omega), hv 6 (by omega) (by omega) (by omega)]; exact a1
    · rw [hsi 4 (by omega), hv 7 (by omega) (by omega) (by omega)]; exact a2
    · rw [hsi 5 (by omega), hv 8 (by omega) (by omega) (by omega)]; exact a3
    · rw [hsi 9 (by omega), hv 9 (by omega) (by omega) (by omega)]; exact a4
    · rw [hsi 1 (by omega), hv 10 (by omega) (by omega) (by omega)]; exact a5
    · rw [hsi 6 (by omega), hv 11 (by omega) (by omega) (by omega)]; exact a6
    · rw [hsi 10 (by omega), hv 12 (by omega) (by omega) (by omega)]; exact a7
    · rw [hsi 8 (by omega), hv 13 (by omega) (by omega) (by omega)]; exact a8
  · obtain ⟨a1, a2, a3, a4, a5, a6, a7⟩ := h.2.2.1
    refine ⟨isN_congr a1 (hv 6 (by omega) (by omega) (by omega)), isN_congr a2 (hv 9 (by omega) (by omega) (by omega)), isN_congr a3 (hv 10 (by omega) (by omega) (by omega)), isN_congr a4 (hv 12 (by omega) (by omega) (by omega)), isN_congr a5 (hv 13 (by omega) (by omega) (by omega)), ?_, ?_⟩
    · rw [hv 11 (by omega) (by omega) (by omega), tN_congr (hv 9 (by omega) (by omega) (by omega))]; exact a6
    · rw [hv 7 (by omega) (by omega) (by omega), hv 8 (by omega) (by omega) (by omega), tN_congr (hv 8 (by omega) (by omega) (by omega)), tN_congr (hv 10 (by omega) (by omega) (by omega))]
      exact a7.imp id (fun z => ⟨z.1, isN_congr z.2.1 (hv 8 (by omega) (by omega) (by omega)), z.2.2⟩)
  · have p := RS_m h hm
    have e1 : w (21 + 15 * m) = v (21 + 15 * m) := hv _ (by omega) (by omega) (by omega)
    have e2 : w (22 + 15 * m) = v (22 + 15 * m) := hv _ (by omega) (by omega) (by omega)
    have z3 : isN w (23 + 15 * m) 1 := isN_of (k := 0) (w23 m hm) (by omega) (by omega)
    exact Pm1_flags p (fun i g1 g2 g3 g4 g5 => hv i (by omega) (by omega) (by omega)) (hv 10 (by omega) (by omega) (by omega)) (by rw [hA 1 (by omega) (by omega)]) (fun k _ => by rw [hA 2 (by omega) (by omega)]) (isN_congr p.2.2.1 e1) (isN_congr p.2.2.2.1 e2) z3 (by rw [tN_congr e1, tN_congr e2]; exact p.2.2.2.2.2.2.1) (fun z => ⟨by rw [tN_congr e1]; exact (p.2.2.2.2.2.2.2.1 z).1, tN_of (k := 0) (w23 m hm) (by omega)⟩)
  · exact Bm_congr h.2.2.2.1.2.1 (hsi 2 (by omega)) (fun m hm => hv _ (by omega) (by omega) (by omega))
  · exact Bm_congr h.2.2.2.1.2.2.1 (hsi 7 (by omega)) (fun m hm => hv _ (by omega) (by omega) (by omega))
  · rw [pk_us]
    exact Bm_zero w23
  · rw [tN_congr (hv 9 (by omega) (by omega) (by omega))] at ht
    have p := RS_t h ht
    by_cases c : t = s
    · subst c
      obtain ⟨h1, h2, h3, h4, h5, h6, h7, h8, h9⟩ := p
      have e0 : w (170 + 18 * t) = v (170 + 18 * t) := hv _ (by omega) (by omega) (by omega)
      have e1 : w (171 + 18 * t) = v (171 + 18 * t) := hv _ (by omega) (by omega) (by omega)
      have e2 : w (172 + 18 * t) = v (172 + 18 * t) := hv _ (by omega) (by omega) (by omega)
      have e3 : w (173 + 18 * t) = v 6 := by rw [hw, if_neg (by omega), pk_un (by omega), pk_us]
      have e4 : w (174 + 18 * t) = v (174 + 18 * t) := hv _ (by omega) (by omega) (by omega)
      have e5 : w (175 + 18 * t) = x := by rw [hw, if_neg (by omega), pk_us]
      have e6 : w (176 + 18 * t) = v (176 + 18 * t) := hv _ (by omega) (by omega) (by omega)
      have e7 : w (177 + 18 * t) = v (177 + 18 * t) := hv _ (by omega) (by omega) (by omega)
      refine ⟨⟨by rw [hA 4 (by omega) (by omega), e0]; exact h1.1, isN_congr h1.2 e0⟩, by rw [hA 5 (by omega) (by omega), e1]; exact h2, ⟨by rw [hA 6 (by omega) (by omega), e2]; exact h3.1, isN_congr h3.2 e2⟩, ⟨by rw [up_n (by omega), up_s, pk_us, e3]; exact h.2.1.1, Or.inr (isN_congr h.2.2.1.1 e3)⟩, ⟨by rw [hA 8 (by omega) (by omega), e4]; exact h5.1, by rw [e4]; exact h5.2⟩, ⟨by rw [up_s, pk_us, e5], ?_⟩, ⟨by rw [hA 10 (by omega) (by omega), e6]; exact h7.1, isN_congr h7.2 e6⟩, isN_congr h8 e7, fun m hm => ?_⟩
      · rcases hx with q | q
        · exact isN_of (k := 0) (e5.trans q) (by omega) (by omega)
        · exact isN_of (k := 1) (e5.trans q) (by omega) (by omega)
      · have e8 : w (178 + 18 * t + m) = v (178 + 18 * t + m) := hv _ (by omega) (by omega) (by omega)
        exact ⟨isN_congr (h9 m hm).1 e8, by rw [hA 11 (by omega) (by omega), tN_congr e7, e8]; exact (h9 m hm).2⟩
    · refine Pt1_congr p (fun i g1 g2 => hv i (by omega) (by omega) (by omega)) (fun j g1 g2 => ?_) (fun m hm => by rw [hA 11 (by omega) (by omega)])
      by_cases c7 : j = 7
      · subst c7
        rw [up_n (by omega), up_s, pk_un (by omega)]
      · by_cases c9 : j = 9
        · subst c9
          rw [up_s, pk_un (by omega)]
        · rw [hA j c7 c9]
theorem ends_ok (hb : b < 2 ^ 29) (h : RS b si sa v) (hT1 : 1 ≤ tN v 9) (hl : v (170 + 18 * (tN v 9 - 1)) = v 8) (kind : Int32) : ∃ si' sa' v', F_X5_endTerm si sa kind = some (si', sa') ∧ F_X8_ends v kind = some v' ∧ RO (b + 2) si' sa' v' ∧ v' 7 ≠ 2 ∧ (∀ m, m < 10 → tN v' (23 + 15 * m) = 0) ∧ v' 6 = v 6 := by
  obtain ⟨eT, hT⟩ := RS_T h
  obtain ⟨s, hs⟩ : ∃ s, tN v 9 = s + 1 := ⟨tN v 9 - 1, by omega⟩
  have e9 : si 9 = nI (s + 1) := by rw [← hs, ← eT]; exact h.2.1.2.2.2.1
  have r9 : tv_rd 1100 v 9 = some (nI (s + 1)) := by rw [← hs, ← eT]; exact rd_n (k := 9) (by omega) (by omega)
  rw [hs, Nat.add_sub_cancel] at hl
  have e5 : si 5 = v 8 := h.2.1.2.2.1
  obtain ⟨x, hx, x1, x2⟩ : ∃ x : Int32, (x = 0 ∨ x = 1) ∧ (if kind = 3 then some (1 : Int32) else some 0) = some x ∧ F_X7_asNumber x = x := by
    by_cases c : kind = 3
    · exact ⟨1, Or.inr rfl, if_pos c, rfl⟩
    · exact ⟨0, Or.inl rfl, if_neg c, rfl⟩
  obtain ⟨w, w1, w2⟩ := ends_L59 kind (v 8) 10 0 tv_fu (upd (upd v (173 + 18 * s) (v 6)) (175 + 18 * s) x) (by omega) (by rw [tv_fu_eq]; omega)
  rw [nI_0] at w1
  have hf := fin_ok h hs hx (w := w) (fun j => by rw [w2 j])
  obtain ⟨si1, sa1, v1, t1, t2, t3, t4⟩ := tell_ok (by omega) hf kind (v 8)
  obtain ⟨si2, sa2, v2, u1, u2, u3, u4, u5⟩ := appoint_ok (by omega) t3 (v 8)
  have s0 : ∀ m, m < 10 → tN v2 (23 + 15 * m) = 0 := fun m hm => by
    have e : v2 (23 + 15 * m) = nI 0 := by
      rw [u5 _ (by omega) (by omega) (by omega) (by omega), t4 _ (by omega) (by omega), w2, if_pos (by omega)]
      rfl
    exact tN_of e (by omega)
  have e6 : v2 6 = v 6 := by
    rw [u5 _ (by omega) (by omega) (by omega) (by omega), t4 _ (by omega) (by omega), w2, if_neg (by omega), pk_un (by omega), pk_un (by omega)]
  refine ⟨si2, sa2, v2, ?_, ?_, u3, u4, s0, e6⟩
  · unfold F_X5_endTerm F_X6_finishLatest
    rw [x1, Option.bind_some, e9, wr_n (by omega) (by omega), Option.bind_some, x2, up_n (by omega), wr_n (by omega) (by omega), Option.bind_some, Option.bind_some, e5, t1, Option.bind_some]
    show ((F_X5_appointCaretaker si1 sa1 (v 8)).bind fun x4 => some (x4.1, x4.2)) = _
    rw [u1]
    rfl
  · unfold F_X8_ends
    rw [r9, Option.bind_some, of0, rd1 (by omega), Option.bind_some, show tv_rd 1100 v 6 = some (v 6) from rd_n (k := 6) (by omega) (by omega), Option.bind_some, of3, wr_n (by omega) (by omega), Option.bind_some, x1, Option.bind_some, of5, wr_n (by omega) (by omega), Option.bind_some, hl, w1, Option.bind_some, t2, Option.bind_some, u2]
    rfl
/-! the petition -/
def sgnN (v : Nat → Int32) (m : Nat) : Nat := if tN v (21 + 15 * m) = 1 ∧ tN v (23 + 15 * m) = 1 then 1 else 0
def prsN (v : Nat → Int32) (m : Nat) : Nat := tN v (21 + 15 * m)
theorem Bm_bN {x : Int32} {o m : Nat} (h : Bm x v o) (hm : m < 10) (hN : isN v (o + 15 * m) 1) : bN x.toNatClampNeg m = tN v (o + 15 * m) := by
  unfold bN
  rw [h.2.2 m hm]
  have := hN.2
  by_cases c : tN v (o + 15 * m) = 1
  · rw [c]; rfl
  · rw [show tN v (o + 15 * m) = 0 by omega]; rfl
theorem sig_c (h : RS b si sa v) : F_X5_countSignatures si = nI (sg (sgnN v) 0 10) := by
  unfold F_X5_countSignatures
  have h2 := h.2.2.2.1.2.1
  have h3 := h.2.2.2.1.2.2.2
  rw [h2.1, h3.1, nI_and, bc_n _ (clr_lt h3.2.1)]
  congr 1
  refine sg_congr _ _ 10 0 (fun j _ hj => ?_)
  unfold bN sgnN
  rw [Nat.testBit_and, h2.2.2 j (by omega), h3.2.2 j (by omega)]
  by_cases c1 : tN v (21 + 15 * j) = 1 <;> by_cases c2 : tN v (23 + 15 * j) = 1 <;> simp [c1, c2]
theorem sig_L (h : RS b si sa v) : ∀ (k i acc n : Nat), i + k = tN v 10 → k < n → F_X8_signatures_L4 v n (nI acc) (nI i) = some (nI (acc + sg (sgnN v) i k))
  | 0, i, acc, n + 1, hi, hn => by
    obtain ⟨eM, hM⟩ := RS_M h
    rw [F_X8_signatures_L4, show tv_rd 1100 v 10 = some (nI (tN v 10)) from by rw [← eM]; exact rd_n (k := 10) (by omega) (by omega), Option.bind_some, if_pos (nI_le (by omega) (by omega))]
    rfl
  | k + 1, i, acc, n + 1, hi, hn => by
    obtain ⟨eM, hM⟩ := RS_M h
    have ih := fun a => sig_L h k (i + 1) a n (by omega) (by omega)
    have p := RS_m h (m := i) (by omega)
    rw [F_X8_signatures_L4, show tv_rd 1100 v 10 = some (nI (tN v 10)) from by rw [← eM]; exact rd_n (k := 10) (by omega) (by omega), Option.bind_some, if_neg (nI_ge (by omega) (by omega)), isPres_m h (by omega), Option.bind_some, at3, rd1 (by omega), Option.bind_some, show nI i + 1 = nI (i + 1) from nI_1 i, show nI acc + 0 = nI (acc + 0) from nI_add acc 0, show nI acc + 1 = nI (acc + 1) from nI_1 acc, ih, ih, sg, sgnN]
    by_cases c1 : v (21 + 15 * i) = 0
    · rw [if_pos c1, if_neg (fun z => by have := (n1_iff0 p.2.2.1).mp c1; omega)]
      congr 2
      omega
    · have q1 : tN v (21 + 15 * i) = 1 := by
        have q := p.2.2.1.2
        have : ¬ tN v (21 + 15 * i) = 0 := fun z => c1 ((n1_iff0 p.2.2.1).mpr z)
        omega
      rw [if_neg c1]
      by_cases c2 : v (23 + 15 * i) = 1
      · rw [if_pos c2, if_pos ⟨q1, (n1_iff p.2.2.2.2.1).mp c2⟩]
        congr 2
        omega
      · rw [if_neg c2, if_neg (fun z => c2 ((n1_iff p.2.2.2.2.1).mpr z.2))]
        congr 2
        omega
  | k, i, acc, 0, hi, hn => by omega
theorem sig_m (h : RS b si sa v) : F_X8_signatures v = some (nI (sg (sgnN v) 0 10)) := by
  obtain ⟨eM, hM⟩ := RS_M h
  have e := sig_L h (tN v 10) 0 0 tv_fu (by omega) (by rw [tv_fu_eq]; omega)
  rw [nI_0, Nat.zero_add] at e
  unfold F_X8_signatures
  rw [e, Option.bind_some, sg_cut hM (fun j h1 h2 => ?_)]
  unfold sgnN
  rw [if_neg]
  intro z
  have := ((RS_m h h2).2.2.2.2.2.2.2.1 h1).1
  omega
theorem prs_L (h : RS b si sa v) : ∀ (k i acc n : Nat), i + k = tN v 10 → k < n → F_X8_presentMany_L4 v n (nI acc) (nI i) = some (nI (acc + sg (prsN v) i k))
  | 0, i, acc, n + 1, hi, hn => by
    obtain ⟨eM, hM⟩ := RS_M h
    rw [F_X8_presentMany_L4, show tv_rd 1100 v 10 = some (nI (tN v 10)) from by rw [← eM]; exact rd_n (k := 10) (by omega) (by omega), Option.bind_some, if_pos (nI_le (by omega) (by omega))]
    rfl
  | k + 1, i, acc, n + 1, hi, hn => by
    obtain ⟨eM, hM⟩ := RS_M h
    have ih := fun a => prs_L h k (i + 1) a n (by omega) (by omega)
    have p := RS_m h (m := i) (by omega)
    rw [F_X8_presentMany_L4, show tv_rd 1100 v 10 = some (nI (tN v 10)) from by rw [← eM]; exact rd_n (k := 10) (by omega) (by omega), Option.bind_some, if_neg (nI_ge (by omega) (by omega)), at1, rd1 (by omega), Option.bind_some, show nI i + 1 = nI (i + 1) from nI_1 i, p.2.2.1.1, nI_add, ih, sg, prsN]
    congr 2
    omega
  | k, i, acc, 0, hi, hn => by omega
theorem prs_m (h : RS b si sa v) : F_X8_presentMany v = some (nI (sg (prsN v) 0 10)) := by
  obtain ⟨eM, hM⟩ := RS_M h
  have e := prs_L h (tN v 10) 0 0 tv_fu (by omega) (by rw [tv_fu_eq]; omega)
  rw [nI_0, Nat.zero_add] at e
  unfold F_X8_presentMany
  rw [e, Option.bind_some, sg_cut (f := prsN v) hM (fun j h1 h2 => ((RS_m h h2).2.2.2.2.2.2.2.1 h1).1)]
theorem prs_c (h : RS b si sa v) : tv_bc (si 2) = nI (sg (prsN v) 0 10) := by
  have h2 := h.2.2.2.1.2.1
  rw [h2.1, bc_n _ h2.2.1]
  congr 1
  exact sg_congr _ _ 10 0 (fun j _ hj => Bm_bN h2 (by omega) (RS_m h (by omega)).2.2.1)
theorem sg_point {f f' : Nat → Nat} {k : Nat} (hk : f k = f' k + 1) (hj : ∀ j, j ≠ k → f j = f' j) : ∀ (n i : Nat), i ≤ k → k < i + n → sg f i n = sg f' i n + 1
  | 0, i, h1, h2 => by omega
  | n + 1, i, h1, h2 => by
    rw [sg, sg]
    by_cases c : i = k
    · subst c
      rw [hk, sg_congr f f' n (i + 1) (fun j g1 g2 => hj j (by omega))]
      omega
    · rw [hj i c, sg_point hk hj n (i + 1) (by omega) (by omega)]
      omega
theorem oth_c (h : RS b si sa v) {k : Nat} (hk : k < 10) (hp : tN v (21 + 15 * k) = 1) : ∃ O, sg (prsN v) 0 10 = O + 1 ∧ O ≤ 9 ∧ tv_bc (si 2 &&& (F_X7_only (nI k) ^^^ (-1))) = nI O := by
  have h2 := h.2.2.2.1.2.1
  have e : sg (bN (si 2).toNatClampNeg) 0 10 = sg (prsN v) 0 10 := sg_congr _ _ 10 0 (fun j _ hj => Bm_bN h2 (by omega) (RS_m h (by omega)).2.2.1)
  have e2 : sg (bN (si 2).toNatClampNeg) 0 10 = sg (fun j => if j < 10 then bN ((si 2).toNatClampNeg &&& (1023 ^^^ 2 ^ k)) j else bN (si 2).toNatClampNeg j) 0 10 + 1 := by
    refine sg_point (k := k) ?_ (fun j hj => ?_) 10 0 (by omega) (by omega)
    · rw [if_pos hk]
      unfold bN
      rw [clr_bit hk, h2.2.2 k hk, hp]
      simp
    · by_cases c : j < 10
      · rw [if_pos c]
        unfold bN
        rw [clr_bit c]
        have : decide (k = j) = false := decide_eq_false (fun z => hj z.symm)
        rw [this, Bool.not_false, Bool.and_true]
      · rw [if_neg c]
  have e3 : sg (fun j => if j < 10 then bN ((si 2).toNatClampNeg &&& (1023 ^^^ 2 ^ k)) j else bN (si 2).toNatClampNeg j) 0 10 = sg (bN ((si 2).toNatClampNeg &&& (1023 ^^^ 2 ^ k))) 0 10 := sg_congr _ _ 10 0 (fun j _ hj => by rw [if_pos (by omega)])
  refine ⟨sg (bN ((si 2).toNatClampNeg &&& (1023 ^^^ 2 ^ k))) 0 10, by rw [← e, e2, e3], ?_, ?_⟩
  · have := sg10 (si 2).toNatClampNeg
    omega
  · conv => lhs; rw [h2.1]
    rw [clr_n h2.2.1 hk, bc_n _ (clr_lt h2.2.1)]
theorem looks_ok (hb : b < 2 ^ 29) (h : RO b si sa v) : ∃ si' sa' v', F_X5_lookAtPetition si sa = some (si', sa') ∧ F_X8_looks v = some v' ∧ RO (b + 2) si' sa' v' ∧ (v 7 = 2 → v' 7 = 2 ∨ (v' 7 ≠ 2 ∧ ∀ m, m < 10 → tN v' (23 + 15 * m) = 0)) := by
  obtain ⟨h, ho⟩ := h
  have e4 : si 4 = v 7 := h.2.1.2.1
  unfold F_X5_lookAtPetition F_X8_looks
  rw [e4, show tv_rd 1100 v 7 = some (v 7) from rd_n (k := 7) (by omega) (by omega), Option.bind_some]
  by_cases c : v 7 = 2
  · rw [if_pos c, if_pos c]
    obtain ⟨o1, o2, o3⟩ := ho c
    obtain ⟨⟨e8, h8⟩, _⟩ := hold_le h (Or.inl c)
    have e5 : si 5 = nI (tN v 8) := by rw [← e8]; exact h.2.1.2.2.1
    obtain ⟨O, O1, O2, O3⟩ := oth_c h (k := tN v 8) (by omega) o3
    rw [e5, O3, prs_m h, sig_m h, sig_c h, Option.bind_some, Option.bind_some, O1, show nI (O + 1) - 1 = nI O from nI_pred O, show tv_rd 1100 v 3 = some (v 3) from rd_n (k := 3) (by omega) (by omega), show tv_rd 6 (sa 0) 3 = some (v 3) from by rw [← RS_s h (i := 3) (by omega)]; exact rd_n (k := 3) (by omega) (by omega), Option.bind_some, Option.bind_some]
    by_cases c1 : nI (sg (sgnN v) 0 10) ≤ 0
    · rw [if_pos c1, if_pos c1]
      exact ⟨_, _, _, rfl, rfl, ⟨RS_mono h (by omega), ho⟩, fun z => Or.inl z⟩
    · rw [if_neg c1, if_neg c1]
      by_cases c2 : 100 * nI (sg (sgnN v) 0 10) < v 3 * nI O
      · rw [if_pos c2, if_pos c2]
        exact ⟨_, _, _, rfl, rfl, ⟨RS_mono h (by omega), ho⟩, fun z => Or.inl z⟩
      · rw [if_neg c2, if_neg c2]
        obtain ⟨si', sa', v', u1, u2, u3, u4, u5, _⟩ := ends_ok hb h o1 o2 3
        rw [u1, u2]
        exact ⟨_, _, _, rfl, rfl, u3, fun _ => Or.inr ⟨u4, u5⟩⟩
  · rw [if_neg c, if_neg c]
    exact ⟨_, _, _, rfl, rfl, ⟨RS_mono h (by omega), ho⟩, fun z => Or.inl z⟩
end PE
