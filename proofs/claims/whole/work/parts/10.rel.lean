/-! ===== the relation of the two sides' states ===== -/
def Bm (x : Int32) (v : Nat → Int32) (o : Nat) : Prop := x = nI x.toNatClampNeg ∧ x.toNatClampNeg < 1024 ∧ ∀ m, m < 10 → x.toNatClampNeg.testBit m = decide (tN v (o + 15 * m) = 1)
def Pset (sa : Nat → Nat → Int32) (v : Nat → Int32) : Prop := ∀ i, i < 6 → sa 0 i = v i ∧ tv_least i ≤ v i ∧ v i ≤ tv_great i
def Pmis (si v : Nat → Int32) : Prop := si 0 = v 6 ∧ si 4 = v 7 ∧ si 5 = v 8 ∧ si 9 = v 9 ∧ si 1 = v 10 ∧ si 6 = v 11 ∧ si 10 = v 12 ∧ si 8 = v 13
def Pinv (b : Nat) (v : Nat → Int32) : Prop := isN v 6 1000000 ∧ isN v 9 40 ∧ isN v 10 10 ∧ isN v 12 b ∧ isN v 13 10 ∧ (v 11 = 0 ∨ (v 11 = 1 ∧ tN v 9 ≤ 39)) ∧ ((v 7 = 0 ∧ v 8 = -9) ∨ ((v 7 = 1 ∨ v 7 = 2) ∧ isN v 8 9 ∧ tN v 8 < tN v 10))
def Poff (v : Nat → Int32) : Prop := v 7 = 2 → 1 ≤ tN v 9 ∧ v (170 + 18 * (tN v 9 - 1)) = v 8 ∧ tN v (21 + 15 * tN v 8) = 1
def Pm1 (sa : Nat → Nat → Int32) (v : Nat → Int32) (m : Nat) : Prop := sa 1 m = v (20 + 15 * m) ∧ isN v (20 + 15 * m) 996 ∧ isN v (21 + 15 * m) 1 ∧ isN v (22 + 15 * m) 1 ∧ isN v (23 + 15 * m) 1 ∧ isN v (24 + 15 * m) 10 ∧ tN v (22 + 15 * m) ≤ tN v (21 + 15 * m) ∧ (tN v 10 ≤ m → tN v (21 + 15 * m) = 0 ∧ tN v (23 + 15 * m) = 0 ∧ tN v (24 + 15 * m) = 0) ∧ (∀ k, k < 10 → sa 2 (10 * m + k) = if k < tN v (24 + 15 * m) then v (25 + 15 * m + k) else -9) ∧ (∀ k, k < tN v (24 + 15 * m) → isN v (25 + 15 * m + k) 9)
def Pmem (si : Nat → Int32) (sa : Nat → Nat → Int32) (v : Nat → Int32) : Prop := (∀ m, m < 10 → Pm1 sa v m) ∧ Bm (si 2) v 21 ∧ Bm (si 7) v 22 ∧ Bm (si 3) v 23
def Pt1 (sa : Nat → Nat → Int32) (v : Nat → Int32) (s : Nat) : Prop := (sa 4 (s + 1) = v (170 + 18 * s) ∧ isN v (170 + 18 * s) 9) ∧ sa 5 (s + 1) = v (171 + 18 * s) ∧ (sa 6 (s + 1) = v (172 + 18 * s) ∧ isN v (172 + 18 * s) 1001000) ∧ (sa 7 (s + 1) = v (173 + 18 * s) ∧ (v (173 + 18 * s) = -9 ∨ isN v (173 + 18 * s) 1000000)) ∧ (sa 8 (s + 1) = v (174 + 18 * s) ∧ -20 ≤ (v (174 + 18 * s)).toInt ∧ (v (174 + 18 * s)).toInt ≤ 20) ∧ (sa 9 (s + 1) = v (175 + 18 * s) ∧ isN v (175 + 18 * s) 1) ∧ (sa 10 (s + 1) = v (176 + 18 * s) ∧ isN v (176 + 18 * s) 1023) ∧ isN v (177 + 18 * s) 1023 ∧ ∀ m, m < 10 → isN v (178 + 18 * s + m) 10 ∧ sa 11 (10 * (s + 1) + m) = if (tN v (177 + 18 * s)).testBit m then v (178 + 18 * s + m) else -9
def Pter (sa : Nat → Nat → Int32) (v : Nat → Int32) : Prop := ∀ s, s < tN v 9 → Pt1 sa v s
def Pev (sa : Nat → Nat → Int32) (v : Nat → Int32) : Prop := ∀ i, i < 20 → sa 12 i = v (910 + 3 * i) ∧ sa 13 i = v (911 + 3 * i) ∧ sa 14 i = v (912 + 3 * i)
def Ptal (sa : Nat → Nat → Int32) (v : Nat → Int32) : Prop := ∀ i, i < 100 → sa 3 i = v (980 + i)
def RS (b : Nat) (si : Nat → Int32) (sa : Nat → Nat → Int32) (v : Nat → Int32) : Prop := Pset sa v ∧ Pmis si v ∧ Pinv b v ∧ Pmem si sa v ∧ Pter sa v ∧ Pev sa v ∧ Ptal sa v
def RO (b : Nat) (si : Nat → Int32) (sa : Nat → Nat → Int32) (v : Nat → Int32) : Prop := RS b si sa v ∧ Poff v
/-! agreement -/
theorem Bm_congr {x y : Int32} {v w : Nat → Int32} {o : Nat} (h : Bm x v o) (e : y = x) (hv : ∀ m, m < 10 → w (o + 15 * m) = v (o + 15 * m)) : Bm y w o := by
  subst e
  exact ⟨h.1, h.2.1, fun m hm => by rw [h.2.2 m hm, tN_congr (hv m hm)]⟩
theorem Pset_congr {sa sb : Nat → Nat → Int32} {v w : Nat → Int32} (h : Pset sa v) (hv : ∀ i, i < 6 → w i = v i) (ha : ∀ i, i < 6 → sb 0 i = sa 0 i) : Pset sb w := fun i hi => by
  rw [hv i hi, ha i hi]
  exact h i hi
theorem Pm1_congr {sa sb : Nat → Nat → Int32} {v w : Nat → Int32} {m : Nat} (h : Pm1 sa v m) (hv : ∀ i, 20 + 15 * m ≤ i → i < 35 + 15 * m → w i = v i) (h10 : w 10 = v 10) (ha : sb 1 m = sa 1 m) (hb : ∀ k, k < 10 → sb 2 (10 * m + k) = sa 2 (10 * m + k)) : Pm1 sb w m := by
  obtain ⟨h1, h2, h3, h4, h5, h6, h7, h8, h9, h11⟩ := h
  have e : ∀ j, j < 15 → w (20 + 15 * m + j) = v (20 + 15 * m + j) := fun j hj => hv _ (by omega) (by omega)
  have e0 := e 0 (by omega)
  have e1 : w (21 + 15 * m) = v (21 + 15 * m) := hv _ (by omega) (by omega)
  have e2 : w (22 + 15 * m) = v (22 + 15 * m) := hv _ (by omega) (by omega)
  have e3 : w (23 + 15 * m) = v (23 + 15 * m) := hv _ (by omega) (by omega)
  have e4 : w (24 + 15 * m) = v (24 + 15 * m) := hv _ (by omega) (by omega)
  have t1 := tN_congr e1
  have t2 := tN_congr e2
  have t3 := tN_congr e3
  have t4 := tN_congr e4
  have t10 := tN_congr h10
  have hle := h6.2
  refine ⟨by rw [ha, h1]; exact e0.symm, isN_congr h2 e0, isN_congr h3 e1, isN_congr h4 e2, isN_congr h5 e3, isN_congr h6 e4, by rw [t1, t2]; exact h7, by rw [t1, t3, t4, t10]; exact h8, fun k hk => ?_, fun k hk => ?_⟩
  · rw [hb k hk, h9 k hk, t4]
    split
    next hlt => exact (hv _ (by omega) (by omega)).symm
    · rfl
  · rw [t4] at hk
    exact isN_congr (h11 k hk) (hv _ (by omega) (by omega))
theorem Pmem_congr {si sj : Nat → Int32} {sa sb : Nat → Nat → Int32} {v w : Nat → Int32} (h : Pmem si sa v) (hv : ∀ i, 20 ≤ i → i < 170 → w i = v i) (h10 : w 10 = v 10) (h1 : sb 1 = sa 1) (h2 : sb 2 = sa 2) (b2 : sj 2 = si 2) (b7 : sj 7 = si 7) (b3 : sj 3 = si 3) : Pmem sj sb w :=
  ⟨fun m hm => Pm1_congr (h.1 m hm) (fun i g1 g2 => hv i (by omega) (by omega)) h10 (by rw [h1]) (fun k _ => by rw [h2]), Bm_congr h.2.1 b2 (fun m hm => hv _ (by omega) (by omega)), Bm_congr h.2.2.1 b7 (fun m hm => hv _ (by omega) (by omega)), Bm_congr h.2.2.2 b3 (fun m hm => hv _ (by omega) (by omega))⟩
theorem Pt1_congr {sa sb : Nat → Nat → Int32} {v w : Nat → Int32} {s : Nat} (h : Pt1 sa v s) (hv : ∀ i, 170 + 18 * s ≤ i → i < 188 + 18 * s → w i = v i) (ha : ∀ j, 4 ≤ j → j ≤ 10 → sb j (s + 1) = sa j (s + 1)) (hb : ∀ m, m < 10 → sb 11 (10 * (s + 1) + m) = sa 11 (10 * (s + 1) + m)) : Pt1 sb w s := by
  obtain ⟨h1, h2, h3, h4, h5, h6, h7, h8, h9⟩ := h
  have e0 : w (170 + 18 * s) = v (170 + 18 * s) := hv _ (by omega) (by omega)
  have e1 : w (171 + 18 * s) = v (171 + 18 * s) := hv _ (by omega) (by omega)
  have e2 : w (172 + 18 * s) = v (172 + 18 * s) := hv _ (by omega) (by omega)
  have e3 : w (173 + 18 * s) = v (173 + 18 * s) := hv _ (by omega) (by omega)
  have e4 : w (174 + 18 * s) = v (174 + 18 * s) := hv _ (by omega) (by omega)
  have e5 : w (175 + 18 * s) = v (175 + 18 * s) := hv _ (by omega) (by omega)
  have e6 : w (176 + 18 * s) = v (176 + 18 * s) := hv _ (by omega) (by omega)
  have e7 : w (177 + 18 * s) = v (177 + 18 * s) := hv _ (by omega) (by omega)
  refine ⟨⟨by rw [ha 4 (by omega) (by omega), e0]; exact h1.1, isN_congr h1.2 e0⟩, by rw [ha 5 (by omega) (by omega), e1]; exact h2, ⟨by rw [ha 6 (by omega) (by omega), e2]; exact h3.1, isN_congr h3.2 e2⟩, ⟨by rw [ha 7 (by omega) (by omega), e3]; exact h4.1, by rw [e3]; exact h4.2.imp id (fun z => isN_congr z e3)⟩, ⟨by rw [ha 8 (by omega) (by omega), e4]; exact h5.1, by rw [e4]; exact h5.2⟩, ⟨by rw [ha 9 (by omega) (by omega), e5]; exact h6.1, isN_congr h6.2 e5⟩, ⟨by rw [ha 10 (by omega) (by omega), e6]; exact h7.1, isN_congr h7.2 e6⟩, isN_congr h8 e7, fun m hm => ?_⟩
  have e8 : w (178 + 18 * s + m) = v (178 + 18 * s + m) := hv _ (by omega) (by omega)
  exact ⟨isN_congr (h9 m hm).1 e8, by rw [hb m hm, tN_congr e7, e8]; exact (h9 m hm).2⟩
theorem Pter_congr {sa sb : Nat → Nat → Int32} {v w : Nat → Int32} (h : Pter sa v) (h9 : w 9 = v 9) (hB : tN v 9 ≤ 40) (hv : ∀ i, 170 ≤ i → i < 890 → w i = v i) (ha : ∀ j, 4 ≤ j → j ≤ 11 → sb j = sa j) : Pter sb w := fun s hs => by
  rw [tN_congr h9] at hs
  exact Pt1_congr (h s hs) (fun i g1 g2 => hv i (by omega) (by omega)) (fun j g1 g2 => by rw [ha j g1 (by omega)]) (fun m _ => by rw [ha 11 (by omega) (by omega)])
theorem Pev_congr {sa sb : Nat → Nat → Int32} {v w : Nat → Int32} (h : Pev sa v) (hv : ∀ i, 910 ≤ i → i < 970 → w i = v i) (ha : ∀ j, 12 ≤ j → j ≤ 14 → sb j = sa j) : Pev sb w := fun i hi => by
  rw [ha 12 (by omega) (by omega), ha 13 (by omega) (by omega), ha 14 (by omega) (by omega), hv _ (by omega) (by omega), hv _ (by omega) (by omega), hv _ (by omega) (by omega)]
  exact h i hi
theorem Ptal_congr {sa sb : Nat → Nat → Int32} {v w : Nat → Int32} (h : Ptal sa v) (hv : ∀ i, 980 ≤ i → i < 1080 → w i = v i) (ha : sb 3 = sa 3) : Ptal sb w := fun i hi => by
  rw [ha, hv _ (by omega) (by omega)]
  exact h i hi
theorem Pinv_mono {b c : Nat} {v : Nat → Int32} (h : Pinv b v) (hb : b ≤ c) : Pinv c v := ⟨h.1, h.2.1, h.2.2.1, ⟨h.2.2.2.1.1, Nat.le_trans h.2.2.2.1.2 hb⟩, h.2.2.2.2⟩
theorem RS_mono {b c : Nat} {si : Nat → Int32} {sa : Nat → Nat → Int32} {v : Nat → Int32} (h : RS b si sa v) (hb : b ≤ c) : RS c si sa v := ⟨h.1, h.2.1, Pinv_mono h.2.2.1 hb, h.2.2.2⟩
/-! the same values where it matters: a copy of a state is in the same relation -/
theorem RS_copy {b : Nat} {si sj : Nat → Int32} {sa sb : Nat → Nat → Int32} {v w : Nat → Int32} (h : RS b si sa v) (hi : ∀ k, k < 11 → sj k = si k) (ha : ∀ j i, (j = 0 ∧ i < 6 ∨ j = 1 ∧ i < 10 ∨ (j = 2 ∨ j = 3) ∧ i < 100 ∨ (4 ≤ j ∧ j ≤ 10) ∧ i < 41 ∨ j = 11 ∧ i < 410 ∨ (12 ≤ j ∧ j ≤ 14) ∧ i < 20) → sb j i = sa j i) (hv : ∀ i, i < 1100 → w i = v i) : RS b sj sb w := by
  obtain ⟨h1, h2, h3, h4, h5, h6, h7⟩ := h
  have hT : tN v 9 ≤ 40 := h3.2.1.2
  have hk : ∀ i, i < 1100 → tN w i = tN v i := fun i hi => tN_congr (hv i hi)
  refine ⟨Pset_congr h1 (fun i g => hv i (by omega)) (fun i g => ha 0 i (by omega)), ?_, ?_, ⟨fun m hm => Pm1_congr (h4.1 m hm) (fun i g1 g2 => hv i (by omega)) (hv _ (by omega)) (ha 1 m (by omega)) (fun k hk => ha 2 _ (by omega)), Bm_congr h4.2.1 (hi 2 (by omega)) (fun m hm => hv _ (by omega)), Bm_congr h4.2.2.1 (hi 7 (by omega)) (fun m hm => hv _ (by omega)), Bm_congr h4.2.2.2 (hi 3 (by omega)) (fun m hm => hv _ (by omega))⟩, fun s hs => ?_, fun i g => ?_, fun i g => ?_⟩
  · obtain ⟨a1, a2, a3, a4, a5, a6, a7, a8⟩ := h2
    refine ⟨?_, ?_, ?_, ?_, ?_, ?_, ?_, ?_⟩ <;> first | (rw [hi 0 (by omega), hv 6 (by omega)]; exact a1) | (rw [hi 4 (by omega), hv 7 (by omega)]; exact a2) | (rw [hi 5 (by omega), hv 8 (by omega)]; exact a3) | (rw [hi 9 (by omega), hv 9 (by omega)]; exact a4) | (rw [hi 1 (by omega), hv 10 (by omega)]; exact a5) | (rw [hi 6 (by omega), hv 11 (by omega)]; exact a6) | (rw [hi 10 (by omega), hv 12 (by omega)]; exact a7) | (rw [hi 8 (by omega), hv 13 (by omega)]; exact a8)
  · obtain ⟨a1, a2, a3, a4, a5, a6, a7⟩ := h3
    refine ⟨isN_congr a1 (hv _ (by omega)), isN_congr a2 (hv _ (by omega)), isN_congr a3 (hv _ (by omega)), isN_congr a4 (hv _ (by omega)), isN_congr a5 (hv _ (by omega)), ?_, ?_⟩
    · rw [hv 11 (by omega), hk 9 (by omega)]; exact a6
    · rw [hv 7 (by omega), hv 8 (by omega), hk 8 (by omega), hk 10 (by omega)]
      exact a7.imp id (fun z => ⟨z.1, isN_congr z.2.1 (hv _ (by omega)), z.2.2⟩)
  · rw [hk 9 (by omega)] at hs
    exact Pt1_congr (h5 s hs) (fun i g1 g2 => hv i (by omega)) (fun j g1 g2 => ha j _ (by omega)) (fun m hm => ha 11 _ (by omega))
  · rw [ha 12 i (by omega), ha 13 i (by omega), ha 14 i (by omega), hv _ (by omega), hv _ (by omega), hv _ (by omega)]
    exact h6 i g
  · rw [ha 3 i (by omega), hv _ (by omega)]
    exact h7 i g
theorem hold_le {b : Nat} {si : Nat → Int32} {sa : Nat → Nat → Int32} {v : Nat → Int32} (h : RS b si sa v) (z : v 7 = 2 ∨ v 7 = 1) : isN v 8 9 ∧ tN v 8 < tN v 10 := by
  rcases h.2.2.1.2.2.2.2.2.2 with q | q
  · exfalso
    rcases z with z | z
    · exact absurd (q.1.symm.trans z) (by decide)
    · exact absurd (q.1.symm.trans z) (by decide)
  · exact q.2
theorem RO_copy {b : Nat} {si sj : Nat → Int32} {sa sb : Nat → Nat → Int32} {v w : Nat → Int32} (h : RO b si sa v) (hi : ∀ k, k < 11 → sj k = si k) (ha : ∀ j i, (j = 0 ∧ i < 6 ∨ j = 1 ∧ i < 10 ∨ (j = 2 ∨ j = 3) ∧ i < 100 ∨ (4 ≤ j ∧ j ≤ 10) ∧ i < 41 ∨ j = 11 ∧ i < 410 ∨ (12 ≤ j ∧ j ≤ 14) ∧ i < 20) → sb j i = sa j i) (hv : ∀ i, i < 1100 → w i = v i) : RO b sj sb w := by
  refine ⟨RS_copy h.1 hi ha hv, fun z => ?_⟩
  rw [hv 7 (by omega)] at z
  have h8 := (hold_le h.1 (Or.inl z)).1.2
  have hT : tN v 9 ≤ 40 := h.1.2.2.1.2.1.2
  have hk : ∀ i, i < 1100 → tN w i = tN v i := fun i hi => tN_congr (hv i hi)
  rw [hk 9 (by omega), hk 8 (by omega), hv 8 (by omega), hv _ (by omega), hk _ (by omega)]
  exact h.2 z
theorem RO_mono {b c : Nat} {si : Nat → Int32} {sa : Nat → Nat → Int32} {v : Nat → Int32} (h : RO b si sa v) (hb : b ≤ c) : RO c si sa v := ⟨RS_mono h.1 hb, h.2⟩
