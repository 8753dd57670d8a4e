/-! ===== the law's loop ===== -/
section A9
theorem lg_self (y : Int64) : lg_cmp y y = 0 := by
  unfold lg_cmp
  rw [if_neg (show ¬ y > y from Int64.lt_irrefl), if_pos rfl]
theorem bit01 (x : Int32) : ∃ y : Int32, (if x = 0 then some (0 : Int32) else some 1) = some y ∧ (y = 0 ∨ y = 1) := by
  by_cases c : x = 0
  · exact ⟨0, if_pos c, Or.inl rfl⟩
  · exact ⟨1, if_neg c, Or.inr rfl⟩
set_option maxHeartbeats 2000000 in
theorem law_L {sL : Nat} {sX : Nat → Int32} (hL : sL ≤ 2560) : ∀ (k i n b : Nat) (si : Nat → Int32) (sa : Nat → Nat → Int32) (hs : Nat → (Nat → Int32) × (Nat → Nat → Int32)) (tx : Nat → Int32) (tl hc hn : Int32) (v pa mt : Nat → Int32) (pm ty ra : Int32), sL ≤ i + 5 * k + 4 → k < n → i ≤ sL → b + 4 * k < 2 ^ 20 → RO b si sa v → RH b hs hc hn pa pm → RT tx tl mt ty → ∃ p, F_L_law_L18 sL sX n (nI i) si sa hs tx tl hc hn v pa mt pm ty ra = some p ∧ p.1 = 1
  | k, i, 0, b, si, sa, hs, tx, tl, hc, hn, v, pa, mt, pm, ty, ra, hk, hn', hi, hb, h, hh, ht => by omega
  | k, i, n + 1, b, si, sa, hs, tx, tl, hc, hn, v, pa, mt, pm, ty, ra, hk, hn', hi, hb, h, hh, ht => by
    have cI : (nI sL - 5 < nI i) ↔ sL < i + 5 := by
      have e : (nI sL - 5).toInt = (sL : Int) - 5 := by
        rw [toI_sub, nI_toInt (by omega), show ((5 : Int32)).toInt = 5 from by decide] <;> rw [nI_toInt (by omega), show ((5 : Int32)).toInt = 5 from by decide] <;> omega
      rw [toI_lt, e, nI_toInt (by omega)]
      omega
    rw [F_L_law_L18]
    by_cases c : sL < i + 5
    · rw [if_pos (show (Int32.ofNat sL) - 5 < nI i from cI.mpr c)]
      exact ⟨_, rfl, rfl⟩
    rw [if_neg (show ¬ (Int32.ofNat sL) - 5 < nI i from fun z => c (cI.mp z)), rd_n (by omega) (by omega), Option.bind_some]
    cases k with
    | zero => omega
    | succ k =>
    have r1 : tv_rd sL sX (nI i + 1) = some (sX (i + 1)) := by rw [nI_1]; exact rd_n (by omega) (by omega)
    have r2 : tv_rd sL sX (nI i + 2) = some (sX (i + 2)) := by rw [show (2 : Int32) = nI 2 from rfl, nI_add]; exact rd_n (by omega) (by omega)
    have r3 : tv_rd sL sX (nI i + 3) = some (sX (i + 3)) := by rw [show (3 : Int32) = nI 3 from rfl, nI_add]; exact rd_n (by omega) (by omega)
    have r4 : tv_rd sL sX (nI i + 4) = some (sX (i + 4)) := by rw [show (4 : Int32) = nI 4 from rfl, nI_add]; exact rd_n (by omega) (by omega)
    have go : ∀ (si : Nat → Int32) (sa : Nat → Nat → Int32) (hs : Nat → (Nat → Int32) × (Nat → Nat → Int32)) (tx : Nat → Int32) (tl hc hn : Int32) (v pa mt : Nat → Int32) (pm ty ra : Int32), RO (b + 4) si sa v → RH (b + 4) hs hc hn pa pm → RT tx tl mt ty → ∃ p, F_L_law_L18 sL sX n (nI i + 5) si sa hs tx tl hc hn v pa mt pm ty ra = some p ∧ p.1 = 1 := fun si sa hs tx tl hc hn v pa mt pm ty ra u1 u2 u3 => by
      rw [show (5 : Int32) = nI 5 from rfl, nI_add]
      exact law_L hL k (i + 5) n (b + 4) si sa hs tx tl hc hn v pa mt pm ty ra (by omega) (by omega) (by omega) (by omega) u1 u2 u3
    have stay := go si sa hs tx tl hc hn v pa mt pm ty ra (RO_mono h (by omega)) (RH_mono hh (by omega)) ht
    obtain ⟨y2, b2, g2⟩ := bit01 (sX (i + 2))
    obtain ⟨y1, b1, g1⟩ := bit01 (sX (i + 1))
    generalize sX i &&& 31 = q
    by_cases c0 : q = 0
    · rw [if_pos c0]
      obtain ⟨r, si', sa', hs', hc', hn', v', pa', pm', u1, u2, u3, u4⟩ := set_ok (by omega) h hh (sX (i + 1)) (sX (i + 2))
      simp only [r1, r2, r3, r4, b1, b2, Option.bind_some, u1, u2]
      rw [if_pos trivial]
      exact go _ _ _ _ _ _ _ _ _ _ _ _ _ (RO_mono u3 (by omega)) (RH_mono u4 (by omega)) ht
    rw [if_neg c0]
    by_cases c1 : q = 1
    · rw [if_pos c1]
      obtain ⟨r, si', sa', hs', hc', hn', v', pa', pm', u1, u2, u3, u4⟩ := join_ok (by omega) h hh (sX (i + 1))
      simp only [r1, r2, r3, r4, b1, b2, Option.bind_some, u1, u2]
      rw [if_pos trivial]
      exact go _ _ _ _ _ _ _ _ _ _ _ _ _ (RO_mono u3 (by omega)) (RH_mono u4 (by omega)) ht
    rw [if_neg c1]
    by_cases c2 : q = 2
    · rw [if_pos c2]
      obtain ⟨r, si', sa', hs', hc', hn', v', pa', pm', u1, u2, u3, u4⟩ := present_ok (by omega) h hh (sX (i + 1)) y2 g2
      simp only [r1, r2, r3, r4, b1, b2, Option.bind_some, u1, u2]
      rw [if_pos trivial]
      exact go _ _ _ _ _ _ _ _ _ _ _ _ _ (RO_mono u3 (by omega)) (RH_mono u4 (by omega)) ht
    rw [if_neg c2]
    by_cases c3 : q = 3
    · rw [if_pos c3]
      obtain ⟨r, si', sa', hs', hc', hn', v', pa', pm', u1, u2, u3, u4⟩ := pass_ok (by omega) h hh (sX (i + 1))
      simp only [r1, r2, r3, r4, b1, b2, Option.bind_some, u1, u2]
      rw [if_pos trivial]
      exact go _ _ _ _ _ _ _ _ _ _ _ _ _ (RO_mono u3 (by omega)) (RH_mono u4 (by omega)) ht
    rw [if_neg c3]
    by_cases c4 : q = 4
    · rw [if_pos c4]
      obtain ⟨r, si', hs', hc', hn', v', pa', pm', u1, u2, u3, u4⟩ := open_ok h hh
      simp only [r1, r2, r3, r4, b1, b2, Option.bind_some, u1, u2]
      rw [if_pos trivial]
      exact go _ _ _ _ _ _ _ _ _ _ _ _ _ (RO_mono u3 (by omega)) (RH_mono u4 (by omega)) ht
    rw [if_neg c4]
    by_cases c5 : q = 5
    · rw [if_pos c5]
      obtain ⟨r, si', hs', hc', hn', v', pa', pm', u1, u2, u3, u4⟩ := nominate_ok h hh (sX (i + 1))
      simp only [r1, r2, r3, r4, b1, b2, Option.bind_some, u1, u2]
      rw [if_pos trivial]
      exact go _ _ _ _ _ _ _ _ _ _ _ _ _ (RO_mono u3 (by omega)) (RH_mono u4 (by omega)) ht
    rw [if_neg c5]
    by_cases c6 : q = 6
    · rw [if_pos c6]
      obtain ⟨r, sa', hs', tl', hc', hn', v', pa', pm', ty', u1, u2, u3, u4, u5⟩ := cast_ok h hh ht (sX (i + 1))
      simp only [r1, r2, r3, r4, b1, b2, Option.bind_some, u1, u2]
      rw [if_pos trivial]
      exact go _ _ _ _ _ _ _ _ _ _ _ _ _ (RO_mono u3 (by omega)) (RH_mono u4 (by omega)) u5
    rw [if_neg c6]
    by_cases c7 : q = 7
    · rw [if_pos c7]
      obtain ⟨r, si', sa', hs', hc', hn', v', pa', pm', ra', u1, u2, u3, u4⟩ := close_ok (by omega) h hh ra
      simp only [r1, r2, r3, r4, b1, b2, Option.bind_some, u1, u2]
      rw [if_pos trivial]
      exact go _ _ _ _ _ _ _ _ _ _ _ _ _ (RO_mono u3 (by omega)) (RH_mono u4 (by omega)) ht
    rw [if_neg c7]
    by_cases c8 : q = 8
    · rw [if_pos c8]
      unfold F_X8_rounds F_X7_rounds
      rw [show tv_rd 1100 v 13 = some (v 13) from rd_n (k := 13) (by omega) (by omega), Option.bind_some, Option.bind_some, if_pos h.1.2.1.2.2.2.2.2.2.2]
      exact stay
    rw [if_neg c8]
    by_cases c9 : q = 9
    · rw [if_pos c9]
      obtain ⟨x, u1, u2⟩ := tally_ok h.1 (sX (i + 1)) (sX (i + 2))
      simp only [r1, r2, r3, r4, b1, b2, Option.bind_some, u1, u2]
      rw [if_pos trivial]
      exact stay
    rw [if_neg c9]
    by_cases c10 : q = 10
    · rw [if_pos c10]
      obtain ⟨x, u1, u2⟩ := ballot_ok h.1 (sX (i + 1)) (sX (i + 2))
      simp only [r1, r2, r3, r4, b1, b2, Option.bind_some, u1, u2]
      rw [if_pos trivial]
      exact stay
    rw [if_neg c10]
    by_cases c11 : q = 11
    · rw [if_pos c11]
      unfold F_X8_office F_X7_office
      rw [show tv_rd 1100 v 7 = some (v 7) from rd_n (k := 7) (by omega) (by omega), Option.bind_some, Option.bind_some, if_pos h.1.2.1.2.1]
      exact stay
    rw [if_neg c11]
    by_cases c12 : q = 12
    · rw [if_pos c12]
      unfold F_X8_holder F_X7_holder
      rw [show tv_rd 1100 v 8 = some (v 8) from rd_n (k := 8) (by omega) (by omega), Option.bind_some, Option.bind_some, if_pos h.1.2.1.2.2.1]
      exact stay
    rw [if_neg c12]
    by_cases c13 : q = 13
    · rw [if_pos c13]
      obtain ⟨r, sa', hs', hc', hn', v', pa', pm', u1, u2, u3, u4⟩ := deed_ok h hh y1
      simp only [r1, r2, r3, r4, b1, b2, Option.bind_some, u1, u2]
      rw [if_pos trivial]
      exact go _ _ _ _ _ _ _ _ _ _ _ _ _ (RO_mono u3 (by omega)) (RH_mono u4 (by omega)) ht
    rw [if_neg c13]
    by_cases c14 : q = 14
    · rw [if_pos c14]
      obtain ⟨r, si', sa', hs', hc', hn', v', pa', pm', u1, u2, u3, u4⟩ := sign_ok (by omega) h hh (sX (i + 1)) y2 g2
      simp only [r1, r2, r3, r4, b1, b2, Option.bind_some, u1, u2]
      rw [if_pos trivial]
      exact go _ _ _ _ _ _ _ _ _ _ _ _ _ (RO_mono u3 (by omega)) (RH_mono u4 (by omega)) ht
    rw [if_neg c14]
    by_cases c15 : q = 15
    · rw [if_pos c15]
      obtain ⟨r, sa', hs', hc', hn', v', pa', pm', u1, u2, u3, u4⟩ := grade_ok h hh (sX (i + 1)) (sX (i + 2)) (sX (i + 3)) (sX (i + 4))
      simp only [r1, r2, r3, r4, b1, b2, Option.bind_some, u1, u2]
      rw [if_pos trivial]
      exact go _ _ _ _ _ _ _ _ _ _ _ _ _ (RO_mono u3 (by omega)) (RH_mono u4 (by omega)) ht
    rw [if_neg c15]
    by_cases c16 : q = 16
    · rw [if_pos c16]
      obtain ⟨x, u1, u2⟩ := term_ok h.1 (sX (i + 1)) (sX (i + 2))
      simp only [r1, r2, r3, r4, b1, b2, Option.bind_some, u1, u2]
      rw [if_pos trivial]
      exact stay
    rw [if_neg c16]
    by_cases c17 : q = 17
    · rw [if_pos c17]
      obtain ⟨x, u1, u2⟩ := points_ok h.1 (sX (i + 1)) (sX (i + 2))
      simp only [r1, r2, r3, r4, b1, b2, Option.bind_some, u1, u2]
      rw [if_pos trivial]
      exact stay
    rw [if_neg c17]
    by_cases c18 : q = 18
    · rw [if_pos c18]
      unfold F_X8_terms F_X7_terms
      rw [show tv_rd 1100 v 9 = some (v 9) from rd_n (k := 9) (by omega) (by omega), Option.bind_some, Option.bind_some, if_pos h.1.2.1.2.2.2.1]
      exact stay
    rw [if_neg c18]
    by_cases c19 : q = 19
    · rw [if_pos c19]
      obtain ⟨x, u1, u2⟩ := member_ok h.1 (sX (i + 1)) (sX (i + 2))
      simp only [r1, r2, r3, r4, b1, b2, Option.bind_some, u1, u2]
      rw [if_pos trivial]
      exact stay
    rw [if_neg c19]
    by_cases c20 : q = 20
    · rw [if_pos c20]
      unfold F_X8_time F_X7_time
      rw [show tv_rd 1100 v 6 = some (v 6) from rd_n (k := 6) (by omega) (by omega), Option.bind_some, Option.bind_some, if_pos h.1.2.1.1]
      exact stay
    rw [if_neg c20]
    by_cases c21 : q = 21
    · rw [if_pos c21]
      unfold F_X8_events F_X7_events
      rw [show tv_rd 1100 v 12 = some (v 12) from rd_n (k := 12) (by omega) (by omega), Option.bind_some, Option.bind_some, if_pos h.1.2.1.2.2.2.2.2.2.1]
      exact stay
    rw [if_neg c21]
    by_cases c22 : q = 22
    · rw [if_pos c22]
      obtain ⟨x, u1, u2⟩ := event_ok (by omega) h.1 (sX (i + 1)) (sX (i + 2))
      simp only [r1, r2, r3, r4, b1, b2, Option.bind_some, u1, u2]
      rw [if_pos trivial]
      exact stay
    rw [if_neg c22]
    by_cases c23 : q = 23
    · rw [if_pos c23]
      obtain ⟨r, tx', tl', mt', ty', u1, u2, u3⟩ := type_ok ht (sX (i + 1))
      simp only [r1, r2, r3, r4, b1, b2, Option.bind_some, u1, u2]
      rw [if_pos trivial]
      exact go _ _ _ _ _ _ _ _ _ _ _ _ _ (RO_mono h (by omega)) (RH_mono hh (by omega)) u3
    rw [if_neg c23]
    by_cases c24 : q = 24
    · rw [if_pos c24]
      obtain ⟨r, tl', ty', u1, u2, u3⟩ := clear_ok ht
      simp only [r1, r2, r3, r4, b1, b2, Option.bind_some, u1, u2]
      rw [if_pos trivial]
      exact go _ _ _ _ _ _ _ _ _ _ _ _ _ (RO_mono h (by omega)) (RH_mono hh (by omega)) u3
    rw [if_neg c24]
    by_cases c25 : q = 25
    · rw [if_pos c25]
      obtain ⟨r, si', sa', hc', hn', v', pm', u1, u2, u3, u4⟩ := undo_ok h hh
      simp only [r1, r2, r3, r4, b1, b2, Option.bind_some, u1, u2]
      rw [if_pos trivial]
      exact go _ _ _ _ _ _ _ _ _ _ _ _ _ (RO_mono u3 (by omega)) (RH_mono u4 (by omega)) ht
    rw [if_neg c25]
    by_cases c26 : q = 26
    · rw [if_pos c26]
      obtain ⟨x, u1, u2⟩ := fp_ok h.1
      simp only [r1, r2, r3, r4, b1, b2, Option.bind_some, u1, u2]
      rw [if_pos (lg_self x)]
      exact stay
    rw [if_neg c26]
    exact stay
theorem law_ok {sL : Nat} {sX : Nat → Int32} (hL : sL ≤ 2560) {si : Nat → Int32} {sa : Nat → Nat → Int32} {hs : Nat → (Nat → Int32) × (Nat → Nat → Int32)} {tx : Nat → Int32} {tl hc hn : Int32} {v pa mt : Nat → Int32} {pm ty ra : Int32} (h : RO 0 si sa v) (hh : RH 0 hs hc hn pa pm) (ht : RT tx tl mt ty) : ∃ p, F_L_law si sa hs tx tl hc hn v pa mt pm ty ra sL sX 0 = some p ∧ p.1 = 1 := by
  have e := law_L (sX := sX) hL 512 0 tv_fu 0 si sa hs tx tl hc hn v pa mt pm ty ra (by omega) (by rw [tv_fu_eq]; omega) (by omega) (by omega) h hh ht
  rw [nI_0] at e
  unfold F_L_law
  exact e
end A9
