/-! ===== events, caretakers, the end of a term, petitions ===== -/
section TR
variable {b : Nat} {si : Nat → Int32} {sa : Nat → Nat → Int32} {v : Nat → Int32}
def tellV (v : Nat → Int32) (p : Nat) (k a e : Int32) : Nat → Int32 := upd (upd (upd (upd v (910 + 3 * p) (v 6)) (911 + 3 * p) k) (912 + 3 * p) a) 12 e
def tellA (sa : Nat → Nat → Int32) (p : Nat) (t k a : Int32) : Nat → Nat → Int32 := va_up (va_up (va_up sa 12 (upd (sa 12) p t)) 13 (upd (sa 13) p k)) 14 (upd (sa 14) p a)
theorem tell_ok (hb : b < 2 ^ 30) (h : RS b si sa v) (k a : Int32) : ∃ si' sa' v', F_X1_tell si sa (si 0) k a = some (si', sa') ∧ F_X8_tells v k a = some v' ∧ RS (b + 1) si' sa' v' ∧ (∀ i, i ≠ 12 → i < 910 → v' i = v i) := by
  obtain ⟨e12, h12⟩ := h.2.2.1.2.2.2.1
  have e10 : si 10 = nI (tN v 12) := by rw [← e12]; exact h.2.1.2.2.2.2.2.2.1
  have r12 : tv_rd 1100 v 12 = some (nI (tN v 12)) := by rw [← e12]; exact rd_n (k := 12) (by omega) (by omega)
  have hE : tN v 12 < 2 ^ 30 := by omega
  generalize hEe : tN v 12 = E at e12 h12 e10 r12 hE
  have e2 : nI E - nI E / 20 * 20 = nI (E % 20) := pk_rem (d := 20) (by omega) (by omega) (by omega)
  have hp : E % 20 < 20 := Nat.mod_lt _ (by omega)
  generalize E % 20 = p at e2 hp
  have hv : ∀ i, i ≠ 12 → (i < 910 ∨ 970 ≤ i) → tellV v p k a (nI (E + 1)) i = v i := fun i h1 h2 => by
    unfold tellV
    rw [pk_un h1, pk_un (by omega), pk_un (by omega), pk_un (by omega)]
  have h12' : tellV v p k a (nI (E + 1)) 12 = nI (E + 1) := by unfold tellV; exact pk_us
  have hA : ∀ j, j < 12 → tellA sa p (si 0) k a j = sa j := fun j hj => by
    unfold tellA
    rw [up_n (by omega), up_n (by omega), up_n (by omega)]
  have hs : ∀ j, j ≠ 10 → upd si 10 (nI (E + 1)) j = si j := fun j hj => pk_un hj
  refine ⟨upd si 10 (nI (E + 1)), tellA sa p (si 0) k a, tellV v p k a (nI (E + 1)), ?_, ?_, ⟨Pset_congr h.1 (fun i hi => hv i (by omega) (by omega)) (fun i hi => by rw [hA 0 (by omega)]), ?_, ?_, Pmem_congr h.2.2.2.1 (fun i g1 g2 => hv i (by omega) (by omega)) (hv 10 (by omega) (by omega)) (hA 1 (by omega)) (hA 2 (by omega)) (hs 2 (by omega)) (hs 7 (by omega)) (hs 3 (by omega)), Pter_congr h.2.2.2.2.1 (hv 9 (by omega) (by omega)) (RS_T h).2 (fun i g1 g2 => hv i (by omega) (by omega)) (fun j g1 g2 => hA j (by omega)), fun i hi => ?_, Ptal_congr h.2.2.2.2.2.2 (fun i g1 g2 => hv i (by omega) (by omega)) (hA 3 (by omega))⟩, fun i g1 g2 => hv i g1 (Or.inl g2)⟩
  · unfold F_X1_tell
    rw [e10, e2, wr_n (by omega) (by omega), Option.bind_some, up_n (by omega), wr_n (by omega) (by omega), Option.bind_some, up_n (by omega), up_n (by omega), wr_n (by omega) (by omega), Option.bind_some, show nI E + 1 = nI (E + 1) from nI_1 E]
    rfl
  · unfold F_X8_tells
    rw [r12, Option.bind_some, show tv_rd 1100 v 6 = some (v 6) from rd_n (k := 6) (by omega) (by omega), Option.bind_some, e2, show (910 : Int32) = nI 910 from rfl, show (3 : Int32) = nI 3 from rfl, pk_mul, nI_add, wr_n (by omega) (by omega), Option.bind_some, show nI (910 + 3 * p) + 1 = nI (910 + 3 * p + 1) from nI_1 _, wr_n (by omega) (by omega), Option.bind_some, show nI (910 + 3 * p) + 2 = nI (910 + 3 * p + 2) from nI_add _ 2, wr_n (by omega) (by omega), Option.bind_some, show 910 + 3 * p + 1 = 911 + 3 * p by omega, show 910 + 3 * p + 2 = 912 + 3 * p by omega]
    have r : ∀ w : Nat → Int32, tv_rd 1100 w 12 = some (w 12) := fun w => rd_n (k := 12) (by omega) (by omega)
    have w : ∀ (w : Nat → Int32) (x : Int32), tv_wr 1100 w 12 x = some (upd w 12 x) := fun w x => wr_n (k := 12) (by omega) (by omega)
    rw [r, Option.bind_some, w, Option.bind_some, pk_un (by omega), pk_un (by omega), pk_un (by omega), e12, show nI E + 1 = nI (E + 1) from nI_1 E]
    rfl
  · obtain ⟨a1, a2, a3, a4, a5, a6, a7, a8⟩ := h.2.1
    refine ⟨?_, ?_, ?_, ?_, ?_, ?_, ?_, ?_⟩
    · rw [hs 0 (by omega), hv 6 (by omega) (by omega)]; exact a1
    · rw [hs 4 (by omega), hv 7 (by omega) (by omega)]; exact a2
    · rw [hs 5 (by omega), hv 8 (by omega) (by omega)]; exact a3
    · rw [hs 9 (by omega), hv 9 (by omega) (by omega)]; exact a4
    · rw [hs 1 (by omega), hv 10 (by omega) (by omega)]; exact a5
    · rw [hs 6 (by omega), hv 11 (by omega) (by omega)]; exact a6
    · rw [h12', pk_us]
    · rw [hs 8 (by omega), hv 13 (by omega) (by omega)]; exact a8
  · obtain ⟨a1, a2, a3, a4, a5, a6, a7⟩ := h.2.2.1
    refine ⟨isN_congr a1 (hv 6 (by omega) (by omega)), isN_congr a2 (hv 9 (by omega) (by omega)), isN_congr a3 (hv 10 (by omega) (by omega)), isN_of h12' (by omega) (by omega), isN_congr a5 (hv 13 (by omega) (by omega)), ?_, ?_⟩
    · rw [hv 11 (by omega) (by omega), tN_congr (hv 9 (by omega) (by omega))]; exact a6
    · rw [hv 7 (by omega) (by omega), hv 8 (by omega) (by omega), tN_congr (hv 8 (by omega) (by omega)), tN_congr (hv 10 (by omega) (by omega))]
      exact a7.imp id (fun z => ⟨z.1, isN_congr z.2.1 (hv 8 (by omega) (by omega)), z.2.2⟩)
  · obtain ⟨q1, q2, q3⟩ := h.2.2.2.2.2.1 i hi
    have t12 : tellA sa p (si 0) k a 12 = upd (sa 12) p (si 0) := by unfold tellA; rw [up_n (by omega), up_n (by omega), up_s]
    have t13 : tellA sa p (si 0) k a 13 = upd (sa 13) p k := by unfold tellA; rw [up_n (by omega), up_s]
    have t14 : tellA sa p (si 0) k a 14 = upd (sa 14) p a := by unfold tellA; rw [up_s]
    rw [t12, t13, t14]
    unfold tellV
    by_cases c : i = p
    · subst c
      refine ⟨?_, ?_, ?_⟩
      · rw [pk_us, pk_un (by omega), pk_un (by omega), pk_un (by omega), pk_us]; exact h.2.1.1
      · rw [pk_us, pk_un (by omega), pk_un (by omega), pk_us]
      · rw [pk_us, pk_un (by omega), pk_us]
    · refine ⟨?_, ?_, ?_⟩
      · rw [pk_un c, pk_un (by omega), pk_un (by omega), pk_un (by omega), pk_un (by omega)]; exact q1
      · rw [pk_un c, pk_un (by omega), pk_un (by omega), pk_un (by omega), pk_un (by omega)]; exact q2
      · rw [pk_un c, pk_un (by omega), pk_un (by omega), pk_un (by omega), pk_un (by omega)]; exact q3
/-- the office changes hands -/
theorem office_ok {si' v' : Nat → Int32} {x r : Int32} (h : RS b si sa v) (hx : (x = 0 ∧ r = -9) ∨ ((x = 1 ∨ x = 2) ∧ ∃ j, j < tN v 10 ∧ r = nI j)) (h4 : si' 4 = x) (h5 : si' 5 = r) (hs : ∀ j, j ≠ 4 → j ≠ 5 → si' j = si j) (h7 : v' 7 = x) (h8 : v' 8 = r) (hv : ∀ i, i ≠ 7 → i ≠ 8 → v' i = v i) : RS b si' sa v' := by
  have hM := (RS_M h).2
  refine ⟨Pset_congr h.1 (fun i hi => hv i (by omega) (by omega)) (fun _ _ => rfl), ?_, ?_, Pmem_congr h.2.2.2.1 (fun i g1 g2 => hv i (by omega) (by omega)) (hv 10 (by omega) (by omega)) rfl rfl (hs 2 (by omega) (by omega)) (hs 7 (by omega) (by omega)) (hs 3 (by omega) (by omega)), Pter_congr h.2.2.2.2.1 (hv 9 (by omega) (by omega)) (RS_T h).2 (fun i g1 g2 => hv i (by omega) (by omega)) (fun _ _ _ => rfl), Pev_congr h.2.2.2.2.2.1 (fun i g1 g2 => hv i (by omega) (by omega)) (fun _ _ _ => rfl), Ptal_congr h.2.2.2.2.2.2 (fun i g1 g2 => hv i (by omega) (by omega)) rfl⟩
  · obtain ⟨a1, a2, a3, a4, a5, a6, a7, a8⟩ := h.2.1
    refine ⟨?_, by rw [h4, h7], by rw [h5, h8], ?_, ?_, ?_, ?_, ?_⟩
    · rw [hs 0 (by omega) (by omega), hv 6 (by omega) (by omega)]; exact a1
    · rw [hs 9 (by omega) (by omega), hv 9 (by omega) (by omega)]; exact a4
    · rw [hs 1 (by omega) (by omega), hv 10 (by omega) (by omega)]; exact a5
    · rw [hs 6 (by omega) (by omega), hv 11 (by omega) (by omega)]; exact a6
    · rw [hs 10 (by omega) (by omega), hv 12 (by omega) (by omega)]; exact a7
    · rw [hs 8 (by omega) (by omega), hv 13 (by omega) (by omega)]; exact a8
  · obtain ⟨a1, a2, a3, a4, a5, a6, a7⟩ := h.2.2.1
    refine ⟨isN_congr a1 (hv 6 (by omega) (by omega)), isN_congr a2 (hv 9 (by omega) (by omega)), isN_congr a3 (hv 10 (by omega) (by omega)), isN_congr a4 (hv 12 (by omega) (by omega)), isN_congr a5 (hv 13 (by omega) (by omega)), ?_, ?_⟩
    · rw [hv 11 (by omega) (by omega), tN_congr (hv 9 (by omega) (by omega))]; exact a6
    · rw [h7, h8]
      rcases hx with q | ⟨q1, j, q2, q3⟩
      · exact Or.inl q
      · have e8 : v' 8 = nI j := h8.trans q3
        exact Or.inr ⟨q1, isN_of e8 (by omega) (by omega), by rw [tN_of e8 (by omega), tN_congr (hv 10 (by omega) (by omega))]; exact q2⟩
/-! the best caretaker -/
theorem best_tail (h : RS b si sa v) (a : Int32) : ∀ (k i n : Nat) (l2 l3 l4 : Int32), i + k = 10 → tN v 10 ≤ i → k < n → F_X5_bestCaretaker_L11 si sa a n l2 l3 l4 (nI i) = some l2
  | 0, i, n + 1, l2, l3, l4, hi, hM, hn => by
    rw [F_X5_bestCaretaker_L11, if_pos (show (10 : Int32) ≤ nI i from nI_le (a := 10) (by omega) (by omega))]
  | k + 1, i, n + 1, l2, l3, l4, hi, hM, hn => by
    have hz : v (21 + 15 * i) = 0 := by
      have p := RS_m h (m := i) (by omega)
      exact (n1_iff0 p.2.2.1).mpr (p.2.2.2.2.2.2.2.1 hM).1
    rw [F_X5_bestCaretaker_L11, if_neg (show ¬ (10 : Int32) ≤ nI i from nI_ge (b := 10) (by omega) (by omega)), pres_c h (by omega), if_pos hz, show nI i + 1 = nI (i + 1) from nI_1 i]
    exact best_tail h a k (i + 1) n l2 l3 l4 (by omega) (by omega) (by omega)
  | k, i, 0, l2, l3, l4, hi, hM, hn => by omega
def bestI (v : Nat → Int32) (l2 l3 l4 : Int32) : Prop := l2 = -9 ∨ ∃ j r q : Nat, j < tN v 10 ∧ r ≤ 100 ∧ q ≤ 40 ∧ l2 = nI j ∧ l3 = nI r ∧ l4 = nI q ∧ F_X8_reputation v (nI j) = some (nI r) ∧ F_X8_led v (nI j) = some (nI q)
theorem best_L (h : RS b si sa v) (a : Int32) : ∀ (k i n : Nat) (l2 l3 l4 : Int32), i + k = tN v 10 → bestI v l2 l3 l4 → 10 < n + i → ∃ r, F_X5_bestCaretaker_L11 si sa a n l2 l3 l4 (nI i) = some r ∧ F_X8_appoints_L5 v a n l2 (nI i) = some r ∧ (r = -9 ∨ ∃ j, j < tN v 10 ∧ r = nI j)
  | 0, i, n, l2, l3, l4, hi, hI, hn => by
    obtain ⟨eM, hM⟩ := RS_M h
    cases n with
    | zero => omega
    | succ n =>
      refine ⟨l2, best_tail h a (10 - i) i (n + 1) l2 l3 l4 (by omega) (by omega) (by omega), ?_, ?_⟩
      · rw [F_X8_appoints_L5, show tv_rd 1100 v 10 = some (nI (tN v 10)) from by rw [← eM]; exact rd_n (k := 10) (by omega) (by omega), Option.bind_some, if_pos (nI_le (by omega) (by omega))]
      · exact hI.imp id (fun ⟨j, _, _, z1, _, _, z2, _⟩ => ⟨j, z1, z2⟩)
  | k + 1, i, n, l2, l3, l4, hi, hI, hn => by
    obtain ⟨eM, hM⟩ := RS_M h
    cases n with
    | zero => omega
    | succ n =>
      have ih := fun l2 l3 l4 hI => best_L h a k (i + 1) n l2 l3 l4 (by omega) hI (by omega)
      rw [F_X5_bestCaretaker_L11, F_X8_appoints_L5, if_neg (show ¬ (10 : Int32) ≤ nI i from nI_ge (b := 10) (by omega) (by omega)), show tv_rd 1100 v 10 = some (nI (tN v 10)) from by rw [← eM]; exact rd_n (k := 10) (by omega) (by omega), Option.bind_some, if_neg (nI_ge (by omega) (by omega)), pres_c h (by omega), isPres_m h (by omega), Option.bind_some, show nI i + 1 = nI (i + 1) from nI_1 i]
      by_cases c1 : v (21 + 15 * i) = 0
      · rw [if_pos c1, if_pos c1]
        exact ih l2 l3 l4 hI
      · rw [if_neg c1, if_neg c1]
        by_cases c2 : nI i = a
        · rw [if_pos c2, if_pos c2]
          exact ih l2 l3 l4 hI
        · rw [if_neg c2, if_neg c2]
          obtain ⟨r, hr, r1, r2⟩ := rep_ok h (nI i)
          obtain ⟨q, hq, q1, q2⟩ := led_ok h (nI i)
          have new : bestI v (nI i) (nI r) (nI q) := Or.inr ⟨i, r, q, by omega, hr, hq, rfl, rfl, rfl, r2, q2⟩
          rw [show tv_rd 6 (sa 0) 5 = some (v 5) from by rw [← RS_s h (i := 5) (by omega)]; exact rd_n (k := 5) (by omega) (by omega), Option.bind_some, r1, Option.bind_some, q1, Option.bind_some]
          rcases hI with rfl | ⟨j, rj, qj, z1, z2, z3, rfl, rfl, rfl, z7, z8⟩
          · rw [if_pos rfl, if_neg m9_neg, Option.bind_some, if_neg h10, Option.bind_some, if_neg (show ¬ (1 : Int32) ≤ 0 from by decide)]
            exact ih _ _ _ new
          · have old : bestI v (nI j) (nI rj) (nI qj) := Or.inr ⟨j, rj, qj, z1, z2, z3, rfl, rfl, rfl, z7, z8⟩
            rw [if_neg (nI_ne9 (by omega)), if_pos (nI_ge0 (by omega)), r2, Option.bind_some, z7, Option.bind_some, Option.bind_some, z8, q2]
            have d1 := pk_sub_toInt (a := r) (b := rj) (by omega) (by omega)
            have d2 := pk_sub_toInt (a := qj) (b := q) (by omega) (by omega)
            by_cases c3 : r = rj
            · subst c3
              have e0 : nI r - nI r = 0 := by rw [toI_eq, d1, show ((0 : Int32)).toInt = 0 from by decide]; omega
              rw [if_neg (nI_nlt (Nat.le_refl _) (by omega)), if_pos rfl, e0, if_pos h00, Option.bind_some, Option.bind_some, Option.bind_some]
              by_cases c4 : qj ≤ q
              · rw [if_pos (nI_le c4 (by omega)), if_pos (by rw [toI_le, d2, show ((0 : Int32)).toInt = 0 from by decide]; omega)]
                exact ih _ _ _ old
              · rw [if_neg (nI_ge (by omega) (by omega)), if_neg (by rw [toI_le, d2, show ((0 : Int32)).toInt = 0 from by decide]; omega)]
                exact ih _ _ _ new
            · have n0 : ¬ nI r - nI rj = 0 := by rw [toI_eq, d1, show ((0 : Int32)).toInt = 0 from by decide]; omega
              rw [if_neg n0, Option.bind_some]
              by_cases c4 : rj < r
              · rw [if_pos (nI_lt c4 (by omega)), if_neg (by rw [toI_le, d1, show ((0 : Int32)).toInt = 0 from by decide]; omega)]
                exact ih _ _ _ new
              · rw [if_neg (nI_nlt (by omega) (by omega)), if_neg (by rw [nI_eq (by omega) (by omega)]; exact c3), if_pos (by rw [toI_le, d1, show ((0 : Int32)).toInt = 0 from by decide]; omega)]
                exact ih _ _ _ old
theorem appoint_ok (hb : b < 2 ^ 30) (h : RS b si sa v) (a : Int32) : ∃ si' sa' v', F_X5_appointCaretaker si sa a = some (si', sa') ∧ F_X8_appoints v a = some v' ∧ RO (b + 1) si' sa' v' ∧ v' 7 ≠ 2 ∧ ∀ i, i ≠ 7 → i ≠ 8 → i ≠ 12 → i < 910 → v' i = v i := by
  have hM := (RS_M h).2
  obtain ⟨r, r1, r2, r3⟩ := best_L h a (tN v 10) 0 tv_fu (-9) 0 0 (by omega) (Or.inl rfl) (by rw [tv_fu_eq]; omega)
  rw [nI_0] at r1 r2
  have w7 : ∀ (w : Nat → Int32) (x : Int32), tv_wr 1100 w 7 x = some (upd w 7 x) := fun w x => wr_n (k := 7) (by omega) (by omega)
  have w8 : ∀ (w : Nat → Int32) (x : Int32), tv_wr 1100 w 8 x = some (upd w 8 x) := fun w x => wr_n (k := 8) (by omega) (by omega)
  unfold F_X5_appointCaretaker F_X8_appoints F_X5_bestCaretaker
  rw [r1, r2, Option.bind_some, Option.bind_some, Option.bind_some]
  have e5 : upd si 5 r 5 = r := pk_us
  rw [e5]
  rcases r3 with rfl | ⟨j, hj, rfl⟩
  · have ho := office_ok (si' := upd (upd si 5 (-9)) 4 0) (v' := upd (upd v 7 0) 8 (-9)) (x := 0) (r := -9) h (Or.inl ⟨rfl, rfl⟩) pk_us (by rw [pk_un (by omega), pk_us]) (fun j q1 q2 => by rw [pk_un q1, pk_un q2]) (by rw [pk_un (by omega), pk_us]) pk_us (fun i q1 q2 => by rw [pk_un q2, pk_un q1])
    obtain ⟨si', sa', v', t1, t2, t3, t4⟩ := tell_ok hb ho 7 (-9)
    have e5' : upd (upd si 5 (-9)) 4 0 5 = -9 := by rw [pk_un (by omega), pk_us]
    rw [if_pos rfl, Option.bind_some, e5', if_pos rfl, Option.bind_some, t1, if_neg m9_neg, Option.bind_some, if_neg m9_neg, Option.bind_some, w7, Option.bind_some, w8, Option.bind_some, Option.bind_some, t2]
    have h7 : v' 7 ≠ 2 := by
      rw [t4 7 (by omega) (by omega), pk_un (by omega), pk_us]
      decide
    exact ⟨_, _, _, rfl, rfl, ⟨t3, fun z => absurd z h7⟩, h7, fun i g1 g2 g3 g4 => by rw [t4 i g3 g4, pk_un g2, pk_un g1]⟩
  · have ho := office_ok (si' := upd (upd si 5 (nI j)) 4 1) (v' := upd (upd v 7 1) 8 (nI j)) (x := 1) (r := nI j) h (Or.inr ⟨Or.inl rfl, j, hj, rfl⟩) pk_us (by rw [pk_un (by omega), pk_us]) (fun j q1 q2 => by rw [pk_un q1, pk_un q2]) (by rw [pk_un (by omega), pk_us]) pk_us (fun i q1 q2 => by rw [pk_un q2, pk_un q1])
    obtain ⟨si', sa', v', t1, t2, t3, t4⟩ := tell_ok hb ho 5 (nI j)
    have e5' : upd (upd si 5 (nI j)) 4 1 5 = nI j := by rw [pk_un (by omega), pk_us]
    have n9 : ¬ nI j = -9 := nI_ne9 (by omega)
    have g0 : (0 : Int32) ≤ nI j := nI_ge0 (by omega)
    rw [if_neg n9, Option.bind_some, e5', if_neg n9, Option.bind_some, t1, if_pos g0, Option.bind_some, if_pos g0, Option.bind_some, w7, Option.bind_some, w8, Option.bind_some, Option.bind_some, t2]
    have h7 : v' 7 ≠ 2 := by
      rw [t4 7 (by omega) (by omega), pk_un (by omega), pk_us]
      decide
    exact ⟨_, _, _, rfl, rfl, ⟨t3, fun z => absurd z h7⟩, h7, fun i g1 g2 g3 g4 => by rw [t4 i g3 g4, pk_un g2, pk_un g1]⟩
end TR
