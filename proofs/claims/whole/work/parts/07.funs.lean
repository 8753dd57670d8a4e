noncomputable def F_X2_copy (si : Nat → Int32) (sa : Nat → Nat → Int32) (dI : Nat → Int32) (dA : Nat → Nat → Int32) : Option ((Nat → Int32) × (Nat → Nat → Int32)) :=
  if ¬ ((si 6) = 0 ∨ (si 6) = 1) then none else
  (tv_cp 100 (sa 2) 100 (dA 2) 0 0 100).bind fun x2 =>
  some ((upd (upd dI 6 (si 6)) 7 (si 7)), (va_up dA 2 x2))

noncomputable def F_X4_copy (si : Nat → Int32) (sa : Nat → Nat → Int32) (dI : Nat → Int32) (dA : Nat → Nat → Int32) : Option ((Nat → Int32) × (Nat → Nat → Int32)) :=
  (tv_cp 100 (sa 3) 100 (dA 3) 0 0 100).bind fun x1 =>
  some ((upd dI 8 (si 8)), (va_up dA 3 x1))

noncomputable def F_X6_copy (si : Nat → Int32) (sa : Nat → Nat → Int32) (dI : Nat → Int32) (dA : Nat → Nat → Int32) : Option ((Nat → Int32) × (Nat → Nat → Int32)) :=
  (tv_cp 41 (sa 4) 41 (dA 4) 0 0 (Int32.ofNat 41)).bind fun x1 =>
  (tv_cp 41 (sa 5) 41 ((va_up dA 4 x1) 5) 0 0 (Int32.ofNat 41)).bind fun x2 =>
  (tv_cp 41 (sa 6) 41 ((va_up (va_up dA 4 x1) 5 x2) 6) 0 0 (Int32.ofNat 41)).bind fun x3 =>
  (tv_cp 41 (sa 7) 41 ((va_up (va_up (va_up dA 4 x1) 5 x2) 6 x3) 7) 0 0 (Int32.ofNat 41)).bind fun x4 =>
  (tv_cp 41 (sa 8) 41 ((va_up (va_up (va_up (va_up dA 4 x1) 5 x2) 6 x3) 7 x4) 8) 0 0 (Int32.ofNat 41)).bind fun x5 =>
  (tv_cp 41 (sa 9) 41 ((va_up (va_up (va_up (va_up (va_up dA 4 x1) 5 x2) 6 x3) 7 x4) 8 x5) 9) 0 0 (Int32.ofNat 41)).bind fun x6 =>
  (tv_cp 41 (sa 10) 41 ((va_up (va_up (va_up (va_up (va_up (va_up dA 4 x1) 5 x2) 6 x3) 7 x4) 8 x5) 9 x6) 10) 0 0 (Int32.ofNat 41)).bind fun x7 =>
  (tv_cp 410 (sa 11) 410 ((va_up (va_up (va_up (va_up (va_up (va_up (va_up dA 4 x1) 5 x2) 6 x3) 7 x4) 8 x5) 9 x6) 10 x7) 11) 0 0 (Int32.ofNat 410)).bind fun x8 =>
  some ((upd dI 9 (si 9)), (va_up (va_up (va_up (va_up (va_up (va_up (va_up (va_up dA 4 x1) 5 x2) 6 x3) 7 x4) 8 x5) 9 x6) 10 x7) 11 x8))

noncomputable def F_X1_copy (si : Nat → Int32) (sa : Nat → Nat → Int32) (dI : Nat → Int32) (dA : Nat → Nat → Int32) : Option ((Nat → Int32) × (Nat → Nat → Int32)) :=
  (tv_cp 20 (sa 12) 20 (dA 12) 0 0 20).bind fun x1 =>
  (tv_cp 20 (sa 13) 20 ((va_up dA 12 x1) 13) 0 0 20).bind fun x2 =>
  (tv_cp 20 (sa 14) 20 ((va_up (va_up dA 12 x1) 13 x2) 14) 0 0 20).bind fun x3 =>
  some ((upd dI 10 (si 10)), (va_up (va_up (va_up dA 12 x1) 13 x2) 14 x3))

noncomputable def F_X5_copy (si : Nat → Int32) (sa : Nat → Nat → Int32) (dI : Nat → Int32) (dA : Nat → Nat → Int32) : Option ((Nat → Int32) × (Nat → Nat → Int32)) :=
  (tv_cp 6 (sa 0) 6 (dA 0) 0 0 6).bind fun x1 =>
  (tv_cp 10 (sa 1) 10 ((va_up dA 0 x1) 1) 0 0 10).bind fun x2 =>
  (F_X2_copy si sa (upd (upd (upd (upd (upd (upd dI 0 (si 0)) 1 (si 1)) 2 (si 2)) 3 (si 3)) 4 (si 4)) 5 (si 5)) (va_up (va_up dA 0 x1) 1 x2)).bind fun x3 =>
  (F_X4_copy si sa x3.1 x3.2).bind fun x4 =>
  (F_X6_copy si sa x4.1 x4.2).bind fun x5 =>
  (F_X1_copy si sa x5.1 x5.2).bind fun x6 =>
  some (x6.1, x6.2)

noncomputable def F_X3_keep (si : Nat → Int32) (sa : Nat → Nat → Int32) (hs : Nat → (Nat → Int32) × (Nat → Nat → Int32)) (hc : Int32) (hn : Int32) : Option ((Nat → (Nat → Int32) × (Nat → Nat → Int32)) × Int32 × Int32) :=
  if hn = 0 then (
    (F_X5_copy si sa (hs 0).1 (hs 0).2).bind fun x1 =>
    some ((va_up hs 0 (x1.1, x1.2)), (if 5 < (hc + 1) then 5 else (hc + 1)), ((hn + 1) - (hn + 1) / 5 * 5)))
  else
  if hn = 1 then (
    (F_X5_copy si sa (hs 1).1 (hs 1).2).bind fun x2 =>
    some ((va_up hs 1 (x2.1, x2.2)), (if 5 < (hc + 1) then 5 else (hc + 1)), ((hn + 1) - (hn + 1) / 5 * 5)))
  else
  if hn = 2 then (
    (F_X5_copy si sa (hs 2).1 (hs 2).2).bind fun x3 =>
    some ((va_up hs 2 (x3.1, x3.2)), (if 5 < (hc + 1) then 5 else (hc + 1)), ((hn + 1) - (hn + 1) / 5 * 5)))
  else
  if hn = 3 then (
    (F_X5_copy si sa (hs 3).1 (hs 3).2).bind fun x4 =>
    some ((va_up hs 3 (x4.1, x4.2)), (if 5 < (hc + 1) then 5 else (hc + 1)), ((hn + 1) - (hn + 1) / 5 * 5)))
  else
  if hn = 4 then (
    (F_X5_copy si sa (hs 4).1 (hs 4).2).bind fun x5 =>
    some ((va_up hs 4 (x5.1, x5.2)), (if 5 < (hc + 1) then 5 else (hc + 1)), ((hn + 1) - (hn + 1) / 5 * 5)))
  else
  none

noncomputable def F_X5_countSignatures (si : Nat → Int32) : Int32 :=
  (tv_bc ((si 3) &&& (si 2)))

noncomputable def F_X7_only (a0 : Int32) : Int32 :=
  (1 <<< (a0 &&& 31))

noncomputable def F_X7_asNumber (a0 : Int32) : Int32 :=
  if a0 = 0 then (
    0)
  else
  1

noncomputable def F_X6_finishLatest (si : Nat → Int32) (sa : Nat → Nat → Int32) (a1 : Int32) (a2 : Int32) : Option ((Nat → Nat → Int32)) :=
  (tv_wr 41 (sa 7) (si 9) a1).bind fun x1 =>
  (tv_wr 41 ((va_up sa 7 x1) 9) (si 9) (F_X7_asNumber a2)).bind fun x2 =>
  some (va_up (va_up sa 7 x1) 9 x2)

noncomputable def F_X1_tell (si : Nat → Int32) (sa : Nat → Nat → Int32) (a1 : Int32) (a2 : Int32) (a3 : Int32) : Option ((Nat → Int32) × (Nat → Nat → Int32)) :=
  (tv_wr 20 (sa 12) ((si 10) - (si 10) / 20 * 20) a1).bind fun x1 =>
  (tv_wr 20 ((va_up sa 12 x1) 13) ((si 10) - (si 10) / 20 * 20) a2).bind fun x2 =>
  (tv_wr 20 ((va_up (va_up sa 12 x1) 13 x2) 14) ((si 10) - (si 10) / 20 * 20) a3).bind fun x3 =>
  some ((upd si 10 ((si 10) + 1)), (va_up (va_up (va_up sa 12 x1) 13 x2) 14 x3))

noncomputable def F_X7_has (a0 : Int32) (a1 : Int32) : Int32 :=
  if ((a0 >>> (a1 &&& 31)) &&& 1) = 1 then (
    1)
  else
  0

noncomputable def F_X6_score_L7 (sa : Nat → Nat → Int32) (l1 : Int32) : Nat → Int32 → Int32 → Int32 → Option (Int32 × Int32)
  | 0, _, _, _ => none
  | n + 1, l2, l3, l4 =>
    if 10 ≤ l4 then (
      some (l2, l3))
    else
    (tv_rd 410 (sa 11) ((l1 * 10) + l4)).bind fun x1 =>
    if x1 = (-9) then (
      F_X6_score_L7 sa l1 n l2 l3 (l4 + 1))
    else
    F_X6_score_L7 sa l1 n (l2 + x1) (l3 + 1) (l4 + 1)

noncomputable def F_X6_score (sa : Nat → Nat → Int32) (a1 : Int32) : Option (Int32) :=
  (F_X6_score_L7 sa a1 tv_fu 0 0 0).bind fun x2 =>
  (if x2.2 ≤ 0 then (
    some 50)
  else (
    if x2.2 = 0 then none else
    some ((10 * x2.1) / x2.2))).bind fun (x4 : Int32) =>
  (tv_rd 41 (sa 8) a1).bind fun x5 =>
  (tv_rd 41 (sa 9) a1).bind fun x6 =>
  if 0 ≤ ((x4 + (5 * x5)) - (25 * x6)) then (
    if ((x4 + (5 * x5)) - (25 * x6)) ≤ 100 then (
      some ((x4 + (5 * x5)) - (25 * x6)))
    else
    some 100)
  else
  some 0

noncomputable def F_X6_reputation_L11 (sa : Nat → Nat → Int32) (l1 : Int32) (l2 : Int32) : Nat → Int32 → Int32 → Int32 → Option (Int32 × Int32)
  | 0, _, _, _ => none
  | n + 1, l3, l4, l5 =>
    if l5 < 1 then (
      some (l3, l4))
    else
    if l2 ≤ l4 then (
      some (l3, l4))
    else
    (tv_rd 41 (sa 4) l5).bind fun x1 =>
    if x1 = l1 then (
      (tv_rd 41 (sa 7) l5).bind fun x2 =>
      if x2 = (-9) then (
        F_X6_reputation_L11 sa l1 l2 n l3 l4 (l5 + (-1)))
      else
      (F_X6_score sa l5).bind fun x3 =>
      F_X6_reputation_L11 sa l1 l2 n (l3 + x3) (l4 + 1) (l5 + (-1)))
    else
    F_X6_reputation_L11 sa l1 l2 n l3 l4 (l5 + (-1))

noncomputable def F_X6_reputation (si : Nat → Int32) (sa : Nat → Nat → Int32) (a1 : Int32) (a2 : Int32) : Option (Int32) :=
  (F_X6_reputation_L11 sa a1 a2 tv_fu 0 0 (si 9)).bind fun x4 =>
  if x4.2 ≤ 0 then (
    some 50)
  else
  if x4.2 = 0 then none else
  some (x4.1 / x4.2)

noncomputable def F_X6_countLed_L4 (si : Nat → Int32) (sa : Nat → Nat → Int32) (l1 : Int32) : Nat → Int32 → Int32 → Option (Int32)
  | 0, _, _ => none
  | n + 1, l2, l3 =>
    if (si 9) < l3 then (
      some l2)
    else
    (tv_rd 41 (sa 4) l3).bind fun x1 =>
    if x1 = l1 then (
      F_X6_countLed_L4 si sa l1 n (l2 + 1) (l3 + 1))
    else
    F_X6_countLed_L4 si sa l1 n l2 (l3 + 1)

noncomputable def F_X6_countLed (si : Nat → Int32) (sa : Nat → Nat → Int32) (a1 : Int32) : Option (Int32) :=
  (F_X6_countLed_L4 si sa a1 tv_fu 0 1).bind fun x2 =>
  some x2

noncomputable def F_X5_bestCaretaker_L11 (si : Nat → Int32) (sa : Nat → Nat → Int32) (l1 : Int32) : Nat → Int32 → Int32 → Int32 → Int32 → Option (Int32)
  | 0, _, _, _, _ => none
  | n + 1, l2, l3, l4, l5 =>
    if 10 ≤ l5 then (
      some l2)
    else
    if (F_X7_has (si 2) l5) = 0 then (
      F_X5_bestCaretaker_L11 si sa l1 n l2 l3 l4 (l5 + 1))
    else
    if l5 = l1 then (
      F_X5_bestCaretaker_L11 si sa l1 n l2 l3 l4 (l5 + 1))
    else
    (tv_rd 6 (sa 0) 5).bind fun x1 =>
    (F_X6_reputation si sa l5 x1).bind fun x2 =>
    (F_X6_countLed si sa l5).bind fun x3 =>
    if l2 = (-9) then (
      F_X5_bestCaretaker_L11 si sa l1 n l5 x2 x3 (l5 + 1))
    else
    if l3 < x2 then (
      F_X5_bestCaretaker_L11 si sa l1 n l5 x2 x3 (l5 + 1))
    else
    if x2 = l3 then (
      if l4 ≤ x3 then (
        F_X5_bestCaretaker_L11 si sa l1 n l2 l3 l4 (l5 + 1))
      else
      F_X5_bestCaretaker_L11 si sa l1 n l5 x2 x3 (l5 + 1))
    else
    F_X5_bestCaretaker_L11 si sa l1 n l2 l3 l4 (l5 + 1)

noncomputable def F_X5_bestCaretaker (si : Nat → Int32) (sa : Nat → Nat → Int32) (a1 : Int32) : Option (Int32) :=
  (F_X5_bestCaretaker_L11 si sa a1 tv_fu (-9) 0 0 0).bind fun x4 =>
  some x4

noncomputable def F_X5_appointCaretaker (si : Nat → Int32) (sa : Nat → Nat → Int32) (a1 : Int32) : Option ((Nat → Int32) × (Nat → Nat → Int32)) :=
  (F_X5_bestCaretaker si sa a1).bind fun x1 =>
  (if ((upd si 5 x1) 5) = (-9) then (
    some 0)
  else (
    some 1)).bind fun (x2 : Int32) =>
  (if ((upd (upd si 5 x1) 4 x2) 5) = (-9) then (
    some 7)
  else (
    some 5)).bind fun (x3 : Int32) =>
  (F_X1_tell (upd (upd si 5 x1) 4 x2) sa ((upd (upd si 5 x1) 4 x2) 0) x3 ((upd (upd si 5 x1) 4 x2) 5)).bind fun x4 =>
  some (x4.1, x4.2)

noncomputable def F_X5_endTerm (si : Nat → Int32) (sa : Nat → Nat → Int32) (a1 : Int32) : Option ((Nat → Int32) × (Nat → Nat → Int32)) :=
  (if a1 = 3 then (
    some 1)
  else (
    some 0)).bind fun (x1 : Int32) =>
  (F_X6_finishLatest si sa (si 0) x1).bind fun x2 =>
  (F_X1_tell (upd si 3 0) x2 ((upd si 3 0) 0) a1 (si 5)).bind fun x3 =>
  (F_X5_appointCaretaker x3.1 x3.2 (si 5)).bind fun x4 =>
  some (x4.1, x4.2)

noncomputable def F_X5_lookAtPetition (si : Nat → Int32) (sa : Nat → Nat → Int32) : Option ((Nat → Int32) × (Nat → Nat → Int32)) :=
  if (si 4) = 2 then (
    if (F_X5_countSignatures si) ≤ 0 then (
      some (si, sa))
    else
    (tv_rd 6 (sa 0) 3).bind fun x1 =>
    if (100 * (F_X5_countSignatures si)) < (x1 * (tv_bc ((si 2) &&& ((F_X7_only (si 5)) ^^^ (-1))))) then (
      some (si, sa))
    else
    (F_X5_endTerm si sa 3).bind fun x2 =>
    some (x2.1, x2.2))
  else
  some (si, sa)

noncomputable def F_X7_set (si : Nat → Int32) (sa : Nat → Nat → Int32) (hs : Nat → (Nat → Int32) × (Nat → Nat → Int32)) (hc : Int32) (hn : Int32) (a1 : Int32) (a2 : Int32) : Option (Int32 × (Nat → Int32) × (Nat → Nat → Int32) × (Nat → (Nat → Int32) × (Nat → Nat → Int32)) × Int32 × Int32) :=
  if a1 < 0 then (
    some ((-1), si, sa, hs, hc, hn))
  else
  if a1 < 6 then (
    (tv_rd 6 tv_least a1).bind fun x1 =>
    if a2 < x1 then (
      some ((-1), si, sa, hs, hc, hn))
    else
    (tv_rd 6 tv_great a1).bind fun x2 =>
    if a2 ≤ x2 then (
      (F_X3_keep si sa hs hc hn).bind fun x3 =>
      (tv_rd 6 (sa 0) a1).bind fun x4 =>
      (tv_wr 6 (sa 0) a1 a2).bind fun x5 =>
      if a1 = 3 then (
        (F_X5_lookAtPetition si (va_up sa 0 x5)).bind fun x6 =>
        some (x4, x6.1, x6.2, x3.1, x3.2.1, x3.2.2))
      else
      some (x4, si, (va_up sa 0 x5), x3.1, x3.2.1, x3.2.2))
    else
    some ((-1), si, sa, hs, hc, hn))
  else
  some ((-1), si, sa, hs, hc, hn)

noncomputable def F_X5_enrol (si : Nat → Int32) (sa : Nat → Nat → Int32) (a1 : Int32) : Option (Int32 × (Nat → Int32) × (Nat → Nat → Int32)) :=
  (tv_wr 10 (sa 1) (si 1) a1).bind fun x1 =>
  some ((si 1), (upd (upd si 1 ((si 1) + 1)) 2 (((upd si 1 ((si 1) + 1)) 2) ||| (F_X7_only (si 1)))), (va_up sa 1 x1))

noncomputable def F_X7_join (si : Nat → Int32) (sa : Nat → Nat → Int32) (hs : Nat → (Nat → Int32) × (Nat → Nat → Int32)) (hc : Int32) (hn : Int32) (a1 : Int32) : Option (Int32 × (Nat → Int32) × (Nat → Nat → Int32) × (Nat → (Nat → Int32) × (Nat → Nat → Int32)) × Int32 × Int32) :=
  if a1 < 0 then (
    some ((-1), si, sa, hs, hc, hn))
  else
  if a1 < 997 then (
    if (si 1) < 10 then (
      (F_X3_keep si sa hs hc hn).bind fun x1 =>
      (F_X5_enrol si sa a1).bind fun x2 =>
      (F_X5_lookAtPetition x2.2.1 x2.2.2).bind fun x3 =>
      some (x2.1, x3.1, x3.2, x1.1, x1.2.1, x1.2.2))
    else
    some ((-3), si, sa, hs, hc, hn))
  else
  some ((-1), si, sa, hs, hc, hn)

noncomputable def F_X5_isMember (si : Nat → Int32) (a1 : Int32) : Int32 :=
  if a1 < 0 then (
    0)
  else
  if (si 1) ≤ a1 then (
    0)
  else
  1

noncomputable def F_X5_isPresent (si : Nat → Int32) (a1 : Int32) : Option (Int32) :=
  if ¬ ((F_X7_has (si 2) a1) = 0 ∨ (F_X7_has (si 2) a1) = 1) then none else
  some (F_X7_has (si 2) a1)

noncomputable def F_X2_strike_L11 (l2 : Int32) (l3 : Int32) : Nat → Int32 → Int32 → (Nat → Nat → Int32) → Option (Int32 × (Nat → Nat → Int32))
  | 0, _, _, _ => none
  | n + 1, l4, l5, sa =>
    if 10 ≤ l5 then (
      some (l4, sa))
    else
    (tv_rd 100 (sa 2) (l3 + l5)).bind fun x1 =>
    if x1 = l2 then (
      F_X2_strike_L11 l2 l3 n l4 (l5 + 1) sa)
    else
    (tv_wr 100 (sa 2) (l3 + l4) x1).bind fun x2 =>
    F_X2_strike_L11 l2 l3 n (l4 + 1) (l5 + 1) (va_up sa 2 x2)

noncomputable def F_X2_strike_L59 (l3 : Int32) : Nat → Int32 → (Nat → Nat → Int32) → Option ((Nat → Nat → Int32))
  | 0, _, _ => none
  | n + 1, l5, sa =>
    if 10 ≤ l5 then (
      some sa)
    else
    (tv_wr 100 (sa 2) (l3 + l5) (-9)).bind fun x4 =>
    F_X2_strike_L59 l3 n (l5 + 1) (va_up sa 2 x4)

noncomputable def F_X2_strike (sa : Nat → Nat → Int32) (a1 : Int32) (a2 : Int32) : Option ((Nat → Nat → Int32)) :=
  (F_X2_strike_L11 a2 (a1 * 10) tv_fu 0 0 sa).bind fun x3 =>
  (F_X2_strike_L59 (a1 * 10) tv_fu x3.1 x3.2).bind fun x5 =>
  some x5

noncomputable def F_X2_forget_L17 (l1 : Int32) : Nat → Int32 → (Nat → Nat → Int32) → Option ((Nat → Nat → Int32))
  | 0, _, _ => none
  | n + 1, l2, sa =>
    if 10 ≤ l2 then (
      some sa)
    else
    (tv_wr 100 (sa 2) ((l1 * 10) + l2) (-9)).bind fun x1 =>
    F_X2_forget_L17 l1 n (l2 + 1) (va_up sa 2 x1)

noncomputable def F_X2_forget_L44 (l1 : Int32) : Nat → Int32 → (Nat → Nat → Int32) → Option ((Nat → Nat → Int32))
  | 0, _, _ => none
  | n + 1, l2, sa =>
    if 10 ≤ l2 then (
      some sa)
    else
    (F_X2_strike sa l2 l1).bind fun x3 =>
    F_X2_forget_L44 l1 n (l2 + 1) x3

noncomputable def F_X2_forget (si : Nat → Int32) (sa : Nat → Nat → Int32) (a1 : Int32) : Option ((Nat → Int32) × (Nat → Nat → Int32)) :=
  (F_X2_forget_L17 a1 tv_fu 0 sa).bind fun x2 =>
  (F_X2_forget_L44 a1 tv_fu 0 x2).bind fun x4 =>
  some ((upd si 7 ((si 7) &&& ((F_X7_only a1) ^^^ (-1)))), x4)

noncomputable def F_X5_leave (si : Nat → Int32) (sa : Nat → Nat → Int32) (a1 : Int32) : Option ((Nat → Int32) × (Nat → Nat → Int32)) :=
  (F_X2_forget (upd si 2 ((si 2) &&& ((F_X7_only a1) ^^^ (-1)))) sa a1).bind fun x1 =>
  if a1 = (x1.1 5) then (
    if (x1.1 4) = 2 then (
      (F_X5_endTerm x1.1 x1.2 4).bind fun x3 =>
      some (x3.1, x3.2))
    else
    (F_X5_appointCaretaker x1.1 x1.2 (-9)).bind fun x2 =>
    some (x2.1, x2.2))
  else
  some (x1.1, x1.2)

noncomputable def F_X7_setPresent (si : Nat → Int32) (sa : Nat → Nat → Int32) (hs : Nat → (Nat → Int32) × (Nat → Nat → Int32)) (hc : Int32) (hn : Int32) (a1 : Int32) (a2 : Int32) : Option (Int32 × (Nat → Int32) × (Nat → Nat → Int32) × (Nat → (Nat → Int32) × (Nat → Nat → Int32)) × Int32 × Int32) :=
  if (F_X5_isMember si a1) = 0 then (
    some ((-1), si, sa, hs, hc, hn))
  else
  (F_X3_keep si sa hs hc hn).bind fun x1 =>
  (F_X5_isPresent si a1).bind fun x2 =>
  if a2 = x2 then (
    some ((F_X7_asNumber x2), si, sa, x1.1, x1.2.1, x1.2.2))
  else
  (if a2 = 0 then (
    (F_X5_leave si sa a1).bind fun x3 =>
    some (x3.1, x3.2))
  else (
    some ((upd si 2 ((si 2) ||| (F_X7_only a1))), sa))).bind fun (x4 : (Nat → Int32) × (Nat → Nat → Int32)) =>
  (F_X5_lookAtPetition x4.1 x4.2).bind fun x5 =>
  some ((F_X7_asNumber x2), x5.1, x5.2, x1.1, x1.2.1, x1.2.2)

noncomputable def F_X6_latestPlannedEnd (si : Nat → Int32) (sa : Nat → Nat → Int32) : Option (Int32) :=
  (tv_rd 41 (sa 6) (si 9)).bind fun x1 =>
  some x1

noncomputable def F_X5_advance (si : Nat → Int32) (sa : Nat → Nat → Int32) (a1 : Int32) : Option ((Nat → Int32) × (Nat → Nat → Int32)) :=
  (if (si 4) = 2 then (
    (F_X6_latestPlannedEnd si sa).bind fun x1 =>
    if ((si 0) + a1) < x1 then (
      some (si, sa))
    else
    (F_X6_latestPlannedEnd si sa).bind fun x2 =>
    (F_X5_endTerm (upd si 0 x2) sa 2).bind fun x3 =>
    some (x3.1, x3.2))
  else (
    some (si, sa))).bind fun (x4 : (Nat → Int32) × (Nat → Nat → Int32)) =>
  some ((upd x4.1 0 ((si 0) + a1)), x4.2)

noncomputable def F_X7_pass (si : Nat → Int32) (sa : Nat → Nat → Int32) (hs : Nat → (Nat → Int32) × (Nat → Nat → Int32)) (hc : Int32) (hn : Int32) (a1 : Int32) : Option (Int32 × (Nat → Int32) × (Nat → Nat → Int32) × (Nat → (Nat → Int32) × (Nat → Nat → Int32)) × Int32 × Int32) :=
  if a1 < 1 then (
    some ((-1), si, sa, hs, hc, hn))
  else
  if a1 ≤ 1000 then (
    if ((si 0) + a1) ≤ 1000000 then (
      (F_X3_keep si sa hs hc hn).bind fun x1 =>
      (F_X5_advance si sa a1).bind fun x2 =>
      some ((x2.1 0), x2.1, x2.2, x1.1, x1.2.1, x1.2.2))
    else
    some ((-2), si, sa, hs, hc, hn))
  else
  some ((-1), si, sa, hs, hc, hn)

noncomputable def F_X7_open (si : Nat → Int32) (sa : Nat → Nat → Int32) (hs : Nat → (Nat → Int32) × (Nat → Nat → Int32)) (hc : Int32) (hn : Int32) : Option (Int32 × (Nat → Int32) × (Nat → (Nat → Int32) × (Nat → Nat → Int32)) × Int32 × Int32) :=
  if (si 6) = 0 then (
    if (si 4) = 2 then (
      some ((-2), si, hs, hc, hn))
    else
    if (si 9) < 40 then (
      (F_X3_keep si sa hs hc hn).bind fun x1 =>
      some ((((upd si 6 1) 9) + 1), (upd si 6 1), x1.1, x1.2.1, x1.2.2))
    else
    some ((-3), si, hs, hc, hn))
  else
  some ((-2), si, hs, hc, hn)

noncomputable def F_X6_countLedInARow_L7 (sa : Nat → Nat → Int32) (l1 : Int32) : Nat → Int32 → Int32 → Option (Int32)
  | 0, _, _ => none
  | n + 1, l2, l3 =>
    if l3 < 1 then (
      some l2)
    else
    (tv_rd 41 (sa 4) l3).bind fun x1 =>
    if x1 = l1 then (
      F_X6_countLedInARow_L7 sa l1 n (l2 + 1) (l3 + (-1)))
    else
    some l2

noncomputable def F_X6_countLedInARow (si : Nat → Int32) (sa : Nat → Nat → Int32) (a1 : Int32) : Option (Int32) :=
  (F_X6_countLedInARow_L7 sa a1 tv_fu 0 (si 9)).bind fun x2 =>
  some x2

noncomputable def F_X5_canLead (si : Nat → Int32) (sa : Nat → Nat → Int32) (a1 : Int32) : Option (Int32) :=
  (F_X5_isPresent si a1).bind fun x1 =>
  if x1 = 0 then (
    some 0)
  else
  (F_X6_countLed si sa a1).bind fun x2 =>
  (tv_rd 6 (sa 0) 1).bind fun x3 =>
  if x3 ≤ x2 then (
    some 0)
  else
  (F_X6_countLedInARow si sa a1).bind fun x4 =>
  (tv_rd 6 (sa 0) 2).bind fun x5 =>
  if x5 ≤ x4 then (
    some 0)
  else
  some 1

noncomputable def F_X7_nominate (si : Nat → Int32) (sa : Nat → Nat → Int32) (hs : Nat → (Nat → Int32) × (Nat → Nat → Int32)) (hc : Int32) (hn : Int32) (a1 : Int32) : Option (Int32 × (Nat → Int32) × (Nat → (Nat → Int32) × (Nat → Nat → Int32)) × Int32 × Int32) :=
  if (F_X5_isMember si a1) = 0 then (
    some ((-1), si, hs, hc, hn))
  else
  if (si 6) = 0 then (
    some ((-2), si, hs, hc, hn))
  else
  if (F_X7_has (si 7) a1) = 0 then (
    (F_X5_canLead si sa a1).bind fun x1 =>
    if x1 = 0 then (
      some ((-4), si, hs, hc, hn))
    else
    (F_X3_keep si sa hs hc hn).bind fun x2 =>
    some ((tv_bc ((upd si 7 ((si 7) ||| (F_X7_only a1))) 7)), (upd si 7 ((si 7) ||| (F_X7_only a1))), x2.1, x2.2.1, x2.2.2))
  else
  some ((-2), si, hs, hc, hn)

noncomputable def F_X0_errorPlace_L4 (tx : Nat → Int32) (tl : Int32) : Nat → Int32 → Int32 → Option (Int32)
  | 0, _, _ => none
  | n + 1, l2, l3 =>
    if tl ≤ l3 then (
      if (tl - tl / 2 * 2) = 1 then (
        some (-9))
      else
      some tl)
    else
    if (l3 - l3 / 2 * 2) = 1 then (
      (tv_rd 40 tx l3).bind fun x2 =>
      if x2 = 62 then (
        F_X0_errorPlace_L4 tx tl n l2 (l3 + 1))
      else
      some l3)
    else
    (tv_rd 40 tx l3).bind fun x1 =>
    if (x1 - 48) < 0 then (
      some l3)
    else
    if 9 < (x1 - 48) then (
      some l3)
    else
    if (F_X7_has l2 (x1 - 48)) = 0 then (
      some l3)
    else
    F_X0_errorPlace_L4 tx tl n (l2 &&& ((F_X7_only (x1 - 48)) ^^^ (-1))) (l3 + 1)

noncomputable def F_X0_errorPlace (tx : Nat → Int32) (tl : Int32) (a1 : Int32) : Option (Int32) :=
  F_X0_errorPlace_L4 tx tl tv_fu a1 0

noncomputable def F_X0_choice (tx : Nat → Int32) (tl : Int32) (a1 : Int32) : Option (Int32) :=
  if tl ≤ (2 * a1) then (
    some (-9))
  else
  (tv_rd 40 tx (2 * a1)).bind fun x1 =>
  some (x1 - 48)

noncomputable def F_X2_take_L2 (tx : Nat → Int32) (tl : Int32) (l1 : Int32) : Nat → Int32 → (Nat → Nat → Int32) → Option ((Nat → Nat → Int32))
  | 0, _, _ => none
  | n + 1, l3, sa =>
    if 10 ≤ l3 then (
      some sa)
    else
    (F_X0_choice tx tl l3).bind fun x1 =>
    (tv_wr 100 (sa 2) ((l1 * 10) + l3) x1).bind fun x2 =>
    F_X2_take_L2 tx tl l1 n (l3 + 1) (va_up sa 2 x2)

noncomputable def F_X2_take (sa : Nat → Nat → Int32) (tx : Nat → Int32) (tl : Int32) (a1 : Int32) : Option ((Nat → Nat → Int32)) :=
  (F_X2_take_L2 tx tl a1 tv_fu 0 sa).bind fun x3 =>
  some x3

noncomputable def F_X2_choice (sa : Nat → Nat → Int32) (a1 : Int32) (a2 : Int32) : Option (Int32) :=
  (tv_rd 100 (sa 2) ((a1 * 10) + a2)).bind fun x1 =>
  some x1

noncomputable def F_X2_countBallots_L4 (sa : Nat → Nat → Int32) : Nat → Int32 → Int32 → Option (Int32)
  | 0, _, _ => none
  | n + 1, l1, l2 =>
    if 10 ≤ l2 then (
      some l1)
    else
    (F_X2_choice sa l2 0).bind fun x1 =>
    if x1 = (-9) then (
      F_X2_countBallots_L4 sa n l1 (l2 + 1))
    else
    F_X2_countBallots_L4 sa n (l1 + 1) (l2 + 1)

noncomputable def F_X2_countBallots (sa : Nat → Nat → Int32) : Option (Int32) :=
  (F_X2_countBallots_L4 sa tv_fu 0 0).bind fun x2 =>
  some x2

noncomputable def F_X7_cast (si : Nat → Int32) (sa : Nat → Nat → Int32) (hs : Nat → (Nat → Int32) × (Nat → Nat → Int32)) (tx : Nat → Int32) (tl : Int32) (hc : Int32) (hn : Int32) (a1 : Int32) : Option (Int32 × (Nat → Nat → Int32) × (Nat → (Nat → Int32) × (Nat → Nat → Int32)) × Int32 × Int32 × Int32) :=
  if (F_X5_isMember si a1) = 0 then (
    some ((-1), sa, hs, tl, hc, hn))
  else
  if (si 6) = 0 then (
    some ((-2), sa, hs, tl, hc, hn))
  else
  (F_X5_isPresent si a1).bind fun x1 =>
  if x1 = 0 then (
    some ((-2), sa, hs, tl, hc, hn))
  else
  (F_X0_errorPlace tx tl (si 7)).bind fun x2 =>
  if x2 = (-9) then (
    (F_X3_keep si sa hs hc hn).bind fun x3 =>
    (F_X2_take sa tx tl a1).bind fun x4 =>
    (F_X2_countBallots x4).bind fun x5 =>
    some (x5, x4, x3.1, 0, x3.2.1, x3.2.2))
  else
  some (((-100) - x2), sa, hs, tl, hc, hn)

noncomputable def F_X5_hasQuorum (si : Nat → Int32) (sa : Nat → Nat → Int32) : Option (Int32) :=
  (F_X2_countBallots sa).bind fun x1 =>
  (tv_rd 6 (sa 0) 4).bind fun x2 =>
  if (100 * x1) < (x2 * (tv_bc (si 2))) then (
    some 0)
  else
  some 1

noncomputable def F_X2_firstAmong_L2 (sa : Nat → Nat → Int32) (l1 : Int32) (l2 : Int32) : Nat → Int32 → Option (Int32)
  | 0, _ => none
  | n + 1, l3 =>
    if 10 ≤ l3 then (
      some (-9))
    else
    (F_X2_choice sa l2 l3).bind fun x1 =>
    if x1 = (-9) then (
      F_X2_firstAmong_L2 sa l1 l2 n (l3 + 1))
    else
    if (F_X7_has l1 x1) = 0 then (
      F_X2_firstAmong_L2 sa l1 l2 n (l3 + 1))
    else
    some x1

noncomputable def F_X2_firstAmong (sa : Nat → Nat → Int32) (a1 : Int32) (a2 : Int32) : Option (Int32) :=
  F_X2_firstAmong_L2 sa a1 a2 tv_fu 0

noncomputable def F_X4_count_L9 (l1 : Int32) (l2 : Int32) (l4 : Int32) : Nat → Int32 → (Nat → Nat → Int32) → Option ((Nat → Nat → Int32))
  | 0, _, _ => none
  | n + 1, l5, sa =>
    if 10 ≤ l5 then (
      some sa)
    else
    (if (F_X7_has l2 l5) = 0 then (
      some (-9))
    else (
      some 0)).bind fun (x1 : Int32) =>
    (tv_wr 100 (sa 3) (l4 + l5) x1).bind fun x2 =>
    F_X4_count_L9 l1 l2 l4 n (l5 + 1) (va_up sa 3 x2)

noncomputable def F_X4_count_L50 (l1 : Int32) (l2 : Int32) (l4 : Int32) : Nat → Int32 → (Nat → Nat → Int32) → Option ((Nat → Nat → Int32))
  | 0, _, _ => none
  | n + 1, l5, sa =>
    if 10 ≤ l5 then (
      some sa)
    else
    (F_X2_firstAmong sa l2 l5).bind fun x4 =>
    if x4 < 0 then (
      F_X4_count_L50 l1 l2 l4 n (l5 + 1) sa)
    else
    if 10 ≤ x4 then (
      F_X4_count_L50 l1 l2 l4 n (l5 + 1) sa)
    else
    (tv_rd 100 (sa 3) (l4 + x4)).bind fun x5 =>
    (tv_wr 100 (sa 3) (l4 + x4) (x5 + 1)).bind fun x6 =>
    F_X4_count_L50 l1 l2 l4 n (l5 + 1) (va_up sa 3 x6)

noncomputable def F_X4_count (si : Nat → Int32) (sa : Nat → Nat → Int32) (a1 : Int32) (a2 : Int32) : Option ((Nat → Int32) × (Nat → Nat → Int32)) :=
  (F_X4_count_L9 a1 a2 (a1 * 10) tv_fu 0 sa).bind fun x3 =>
  (F_X4_count_L50 a1 a2 (a1 * 10) tv_fu 0 x3).bind fun x7 =>
  some ((upd si 8 (a1 + 1)), x7)

noncomputable def F_X4_votesFor (sa : Nat → Nat → Int32) (a1 : Int32) (a2 : Int32) : Option (Int32) :=
  (tv_rd 100 (sa 3) ((a2 * 10) + a1)).bind fun x1 =>
  some x1

noncomputable def F_X4_countAll_L5 (sa : Nat → Nat → Int32) (l1 : Int32) (l2 : Int32) : Nat → Int32 → Int32 → Option (Int32)
  | 0, _, _ => none
  | n + 1, l3, l4 =>
    if 10 ≤ l4 then (
      some l3)
    else
    if (F_X7_has l2 l4) = 0 then (
      F_X4_countAll_L5 sa l1 l2 n l3 (l4 + 1))
    else
    (F_X4_votesFor sa l4 l1).bind fun x1 =>
    F_X4_countAll_L5 sa l1 l2 n (l3 + x1) (l4 + 1)

noncomputable def F_X4_countAll (sa : Nat → Nat → Int32) (a1 : Int32) (a2 : Int32) : Option (Int32) :=
  (F_X4_countAll_L5 sa a1 a2 tv_fu 0 0).bind fun x2 =>
  some x2

noncomputable def F_X4_winner_L25 (sa : Nat → Nat → Int32) (l1 : Int32) (l2 : Int32) (l3 : Int32) (l4 : Int32) : Nat → Int32 → Option (Int32)
  | 0, _ => none
  | n + 1, l5 =>
    if 10 ≤ l5 then (
      some (-9))
    else
    if (F_X7_has l2 l5) = 0 then (
      F_X4_winner_L25 sa l1 l2 l3 l4 n (l5 + 1))
    else
    if l3 = 0 then (
      (F_X4_votesFor sa l5 l1).bind fun x3 =>
      if (2 * x3) ≤ l4 then (
        F_X4_winner_L25 sa l1 l2 l3 l4 n (l5 + 1))
      else
      some l5)
    else
    some l5

noncomputable def F_X4_winner (sa : Nat → Nat → Int32) (a1 : Int32) (a2 : Int32) : Option (Int32) :=
  (if (tv_bc a2) = 1 then (
    some 1)
  else (
    some 0)).bind fun (x1 : Int32) =>
  (F_X4_countAll sa a1 a2).bind fun x2 =>
  F_X4_winner_L25 sa a1 a2 x1 x2 tv_fu 0

noncomputable def F_X5_leavesRather (si : Nat → Int32) (sa : Nat → Nat → Int32) (a1 : Int32) (a2 : Int32) (a3 : Int32) : Option (Int32) :=
  (tv_rd 6 (sa 0) 5).bind fun x1 =>
  (F_X4_votesFor sa a1 a3).bind fun x2 =>
  (F_X4_votesFor sa a2 a3).bind fun x3 =>
  (if (x2 - x3) = 0 then (
    (F_X6_reputation si sa a1 x1).bind fun x4 =>
    (F_X6_reputation si sa a2 x1).bind fun x5 =>
    some (x4 - x5))
  else (
    some (x2 - x3))).bind fun (x6 : Int32) =>
  (if x6 = 0 then (
    (F_X6_countLed si sa a2).bind fun x7 =>
    (F_X6_countLed si sa a1).bind fun x8 =>
    some (x7 - x8))
  else (
    some x6)).bind fun (x9 : Int32) =>
  if 0 < x9 then (
    some 0)
  else
  some 1

noncomputable def F_X5_weakest_L6 (si : Nat → Int32) (sa : Nat → Nat → Int32) (l1 : Int32) (l2 : Int32) : Nat → Int32 → Int32 → Option (Int32)
  | 0, _, _ => none
  | n + 1, l3, l4 =>
    if 10 ≤ l4 then (
      some l3)
    else
    if (F_X7_has l2 l4) = 0 then (
      F_X5_weakest_L6 si sa l1 l2 n l3 (l4 + 1))
    else
    if l3 = (-9) then (
      F_X5_weakest_L6 si sa l1 l2 n l4 (l4 + 1))
    else
    (F_X5_leavesRather si sa l4 l3 l1).bind fun x1 =>
    if x1 = 0 then (
      F_X5_weakest_L6 si sa l1 l2 n l3 (l4 + 1))
    else
    F_X5_weakest_L6 si sa l1 l2 n l4 (l4 + 1)

noncomputable def F_X5_weakest (si : Nat → Int32) (sa : Nat → Nat → Int32) (a1 : Int32) (a2 : Int32) : Option (Int32) :=
  (F_X5_weakest_L6 si sa a1 a2 tv_fu (-9) 0).bind fun x2 =>
  some x2

noncomputable def F_X5_holdRounds_L10 : Nat → Int32 → Int32 → (Nat → Int32) → (Nat → Nat → Int32) → Option (Int32 × (Nat → Int32) × (Nat → Nat → Int32))
  | 0, _, _, _, _ => none
  | n + 1, l1, l2, si, sa =>
    if 10 ≤ l2 then (
      some ((-9), si, sa))
    else
    (F_X4_count si sa l2 l1).bind fun x1 =>
    (F_X4_winner x1.2 l2 l1).bind fun x2 =>
    if x2 = (-9) then (
      (F_X5_weakest x1.1 x1.2 l2 l1).bind fun x3 =>
      F_X5_holdRounds_L10 n (l1 &&& ((F_X7_only x3) ^^^ (-1))) (l2 + 1) x1.1 x1.2)
    else
    some (x2, x1.1, x1.2)

noncomputable def F_X5_holdRounds (si : Nat → Int32) (sa : Nat → Nat → Int32) : Option (Int32 × (Nat → Int32) × (Nat → Nat → Int32)) :=
  F_X5_holdRounds_L10 tv_fu (si 7) 0 si sa

noncomputable def F_X2_finish (si : Nat → Int32) (sa : Nat → Nat → Int32) : Option ((Nat → Int32) × (Nat → Nat → Int32)) :=
  some ((upd (upd si 6 0) 7 0), (va_up sa 2 (tv_fill 100 (-9) (sa 2))))

noncomputable def F_X6_begin_L97 (si : Nat → Int32) : Nat → Int32 → (Nat → Nat → Int32) → Option ((Nat → Nat → Int32))
  | 0, _, _ => none
  | n + 1, l5, sa =>
    if 10 ≤ l5 then (
      some sa)
    else
    (tv_wr 410 (sa 11) (((si 9) * 10) + l5) (-9)).bind fun x8 =>
    F_X6_begin_L97 si n (l5 + 1) (va_up sa 11 x8)

noncomputable def F_X6_begin (si : Nat → Int32) (sa : Nat → Nat → Int32) (a1 : Int32) (a2 : Int32) (a3 : Int32) (a4 : Int32) : Option ((Nat → Int32) × (Nat → Nat → Int32)) :=
  if (si 9) < 40 then (
    (tv_wr 41 (sa 4) ((upd si 9 ((si 9) + 1)) 9) a1).bind fun x1 =>
    (tv_wr 41 ((va_up sa 4 x1) 5) ((upd si 9 ((si 9) + 1)) 9) a2).bind fun x2 =>
    (tv_wr 41 ((va_up (va_up sa 4 x1) 5 x2) 6) ((upd si 9 ((si 9) + 1)) 9) (a2 + a3)).bind fun x3 =>
    (tv_wr 41 ((va_up (va_up (va_up sa 4 x1) 5 x2) 6 x3) 7) ((upd si 9 ((si 9) + 1)) 9) (-9)).bind fun x4 =>
    (tv_wr 41 ((va_up (va_up (va_up (va_up sa 4 x1) 5 x2) 6 x3) 7 x4) 8) ((upd si 9 ((si 9) + 1)) 9) 0).bind fun x5 =>
    (tv_wr 41 ((va_up (va_up (va_up (va_up (va_up sa 4 x1) 5 x2) 6 x3) 7 x4) 8 x5) 9) ((upd si 9 ((si 9) + 1)) 9) 0).bind fun x6 =>
    (tv_wr 41 ((va_up (va_up (va_up (va_up (va_up (va_up sa 4 x1) 5 x2) 6 x3) 7 x4) 8 x5) 9 x6) 10) ((upd si 9 ((si 9) + 1)) 9) a4).bind fun x7 =>
    (F_X6_begin_L97 (upd si 9 ((si 9) + 1)) tv_fu 0 (va_up (va_up (va_up (va_up (va_up (va_up (va_up sa 4 x1) 5 x2) 6 x3) 7 x4) 8 x5) 9 x6) 10 x7)).bind fun x9 =>
    some ((upd si 9 ((si 9) + 1)), x9))
  else
  some (si, sa)

noncomputable def F_X5_beginTerm (si : Nat → Int32) (sa : Nat → Nat → Int32) (a1 : Int32) : Option ((Nat → Int32) × (Nat → Nat → Int32)) :=
  (tv_rd 6 (sa 0) 0).bind fun x1 =>
  (F_X6_begin si sa a1 (si 0) x1 (si 2)).bind fun x2 =>
  (F_X1_tell (upd (upd x2.1 4 2) 5 a1) x2.2 ((upd (upd x2.1 4 2) 5 a1) 0) 1 a1).bind fun x3 =>
  some (x3.1, x3.2)

noncomputable def F_X5_elect (si : Nat → Int32) (sa : Nat → Nat → Int32) : Option (Int32 × (Nat → Int32) × (Nat → Nat → Int32)) :=
  (F_X5_hasQuorum (upd si 8 0) sa).bind fun x1 =>
  (if x1 = 0 then (
    some ((-9), (upd si 8 0), sa))
  else (
    (F_X5_holdRounds (upd si 8 0) sa).bind fun x2 =>
    some (x2.1, x2.2.1, x2.2.2))).bind fun (x3 : Int32 × (Nat → Int32) × (Nat → Nat → Int32)) =>
  (F_X2_finish x3.2.1 x3.2.2).bind fun x4 =>
  if x3.1 = (-9) then (
    (F_X1_tell x4.1 x4.2 (x4.1 0) 6 (-9)).bind fun x6 =>
    some (x3.1, x6.1, x6.2))
  else
  (F_X5_beginTerm x4.1 x4.2 x3.1).bind fun x5 =>
  some (x3.1, x5.1, x5.2)

noncomputable def F_X7_close (si : Nat → Int32) (sa : Nat → Nat → Int32) (hs : Nat → (Nat → Int32) × (Nat → Nat → Int32)) (hc : Int32) (hn : Int32) : Option (Int32 × (Nat → Int32) × (Nat → Nat → Int32) × (Nat → (Nat → Int32) × (Nat → Nat → Int32)) × Int32 × Int32) :=
  if (si 6) = 0 then (
    some ((-2), si, sa, hs, hc, hn))
  else
  if (si 7) = 0 then (
    some ((-2), si, sa, hs, hc, hn))
  else
  (F_X3_keep si sa hs hc hn).bind fun x1 =>
  (F_X5_elect si sa).bind fun x2 =>
  some (x2.1, x2.2.1, x2.2.2, x1.1, x1.2.1, x1.2.2)

noncomputable def F_X7_rounds (si : Nat → Int32) : Int32 :=
  (si 8)

noncomputable def F_X7_tally (si : Nat → Int32) (sa : Nat → Nat → Int32) (a1 : Int32) (a2 : Int32) : Option (Int32) :=
  if a1 < 0 then (
    some (-1))
  else
  if (si 8) ≤ a1 then (
    some (-1))
  else
  if (F_X5_isMember si a2) = 0 then (
    some (-1))
  else
  (F_X4_votesFor sa a2 a1).bind fun x1 =>
  some x1

noncomputable def F_X7_ballot (si : Nat → Int32) (sa : Nat → Nat → Int32) (a1 : Int32) (a2 : Int32) : Option (Int32) :=
  if (F_X5_isMember si a1) = 0 then (
    some (-1))
  else
  if 0 ≤ a2 then (
    if (si 6) = 0 then (
      some (-2))
    else
    if a2 < 10 then (
      (F_X2_choice sa a1 a2).bind fun x1 =>
      some x1)
    else
    some (-9))
  else
  some (-1)

noncomputable def F_X7_office (si : Nat → Int32) : Int32 :=
  (si 4)

noncomputable def F_X7_holder (si : Nat → Int32) : Int32 :=
  (si 5)

noncomputable def F_X6_latestDeeds (si : Nat → Int32) (sa : Nat → Nat → Int32) : Option (Int32) :=
  (tv_rd 41 (sa 8) (si 9)).bind fun x1 =>
  some x1

noncomputable def F_X6_setLatestDeeds (si : Nat → Int32) (sa : Nat → Nat → Int32) (a1 : Int32) : Option ((Nat → Nat → Int32)) :=
  (tv_wr 41 (sa 8) (si 9) a1).bind fun x1 =>
  some (va_up sa 8 x1)

noncomputable def F_X7_deed (si : Nat → Int32) (sa : Nat → Nat → Int32) (hs : Nat → (Nat → Int32) × (Nat → Nat → Int32)) (hc : Int32) (hn : Int32) (a1 : Int32) : Option (Int32 × (Nat → Nat → Int32) × (Nat → (Nat → Int32) × (Nat → Nat → Int32)) × Int32 × Int32) :=
  if (si 4) = 2 then (
    (F_X6_latestDeeds si sa).bind fun x1 =>
    (if a1 = 0 then (
      some (-1))
    else (
      some 1)).bind fun (x2 : Int32) =>
    if 20 < (x1 + x2) then (
      some ((-2), sa, hs, hc, hn))
    else
    if (-20) ≤ (x1 + x2) then (
      (F_X3_keep si sa hs hc hn).bind fun x3 =>
      (F_X6_setLatestDeeds si sa (x1 + x2)).bind fun x4 =>
      some ((x1 + x2), x4, x3.1, x3.2.1, x3.2.2))
    else
    some ((-2), sa, hs, hc, hn))
  else
  some ((-2), sa, hs, hc, hn)

noncomputable def F_X7_sign (si : Nat → Int32) (sa : Nat → Nat → Int32) (hs : Nat → (Nat → Int32) × (Nat → Nat → Int32)) (hc : Int32) (hn : Int32) (a1 : Int32) (a2 : Int32) : Option (Int32 × (Nat → Int32) × (Nat → Nat → Int32) × (Nat → (Nat → Int32) × (Nat → Nat → Int32)) × Int32 × Int32) :=
  if (F_X5_isMember si a1) = 0 then (
    some ((-1), si, sa, hs, hc, hn))
  else
  if (si 4) = 2 then (
    (F_X5_isPresent si a1).bind fun x1 =>
    if x1 = 0 then (
      some ((-2), si, sa, hs, hc, hn))
    else
    if a1 = (si 5) then (
      some ((-2), si, sa, hs, hc, hn))
    else
    if (F_X7_has (si 3) a1) = a2 then (
      some ((-2), si, sa, hs, hc, hn))
    else
    (F_X3_keep si sa hs hc hn).bind fun x2 =>
    (if a2 = 0 then (
      some ((upd si 3 ((si 3) &&& ((F_X7_only a1) ^^^ (-1)))), sa))
    else (
      (F_X5_lookAtPetition (upd si 3 ((si 3) ||| (F_X7_only a1))) sa).bind fun x3 =>
      some (x3.1, x3.2))).bind fun (x4 : (Nat → Int32) × (Nat → Nat → Int32)) =>
    some ((F_X5_countSignatures x4.1), x4.1, x4.2, x2.1, x2.2.1, x2.2.2))
  else
  some ((-2), si, sa, hs, hc, hn)

noncomputable def F_X6_isTerm (si : Nat → Int32) (a1 : Int32) : Int32 :=
  if a1 < 1 then (
    0)
  else
  if (si 9) < a1 then (
    0)
  else
  1

noncomputable def F_X6_isOver (sa : Nat → Nat → Int32) (a1 : Int32) : Option (Int32) :=
  (tv_rd 41 (sa 7) a1).bind fun x1 =>
  if x1 = (-9) then (
    some 0)
  else
  some 1

noncomputable def F_X6_mayGrade (sa : Nat → Nat → Int32) (a1 : Int32) (a2 : Int32) (a3 : Int32) : Option (Int32) :=
  (F_X6_isOver sa a2).bind fun x1 =>
  if x1 = 0 then (
    some 0)
  else
  (tv_rd 41 (sa 7) a2).bind fun x2 =>
  if (a3 - x2) ≤ 50 then (
    (tv_rd 41 (sa 4) a2).bind fun x3 =>
    if a1 = x3 then (
      some 0)
    else
    (tv_rd 41 (sa 10) a2).bind fun x4 =>
    if (F_X7_has x4 a1) = 0 then (
      some 0)
    else
    some 1)
  else
  some 0

noncomputable def F_X6_putGrade (sa : Nat → Nat → Int32) (a1 : Int32) (a2 : Int32) (a3 : Int32) : Option ((Nat → Nat → Int32)) :=
  (tv_wr 410 (sa 11) ((a2 * 10) + a1) a3).bind fun x1 =>
  some (va_up sa 11 x1)

noncomputable def F_X6_givenPoints (sa : Nat → Nat → Int32) (a1 : Int32) (a2 : Int32) : Option (Int32) :=
  (tv_rd 410 (sa 11) ((a2 * 10) + a1)).bind fun x1 =>
  some x1

noncomputable def F_X6_countGrades_L4 (sa : Nat → Nat → Int32) (l1 : Int32) : Nat → Int32 → Int32 → Option (Int32)
  | 0, _, _ => none
  | n + 1, l2, l3 =>
    if 10 ≤ l3 then (
      some l2)
    else
    (F_X6_givenPoints sa l3 l1).bind fun x1 =>
    if x1 = (-9) then (
      F_X6_countGrades_L4 sa l1 n l2 (l3 + 1))
    else
    F_X6_countGrades_L4 sa l1 n (l2 + 1) (l3 + 1)

noncomputable def F_X6_countGrades (sa : Nat → Nat → Int32) (a1 : Int32) : Option (Int32) :=
  (F_X6_countGrades_L4 sa a1 tv_fu 0 0).bind fun x2 =>
  some x2

noncomputable def F_X7_grade (si : Nat → Int32) (sa : Nat → Nat → Int32) (hs : Nat → (Nat → Int32) × (Nat → Nat → Int32)) (hc : Int32) (hn : Int32) (a1 : Int32) (a2 : Int32) (a3 : Int32) (a4 : Int32) : Option (Int32 × (Nat → Nat → Int32) × (Nat → (Nat → Int32) × (Nat → Nat → Int32)) × Int32 × Int32) :=
  if (F_X5_isMember si a1) = 0 then (
    some ((-1), sa, hs, hc, hn))
  else
  if (F_X6_isTerm si a2) = 0 then (
    some ((-1), sa, hs, hc, hn))
  else
  if a3 < 0 then (
    some ((-1), sa, hs, hc, hn))
  else
  if a3 ≤ 10 then (
    (F_X6_mayGrade sa a1 a2 (si 0)).bind fun x1 =>
    if x1 = 0 then (
      some ((-2), sa, hs, hc, hn))
    else
    (tv_rd 10 (sa 1) a1).bind fun x2 =>
    if a4 = (((((31 * a2) + (17 * a1)) + (7 * a3)) + x2) - ((((31 * a2) + (17 * a1)) + (7 * a3)) + x2) / 997 * 997) then (
      (F_X3_keep si sa hs hc hn).bind fun x3 =>
      (F_X6_putGrade sa a1 a2 a3).bind fun x4 =>
      (F_X6_countGrades x4 a2).bind fun x5 =>
      some (x5, x4, x3.1, x3.2.1, x3.2.2))
    else
    some ((-5), sa, hs, hc, hn))
  else
  some ((-1), sa, hs, hc, hn)

noncomputable def F_X6_number (sa : Nat → Nat → Int32) (a1 : Int32) (a2 : Int32) : Option (Int32) :=
  if a2 = 0 then (
    (tv_rd 41 (sa 4) a1).bind fun x1 =>
    some x1)
  else
  if a2 = 1 then (
    (tv_rd 41 (sa 5) a1).bind fun x2 =>
    some x2)
  else
  if a2 = 2 then (
    (tv_rd 41 (sa 6) a1).bind fun x3 =>
    some x3)
  else
  if a2 = 3 then (
    (tv_rd 41 (sa 7) a1).bind fun x4 =>
    some x4)
  else
  if a2 = 4 then (
    (tv_rd 41 (sa 8) a1).bind fun x5 =>
    some x5)
  else
  if a2 = 5 then (
    (tv_rd 41 (sa 9) a1).bind fun x6 =>
    some x6)
  else
  if a2 = 6 then (
    (F_X6_countGrades sa a1).bind fun x7 =>
    some x7)
  else
  (F_X6_isOver sa a1).bind fun x8 =>
  if x8 = 0 then (
    some (-9))
  else
  (F_X6_score sa a1).bind fun x9 =>
  some x9

noncomputable def F_X7_term (si : Nat → Int32) (sa : Nat → Nat → Int32) (a1 : Int32) (a2 : Int32) : Option (Int32) :=
  if (F_X6_isTerm si a1) = 0 then (
    some (-1))
  else
  if a2 < 0 then (
    some (-1))
  else
  if a2 < 8 then (
    (F_X6_number sa a1 a2).bind fun x1 =>
    some x1)
  else
  some (-1)

noncomputable def F_X7_points (si : Nat → Int32) (sa : Nat → Nat → Int32) (a1 : Int32) (a2 : Int32) : Option (Int32) :=
  if (F_X5_isMember si a1) = 0 then (
    some (-1))
  else
  if (F_X6_isTerm si a2) = 0 then (
    some (-1))
  else
  (F_X6_givenPoints sa a1 a2).bind fun x1 =>
  some x1

noncomputable def F_X7_terms (si : Nat → Int32) : Int32 :=
  (si 9)

noncomputable def F_X5_numberOf (si : Nat → Int32) (sa : Nat → Nat → Int32) (a1 : Int32) (a2 : Int32) : Option (Int32) :=
  if a2 = 0 then (
    (tv_rd 6 (sa 0) 5).bind fun x1 =>
    (F_X6_reputation si sa a1 x1).bind fun x2 =>
    some x2)
  else
  if a2 = 1 then (
    (F_X6_countLed si sa a1).bind fun x3 =>
    some x3)
  else
  if a2 = 2 then (
    (F_X5_isPresent si a1).bind fun x4 =>
    some (F_X7_asNumber x4))
  else
  if a2 = 3 then (
    (F_X5_canLead si sa a1).bind fun x5 =>
    some (F_X7_asNumber x5))
  else
  if a2 = 4 then (
    some (F_X7_asNumber (F_X7_has (si 7) a1)))
  else
  some (F_X7_asNumber (F_X7_has (si 3) a1))

noncomputable def F_X7_member (si : Nat → Int32) (sa : Nat → Nat → Int32) (a1 : Int32) (a2 : Int32) : Option (Int32) :=
  if (F_X5_isMember si a1) = 0 then (
    some (-1))
  else
  if a2 < 0 then (
    some (-1))
  else
  if a2 < 6 then (
    (F_X5_numberOf si sa a1 a2).bind fun x1 =>
    some x1)
  else
  some (-1)

noncomputable def F_X7_time (si : Nat → Int32) : Int32 :=
  (si 0)

noncomputable def F_X7_events (si : Nat → Int32) : Int32 :=
  (si 10)

noncomputable def F_X1_number (si : Nat → Int32) (sa : Nat → Nat → Int32) (a1 : Int32) (a2 : Int32) : Option (Int32) :=
  if (si 10) ≤ a1 then (
    some (-9))
  else
  if a1 < 20 then (
    if a2 = 0 then (
      (tv_rd 20 (sa 12) ((((si 10) - 1) - a1) - (((si 10) - 1) - a1) / 20 * 20)).bind fun x1 =>
      some x1)
    else
    if a2 = 1 then (
      (tv_rd 20 (sa 13) ((((si 10) - 1) - a1) - (((si 10) - 1) - a1) / 20 * 20)).bind fun x2 =>
      some x2)
    else
    (tv_rd 20 (sa 14) ((((si 10) - 1) - a1) - (((si 10) - 1) - a1) / 20 * 20)).bind fun x3 =>
    some x3)
  else
  some (-9)

noncomputable def F_X7_event (si : Nat → Int32) (sa : Nat → Nat → Int32) (a1 : Int32) (a2 : Int32) : Option (Int32) :=
  if a1 < 0 then (
    some (-1))
  else
  if a2 < 0 then (
    some (-1))
  else
  if a2 < 3 then (
    (F_X1_number si sa a1 a2).bind fun x1 =>
    some x1)
  else
  some (-1)

noncomputable def F_X0_append (tx : Nat → Int32) (tl : Int32) (a1 : Int32) : Option (Int32 × (Nat → Int32) × Int32) :=
  if tl < 40 then (
    (tv_wr 40 tx tl a1).bind fun x1 =>
    some ((tl + 1), x1, (tl + 1)))
  else
  some ((-3), tx, tl)

noncomputable def F_X7_type (tx : Nat → Int32) (tl : Int32) (a1 : Int32) : Option (Int32 × (Nat → Int32) × Int32) :=
  if a1 < 32 then (
    some ((-1), tx, tl))
  else
  if a1 ≤ 126 then (
    (F_X0_append tx tl a1).bind fun x1 =>
    some (x1.1, x1.2.1, x1.2.2))
  else
  some ((-1), tx, tl)

noncomputable def F_X7_clear (tl : Int32) : Option (Int32 × Int32) :=
  some (tl, 0)

noncomputable def F_X3_restore (si : Nat → Int32) (sa : Nat → Nat → Int32) (hs : Nat → (Nat → Int32) × (Nat → Nat → Int32)) (hc : Int32) (hn : Int32) : Option ((Nat → Int32) × (Nat → Nat → Int32) × Int32 × Int32) :=
  if (((hn + 5) - 1) - ((hn + 5) - 1) / 5 * 5) = 0 then (
    (F_X5_copy (hs 0).1 (hs 0).2 si sa).bind fun x1 =>
    some (x1.1, x1.2, (hc - 1), (((hn + 5) - 1) - ((hn + 5) - 1) / 5 * 5)))
  else
  if (((hn + 5) - 1) - ((hn + 5) - 1) / 5 * 5) = 1 then (
    (F_X5_copy (hs 1).1 (hs 1).2 si sa).bind fun x2 =>
    some (x2.1, x2.2, (hc - 1), (((hn + 5) - 1) - ((hn + 5) - 1) / 5 * 5)))
  else
  if (((hn + 5) - 1) - ((hn + 5) - 1) / 5 * 5) = 2 then (
    (F_X5_copy (hs 2).1 (hs 2).2 si sa).bind fun x3 =>
    some (x3.1, x3.2, (hc - 1), (((hn + 5) - 1) - ((hn + 5) - 1) / 5 * 5)))
  else
  if (((hn + 5) - 1) - ((hn + 5) - 1) / 5 * 5) = 3 then (
    (F_X5_copy (hs 3).1 (hs 3).2 si sa).bind fun x4 =>
    some (x4.1, x4.2, (hc - 1), (((hn + 5) - 1) - ((hn + 5) - 1) / 5 * 5)))
  else
  if (((hn + 5) - 1) - ((hn + 5) - 1) / 5 * 5) = 4 then (
    (F_X5_copy (hs 4).1 (hs 4).2 si sa).bind fun x5 =>
    some (x5.1, x5.2, (hc - 1), (((hn + 5) - 1) - ((hn + 5) - 1) / 5 * 5)))
  else
  none

noncomputable def F_X7_undo (si : Nat → Int32) (sa : Nat → Nat → Int32) (hs : Nat → (Nat → Int32) × (Nat → Nat → Int32)) (hc : Int32) (hn : Int32) : Option (Int32 × (Nat → Int32) × (Nat → Nat → Int32) × Int32 × Int32) :=
  if 0 < hc then (
    (F_X3_restore si sa hs hc hn).bind fun x1 =>
    some (x1.2.2.1, x1.1, x1.2.1, x1.2.2.1, x1.2.2.2))
  else
  some ((-9), si, sa, hc, hn)

noncomputable def F_X7_mixed (a0 : Int64) (a2 : Int32) : Int64 :=
  ((31 * a0) + (Int32.toInt64 a2))

noncomputable def F_X7_fingerprint_L89 (sa : Nat → Nat → Int32) (l3 : Int32) : Nat → Int64 → Int32 → Option (Int64)
  | 0, _, _ => none
  | n + 1, l1, l4 =>
    if 8 ≤ l4 then (
      some l1)
    else
    (F_X6_number sa l3 l4).bind fun x1 =>
    F_X7_fingerprint_L89 sa l3 n (F_X7_mixed l1 x1) (l4 + 1)

noncomputable def F_X7_fingerprint_L72 (si : Nat → Int32) (sa : Nat → Nat → Int32) : Nat → Int64 → Int32 → Option (Int64)
  | 0, _, _ => none
  | n + 1, l1, l3 =>
    if (si 9) < l3 then (
      some l1)
    else
    (F_X7_fingerprint_L89 sa l3 tv_fu l1 0).bind fun x2 =>
    F_X7_fingerprint_L72 si sa n x2 (l3 + 1)

noncomputable def F_X7_fingerprint_L154 (si : Nat → Int32) (sa : Nat → Nat → Int32) (l3 : Int32) : Nat → Int64 → Int32 → Option (Int64)
  | 0, _, _ => none
  | n + 1, l1, l4 =>
    if 6 ≤ l4 then (
      some l1)
    else
    (F_X5_numberOf si sa l3 l4).bind fun x4 =>
    F_X7_fingerprint_L154 si sa l3 n (F_X7_mixed l1 x4) (l4 + 1)

noncomputable def F_X7_fingerprint_L140 (si : Nat → Int32) (sa : Nat → Nat → Int32) : Nat → Int64 → Int32 → Option (Int64)
  | 0, _, _ => none
  | n + 1, l1, l3 =>
    if (si 1) ≤ l3 then (
      some l1)
    else
    (F_X7_fingerprint_L154 si sa l3 tv_fu l1 0).bind fun x5 =>
    F_X7_fingerprint_L140 si sa n x5 (l3 + 1)

noncomputable def F_X7_fingerprint (si : Nat → Int32) (sa : Nat → Nat → Int32) : Option (Int64) :=
  (F_X7_fingerprint_L72 si sa tv_fu (F_X7_mixed (F_X7_mixed (F_X7_mixed (F_X7_mixed (F_X7_mixed 83 (si 0)) (si 4)) (si 5)) (si 9)) (si 10)) 1).bind fun x3 =>
  (F_X7_fingerprint_L140 si sa tv_fu (F_X7_mixed x3 (si 1)) 0).bind fun x6 =>
  some x6

noncomputable def F_X8_in (a0 : Int32) (a1 : Int32) (a2 : Int32) : Int32 :=
  if a0 < a1 then (
    0)
  else
  if a2 < a0 then (
    0)
  else
  1

noncomputable def F_X8_isIn (a0 : Int32) (a1 : Int32) : Option (Int32) :=
  if a0 = 0 then (
    if ¬ ((F_X8_in a1 10 1000) = 0 ∨ (F_X8_in a1 10 1000) = 1) then none else
    some (F_X8_in a1 10 1000))
  else
  if a0 = 1 then (
    if ¬ ((F_X8_in a1 1 9) = 0 ∨ (F_X8_in a1 1 9) = 1) then none else
    some (F_X8_in a1 1 9))
  else
  if a0 = 2 then (
    if ¬ ((F_X8_in a1 1 9) = 0 ∨ (F_X8_in a1 1 9) = 1) then none else
    some (F_X8_in a1 1 9))
  else
  if a0 = 3 then (
    if ¬ ((F_X8_in a1 1 100) = 0 ∨ (F_X8_in a1 1 100) = 1) then none else
    some (F_X8_in a1 1 100))
  else
  if a0 = 4 then (
    if ¬ ((F_X8_in a1 0 100) = 0 ∨ (F_X8_in a1 0 100) = 1) then none else
    some (F_X8_in a1 0 100))
  else
  if a0 = 5 then (
    if (F_X8_in a1 1 10) = 0 then (
      some 0)
    else
    some 1)
  else
  some 0

noncomputable def F_X8_act_L10 : Nat → Int32 → (Nat → Int32) → Option ((Nat → Int32))
  | 0, _, _ => none
  | n + 1, l1, pa =>
    if 4400 ≤ l1 then (
      some pa)
    else
    (tv_rd 5500 pa (l1 + 1100)).bind fun x1 =>
    (tv_wr 5500 pa l1 x1).bind fun x2 =>
    F_X8_act_L10 n (l1 + 1) x2

noncomputable def F_X8_act_L51 (v : Nat → Int32) (pm : Int32) : Nat → Int32 → (Nat → Int32) → Option ((Nat → Int32))
  | 0, _, _ => none
  | n + 1, l1, pa =>
    if 1100 ≤ l1 then (
      some pa)
    else
    (tv_rd 1100 v l1).bind fun x5 =>
    (tv_wr 5500 pa ((1100 * pm) + l1) x5).bind fun x6 =>
    F_X8_act_L51 v pm n (l1 + 1) x6

noncomputable def F_X8_act (v : Nat → Int32) (pa : Nat → Int32) (pm : Int32) : Option ((Nat → Int32) × Int32) :=
  (if pm = 5 then (
    (F_X8_act_L10 tv_fu 0 pa).bind fun x3 =>
    some (x3, (pm - 1)))
  else (
    some (pa, pm))).bind fun (x4 : (Nat → Int32) × Int32) =>
  (F_X8_act_L51 v x4.2 tv_fu 0 x4.1).bind fun x7 =>
  some (x7, (x4.2 + 1))

noncomputable def F_X8_at (a0 : Int32) (a1 : Int32) : Int32 :=
  ((20 + (15 * a0)) + a1)

noncomputable def F_X8_presentMany_L4 (v : Nat → Int32) : Nat → Int32 → Int32 → Option (Int32)
  | 0, _, _ => none
  | n + 1, l1, l2 =>
    (tv_rd 1100 v 10).bind fun x1 =>
    if x1 ≤ l2 then (
      some l1)
    else
    (tv_rd 1100 v (F_X8_at l2 1)).bind fun x2 =>
    F_X8_presentMany_L4 v n (l1 + x2) (l2 + 1)

noncomputable def F_X8_presentMany (v : Nat → Int32) : Option (Int32) :=
  (F_X8_presentMany_L4 v tv_fu 0 0).bind fun x3 =>
  some x3

noncomputable def F_X8_isPresent (v : Nat → Int32) (a1 : Int32) : Option (Int32) :=
  (tv_rd 1100 v (F_X8_at a1 1)).bind fun x1 =>
  if x1 = 1 then (
    some 1)
  else
  some 0

noncomputable def F_X8_signatures_L4 (v : Nat → Int32) : Nat → Int32 → Int32 → Option (Int32)
  | 0, _, _ => none
  | n + 1, l1, l2 =>
    (tv_rd 1100 v 10).bind fun x1 =>
    if x1 ≤ l2 then (
      some l1)
    else
    (F_X8_isPresent v l2).bind fun x2 =>
    if x2 = 0 then (
      F_X8_signatures_L4 v n (l1 + 0) (l2 + 1))
    else
    (tv_rd 1100 v (F_X8_at l2 3)).bind fun x3 =>
    if x3 = 1 then (
      F_X8_signatures_L4 v n (l1 + 1) (l2 + 1))
    else
    F_X8_signatures_L4 v n (l1 + 0) (l2 + 1)

noncomputable def F_X8_signatures (v : Nat → Int32) : Option (Int32) :=
  (F_X8_signatures_L4 v tv_fu 0 0).bind fun x4 =>
  some x4

noncomputable def F_X8_of (a0 : Int32) (a1 : Int32) : Int32 :=
  ((170 + (18 * (a0 - 1))) + a1)

noncomputable def F_X8_tells (v : Nat → Int32) (a1 : Int32) (a2 : Int32) : Option ((Nat → Int32)) :=
  (tv_rd 1100 v 12).bind fun x1 =>
  (tv_rd 1100 v 6).bind fun x2 =>
  (tv_wr 1100 v (910 + (3 * (x1 - x1 / 20 * 20))) x2).bind fun x3 =>
  (tv_wr 1100 x3 ((910 + (3 * (x1 - x1 / 20 * 20))) + 1) a1).bind fun x4 =>
  (tv_wr 1100 x4 ((910 + (3 * (x1 - x1 / 20 * 20))) + 2) a2).bind fun x5 =>
  (tv_rd 1100 x5 12).bind fun x6 =>
  (tv_wr 1100 x5 12 (x6 + 1)).bind fun x7 =>
  some x7

noncomputable def F_X8_grades_L4 (v : Nat → Int32) (l1 : Int32) : Nat → Int32 → Int32 → Option (Int32)
  | 0, _, _ => none
  | n + 1, l2, l3 =>
    if 10 ≤ l3 then (
      some l2)
    else
    (tv_rd 1100 v (F_X8_of l1 7)).bind fun x1 =>
    F_X8_grades_L4 v l1 n (l2 + ((x1 >>> (l3 &&& 31)) &&& 1)) (l3 + 1)

noncomputable def F_X8_grades (v : Nat → Int32) (a1 : Int32) : Option (Int32) :=
  (F_X8_grades_L4 v a1 tv_fu 0 0).bind fun x2 =>
  some x2

noncomputable def F_X8_scoreOf_L11 (v : Nat → Int32) (l1 : Int32) (l2 : Int32) : Nat → Int32 → Int32 → Option (Int32)
  | 0, _, _ => none
  | n + 1, l3, l4 =>
    if 10 ≤ l4 then (
      some l3)
    else
    (tv_rd 1100 v (F_X8_of l1 7)).bind fun x2 =>
    if ((x2 >>> (l4 &&& 31)) &&& 1) = 1 then (
      (tv_rd 1100 v (F_X8_of l1 (8 + l4))).bind fun x3 =>
      F_X8_scoreOf_L11 v l1 l2 n (l3 + x3) (l4 + 1))
    else
    F_X8_scoreOf_L11 v l1 l2 n (l3 + 0) (l4 + 1)

noncomputable def F_X8_scoreOf (v : Nat → Int32) (a1 : Int32) : Option (Int32) :=
  (F_X8_grades v a1).bind fun x1 =>
  (F_X8_scoreOf_L11 v a1 x1 tv_fu 0 0).bind fun x4 =>
  (if x1 = 0 then (
    some 50)
  else (
    if x1 = 0 then none else
    some ((10 * x4) / x1))).bind fun (x6 : Int32) =>
  (tv_rd 1100 v (F_X8_of a1 4)).bind fun x7 =>
  (tv_rd 1100 v (F_X8_of a1 5)).bind fun x8 =>
  if 0 ≤ ((x6 + (5 * x7)) - (25 * x8)) then (
    if ((x6 + (5 * x7)) - (25 * x8)) ≤ 100 then (
      some ((x6 + (5 * x7)) - (25 * x8)))
    else
    some 100)
  else
  some 0

noncomputable def F_X8_reputation_L13 (v : Nat → Int32) (l1 : Int32) : Nat → Int32 → Int32 → Int32 → Option (Int32 × Int32)
  | 0, _, _, _ => none
  | n + 1, l2, l3, l4 =>
    if l4 < 1 then (
      some (l2, l3))
    else
    (tv_rd 1100 v 5).bind fun x2 =>
    if x2 ≤ l2 then (
      some (l2, l3))
    else
    (tv_rd 1100 v (F_X8_of l4 0)).bind fun x3 =>
    if x3 = l1 then (
      (tv_rd 1100 v (F_X8_of l4 3)).bind fun x4 =>
      if x4 = (-9) then (
        F_X8_reputation_L13 v l1 n l2 l3 (l4 + (-1)))
      else
      (F_X8_scoreOf v l4).bind fun x5 =>
      F_X8_reputation_L13 v l1 n (l2 + 1) (l3 + x5) (l4 + (-1)))
    else
    F_X8_reputation_L13 v l1 n l2 l3 (l4 + (-1))

noncomputable def F_X8_reputation (v : Nat → Int32) (a1 : Int32) : Option (Int32) :=
  (tv_rd 1100 v 9).bind fun x1 =>
  (F_X8_reputation_L13 v a1 tv_fu 0 0 x1).bind fun x6 =>
  if x6.1 = 0 then (
    some 50)
  else
  if x6.1 = 0 then none else
  some (x6.2 / x6.1)

noncomputable def F_X8_led_L4 (v : Nat → Int32) (l1 : Int32) : Nat → Int32 → Int32 → Option (Int32)
  | 0, _, _ => none
  | n + 1, l2, l3 =>
    (tv_rd 1100 v 9).bind fun x1 =>
    if x1 < l3 then (
      some l2)
    else
    (tv_rd 1100 v (F_X8_of l3 0)).bind fun x2 =>
    if x2 = l1 then (
      F_X8_led_L4 v l1 n (l2 + 1) (l3 + 1))
    else
    F_X8_led_L4 v l1 n (l2 + 0) (l3 + 1)

noncomputable def F_X8_led (v : Nat → Int32) (a1 : Int32) : Option (Int32) :=
  (F_X8_led_L4 v a1 tv_fu 0 1).bind fun x3 =>
  some x3

noncomputable def F_X8_appoints_L5 (v : Nat → Int32) (l1 : Int32) : Nat → Int32 → Int32 → Option (Int32)
  | 0, _, _ => none
  | n + 1, l2, l3 =>
    (tv_rd 1100 v 10).bind fun x1 =>
    if x1 ≤ l3 then (
      some l2)
    else
    (F_X8_isPresent v l3).bind fun x2 =>
    if x2 = 0 then (
      F_X8_appoints_L5 v l1 n l2 (l3 + 1))
    else
    if l3 = l1 then (
      F_X8_appoints_L5 v l1 n l2 (l3 + 1))
    else
    (if 0 ≤ l2 then (
      (F_X8_reputation v l3).bind fun x3 =>
      (F_X8_reputation v l2).bind fun x4 =>
      some (x3 - x4))
    else (
      some 1)).bind fun (x5 : Int32) =>
    (if x5 = 0 then (
      (F_X8_led v l2).bind fun x6 =>
      (F_X8_led v l3).bind fun x7 =>
      some (x6 - x7))
    else (
      some x5)).bind fun (x8 : Int32) =>
    if x8 ≤ 0 then (
      F_X8_appoints_L5 v l1 n l2 (l3 + 1))
    else
    F_X8_appoints_L5 v l1 n l3 (l3 + 1)

noncomputable def F_X8_appoints (v : Nat → Int32) (a1 : Int32) : Option ((Nat → Int32)) :=
  (F_X8_appoints_L5 v a1 tv_fu (-9) 0).bind fun x9 =>
  (if 0 ≤ x9 then (
    some 1)
  else (
    some 0)).bind fun (x10 : Int32) =>
  (tv_wr 1100 v 7 x10).bind fun x11 =>
  (tv_wr 1100 x11 8 x9).bind fun x12 =>
  (if 0 ≤ x9 then (
    some 5)
  else (
    some 7)).bind fun (x13 : Int32) =>
  (F_X8_tells x12 x13 x9).bind fun x14 =>
  some x14

noncomputable def F_X8_ends_L59 (l1 : Int32) (l3 : Int32) : Nat → Int32 → (Nat → Int32) → Option ((Nat → Int32))
  | 0, _, _ => none
  | n + 1, l4, v =>
    if 10 ≤ l4 then (
      some v)
    else
    (tv_wr 1100 v (F_X8_at l4 3) 0).bind fun x7 =>
    F_X8_ends_L59 l1 l3 n (l4 + 1) x7

noncomputable def F_X8_ends (v : Nat → Int32) (a1 : Int32) : Option ((Nat → Int32)) :=
  (tv_rd 1100 v 9).bind fun x1 =>
  (tv_rd 1100 v (F_X8_of x1 0)).bind fun x2 =>
  (tv_rd 1100 v 6).bind fun x3 =>
  (tv_wr 1100 v (F_X8_of x1 3) x3).bind fun x4 =>
  (if a1 = 3 then (
    some 1)
  else (
    some 0)).bind fun (x5 : Int32) =>
  (tv_wr 1100 x4 (F_X8_of x1 5) x5).bind fun x6 =>
  (F_X8_ends_L59 a1 x2 tv_fu 0 x6).bind fun x8 =>
  (F_X8_tells x8 a1 x2).bind fun x9 =>
  (F_X8_appoints x9 x2).bind fun x10 =>
  some x10

noncomputable def F_X8_looks (v : Nat → Int32) : Option ((Nat → Int32)) :=
  (tv_rd 1100 v 7).bind fun x1 =>
  if x1 = 2 then (
    (F_X8_presentMany v).bind fun x2 =>
    (F_X8_signatures v).bind fun x3 =>
    if x3 ≤ 0 then (
      some v)
    else
    (tv_rd 1100 v 3).bind fun x4 =>
    if (100 * x3) < (x4 * (x2 - 1)) then (
      some v)
    else
    (F_X8_ends v 3).bind fun x5 =>
    some x5)
  else
  some v

noncomputable def F_X8_set (v : Nat → Int32) (pa : Nat → Int32) (pm : Int32) (a1 : Int32) (a2 : Int32) : Option (Int32 × (Nat → Int32) × (Nat → Int32) × Int32) :=
  (F_X8_isIn a1 a2).bind fun x1 =>
  if x1 = 0 then (
    some ((-1), v, pa, pm))
  else
  (F_X8_act v pa pm).bind fun x2 =>
  (tv_rd 1100 v a1).bind fun x3 =>
  (tv_wr 1100 v a1 a2).bind fun x4 =>
  if a1 = 3 then (
    (F_X8_looks x4).bind fun x5 =>
    some (x3, x5, x2.1, x2.2))
  else
  some (x3, x4, x2.1, x2.2)

noncomputable def F_X8_join_L42 (l1 : Int32) (l2 : Int32) : Nat → Int32 → (Nat → Int32) → Option ((Nat → Int32))
  | 0, _, _ => none
  | n + 1, l3, v =>
    if 15 ≤ l3 then (
      some v)
    else
    (tv_wr 1100 v (F_X8_at l2 l3) 0).bind fun x4 =>
    F_X8_join_L42 l1 l2 n (l3 + 1) x4

noncomputable def F_X8_join (v : Nat → Int32) (pa : Nat → Int32) (pm : Int32) (a1 : Int32) : Option (Int32 × (Nat → Int32) × (Nat → Int32) × Int32) :=
  if (F_X8_in a1 0 996) = 0 then (
    some ((-1), v, pa, pm))
  else
  (tv_rd 1100 v 10).bind fun x1 =>
  if x1 = 10 then (
    some ((-3), v, pa, pm))
  else
  (F_X8_act v pa pm).bind fun x2 =>
  (tv_rd 1100 v 10).bind fun x3 =>
  (F_X8_join_L42 a1 x3 tv_fu 0 v).bind fun x5 =>
  (tv_wr 1100 x5 (F_X8_at x3 0) a1).bind fun x6 =>
  (tv_wr 1100 x6 (F_X8_at x3 1) 1).bind fun x7 =>
  (tv_rd 1100 x7 10).bind fun x8 =>
  (tv_wr 1100 x7 10 (x8 + 1)).bind fun x9 =>
  (F_X8_looks x9).bind fun x10 =>
  some (x3, x10, x2.1, x2.2)

noncomputable def F_X8_isMember (v : Nat → Int32) (a1 : Int32) : Option (Int32) :=
  (tv_rd 1100 v 10).bind fun x1 =>
  if ¬ ((F_X8_in a1 0 (x1 - 1)) = 0 ∨ (F_X8_in a1 0 (x1 - 1)) = 1) then none else
  some (F_X8_in a1 0 (x1 - 1))

noncomputable def F_X8_strikes_L5 (l1 : Int32) (l2 : Int32) : Nat → Int32 → Int32 → (Nat → Int32) → Option (Int32 × (Nat → Int32))
  | 0, _, _, _ => none
  | n + 1, l3, l4, v =>
    (tv_rd 1100 v (F_X8_at l1 4)).bind fun x1 =>
    if x1 ≤ l4 then (
      some (l3, v))
    else
    (tv_rd 1100 v (F_X8_at l1 (5 + l4))).bind fun x2 =>
    (tv_wr 1100 v (F_X8_at l1 (5 + l3)) x2).bind fun x3 =>
    if x2 = l2 then (
      F_X8_strikes_L5 l1 l2 n (l3 + 0) (l4 + 1) x3)
    else
    F_X8_strikes_L5 l1 l2 n (l3 + 1) (l4 + 1) x3

noncomputable def F_X8_strikes (v : Nat → Int32) (a1 : Int32) (a2 : Int32) : Option ((Nat → Int32)) :=
  (F_X8_strikes_L5 a1 a2 tv_fu 0 0 v).bind fun x4 =>
  (tv_wr 1100 x4.2 (F_X8_at a1 4) x4.1).bind fun x5 =>
  some x5

noncomputable def F_X8_leaves_L35 (l1 : Int32) : Nat → Int32 → (Nat → Int32) → Option ((Nat → Int32))
  | 0, _, _ => none
  | n + 1, l2, v =>
    (tv_rd 1100 v 10).bind fun x4 =>
    if x4 ≤ l2 then (
      some v)
    else
    (F_X8_strikes v l2 l1).bind fun x5 =>
    F_X8_leaves_L35 l1 n (l2 + 1) x5

noncomputable def F_X8_leaves (v : Nat → Int32) (a1 : Int32) : Option ((Nat → Int32)) :=
  (tv_wr 1100 v (F_X8_at a1 1) 0).bind fun x1 =>
  (tv_wr 1100 x1 (F_X8_at a1 2) 0).bind fun x2 =>
  (tv_wr 1100 x2 (F_X8_at a1 4) 0).bind fun x3 =>
  (F_X8_leaves_L35 a1 tv_fu 0 x3).bind fun x6 =>
  (tv_rd 1100 x6 8).bind fun x7 =>
  if x7 = a1 then (
    (tv_rd 1100 x6 7).bind fun x11 =>
    if x11 = 2 then (
      (F_X8_ends x6 4).bind fun x15 =>
      some x15)
    else
    (tv_rd 1100 x6 8).bind fun x12 =>
    if x12 = a1 then (
      (tv_rd 1100 x6 7).bind fun x13 =>
      if x13 = 1 then (
        (F_X8_appoints x6 (-9)).bind fun x14 =>
        some x14)
      else
      some x6)
    else
    some x6)
  else
  (tv_rd 1100 x6 8).bind fun x8 =>
  if x8 = a1 then (
    (tv_rd 1100 x6 7).bind fun x9 =>
    if x9 = 1 then (
      (F_X8_appoints x6 (-9)).bind fun x10 =>
      some x10)
    else
    some x6)
  else
  some x6

noncomputable def F_X8_setPresent (v : Nat → Int32) (pa : Nat → Int32) (pm : Int32) (a1 : Int32) (a2 : Int32) : Option (Int32 × (Nat → Int32) × (Nat → Int32) × Int32) :=
  (F_X8_isMember v a1).bind fun x1 =>
  if x1 = 0 then (
    some ((-1), v, pa, pm))
  else
  (F_X8_act v pa pm).bind fun x2 =>
  (tv_rd 1100 v (F_X8_at a1 1)).bind fun x3 =>
  if a2 = 0 then (
    if a2 = 0 then (
      if x3 = 1 then (
        (F_X8_leaves v a1).bind fun x4 =>
        (F_X8_looks x4).bind fun x5 =>
        some (x3, x5, x2.1, x2.2))
      else
      some (x3, v, x2.1, x2.2))
    else
    some (x3, v, x2.1, x2.2))
  else
  if x3 = 0 then (
    (tv_wr 1100 v (F_X8_at a1 1) 1).bind fun x8 =>
    (F_X8_looks x8).bind fun x9 =>
    some (x3, x9, x2.1, x2.2))
  else
  if a2 = 0 then (
    if x3 = 1 then (
      (F_X8_leaves v a1).bind fun x6 =>
      (F_X8_looks x6).bind fun x7 =>
      some (x3, x7, x2.1, x2.2))
    else
    some (x3, v, x2.1, x2.2))
  else
  some (x3, v, x2.1, x2.2)

noncomputable def F_X8_pass (v : Nat → Int32) (pa : Nat → Int32) (pm : Int32) (a1 : Int32) : Option (Int32 × (Nat → Int32) × (Nat → Int32) × Int32) :=
  if (F_X8_in a1 1 1000) = 0 then (
    some ((-1), v, pa, pm))
  else
  (tv_rd 1100 v 6).bind fun x1 =>
  if (x1 + a1) ≤ 1000000 then (
    (F_X8_act v pa pm).bind fun x2 =>
    (tv_rd 1100 v 6).bind fun x3 =>
    (tv_rd 1100 v 7).bind fun x4 =>
    (if x4 = 2 then (
      (tv_rd 1100 v 9).bind fun x5 =>
      (tv_rd 1100 v (F_X8_of x5 2)).bind fun x6 =>
      if (x3 + a1) < x6 then (
        some v)
      else
      (tv_rd 1100 v 9).bind fun x7 =>
      (tv_rd 1100 v (F_X8_of x7 2)).bind fun x8 =>
      (tv_wr 1100 v 6 x8).bind fun x9 =>
      (F_X8_ends x9 2).bind fun x10 =>
      some x10)
    else (
      some v)).bind fun (x11 : (Nat → Int32)) =>
    (tv_wr 1100 x11 6 (x3 + a1)).bind fun x12 =>
    some ((x3 + a1), x12, x2.1, x2.2))
  else
  some ((-2), v, pa, pm)

noncomputable def F_X8_open (v : Nat → Int32) (pa : Nat → Int32) (pm : Int32) : Option (Int32 × (Nat → Int32) × (Nat → Int32) × Int32) :=
  (tv_rd 1100 v 11).bind fun x1 =>
  if x1 = 1 then (
    some ((-2), v, pa, pm))
  else
  (tv_rd 1100 v 7).bind fun x2 =>
  if x2 = 2 then (
    some ((-2), v, pa, pm))
  else
  (tv_rd 1100 v 9).bind fun x3 =>
  if x3 = 40 then (
    some ((-3), v, pa, pm))
  else
  (F_X8_act v pa pm).bind fun x4 =>
  (tv_wr 1100 v 11 1).bind fun x5 =>
  (tv_rd 1100 x5 9).bind fun x6 =>
  some ((x6 + 1), x5, x4.1, x4.2)

noncomputable def F_X8_canLead_L10 (v : Nat → Int32) (l1 : Int32) : Nat → Int32 → Int32 → Option (Int32)
  | 0, _, _ => none
  | n + 1, l2, l3 =>
    if l3 < 1 then (
      some l2)
    else
    (tv_rd 1100 v (F_X8_of l3 0)).bind fun x2 =>
    if x2 = l1 then (
      F_X8_canLead_L10 v l1 n (l2 + 1) (l3 + (-1)))
    else
    some l2

noncomputable def F_X8_canLead (v : Nat → Int32) (a1 : Int32) : Option (Int32) :=
  (tv_rd 1100 v 9).bind fun x1 =>
  (F_X8_canLead_L10 v a1 tv_fu 0 x1).bind fun x3 =>
  (F_X8_isPresent v a1).bind fun x4 =>
  if x4 = 0 then (
    some 0)
  else
  (F_X8_led v a1).bind fun x5 =>
  (tv_rd 1100 v 1).bind fun x6 =>
  if x6 ≤ x5 then (
    some 0)
  else
  (tv_rd 1100 v 2).bind fun x7 =>
  if x7 ≤ x3 then (
    some 0)
  else
  some 1

noncomputable def F_X8_candidates_L4 (v : Nat → Int32) : Nat → Int32 → Int32 → Option (Int32)
  | 0, _, _ => none
  | n + 1, l1, l2 =>
    (tv_rd 1100 v 10).bind fun x1 =>
    if x1 ≤ l2 then (
      some l1)
    else
    (tv_rd 1100 v (F_X8_at l2 2)).bind fun x2 =>
    F_X8_candidates_L4 v n (l1 + x2) (l2 + 1)

noncomputable def F_X8_candidates (v : Nat → Int32) : Option (Int32) :=
  (F_X8_candidates_L4 v tv_fu 0 0).bind fun x3 =>
  some x3

noncomputable def F_X8_nominate (v : Nat → Int32) (pa : Nat → Int32) (pm : Int32) (a1 : Int32) : Option (Int32 × (Nat → Int32) × (Nat → Int32) × Int32) :=
  (F_X8_isMember v a1).bind fun x1 =>
  if x1 = 0 then (
    some ((-1), v, pa, pm))
  else
  (tv_rd 1100 v 11).bind fun x2 =>
  if x2 = 0 then (
    some ((-2), v, pa, pm))
  else
  (tv_rd 1100 v (F_X8_at a1 2)).bind fun x3 =>
  if x3 = 1 then (
    some ((-2), v, pa, pm))
  else
  (F_X8_canLead v a1).bind fun x4 =>
  if x4 = 0 then (
    some ((-4), v, pa, pm))
  else
  (F_X8_act v pa pm).bind fun x5 =>
  (tv_wr 1100 v (F_X8_at a1 2) 1).bind fun x6 =>
  (F_X8_candidates x6).bind fun x7 =>
  some (x7, x6, x5.1, x5.2)

noncomputable def F_X8_wrongAt_L4 (v : Nat → Int32) (mt : Nat → Int32) (ty : Int32) : Nat → Int32 → Int32 → Option (Int32)
  | 0, _, _ => none
  | n + 1, l1, l2 =>
    if ty ≤ l2 then (
      if (ty - ty / 2 * 2) = 1 then (
        some (-1))
      else
      some ty)
    else
    (tv_rd 40 mt l2).bind fun x1 =>
    if (l2 - l2 / 2 * 2) = 1 then (
      (tv_rd 40 mt l2).bind fun x4 =>
      if x4 = 62 then (
        if (l2 - l2 / 2 * 2) = 0 then (
          (F_X8_isMember v (x1 - 48)).bind fun x5 =>
          if x5 = 0 then (
            some l2)
          else
          (tv_rd 1100 v (F_X8_at (x1 - 48) 2)).bind fun x6 =>
          if x6 = 0 then (
            some l2)
          else
          if ((l1 >>> ((x1 - 48) &&& 31)) &&& 1) = 1 then (
            some l2)
          else
          F_X8_wrongAt_L4 v mt ty n (l1 ||| (1 <<< ((x1 - 48) &&& 31))) (l2 + 1))
        else
        F_X8_wrongAt_L4 v mt ty n l1 (l2 + 1))
      else
      some l2)
    else
    if (l2 - l2 / 2 * 2) = 0 then (
      (F_X8_isMember v (x1 - 48)).bind fun x2 =>
      if x2 = 0 then (
        some l2)
      else
      (tv_rd 1100 v (F_X8_at (x1 - 48) 2)).bind fun x3 =>
      if x3 = 0 then (
        some l2)
      else
      if ((l1 >>> ((x1 - 48) &&& 31)) &&& 1) = 1 then (
        some l2)
      else
      F_X8_wrongAt_L4 v mt ty n (l1 ||| (1 <<< ((x1 - 48) &&& 31))) (l2 + 1))
    else
    F_X8_wrongAt_L4 v mt ty n l1 (l2 + 1)

noncomputable def F_X8_wrongAt (v : Nat → Int32) (mt : Nat → Int32) (ty : Int32) : Option (Int32) :=
  F_X8_wrongAt_L4 v mt ty tv_fu 0 0

noncomputable def F_X8_ballots_L4 (v : Nat → Int32) : Nat → Int32 → Int32 → Option (Int32)
  | 0, _, _ => none
  | n + 1, l1, l2 =>
    (tv_rd 1100 v 10).bind fun x1 =>
    if x1 ≤ l2 then (
      some l1)
    else
    (tv_rd 1100 v (F_X8_at l2 4)).bind fun x2 =>
    if x2 ≤ 0 then (
      F_X8_ballots_L4 v n (l1 + 0) (l2 + 1))
    else
    F_X8_ballots_L4 v n (l1 + 1) (l2 + 1)

noncomputable def F_X8_ballots (v : Nat → Int32) : Option (Int32) :=
  (F_X8_ballots_L4 v tv_fu 0 0).bind fun x3 =>
  some x3

noncomputable def F_X8_cast_L69 (mt : Nat → Int32) (l1 : Int32) : Nat → Int32 → (Nat → Int32) → Option ((Nat → Int32))
  | 0, _, _ => none
  | n + 1, l3, v =>
    (tv_rd 1100 v (F_X8_at l1 4)).bind fun x7 =>
    if x7 ≤ l3 then (
      some v)
    else
    (tv_rd 40 mt (2 * l3)).bind fun x8 =>
    (tv_wr 1100 v (F_X8_at l1 (5 + l3)) (x8 - 48)).bind fun x9 =>
    F_X8_cast_L69 mt l1 n (l3 + 1) x9

noncomputable def F_X8_cast (v : Nat → Int32) (pa : Nat → Int32) (mt : Nat → Int32) (pm : Int32) (ty : Int32) (a1 : Int32) : Option (Int32 × (Nat → Int32) × (Nat → Int32) × Int32 × Int32) :=
  (F_X8_isMember v a1).bind fun x1 =>
  if x1 = 0 then (
    some ((-1), v, pa, pm, ty))
  else
  (tv_rd 1100 v 11).bind fun x2 =>
  if x2 = 0 then (
    some ((-2), v, pa, pm, ty))
  else
  (F_X8_isPresent v a1).bind fun x3 =>
  if x3 = 0 then (
    some ((-2), v, pa, pm, ty))
  else
  (F_X8_wrongAt v mt ty).bind fun x4 =>
  if x4 < 0 then (
    (F_X8_act v pa pm).bind fun x5 =>
    (tv_wr 1100 v (F_X8_at a1 4) ((ty + 1) / 2)).bind fun x6 =>
    (F_X8_cast_L69 mt a1 tv_fu 0 x6).bind fun x10 =>
    (F_X8_ballots x10).bind fun x11 =>
    some (x11, x10, x5.1, x5.2, 0))
  else
  some (((-100) - x4), v, pa, pm, ty)

noncomputable def F_X8_tallyAt (a1 : Int32) (a2 : Int32) : Int32 :=
  ((980 + (10 * a1)) + a2)

noncomputable def F_X8_firstOf_L2 (v : Nat → Int32) (ra : Int32) (l1 : Int32) : Nat → Int32 → Option (Int32)
  | 0, _ => none
  | n + 1, l2 =>
    (tv_rd 1100 v (F_X8_at l1 4)).bind fun x1 =>
    if x1 ≤ l2 then (
      some (-9))
    else
    (tv_rd 1100 v (F_X8_at l1 (5 + l2))).bind fun x2 =>
    if ((ra >>> (x2 &&& 31)) &&& 1) = 1 then (
      some x2)
    else
    F_X8_firstOf_L2 v ra l1 n (l2 + 1)

noncomputable def F_X8_firstOf (v : Nat → Int32) (ra : Int32) (a1 : Int32) : Option (Int32) :=
  F_X8_firstOf_L2 v ra a1 tv_fu 0

noncomputable def F_X8_raceMany_L4 (ra : Int32) : Nat → Int32 → Int32 → Option (Int32)
  | 0, _, _ => none
  | n + 1, l1, l2 =>
    if 10 ≤ l2 then (
      some l1)
    else
    F_X8_raceMany_L4 ra n (l1 + ((ra >>> (l2 &&& 31)) &&& 1)) (l2 + 1)

noncomputable def F_X8_raceMany (ra : Int32) : Option (Int32) :=
  (F_X8_raceMany_L4 ra tv_fu 0 0).bind fun x1 =>
  some x1

noncomputable def F_X8_isWeaker (v : Nat → Int32) (a1 : Int32) (a2 : Int32) (a3 : Int32) : Option (Int32) :=
  (tv_rd 1100 v (F_X8_tallyAt a1 a3)).bind fun x1 =>
  (tv_rd 1100 v (F_X8_tallyAt a1 a2)).bind fun x2 =>
  (if (x1 - x2) = 0 then (
    (F_X8_reputation v a3).bind fun x3 =>
    (F_X8_reputation v a2).bind fun x4 =>
    some (x3 - x4))
  else (
    some (x1 - x2))).bind fun (x5 : Int32) =>
  (if x5 = 0 then (
    (F_X8_led v a2).bind fun x6 =>
    (F_X8_led v a3).bind fun x7 =>
    some (x6 - x7))
  else (
    some x5)).bind fun (x8 : Int32) =>
  if x8 = 0 then (
    if a2 ≤ a3 then (
      some 0)
    else
    some 1)
  else
  if x8 ≤ 0 then (
    some 0)
  else
  some 1

noncomputable def F_X8_holdsRound_L4 (ra : Int32) (l1 : Int32) (l2 : Int32) : Nat → Int32 → (Nat → Int32) → Option ((Nat → Int32))
  | 0, _, _ => none
  | n + 1, l3, v =>
    if 10 ≤ l3 then (
      some v)
    else
    (if ((ra >>> (l3 &&& 31)) &&& 1) = 1 then (
      some 0)
    else (
      some (-9))).bind fun (x1 : Int32) =>
    (tv_wr 1100 v (F_X8_tallyAt l1 l3) x1).bind fun x2 =>
    F_X8_holdsRound_L4 ra l1 l2 n (l3 + 1) x2

noncomputable def F_X8_holdsRound_L47 (ra : Int32) (l1 : Int32) : Nat → Int32 → Int32 → (Nat → Int32) → Option (Int32 × (Nat → Int32))
  | 0, _, _, _ => none
  | n + 1, l2, l3, v =>
    (tv_rd 1100 v 10).bind fun x4 =>
    if x4 ≤ l3 then (
      some (l2, v))
    else
    (F_X8_firstOf v ra l3).bind fun x5 =>
    if x5 < 0 then (
      F_X8_holdsRound_L47 ra l1 n l2 (l3 + 1) v)
    else
    (tv_rd 1100 v (F_X8_tallyAt l1 x5)).bind fun x6 =>
    (tv_wr 1100 v (F_X8_tallyAt l1 x5) (x6 + 1)).bind fun x7 =>
    F_X8_holdsRound_L47 ra l1 n (l2 + 1) (l3 + 1) x7

noncomputable def F_X8_holdsRound_L101 (l1 : Int32) (l2 : Int32) : Nat → Int32 → Int32 → (Nat → Int32) → (Int32) → Option (Int32 × (Nat → Int32) × Int32)
  | 0, _, _, _, _ => none
  | n + 1, l3, l4, v, ra =>
    if 10 ≤ l4 then (
      some ((-9), v, (ra &&& ((1 <<< (l3 &&& 31)) ^^^ (-1)))))
    else
    if ((ra >>> (l4 &&& 31)) &&& 1) = 1 then (
      (tv_rd 1100 v (F_X8_tallyAt l1 l4)).bind fun x9 =>
      if l2 < (2 * x9) then (
        some (l4, v, ra))
      else
      (F_X8_raceMany ra).bind fun x10 =>
      if x10 = 1 then (
        some (l4, v, ra))
      else
      if l3 < 0 then (
        F_X8_holdsRound_L101 l1 l2 n l4 (l4 + 1) v ra)
      else
      (F_X8_isWeaker v l1 l4 l3).bind fun x11 =>
      if x11 = 0 then (
        F_X8_holdsRound_L101 l1 l2 n l3 (l4 + 1) v ra)
      else
      F_X8_holdsRound_L101 l1 l2 n l4 (l4 + 1) v ra)
    else
    F_X8_holdsRound_L101 l1 l2 n l3 (l4 + 1) v ra

noncomputable def F_X8_holdsRound (v : Nat → Int32) (ra : Int32) (a1 : Int32) : Option (Int32 × (Nat → Int32) × Int32) :=
  (F_X8_holdsRound_L4 ra a1 0 tv_fu 0 v).bind fun x3 =>
  (F_X8_holdsRound_L47 ra a1 tv_fu 0 0 x3).bind fun x8 =>
  F_X8_holdsRound_L101 a1 x8.1 tv_fu (-9) 0 x8.2 ra

noncomputable def F_X8_begins_L21 (l1 : Int32) (l2 : Int32) : Nat → Int32 → (Nat → Int32) → Option ((Nat → Int32))
  | 0, _, _ => none
  | n + 1, l3, v =>
    if 18 ≤ l3 then (
      some v)
    else
    (tv_wr 1100 v (F_X8_of l2 l3) 0).bind fun x4 =>
    F_X8_begins_L21 l1 l2 n (l3 + 1) x4

noncomputable def F_X8_begins_L110 (l1 : Int32) (l2 : Int32) : Nat → Int32 → (Nat → Int32) → Option ((Nat → Int32))
  | 0, _, _ => none
  | n + 1, l3, v =>
    (tv_rd 1100 v 10).bind fun x13 =>
    if x13 ≤ l3 then (
      some v)
    else
    (tv_rd 1100 v (F_X8_of l2 6)).bind fun x14 =>
    (tv_rd 1100 v (F_X8_at l3 1)).bind fun x15 =>
    (tv_wr 1100 v (F_X8_of l2 6) (x14 ||| (x15 <<< (l3 &&& 31)))).bind fun x16 =>
    F_X8_begins_L110 l1 l2 n (l3 + 1) x16

noncomputable def F_X8_begins (v : Nat → Int32) (a1 : Int32) : Option ((Nat → Int32)) :=
  (tv_rd 1100 v 9).bind fun x1 =>
  (tv_wr 1100 v 9 (x1 + 1)).bind fun x2 =>
  (tv_rd 1100 x2 9).bind fun x3 =>
  (F_X8_begins_L21 a1 x3 tv_fu 0 x2).bind fun x5 =>
  (tv_wr 1100 x5 (F_X8_of x3 0) a1).bind fun x6 =>
  (tv_rd 1100 x6 6).bind fun x7 =>
  (tv_wr 1100 x6 (F_X8_of x3 1) x7).bind fun x8 =>
  (tv_rd 1100 x8 6).bind fun x9 =>
  (tv_rd 1100 x8 0).bind fun x10 =>
  (tv_wr 1100 x8 (F_X8_of x3 2) (x9 + x10)).bind fun x11 =>
  (tv_wr 1100 x11 (F_X8_of x3 3) (-9)).bind fun x12 =>
  (F_X8_begins_L110 a1 x3 tv_fu 0 x12).bind fun x17 =>
  (tv_wr 1100 x17 7 2).bind fun x18 =>
  (tv_wr 1100 x18 8 a1).bind fun x19 =>
  (F_X8_tells x19 1 a1).bind fun x20 =>
  some x20

noncomputable def F_X8_close_L42 (v : Nat → Int32) (l1 : Int32) : Nat → Int32 → (Int32) → Option (Int32)
  | 0, _, _ => none
  | n + 1, l2, ra =>
    (tv_rd 1100 v 10).bind fun x5 =>
    if x5 ≤ l2 then (
      some ra)
    else
    (tv_rd 1100 v (F_X8_at l2 2)).bind fun x6 =>
    F_X8_close_L42 v l1 n (l2 + 1) (ra ||| (x6 <<< (l2 &&& 31)))

noncomputable def F_X8_close_L107 (l2 : Int32) : Nat → Int32 → (Nat → Int32) → (Int32) → Option (Int32 × (Nat → Int32) × Int32)
  | 0, _, _, _ => none
  | n + 1, l1, v, ra =>
    if l2 = 0 then (
      some (l1, v, ra))
    else
    if 0 ≤ l1 then (
      some (l1, v, ra))
    else
    (tv_rd 1100 v 13).bind fun x12 =>
    (F_X8_holdsRound v ra x12).bind fun x13 =>
    (tv_rd 1100 x13.2.1 13).bind fun x14 =>
    (tv_wr 1100 x13.2.1 13 (x14 + 1)).bind fun x15 =>
    F_X8_close_L107 l2 n x13.1 x15 x13.2.2

noncomputable def F_X8_close_L151 (l1 : Int32) : Nat → Int32 → (Nat → Int32) → Option ((Nat → Int32))
  | 0, _, _ => none
  | n + 1, l3, v =>
    if 10 ≤ l3 then (
      some v)
    else
    (tv_wr 1100 v (F_X8_at l3 2) 0).bind fun x18 =>
    (tv_wr 1100 x18 (F_X8_at l3 4) 0).bind fun x19 =>
    F_X8_close_L151 l1 n (l3 + 1) x19

noncomputable def F_X8_close (v : Nat → Int32) (pa : Nat → Int32) (pm : Int32) (ra : Int32) : Option (Int32 × (Nat → Int32) × (Nat → Int32) × Int32 × Int32) :=
  (tv_rd 1100 v 11).bind fun x1 =>
  if x1 = 0 then (
    some ((-2), v, pa, pm, ra))
  else
  (F_X8_candidates v).bind fun x2 =>
  if x2 = 0 then (
    some ((-2), v, pa, pm, ra))
  else
  (F_X8_act v pa pm).bind fun x3 =>
  (tv_wr 1100 v 13 0).bind fun x4 =>
  (F_X8_close_L42 x4 (-9) tv_fu 0 0).bind fun x7 =>
  (F_X8_ballots x4).bind fun x8 =>
  (tv_rd 1100 x4 4).bind fun x9 =>
  (F_X8_presentMany x4).bind fun x10 =>
  (if (100 * x8) < (x9 * x10) then (
    some 0)
  else (
    some 1)).bind fun (x11 : Int32) =>
  (F_X8_close_L107 x11 tv_fu (-9) x4 x7).bind fun x16 =>
  (tv_wr 1100 x16.2.1 11 0).bind fun x17 =>
  (F_X8_close_L151 x16.1 tv_fu 0 x17).bind fun x20 =>
  if 0 ≤ x16.1 then (
    (F_X8_begins x20 x16.1).bind fun x21 =>
    some (x16.1, x21, x3.1, x3.2, x16.2.2))
  else
  (F_X8_tells x20 6 (-9)).bind fun x22 =>
  some (x16.1, x22, x3.1, x3.2, x16.2.2)

noncomputable def F_X8_rounds (v : Nat → Int32) : Option (Int32) :=
  (tv_rd 1100 v 13).bind fun x1 =>
  some x1

noncomputable def F_X8_tally (v : Nat → Int32) (a1 : Int32) (a2 : Int32) : Option (Int32) :=
  (tv_rd 1100 v 13).bind fun x1 =>
  if (F_X8_in a1 0 (x1 - 1)) = 0 then (
    some (-1))
  else
  (F_X8_isMember v a2).bind fun x2 =>
  if x2 = 0 then (
    some (-1))
  else
  (tv_rd 1100 v (F_X8_tallyAt a1 a2)).bind fun x3 =>
  some x3

noncomputable def F_X8_ballot (v : Nat → Int32) (a1 : Int32) (a2 : Int32) : Option (Int32) :=
  (F_X8_isMember v a1).bind fun x1 =>
  if x1 = 0 then (
    some (-1))
  else
  if 0 ≤ a2 then (
    (tv_rd 1100 v 11).bind fun x2 =>
    if x2 = 0 then (
      some (-2))
    else
    (tv_rd 1100 v (F_X8_at a1 4)).bind fun x3 =>
    if x3 ≤ a2 then (
      some (-9))
    else
    (tv_rd 1100 v (F_X8_at a1 (5 + a2))).bind fun x4 =>
    some x4)
  else
  some (-1)

noncomputable def F_X8_office (v : Nat → Int32) : Option (Int32) :=
  (tv_rd 1100 v 7).bind fun x1 =>
  some x1

noncomputable def F_X8_holder (v : Nat → Int32) : Option (Int32) :=
  (tv_rd 1100 v 8).bind fun x1 =>
  some x1

noncomputable def F_X8_deed (v : Nat → Int32) (pa : Nat → Int32) (pm : Int32) (a1 : Int32) : Option (Int32 × (Nat → Int32) × (Nat → Int32) × Int32) :=
  (tv_rd 1100 v 7).bind fun x1 =>
  (if x1 = 2 then (
    (tv_rd 1100 v 9).bind fun x2 =>
    (tv_rd 1100 v (F_X8_of x2 4)).bind fun x3 =>
    if a1 = 0 then (
      some (x3 + (-1)))
    else
    some (x3 + 1))
  else (
    some 99)).bind fun (x4 : Int32) =>
  if (F_X8_in x4 (-20) 20) = 0 then (
    some ((-2), v, pa, pm))
  else
  (F_X8_act v pa pm).bind fun x5 =>
  (tv_rd 1100 v 9).bind fun x6 =>
  (tv_wr 1100 v (F_X8_of x6 4) x4).bind fun x7 =>
  some (x4, x7, x5.1, x5.2)

noncomputable def F_X8_sign (v : Nat → Int32) (pa : Nat → Int32) (pm : Int32) (a1 : Int32) (a2 : Int32) : Option (Int32 × (Nat → Int32) × (Nat → Int32) × Int32) :=
  (F_X8_isMember v a1).bind fun x1 =>
  if x1 = 0 then (
    some ((-1), v, pa, pm))
  else
  (tv_rd 1100 v 7).bind fun x2 =>
  if x2 = 2 then (
    (F_X8_isPresent v a1).bind fun x3 =>
    if x3 = 0 then (
      some ((-2), v, pa, pm))
    else
    (tv_rd 1100 v 8).bind fun x4 =>
    if a1 = x4 then (
      some ((-2), v, pa, pm))
    else
    (tv_rd 1100 v (F_X8_at a1 3)).bind fun x5 =>
    (if a2 = 0 then (
      some 0)
    else (
      some 1)).bind fun (x6 : Int32) =>
    if x5 = x6 then (
      some ((-2), v, pa, pm))
    else
    (F_X8_act v pa pm).bind fun x7 =>
    (if a2 = 0 then (
      some 0)
    else (
      some 1)).bind fun (x8 : Int32) =>
    (tv_wr 1100 v (F_X8_at a1 3) x8).bind fun x9 =>
    (if a2 = 0 then (
      some x9)
    else (
      (F_X8_looks x9).bind fun x10 =>
      some x10)).bind fun (x11 : (Nat → Int32)) =>
    (tv_rd 1100 x11 7).bind fun x12 =>
    if x12 = 2 then (
      (F_X8_signatures x11).bind fun x13 =>
      some (x13, x11, x7.1, x7.2))
    else
    some (0, x11, x7.1, x7.2))
  else
  some ((-2), v, pa, pm)

noncomputable def F_X8_isTerm (v : Nat → Int32) (a1 : Int32) : Option (Int32) :=
  (tv_rd 1100 v 9).bind fun x1 =>
  if ¬ ((F_X8_in a1 1 x1) = 0 ∨ (F_X8_in a1 1 x1) = 1) then none else
  some (F_X8_in a1 1 x1)

noncomputable def F_X8_grade (v : Nat → Int32) (pa : Nat → Int32) (pm : Int32) (a1 : Int32) (a2 : Int32) (a3 : Int32) (a4 : Int32) : Option (Int32 × (Nat → Int32) × (Nat → Int32) × Int32) :=
  (F_X8_isMember v a1).bind fun x1 =>
  if x1 = 0 then (
    some ((-1), v, pa, pm))
  else
  (F_X8_isTerm v a2).bind fun x2 =>
  if x2 = 0 then (
    some ((-1), v, pa, pm))
  else
  if (F_X8_in a3 0 10) = 0 then (
    some ((-1), v, pa, pm))
  else
  (tv_rd 1100 v (F_X8_of a2 3)).bind fun x3 =>
  (if x3 = (-9) then (
    some 0)
  else (
    (tv_rd 1100 v 6).bind fun x4 =>
    (tv_rd 1100 v (F_X8_of a2 3)).bind fun x5 =>
    if 50 < (x4 - x5) then (
      some 0)
    else
    some 1)).bind fun (x6 : Int32) =>
  if x6 = 0 then (
    some ((-2), v, pa, pm))
  else
  (tv_rd 1100 v (F_X8_of a2 0)).bind fun x7 =>
  if a1 = x7 then (
    some ((-2), v, pa, pm))
  else
  (tv_rd 1100 v (F_X8_of a2 6)).bind fun x8 =>
  if ((x8 >>> (a1 &&& 31)) &&& 1) = 0 then (
    some ((-2), v, pa, pm))
  else
  (tv_rd 1100 v (F_X8_at a1 0)).bind fun x9 =>
  if a4 = (((((31 * a2) + (17 * a1)) + (7 * a3)) + x9) - ((((31 * a2) + (17 * a1)) + (7 * a3)) + x9) / 997 * 997) then (
    (F_X8_act v pa pm).bind fun x10 =>
    (tv_rd 1100 v (F_X8_of a2 7)).bind fun x11 =>
    (tv_wr 1100 v (F_X8_of a2 7) (x11 ||| (1 <<< (a1 &&& 31)))).bind fun x12 =>
    (tv_wr 1100 x12 (F_X8_of a2 (8 + a1)) a3).bind fun x13 =>
    (F_X8_grades x13 a2).bind fun x14 =>
    some (x14, x13, x10.1, x10.2))
  else
  some ((-5), v, pa, pm)

noncomputable def F_X8_toldOf (v : Nat → Int32) (a1 : Int32) (a2 : Int32) : Option (Int32) :=
  if 6 ≤ a2 then (
    if a2 = 6 then (
      (F_X8_grades v a1).bind fun x3 =>
      some x3)
    else
    (tv_rd 1100 v (F_X8_of a1 3)).bind fun x1 =>
    if x1 = (-9) then (
      some (-9))
    else
    (F_X8_scoreOf v a1).bind fun x2 =>
    some x2)
  else
  (tv_rd 1100 v (F_X8_of a1 a2)).bind fun x4 =>
  some x4

noncomputable def F_X8_term (v : Nat → Int32) (a1 : Int32) (a2 : Int32) : Option (Int32) :=
  (F_X8_isTerm v a1).bind fun x1 =>
  if x1 = 0 then (
    some (-1))
  else
  if (F_X8_in a2 0 7) = 0 then (
    some (-1))
  else
  (F_X8_toldOf v a1 a2).bind fun x2 =>
  some x2

noncomputable def F_X8_points (v : Nat → Int32) (a1 : Int32) (a2 : Int32) : Option (Int32) :=
  (F_X8_isMember v a1).bind fun x1 =>
  if x1 = 0 then (
    some (-1))
  else
  (F_X8_isTerm v a2).bind fun x2 =>
  if x2 = 0 then (
    some (-1))
  else
  (tv_rd 1100 v (F_X8_of a2 7)).bind fun x3 =>
  if ((x3 >>> (a1 &&& 31)) &&& 1) = 1 then (
    (tv_rd 1100 v (F_X8_of a2 (8 + a1))).bind fun x4 =>
    some x4)
  else
  some (-9)

noncomputable def F_X8_terms (v : Nat → Int32) : Option (Int32) :=
  (tv_rd 1100 v 9).bind fun x1 =>
  some x1

noncomputable def F_X8_told (v : Nat → Int32) (a1 : Int32) (a2 : Int32) : Option (Int32) :=
  if a2 = 0 then (
    (F_X8_reputation v a1).bind fun x1 =>
    some x1)
  else
  if a2 = 1 then (
    (F_X8_led v a1).bind fun x2 =>
    some x2)
  else
  if a2 = 2 then (
    (tv_rd 1100 v (F_X8_at a1 1)).bind fun x3 =>
    some x3)
  else
  if a2 = 3 then (
    (F_X8_canLead v a1).bind fun x4 =>
    if x4 = 0 then (
      some 0)
    else
    some 1)
  else
  if a2 = 4 then (
    (tv_rd 1100 v (F_X8_at a1 2)).bind fun x5 =>
    some x5)
  else
  (tv_rd 1100 v (F_X8_at a1 3)).bind fun x6 =>
  some x6

noncomputable def F_X8_member (v : Nat → Int32) (a1 : Int32) (a2 : Int32) : Option (Int32) :=
  (F_X8_isMember v a1).bind fun x1 =>
  if x1 = 0 then (
    some (-1))
  else
  if (F_X8_in a2 0 5) = 0 then (
    some (-1))
  else
  (F_X8_told v a1 a2).bind fun x2 =>
  some x2

noncomputable def F_X8_time (v : Nat → Int32) : Option (Int32) :=
  (tv_rd 1100 v 6).bind fun x1 =>
  some x1

noncomputable def F_X8_events (v : Nat → Int32) : Option (Int32) :=
  (tv_rd 1100 v 12).bind fun x1 =>
  some x1

noncomputable def F_X8_event (v : Nat → Int32) (a1 : Int32) (a2 : Int32) : Option (Int32) :=
  if a1 < 0 then (
    some (-1))
  else
  if (F_X8_in a2 0 2) = 0 then (
    some (-1))
  else
  if 20 ≤ a1 then (
    some (-9))
  else
  (tv_rd 1100 v 12).bind fun x1 =>
  if x1 ≤ a1 then (
    some (-9))
  else
  (tv_rd 1100 v 12).bind fun x2 =>
  (tv_rd 1100 v ((910 + (3 * (((x2 - 1) - a1) - ((x2 - 1) - a1) / 20 * 20))) + a2)).bind fun x3 =>
  some x3

noncomputable def F_X8_type (mt : Nat → Int32) (ty : Int32) (a1 : Int32) : Option (Int32 × (Nat → Int32) × Int32) :=
  if (F_X8_in a1 32 126) = 0 then (
    some ((-1), mt, ty))
  else
  if ty = 40 then (
    some ((-3), mt, ty))
  else
  (tv_wr 40 mt ty a1).bind fun x1 =>
  some ((ty + 1), x1, (ty + 1))

noncomputable def F_X8_clear (ty : Int32) : Option (Int32 × Int32) :=
  some (ty, 0)

noncomputable def F_X8_undo_L22 (pa : Nat → Int32) (pm : Int32) : Nat → Int32 → (Nat → Int32) → Option ((Nat → Int32))
  | 0, _, _ => none
  | n + 1, l1, v =>
    if 1100 ≤ l1 then (
      some v)
    else
    (tv_rd 5500 pa ((1100 * pm) + l1)).bind fun x1 =>
    (tv_wr 1100 v l1 x1).bind fun x2 =>
    F_X8_undo_L22 pa pm n (l1 + 1) x2

noncomputable def F_X8_undo (v : Nat → Int32) (pa : Nat → Int32) (pm : Int32) : Option (Int32 × (Nat → Int32) × Int32) :=
  if pm = 0 then (
    some ((-9), v, pm))
  else
  (F_X8_undo_L22 pa (pm - 1) tv_fu 0 v).bind fun x3 =>
  some ((pm - 1), x3, (pm - 1))

noncomputable def F_X8_fingerprint_L83 (v : Nat → Int32) (l3 : Int32) : Nat → Int64 → Int32 → Option (Int64)
  | 0, _, _ => none
  | n + 1, l1, l4 =>
    if 8 ≤ l4 then (
      some l1)
    else
    (F_X8_toldOf v l3 l4).bind fun x7 =>
    F_X8_fingerprint_L83 v l3 n ((31 * l1) + (Int32.toInt64 x7)) (l4 + 1)

noncomputable def F_X8_fingerprint_L69 (v : Nat → Int32) : Nat → Int64 → Int32 → Option (Int64)
  | 0, _, _ => none
  | n + 1, l1, l3 =>
    (tv_rd 1100 v 9).bind fun x6 =>
    if x6 < l3 then (
      some l1)
    else
    (F_X8_fingerprint_L83 v l3 tv_fu l1 0).bind fun x8 =>
    F_X8_fingerprint_L69 v n x8 (l3 + 1)

noncomputable def F_X8_fingerprint_L148 (v : Nat → Int32) (l3 : Int32) : Nat → Int64 → Int32 → Option (Int64)
  | 0, _, _ => none
  | n + 1, l1, l4 =>
    if 6 ≤ l4 then (
      some l1)
    else
    (F_X8_told v l3 l4).bind fun x12 =>
    F_X8_fingerprint_L148 v l3 n ((31 * l1) + (Int32.toInt64 x12)) (l4 + 1)

noncomputable def F_X8_fingerprint_L134 (v : Nat → Int32) : Nat → Int64 → Int32 → Option (Int64)
  | 0, _, _ => none
  | n + 1, l1, l3 =>
    (tv_rd 1100 v 10).bind fun x11 =>
    if x11 ≤ l3 then (
      some l1)
    else
    (F_X8_fingerprint_L148 v l3 tv_fu l1 0).bind fun x13 =>
    F_X8_fingerprint_L134 v n x13 (l3 + 1)

noncomputable def F_X8_fingerprint (v : Nat → Int32) : Option (Int64) :=
  (tv_rd 1100 v 6).bind fun x1 =>
  (tv_rd 1100 v 7).bind fun x2 =>
  (tv_rd 1100 v 8).bind fun x3 =>
  (tv_rd 1100 v 9).bind fun x4 =>
  (tv_rd 1100 v 12).bind fun x5 =>
  (F_X8_fingerprint_L69 v tv_fu ((31 * ((31 * ((31 * ((31 * (2573 + (Int32.toInt64 x1))) + (Int32.toInt64 x2))) + (Int32.toInt64 x3))) + (Int32.toInt64 x4))) + (Int32.toInt64 x5)) 1).bind fun x9 =>
  (tv_rd 1100 v 10).bind fun x10 =>
  (F_X8_fingerprint_L134 v tv_fu ((31 * x9) + (Int32.toInt64 x10)) 0).bind fun x14 =>
  some x14

noncomputable def F_L_law_L18 (sL : Nat) (sX : Nat → Int32) : Nat → Int32 → (Nat → Int32) → (Nat → Nat → Int32) → (Nat → (Nat → Int32) × (Nat → Nat → Int32)) → (Nat → Int32) → (Int32) → (Int32) → (Int32) → (Nat → Int32) → (Nat → Int32) → (Nat → Int32) → (Int32) → (Int32) → (Int32) → Option (Int32 × (Nat → Int32) × (Nat → Nat → Int32) × (Nat → (Nat → Int32) × (Nat → Nat → Int32)) × (Nat → Int32) × Int32 × Int32 × Int32 × (Nat → Int32) × (Nat → Int32) × (Nat → Int32) × Int32 × Int32 × Int32)
  | 0, _, _, _, _, _, _, _, _, _, _, _, _, _, _ => none
  | n + 1, l3, si, sa, hs, tx, tl, hc, hn, v, pa, mt, pm, ty, ra =>
    if ((Int32.ofNat sL) - 5) < l3 then (
      some (1, si, sa, hs, tx, tl, hc, hn, v, pa, mt, pm, ty, ra))
    else
    (tv_rd sL sX l3).bind fun x1 =>
    if (x1 &&& 31) = 0 then (
      (tv_rd sL sX (l3 + 1)).bind fun x2 =>
      (tv_rd sL sX (l3 + 2)).bind fun x3 =>
      (F_X7_set si sa hs hc hn x2 x3).bind fun x4 =>
      (tv_rd sL sX (l3 + 1)).bind fun x5 =>
      (tv_rd sL sX (l3 + 2)).bind fun x6 =>
      (F_X8_set v pa pm x5 x6).bind fun x7 =>
      if x4.1 = x7.1 then (
        F_L_law_L18 sL sX n (l3 + 5) x4.2.1 x4.2.2.1 x4.2.2.2.1 tx tl x4.2.2.2.2.1 x4.2.2.2.2.2 x7.2.1 x7.2.2.1 mt x7.2.2.2 ty ra)
      else
      some (0, x4.2.1, x4.2.2.1, x4.2.2.2.1, tx, tl, x4.2.2.2.2.1, x4.2.2.2.2.2, x7.2.1, x7.2.2.1, mt, x7.2.2.2, ty, ra))
    else
    if (x1 &&& 31) = 1 then (
      (tv_rd sL sX (l3 + 1)).bind fun x8 =>
      (F_X7_join si sa hs hc hn x8).bind fun x9 =>
      (tv_rd sL sX (l3 + 1)).bind fun x10 =>
      (F_X8_join v pa pm x10).bind fun x11 =>
      if x9.1 = x11.1 then (
        F_L_law_L18 sL sX n (l3 + 5) x9.2.1 x9.2.2.1 x9.2.2.2.1 tx tl x9.2.2.2.2.1 x9.2.2.2.2.2 x11.2.1 x11.2.2.1 mt x11.2.2.2 ty ra)
      else
      some (0, x9.2.1, x9.2.2.1, x9.2.2.2.1, tx, tl, x9.2.2.2.2.1, x9.2.2.2.2.2, x11.2.1, x11.2.2.1, mt, x11.2.2.2, ty, ra))
    else
    if (x1 &&& 31) = 2 then (
      (tv_rd sL sX (l3 + 1)).bind fun x12 =>
      (tv_rd sL sX (l3 + 2)).bind fun x13 =>
      (if x13 = 0 then (
        some 0)
      else (
        some 1)).bind fun (x14 : Int32) =>
      (F_X7_setPresent si sa hs hc hn x12 x14).bind fun x15 =>
      (tv_rd sL sX (l3 + 1)).bind fun x16 =>
      (tv_rd sL sX (l3 + 2)).bind fun x17 =>
      (if x17 = 0 then (
        some 0)
      else (
        some 1)).bind fun (x18 : Int32) =>
      (F_X8_setPresent v pa pm x16 x18).bind fun x19 =>
      if x15.1 = x19.1 then (
        F_L_law_L18 sL sX n (l3 + 5) x15.2.1 x15.2.2.1 x15.2.2.2.1 tx tl x15.2.2.2.2.1 x15.2.2.2.2.2 x19.2.1 x19.2.2.1 mt x19.2.2.2 ty ra)
      else
      some (0, x15.2.1, x15.2.2.1, x15.2.2.2.1, tx, tl, x15.2.2.2.2.1, x15.2.2.2.2.2, x19.2.1, x19.2.2.1, mt, x19.2.2.2, ty, ra))
    else
    if (x1 &&& 31) = 3 then (
      (tv_rd sL sX (l3 + 1)).bind fun x20 =>
      (F_X7_pass si sa hs hc hn x20).bind fun x21 =>
      (tv_rd sL sX (l3 + 1)).bind fun x22 =>
      (F_X8_pass v pa pm x22).bind fun x23 =>
      if x21.1 = x23.1 then (
        F_L_law_L18 sL sX n (l3 + 5) x21.2.1 x21.2.2.1 x21.2.2.2.1 tx tl x21.2.2.2.2.1 x21.2.2.2.2.2 x23.2.1 x23.2.2.1 mt x23.2.2.2 ty ra)
      else
      some (0, x21.2.1, x21.2.2.1, x21.2.2.2.1, tx, tl, x21.2.2.2.2.1, x21.2.2.2.2.2, x23.2.1, x23.2.2.1, mt, x23.2.2.2, ty, ra))
    else
    if (x1 &&& 31) = 4 then (
      (F_X7_open si sa hs hc hn).bind fun x24 =>
      (F_X8_open v pa pm).bind fun x25 =>
      if x24.1 = x25.1 then (
        F_L_law_L18 sL sX n (l3 + 5) x24.2.1 sa x24.2.2.1 tx tl x24.2.2.2.1 x24.2.2.2.2 x25.2.1 x25.2.2.1 mt x25.2.2.2 ty ra)
      else
      some (0, x24.2.1, sa, x24.2.2.1, tx, tl, x24.2.2.2.1, x24.2.2.2.2, x25.2.1, x25.2.2.1, mt, x25.2.2.2, ty, ra))
    else
    if (x1 &&& 31) = 5 then (
      (tv_rd sL sX (l3 + 1)).bind fun x26 =>
      (F_X7_nominate si sa hs hc hn x26).bind fun x27 =>
      (tv_rd sL sX (l3 + 1)).bind fun x28 =>
      (F_X8_nominate v pa pm x28).bind fun x29 =>
      if x27.1 = x29.1 then (
        F_L_law_L18 sL sX n (l3 + 5) x27.2.1 sa x27.2.2.1 tx tl x27.2.2.2.1 x27.2.2.2.2 x29.2.1 x29.2.2.1 mt x29.2.2.2 ty ra)
      else
      some (0, x27.2.1, sa, x27.2.2.1, tx, tl, x27.2.2.2.1, x27.2.2.2.2, x29.2.1, x29.2.2.1, mt, x29.2.2.2, ty, ra))
    else
    if (x1 &&& 31) = 6 then (
      (tv_rd sL sX (l3 + 1)).bind fun x30 =>
      (F_X7_cast si sa hs tx tl hc hn x30).bind fun x31 =>
      (tv_rd sL sX (l3 + 1)).bind fun x32 =>
      (F_X8_cast v pa mt pm ty x32).bind fun x33 =>
      if x31.1 = x33.1 then (
        F_L_law_L18 sL sX n (l3 + 5) si x31.2.1 x31.2.2.1 tx x31.2.2.2.1 x31.2.2.2.2.1 x31.2.2.2.2.2 x33.2.1 x33.2.2.1 mt x33.2.2.2.1 x33.2.2.2.2 ra)
      else
      some (0, si, x31.2.1, x31.2.2.1, tx, x31.2.2.2.1, x31.2.2.2.2.1, x31.2.2.2.2.2, x33.2.1, x33.2.2.1, mt, x33.2.2.2.1, x33.2.2.2.2, ra))
    else
    if (x1 &&& 31) = 7 then (
      (F_X7_close si sa hs hc hn).bind fun x34 =>
      (F_X8_close v pa pm ra).bind fun x35 =>
      if x34.1 = x35.1 then (
        F_L_law_L18 sL sX n (l3 + 5) x34.2.1 x34.2.2.1 x34.2.2.2.1 tx tl x34.2.2.2.2.1 x34.2.2.2.2.2 x35.2.1 x35.2.2.1 mt x35.2.2.2.1 ty x35.2.2.2.2)
      else
      some (0, x34.2.1, x34.2.2.1, x34.2.2.2.1, tx, tl, x34.2.2.2.2.1, x34.2.2.2.2.2, x35.2.1, x35.2.2.1, mt, x35.2.2.2.1, ty, x35.2.2.2.2))
    else
    if (x1 &&& 31) = 8 then (
      (F_X8_rounds v).bind fun x36 =>
      if (F_X7_rounds si) = x36 then (
        F_L_law_L18 sL sX n (l3 + 5) si sa hs tx tl hc hn v pa mt pm ty ra)
      else
      some (0, si, sa, hs, tx, tl, hc, hn, v, pa, mt, pm, ty, ra))
    else
    if (x1 &&& 31) = 9 then (
      (tv_rd sL sX (l3 + 1)).bind fun x37 =>
      (tv_rd sL sX (l3 + 2)).bind fun x38 =>
      (F_X7_tally si sa x37 x38).bind fun x39 =>
      (tv_rd sL sX (l3 + 1)).bind fun x40 =>
      (tv_rd sL sX (l3 + 2)).bind fun x41 =>
      (F_X8_tally v x40 x41).bind fun x42 =>
      if x39 = x42 then (
        F_L_law_L18 sL sX n (l3 + 5) si sa hs tx tl hc hn v pa mt pm ty ra)
      else
      some (0, si, sa, hs, tx, tl, hc, hn, v, pa, mt, pm, ty, ra))
    else
    if (x1 &&& 31) = 10 then (
      (tv_rd sL sX (l3 + 1)).bind fun x43 =>
      (tv_rd sL sX (l3 + 2)).bind fun x44 =>
      (F_X7_ballot si sa x43 x44).bind fun x45 =>
      (tv_rd sL sX (l3 + 1)).bind fun x46 =>
      (tv_rd sL sX (l3 + 2)).bind fun x47 =>
      (F_X8_ballot v x46 x47).bind fun x48 =>
      if x45 = x48 then (
        F_L_law_L18 sL sX n (l3 + 5) si sa hs tx tl hc hn v pa mt pm ty ra)
      else
      some (0, si, sa, hs, tx, tl, hc, hn, v, pa, mt, pm, ty, ra))
    else
    if (x1 &&& 31) = 11 then (
      (F_X8_office v).bind fun x49 =>
      if (F_X7_office si) = x49 then (
        F_L_law_L18 sL sX n (l3 + 5) si sa hs tx tl hc hn v pa mt pm ty ra)
      else
      some (0, si, sa, hs, tx, tl, hc, hn, v, pa, mt, pm, ty, ra))
    else
    if (x1 &&& 31) = 12 then (
      (F_X8_holder v).bind fun x50 =>
      if (F_X7_holder si) = x50 then (
        F_L_law_L18 sL sX n (l3 + 5) si sa hs tx tl hc hn v pa mt pm ty ra)
      else
      some (0, si, sa, hs, tx, tl, hc, hn, v, pa, mt, pm, ty, ra))
    else
    if (x1 &&& 31) = 13 then (
      (tv_rd sL sX (l3 + 1)).bind fun x51 =>
      (if x51 = 0 then (
        some 0)
      else (
        some 1)).bind fun (x52 : Int32) =>
      (F_X7_deed si sa hs hc hn x52).bind fun x53 =>
      (tv_rd sL sX (l3 + 1)).bind fun x54 =>
      (if x54 = 0 then (
        some 0)
      else (
        some 1)).bind fun (x55 : Int32) =>
      (F_X8_deed v pa pm x55).bind fun x56 =>
      if x53.1 = x56.1 then (
        F_L_law_L18 sL sX n (l3 + 5) si x53.2.1 x53.2.2.1 tx tl x53.2.2.2.1 x53.2.2.2.2 x56.2.1 x56.2.2.1 mt x56.2.2.2 ty ra)
      else
      some (0, si, x53.2.1, x53.2.2.1, tx, tl, x53.2.2.2.1, x53.2.2.2.2, x56.2.1, x56.2.2.1, mt, x56.2.2.2, ty, ra))
    else
    if (x1 &&& 31) = 14 then (
      (tv_rd sL sX (l3 + 1)).bind fun x57 =>
      (tv_rd sL sX (l3 + 2)).bind fun x58 =>
      (if x58 = 0 then (
        some 0)
      else (
        some 1)).bind fun (x59 : Int32) =>
      (F_X7_sign si sa hs hc hn x57 x59).bind fun x60 =>
      (tv_rd sL sX (l3 + 1)).bind fun x61 =>
      (tv_rd sL sX (l3 + 2)).bind fun x62 =>
      (if x62 = 0 then (
        some 0)
      else (
        some 1)).bind fun (x63 : Int32) =>
      (F_X8_sign v pa pm x61 x63).bind fun x64 =>
      if x60.1 = x64.1 then (
        F_L_law_L18 sL sX n (l3 + 5) x60.2.1 x60.2.2.1 x60.2.2.2.1 tx tl x60.2.2.2.2.1 x60.2.2.2.2.2 x64.2.1 x64.2.2.1 mt x64.2.2.2 ty ra)
      else
      some (0, x60.2.1, x60.2.2.1, x60.2.2.2.1, tx, tl, x60.2.2.2.2.1, x60.2.2.2.2.2, x64.2.1, x64.2.2.1, mt, x64.2.2.2, ty, ra))
    else
    if (x1 &&& 31) = 15 then (
      (tv_rd sL sX (l3 + 1)).bind fun x65 =>
      (tv_rd sL sX (l3 + 2)).bind fun x66 =>
      (tv_rd sL sX (l3 + 3)).bind fun x67 =>
      (tv_rd sL sX (l3 + 4)).bind fun x68 =>
      (F_X7_grade si sa hs hc hn x65 x66 x67 x68).bind fun x69 =>
      (tv_rd sL sX (l3 + 1)).bind fun x70 =>
      (tv_rd sL sX (l3 + 2)).bind fun x71 =>
      (tv_rd sL sX (l3 + 3)).bind fun x72 =>
      (tv_rd sL sX (l3 + 4)).bind fun x73 =>
      (F_X8_grade v pa pm x70 x71 x72 x73).bind fun x74 =>
      if x69.1 = x74.1 then (
        F_L_law_L18 sL sX n (l3 + 5) si x69.2.1 x69.2.2.1 tx tl x69.2.2.2.1 x69.2.2.2.2 x74.2.1 x74.2.2.1 mt x74.2.2.2 ty ra)
      else
      some (0, si, x69.2.1, x69.2.2.1, tx, tl, x69.2.2.2.1, x69.2.2.2.2, x74.2.1, x74.2.2.1, mt, x74.2.2.2, ty, ra))
    else
    if (x1 &&& 31) = 16 then (
      (tv_rd sL sX (l3 + 1)).bind fun x75 =>
      (tv_rd sL sX (l3 + 2)).bind fun x76 =>
      (F_X7_term si sa x75 x76).bind fun x77 =>
      (tv_rd sL sX (l3 + 1)).bind fun x78 =>
      (tv_rd sL sX (l3 + 2)).bind fun x79 =>
      (F_X8_term v x78 x79).bind fun x80 =>
      if x77 = x80 then (
        F_L_law_L18 sL sX n (l3 + 5) si sa hs tx tl hc hn v pa mt pm ty ra)
      else
      some (0, si, sa, hs, tx, tl, hc, hn, v, pa, mt, pm, ty, ra))
    else
    if (x1 &&& 31) = 17 then (
      (tv_rd sL sX (l3 + 1)).bind fun x81 =>
      (tv_rd sL sX (l3 + 2)).bind fun x82 =>
      (F_X7_points si sa x81 x82).bind fun x83 =>
      (tv_rd sL sX (l3 + 1)).bind fun x84 =>
      (tv_rd sL sX (l3 + 2)).bind fun x85 =>
      (F_X8_points v x84 x85).bind fun x86 =>
      if x83 = x86 then (
        F_L_law_L18 sL sX n (l3 + 5) si sa hs tx tl hc hn v pa mt pm ty ra)
      else
      some (0, si, sa, hs, tx, tl, hc, hn, v, pa, mt, pm, ty, ra))
    else
    if (x1 &&& 31) = 18 then (
      (F_X8_terms v).bind fun x87 =>
      if (F_X7_terms si) = x87 then (
        F_L_law_L18 sL sX n (l3 + 5) si sa hs tx tl hc hn v pa mt pm ty ra)
      else
      some (0, si, sa, hs, tx, tl, hc, hn, v, pa, mt, pm, ty, ra))
    else
    if (x1 &&& 31) = 19 then (
      (tv_rd sL sX (l3 + 1)).bind fun x88 =>
      (tv_rd sL sX (l3 + 2)).bind fun x89 =>
      (F_X7_member si sa x88 x89).bind fun x90 =>
      (tv_rd sL sX (l3 + 1)).bind fun x91 =>
      (tv_rd sL sX (l3 + 2)).bind fun x92 =>
      (F_X8_member v x91 x92).bind fun x93 =>
      if x90 = x93 then (
        F_L_law_L18 sL sX n (l3 + 5) si sa hs tx tl hc hn v pa mt pm ty ra)
      else
      some (0, si, sa, hs, tx, tl, hc, hn, v, pa, mt, pm, ty, ra))
    else
    if (x1 &&& 31) = 20 then (
      (F_X8_time v).bind fun x94 =>
      if (F_X7_time si) = x94 then (
        F_L_law_L18 sL sX n (l3 + 5) si sa hs tx tl hc hn v pa mt pm ty ra)
      else
      some (0, si, sa, hs, tx, tl, hc, hn, v, pa, mt, pm, ty, ra))
    else
    if (x1 &&& 31) = 21 then (
      (F_X8_events v).bind fun x95 =>
      if (F_X7_events si) = x95 then (
        F_L_law_L18 sL sX n (l3 + 5) si sa hs tx tl hc hn v pa mt pm ty ra)
      else
      some (0, si, sa, hs, tx, tl, hc, hn, v, pa, mt, pm, ty, ra))
    else
    if (x1 &&& 31) = 22 then (
      (tv_rd sL sX (l3 + 1)).bind fun x96 =>
      (tv_rd sL sX (l3 + 2)).bind fun x97 =>
      (F_X7_event si sa x96 x97).bind fun x98 =>
      (tv_rd sL sX (l3 + 1)).bind fun x99 =>
      (tv_rd sL sX (l3 + 2)).bind fun x100 =>
      (F_X8_event v x99 x100).bind fun x101 =>
      if x98 = x101 then (
        F_L_law_L18 sL sX n (l3 + 5) si sa hs tx tl hc hn v pa mt pm ty ra)
      else
      some (0, si, sa, hs, tx, tl, hc, hn, v, pa, mt, pm, ty, ra))
    else
    if (x1 &&& 31) = 23 then (
      (tv_rd sL sX (l3 + 1)).bind fun x102 =>
      (F_X7_type tx tl x102).bind fun x103 =>
      (tv_rd sL sX (l3 + 1)).bind fun x104 =>
      (F_X8_type mt ty x104).bind fun x105 =>
      if x103.1 = x105.1 then (
        F_L_law_L18 sL sX n (l3 + 5) si sa hs x103.2.1 x103.2.2 hc hn v pa x105.2.1 pm x105.2.2 ra)
      else
      some (0, si, sa, hs, x103.2.1, x103.2.2, hc, hn, v, pa, x105.2.1, pm, x105.2.2, ra))
    else
    if (x1 &&& 31) = 24 then (
      (F_X7_clear tl).bind fun x106 =>
      (F_X8_clear ty).bind fun x107 =>
      if x106.1 = x107.1 then (
        F_L_law_L18 sL sX n (l3 + 5) si sa hs tx x106.2 hc hn v pa mt pm x107.2 ra)
      else
      some (0, si, sa, hs, tx, x106.2, hc, hn, v, pa, mt, pm, x107.2, ra))
    else
    if (x1 &&& 31) = 25 then (
      (F_X7_undo si sa hs hc hn).bind fun x108 =>
      (F_X8_undo v pa pm).bind fun x109 =>
      if x108.1 = x109.1 then (
        F_L_law_L18 sL sX n (l3 + 5) x108.2.1 x108.2.2.1 hs tx tl x108.2.2.2.1 x108.2.2.2.2 x109.2.1 pa mt x109.2.2 ty ra)
      else
      some (0, x108.2.1, x108.2.2.1, hs, tx, tl, x108.2.2.2.1, x108.2.2.2.2, x109.2.1, pa, mt, x109.2.2, ty, ra))
    else
    if (x1 &&& 31) = 26 then (
      (F_X7_fingerprint si sa).bind fun x110 =>
      (F_X8_fingerprint v).bind fun x111 =>
      if (lg_cmp x110 x111) = 0 then (
        F_L_law_L18 sL sX n (l3 + 5) si sa hs tx tl hc hn v pa mt pm ty ra)
      else
      some (0, si, sa, hs, tx, tl, hc, hn, v, pa, mt, pm, ty, ra))
    else
    F_L_law_L18 sL sX n (l3 + 5) si sa hs tx tl hc hn v pa mt pm ty ra

noncomputable def F_L_law (si : Nat → Int32) (sa : Nat → Nat → Int32) (hs : Nat → (Nat → Int32) × (Nat → Nat → Int32)) (tx : Nat → Int32) (tl : Int32) (hc : Int32) (hn : Int32) (v : Nat → Int32) (pa : Nat → Int32) (mt : Nat → Int32) (pm : Int32) (ty : Int32) (ra : Int32) (sL : Nat) (sX : Nat → Int32) (a3 : Int32) : Option (Int32 × (Nat → Int32) × (Nat → Nat → Int32) × (Nat → (Nat → Int32) × (Nat → Nat → Int32)) × (Nat → Int32) × Int32 × Int32 × Int32 × (Nat → Int32) × (Nat → Int32) × (Nat → Int32) × Int32 × Int32 × Int32) :=
  F_L_law_L18 sL sX tv_fu a3 si sa hs tx tl hc hn v pa mt pm ty ra
