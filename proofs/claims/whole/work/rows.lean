section
-- ===== PART A: goes FIRST, ahead of the names: the tables' words, and 'selects' of the private methods out of them =====
/-- a private method of a class that the tables say can be made, by its rows of tables_1 -/
def lw_okq (q : MethodName × Nat) : Prop := (q.1.cls ≠ "java/lang/invoke/MethodHandle" ∧ q.1.cls ≠ "java/lang/invoke/VarHandle") ∧ Cond.instantiable q.1.cls q.2 ∈ tables_1 ∧ Cond.privateMethod q.1 ∈ tables_1 ∧ Cond.instanceMethod q.1 ∈ tables_1
theorem lw_p0 : lw_okq (⟨"TermOffice$State", "endTerm", "(I)V"⟩, 12) := ⟨⟨by decide +kernel, by decide +kernel⟩, List.mem_of_getElem? (i := 38) (by decide +kernel), List.mem_of_getElem? (i := 279) (by decide +kernel), List.mem_of_getElem? (i := 280) (by decide +kernel)⟩
theorem lw_p1 : lw_okq (⟨"TermOffice$State", "appointCaretaker", "(I)V"⟩, 12) := ⟨⟨by decide +kernel, by decide +kernel⟩, List.mem_of_getElem? (i := 38) (by decide +kernel), List.mem_of_getElem? (i := 294) (by decide +kernel), List.mem_of_getElem? (i := 295) (by decide +kernel)⟩
theorem lw_p2 : lw_okq (⟨"TermOffice$State", "bestCaretaker", "(I)I"⟩, 12) := ⟨⟨by decide +kernel, by decide +kernel⟩, List.mem_of_getElem? (i := 38) (by decide +kernel), List.mem_of_getElem? (i := 298) (by decide +kernel), List.mem_of_getElem? (i := 299) (by decide +kernel)⟩
theorem lw_p3 : lw_okq (⟨"TermOffice$Election", "strike", "(II)V"⟩, 3) := ⟨⟨by decide +kernel, by decide +kernel⟩, List.mem_of_getElem? (i := 44) (by decide +kernel), List.mem_of_getElem? (i := 348) (by decide +kernel), List.mem_of_getElem? (i := 349) (by decide +kernel)⟩
theorem lw_p4 : lw_okq (⟨"TermOffice$State", "hasQuorum", "()Z"⟩, 12) := ⟨⟨by decide +kernel, by decide +kernel⟩, List.mem_of_getElem? (i := 38) (by decide +kernel), List.mem_of_getElem? (i := 418) (by decide +kernel), List.mem_of_getElem? (i := 419) (by decide +kernel)⟩
theorem lw_p5 : lw_okq (⟨"TermOffice$State", "holdRounds", "()I"⟩, 12) := ⟨⟨by decide +kernel, by decide +kernel⟩, List.mem_of_getElem? (i := 38) (by decide +kernel), List.mem_of_getElem? (i := 423) (by decide +kernel), List.mem_of_getElem? (i := 424) (by decide +kernel)⟩
theorem lw_p6 : lw_okq (⟨"TermOffice$Race", "countAll", "(II)I"⟩, 2) := ⟨⟨by decide +kernel, by decide +kernel⟩, List.mem_of_getElem? (i := 66) (by decide +kernel), List.mem_of_getElem? (i := 442) (by decide +kernel), List.mem_of_getElem? (i := 443) (by decide +kernel)⟩
theorem lw_p7 : lw_okq (⟨"TermOffice$State", "weakest", "(II)I"⟩, 12) := ⟨⟨by decide +kernel, by decide +kernel⟩, List.mem_of_getElem? (i := 38) (by decide +kernel), List.mem_of_getElem? (i := 450) (by decide +kernel), List.mem_of_getElem? (i := 451) (by decide +kernel)⟩
theorem lw_p8 : lw_okq (⟨"TermOffice$State", "leavesRather", "(III)Z"⟩, 12) := ⟨⟨by decide +kernel, by decide +kernel⟩, List.mem_of_getElem? (i := 38) (by decide +kernel), List.mem_of_getElem? (i := 454) (by decide +kernel), List.mem_of_getElem? (i := 455) (by decide +kernel)⟩
theorem lw_p9 : lw_okq (⟨"TermOffice$State", "beginTerm", "(I)V"⟩, 12) := ⟨⟨by decide +kernel, by decide +kernel⟩, List.mem_of_getElem? (i := 38) (by decide +kernel), List.mem_of_getElem? (i := 463) (by decide +kernel), List.mem_of_getElem? (i := 464) (by decide +kernel)⟩
theorem lw_p10 : lw_okq (⟨"TermOfficeModel", "act", "()V"⟩, 6) := ⟨⟨by decide +kernel, by decide +kernel⟩, List.mem_of_getElem? (i := 612) (by decide +kernel), List.mem_of_getElem? (i := 647) (by decide +kernel), List.mem_of_getElem? (i := 648) (by decide +kernel)⟩
theorem lw_p11 : lw_okq (⟨"TermOfficeModel", "looks", "()V"⟩, 6) := ⟨⟨by decide +kernel, by decide +kernel⟩, List.mem_of_getElem? (i := 612) (by decide +kernel), List.mem_of_getElem? (i := 651) (by decide +kernel), List.mem_of_getElem? (i := 652) (by decide +kernel)⟩
theorem lw_p12 : lw_okq (⟨"TermOfficeModel", "presentMany", "()I"⟩, 6) := ⟨⟨by decide +kernel, by decide +kernel⟩, List.mem_of_getElem? (i := 612) (by decide +kernel), List.mem_of_getElem? (i := 655) (by decide +kernel), List.mem_of_getElem? (i := 656) (by decide +kernel)⟩
theorem lw_p13 : lw_okq (⟨"TermOfficeModel", "signatures", "()I"⟩, 6) := ⟨⟨by decide +kernel, by decide +kernel⟩, List.mem_of_getElem? (i := 612) (by decide +kernel), List.mem_of_getElem? (i := 662) (by decide +kernel), List.mem_of_getElem? (i := 663) (by decide +kernel)⟩
theorem lw_p14 : lw_okq (⟨"TermOfficeModel", "isPresent", "(I)Z"⟩, 6) := ⟨⟨by decide +kernel, by decide +kernel⟩, List.mem_of_getElem? (i := 612) (by decide +kernel), List.mem_of_getElem? (i := 666) (by decide +kernel), List.mem_of_getElem? (i := 667) (by decide +kernel)⟩
theorem lw_p15 : lw_okq (⟨"TermOfficeModel", "ends", "(I)V"⟩, 6) := ⟨⟨by decide +kernel, by decide +kernel⟩, List.mem_of_getElem? (i := 612) (by decide +kernel), List.mem_of_getElem? (i := 670) (by decide +kernel), List.mem_of_getElem? (i := 671) (by decide +kernel)⟩
def lw_privs_1 : List (MethodName × Nat) := [(⟨"TermOffice$State", "endTerm", "(I)V"⟩, 12), (⟨"TermOffice$State", "appointCaretaker", "(I)V"⟩, 12), (⟨"TermOffice$State", "bestCaretaker", "(I)I"⟩, 12), (⟨"TermOffice$Election", "strike", "(II)V"⟩, 3), (⟨"TermOffice$State", "hasQuorum", "()Z"⟩, 12), (⟨"TermOffice$State", "holdRounds", "()I"⟩, 12), (⟨"TermOffice$Race", "countAll", "(II)I"⟩, 2), (⟨"TermOffice$State", "weakest", "(II)I"⟩, 12), (⟨"TermOffice$State", "leavesRather", "(III)Z"⟩, 12), (⟨"TermOffice$State", "beginTerm", "(I)V"⟩, 12), (⟨"TermOfficeModel", "act", "()V"⟩, 6), (⟨"TermOfficeModel", "looks", "()V"⟩, 6), (⟨"TermOfficeModel", "presentMany", "()I"⟩, 6), (⟨"TermOfficeModel", "signatures", "()I"⟩, 6), (⟨"TermOfficeModel", "isPresent", "(I)Z"⟩, 6), (⟨"TermOfficeModel", "ends", "(I)V"⟩, 6)]
theorem lw_r1 : ∀ q ∈ lw_privs_1, lw_okq q := List.forall_mem_cons.mpr ⟨lw_p0, List.forall_mem_cons.mpr ⟨lw_p1, List.forall_mem_cons.mpr ⟨lw_p2, List.forall_mem_cons.mpr ⟨lw_p3, List.forall_mem_cons.mpr ⟨lw_p4, List.forall_mem_cons.mpr ⟨lw_p5, List.forall_mem_cons.mpr ⟨lw_p6, List.forall_mem_cons.mpr ⟨lw_p7, List.forall_mem_cons.mpr ⟨lw_p8, List.forall_mem_cons.mpr ⟨lw_p9, List.forall_mem_cons.mpr ⟨lw_p10, List.forall_mem_cons.mpr ⟨lw_p11, List.forall_mem_cons.mpr ⟨lw_p12, List.forall_mem_cons.mpr ⟨lw_p13, List.forall_mem_cons.mpr ⟨lw_p14, List.forall_mem_cons.mpr ⟨lw_p15, fun _ h => absurd h List.not_mem_nil⟩⟩⟩⟩⟩⟩⟩⟩⟩⟩⟩⟩⟩⟩⟩⟩
theorem lw_p16 : lw_okq (⟨"TermOfficeModel", "tells", "(II)V"⟩, 6) := ⟨⟨by decide +kernel, by decide +kernel⟩, List.mem_of_getElem? (i := 612) (by decide +kernel), List.mem_of_getElem? (i := 677) (by decide +kernel), List.mem_of_getElem? (i := 678) (by decide +kernel)⟩
theorem lw_p17 : lw_okq (⟨"TermOfficeModel", "appoints", "(I)V"⟩, 6) := ⟨⟨by decide +kernel, by decide +kernel⟩, List.mem_of_getElem? (i := 612) (by decide +kernel), List.mem_of_getElem? (i := 681) (by decide +kernel), List.mem_of_getElem? (i := 682) (by decide +kernel)⟩
theorem lw_p18 : lw_okq (⟨"TermOfficeModel", "reputation", "(I)I"⟩, 6) := ⟨⟨by decide +kernel, by decide +kernel⟩, List.mem_of_getElem? (i := 612) (by decide +kernel), List.mem_of_getElem? (i := 685) (by decide +kernel), List.mem_of_getElem? (i := 686) (by decide +kernel)⟩
theorem lw_p19 : lw_okq (⟨"TermOfficeModel", "scoreOf", "(I)I"⟩, 6) := ⟨⟨by decide +kernel, by decide +kernel⟩, List.mem_of_getElem? (i := 612) (by decide +kernel), List.mem_of_getElem? (i := 689) (by decide +kernel), List.mem_of_getElem? (i := 690) (by decide +kernel)⟩
theorem lw_p20 : lw_okq (⟨"TermOfficeModel", "grades", "(I)I"⟩, 6) := ⟨⟨by decide +kernel, by decide +kernel⟩, List.mem_of_getElem? (i := 612) (by decide +kernel), List.mem_of_getElem? (i := 693) (by decide +kernel), List.mem_of_getElem? (i := 694) (by decide +kernel)⟩
theorem lw_p21 : lw_okq (⟨"TermOfficeModel", "led", "(I)I"⟩, 6) := ⟨⟨by decide +kernel, by decide +kernel⟩, List.mem_of_getElem? (i := 612) (by decide +kernel), List.mem_of_getElem? (i := 697) (by decide +kernel), List.mem_of_getElem? (i := 698) (by decide +kernel)⟩
theorem lw_p22 : lw_okq (⟨"TermOfficeModel", "isMember", "(I)Z"⟩, 6) := ⟨⟨by decide +kernel, by decide +kernel⟩, List.mem_of_getElem? (i := 612) (by decide +kernel), List.mem_of_getElem? (i := 709) (by decide +kernel), List.mem_of_getElem? (i := 710) (by decide +kernel)⟩
theorem lw_p23 : lw_okq (⟨"TermOfficeModel", "leaves", "(I)V"⟩, 6) := ⟨⟨by decide +kernel, by decide +kernel⟩, List.mem_of_getElem? (i := 612) (by decide +kernel), List.mem_of_getElem? (i := 713) (by decide +kernel), List.mem_of_getElem? (i := 714) (by decide +kernel)⟩
theorem lw_p24 : lw_okq (⟨"TermOfficeModel", "strikes", "(II)V"⟩, 6) := ⟨⟨by decide +kernel, by decide +kernel⟩, List.mem_of_getElem? (i := 612) (by decide +kernel), List.mem_of_getElem? (i := 717) (by decide +kernel), List.mem_of_getElem? (i := 718) (by decide +kernel)⟩
theorem lw_p25 : lw_okq (⟨"TermOfficeModel", "canLead", "(I)Z"⟩, 6) := ⟨⟨by decide +kernel, by decide +kernel⟩, List.mem_of_getElem? (i := 612) (by decide +kernel), List.mem_of_getElem? (i := 734) (by decide +kernel), List.mem_of_getElem? (i := 735) (by decide +kernel)⟩
theorem lw_p26 : lw_okq (⟨"TermOfficeModel", "candidates", "()I"⟩, 6) := ⟨⟨by decide +kernel, by decide +kernel⟩, List.mem_of_getElem? (i := 612) (by decide +kernel), List.mem_of_getElem? (i := 738) (by decide +kernel), List.mem_of_getElem? (i := 739) (by decide +kernel)⟩
theorem lw_p27 : lw_okq (⟨"TermOfficeModel", "wrongAt", "()I"⟩, 6) := ⟨⟨by decide +kernel, by decide +kernel⟩, List.mem_of_getElem? (i := 612) (by decide +kernel), List.mem_of_getElem? (i := 746) (by decide +kernel), List.mem_of_getElem? (i := 747) (by decide +kernel)⟩
theorem lw_p28 : lw_okq (⟨"TermOfficeModel", "ballots", "()I"⟩, 6) := ⟨⟨by decide +kernel, by decide +kernel⟩, List.mem_of_getElem? (i := 612) (by decide +kernel), List.mem_of_getElem? (i := 750) (by decide +kernel), List.mem_of_getElem? (i := 751) (by decide +kernel)⟩
theorem lw_p29 : lw_okq (⟨"TermOfficeModel", "holdsRound", "(I)I"⟩, 6) := ⟨⟨by decide +kernel, by decide +kernel⟩, List.mem_of_getElem? (i := 612) (by decide +kernel), List.mem_of_getElem? (i := 758) (by decide +kernel), List.mem_of_getElem? (i := 759) (by decide +kernel)⟩
theorem lw_p30 : lw_okq (⟨"TermOfficeModel", "tallyAt", "(II)I"⟩, 6) := ⟨⟨by decide +kernel, by decide +kernel⟩, List.mem_of_getElem? (i := 612) (by decide +kernel), List.mem_of_getElem? (i := 762) (by decide +kernel), List.mem_of_getElem? (i := 763) (by decide +kernel)⟩
theorem lw_p31 : lw_okq (⟨"TermOfficeModel", "firstOf", "(I)I"⟩, 6) := ⟨⟨by decide +kernel, by decide +kernel⟩, List.mem_of_getElem? (i := 612) (by decide +kernel), List.mem_of_getElem? (i := 766) (by decide +kernel), List.mem_of_getElem? (i := 767) (by decide +kernel)⟩
def lw_privs_2 : List (MethodName × Nat) := [(⟨"TermOfficeModel", "tells", "(II)V"⟩, 6), (⟨"TermOfficeModel", "appoints", "(I)V"⟩, 6), (⟨"TermOfficeModel", "reputation", "(I)I"⟩, 6), (⟨"TermOfficeModel", "scoreOf", "(I)I"⟩, 6), (⟨"TermOfficeModel", "grades", "(I)I"⟩, 6), (⟨"TermOfficeModel", "led", "(I)I"⟩, 6), (⟨"TermOfficeModel", "isMember", "(I)Z"⟩, 6), (⟨"TermOfficeModel", "leaves", "(I)V"⟩, 6), (⟨"TermOfficeModel", "strikes", "(II)V"⟩, 6), (⟨"TermOfficeModel", "canLead", "(I)Z"⟩, 6), (⟨"TermOfficeModel", "candidates", "()I"⟩, 6), (⟨"TermOfficeModel", "wrongAt", "()I"⟩, 6), (⟨"TermOfficeModel", "ballots", "()I"⟩, 6), (⟨"TermOfficeModel", "holdsRound", "(I)I"⟩, 6), (⟨"TermOfficeModel", "tallyAt", "(II)I"⟩, 6), (⟨"TermOfficeModel", "firstOf", "(I)I"⟩, 6)]
theorem lw_r2 : ∀ q ∈ lw_privs_2, lw_okq q := List.forall_mem_cons.mpr ⟨lw_p16, List.forall_mem_cons.mpr ⟨lw_p17, List.forall_mem_cons.mpr ⟨lw_p18, List.forall_mem_cons.mpr ⟨lw_p19, List.forall_mem_cons.mpr ⟨lw_p20, List.forall_mem_cons.mpr ⟨lw_p21, List.forall_mem_cons.mpr ⟨lw_p22, List.forall_mem_cons.mpr ⟨lw_p23, List.forall_mem_cons.mpr ⟨lw_p24, List.forall_mem_cons.mpr ⟨lw_p25, List.forall_mem_cons.mpr ⟨lw_p26, List.forall_mem_cons.mpr ⟨lw_p27, List.forall_mem_cons.mpr ⟨lw_p28, List.forall_mem_cons.mpr ⟨lw_p29, List.forall_mem_cons.mpr ⟨lw_p30, List.forall_mem_cons.mpr ⟨lw_p31, fun _ h => absurd h List.not_mem_nil⟩⟩⟩⟩⟩⟩⟩⟩⟩⟩⟩⟩⟩⟩⟩⟩
theorem lw_p32 : lw_okq (⟨"TermOfficeModel", "raceMany", "()I"⟩, 6) := ⟨⟨by decide +kernel, by decide +kernel⟩, List.mem_of_getElem? (i := 612) (by decide +kernel), List.mem_of_getElem? (i := 770) (by decide +kernel), List.mem_of_getElem? (i := 771) (by decide +kernel)⟩
theorem lw_p33 : lw_okq (⟨"TermOfficeModel", "isWeaker", "(III)Z"⟩, 6) := ⟨⟨by decide +kernel, by decide +kernel⟩, List.mem_of_getElem? (i := 612) (by decide +kernel), List.mem_of_getElem? (i := 774) (by decide +kernel), List.mem_of_getElem? (i := 775) (by decide +kernel)⟩
theorem lw_p34 : lw_okq (⟨"TermOfficeModel", "begins", "(I)V"⟩, 6) := ⟨⟨by decide +kernel, by decide +kernel⟩, List.mem_of_getElem? (i := 612) (by decide +kernel), List.mem_of_getElem? (i := 778) (by decide +kernel), List.mem_of_getElem? (i := 779) (by decide +kernel)⟩
theorem lw_p35 : lw_okq (⟨"TermOfficeModel", "isTerm", "(I)Z"⟩, 6) := ⟨⟨by decide +kernel, by decide +kernel⟩, List.mem_of_getElem? (i := 612) (by decide +kernel), List.mem_of_getElem? (i := 814) (by decide +kernel), List.mem_of_getElem? (i := 815) (by decide +kernel)⟩
theorem lw_p36 : lw_okq (⟨"TermOfficeModel", "toldOf", "(II)I"⟩, 6) := ⟨⟨by decide +kernel, by decide +kernel⟩, List.mem_of_getElem? (i := 612) (by decide +kernel), List.mem_of_getElem? (i := 822) (by decide +kernel), List.mem_of_getElem? (i := 823) (by decide +kernel)⟩
theorem lw_p37 : lw_okq (⟨"TermOfficeModel", "told", "(II)I"⟩, 6) := ⟨⟨by decide +kernel, by decide +kernel⟩, List.mem_of_getElem? (i := 612) (by decide +kernel), List.mem_of_getElem? (i := 838) (by decide +kernel), List.mem_of_getElem? (i := 839) (by decide +kernel)⟩
def lw_privs_3 : List (MethodName × Nat) := [(⟨"TermOfficeModel", "raceMany", "()I"⟩, 6), (⟨"TermOfficeModel", "isWeaker", "(III)Z"⟩, 6), (⟨"TermOfficeModel", "begins", "(I)V"⟩, 6), (⟨"TermOfficeModel", "isTerm", "(I)Z"⟩, 6), (⟨"TermOfficeModel", "toldOf", "(II)I"⟩, 6), (⟨"TermOfficeModel", "told", "(II)I"⟩, 6)]
theorem lw_r3 : ∀ q ∈ lw_privs_3, lw_okq q := List.forall_mem_cons.mpr ⟨lw_p32, List.forall_mem_cons.mpr ⟨lw_p33, List.forall_mem_cons.mpr ⟨lw_p34, List.forall_mem_cons.mpr ⟨lw_p35, List.forall_mem_cons.mpr ⟨lw_p36, List.forall_mem_cons.mpr ⟨lw_p37, fun _ h => absurd h List.not_mem_nil⟩⟩⟩⟩⟩⟩
def lw_privs : List (MethodName × Nat) := lw_privs_1 ++ (lw_privs_2 ++ (lw_privs_3))
def lw_tbl : List Cond := k2_sels lw_privs ++ tables_1
theorem lw_privs_ok : ∀ q ∈ lw_privs, lw_okq q := by
  show ∀ q ∈ lw_privs_1 ++ (lw_privs_2 ++ (lw_privs_3)), lw_okq q
  exact List.forall_mem_append.mpr ⟨lw_r1, List.forall_mem_append.mpr ⟨lw_r2, lw_r3⟩⟩
end
section
def RX0 : String := "TermOffice$BallotText"
def TX0 : u_T := fun k => match k with
  | 0 => ("TermOffice$BallotText", "characters", "[I", true)
  | _ => ("TermOffice$BallotText", "length", "I", false)
def tyX0 : Nat → FieldType := fun k => match k with
  | 0 => .array .int
  | _ => .int
theorem nmX0 : ∀ a, a < 2 → ∀ b, b < 2 → a ≠ b → (TX0 a).2.1 ≠ (TX0 b).2.1 := by decide +kernel
theorem tyX0_ok : ∀ k, k < 2 → parseFieldDescriptor (TX0 k).2.2.1 = some (tyX0 k) := by decide +kernel
abbrev cX0_init : ByteArray := prog_2_method_1_code
def yX0_init : MethodName := ⟨RX0, "<init>", "()V"⟩
abbrev cX0_append : ByteArray := prog_2_method_2_code
def yX0_append : MethodName := ⟨RX0, "append", "(I)I"⟩
abbrev cX0_errorPlace : ByteArray := prog_2_method_3_code
def yX0_errorPlace : MethodName := ⟨RX0, "errorPlace", "(I)I"⟩
abbrev cX0_choice : ByteArray := prog_2_method_4_code
def yX0_choice : MethodName := ⟨RX0, "choice", "(I)I"⟩
def RX1 : String := "TermOffice$Chronicle"
def TX1 : u_T := fun k => match k with
  | 0 => ("TermOffice$Chronicle", "count", "I", false)
  | 1 => ("TermOffice$Chronicle", "times", "[I", true)
  | 2 => ("TermOffice$Chronicle", "kinds", "[I", true)
  | _ => ("TermOffice$Chronicle", "members", "[I", true)
def tyX1 : Nat → FieldType := fun k => match k with
  | 0 => .int
  | 1 => .array .int
  | 2 => .array .int
  | _ => .array .int
theorem nmX1 : ∀ a, a < 4 → ∀ b, b < 4 → a ≠ b → (TX1 a).2.1 ≠ (TX1 b).2.1 := by decide +kernel
theorem tyX1_ok : ∀ k, k < 4 → parseFieldDescriptor (TX1 k).2.2.1 = some (tyX1 k) := by decide +kernel
abbrev cX1_init : ByteArray := prog_3_method_1_code
def yX1_init : MethodName := ⟨RX1, "<init>", "()V"⟩
abbrev cX1_copy : ByteArray := prog_3_method_2_code
def yX1_copy : MethodName := ⟨RX1, "copy", "(LTermOffice$Chronicle;)V"⟩
abbrev cX1_tell : ByteArray := prog_3_method_3_code
def yX1_tell : MethodName := ⟨RX1, "tell", "(III)V"⟩
abbrev cX1_number : ByteArray := prog_3_method_4_code
def yX1_number : MethodName := ⟨RX1, "number", "(II)I"⟩
def RX2 : String := "TermOffice$Election"
def TX2 : u_T := fun k => match k with
  | 0 => ("TermOffice$Election", "isOpen", "Z", false)
  | 1 => ("TermOffice$Election", "candidates", "I", false)
  | _ => ("TermOffice$Election", "ballots", "[I", true)
def tyX2 : Nat → FieldType := fun k => match k with
  | 0 => .boolean
  | 1 => .int
  | _ => .array .int
theorem nmX2 : ∀ a, a < 3 → ∀ b, b < 3 → a ≠ b → (TX2 a).2.1 ≠ (TX2 b).2.1 := by decide +kernel
theorem tyX2_ok : ∀ k, k < 3 → parseFieldDescriptor (TX2 k).2.2.1 = some (tyX2 k) := by decide +kernel
abbrev cX2_init : ByteArray := prog_4_method_1_code
def yX2_init : MethodName := ⟨RX2, "<init>", "()V"⟩
abbrev cX2_copy : ByteArray := prog_4_method_2_code
def yX2_copy : MethodName := ⟨RX2, "copy", "(LTermOffice$Election;)V"⟩
abbrev cX2_finish : ByteArray := prog_4_method_3_code
def yX2_finish : MethodName := ⟨RX2, "finish", "()V"⟩
abbrev cX2_choice : ByteArray := prog_4_method_4_code
def yX2_choice : MethodName := ⟨RX2, "choice", "(II)I"⟩
abbrev cX2_take : ByteArray := prog_4_method_5_code
def yX2_take : MethodName := ⟨RX2, "take", "(ILTermOffice$BallotText;)V"⟩
abbrev cX2_countBallots : ByteArray := prog_4_method_6_code
def yX2_countBallots : MethodName := ⟨RX2, "countBallots", "()I"⟩
abbrev cX2_forget : ByteArray := prog_4_method_7_code
def yX2_forget : MethodName := ⟨RX2, "forget", "(I)V"⟩
abbrev cX2_strike : ByteArray := prog_4_method_8_code
def yX2_strike : MethodName := ⟨RX2, "strike", "(II)V"⟩
abbrev cX2_firstAmong : ByteArray := prog_4_method_9_code
def yX2_firstAmong : MethodName := ⟨RX2, "firstAmong", "(II)I"⟩
def RX3 : String := "TermOffice$History"
def TX3 : u_T := fun k => match k with
  | 0 => ("TermOffice$History", "states", "[LTermOffice$State;", true)
  | 1 => ("TermOffice$History", "count", "I", false)
  | _ => ("TermOffice$History", "next", "I", false)
def tyX3 : Nat → FieldType := fun k => match k with
  | 0 => .array (.object "TermOffice$State")
  | 1 => .int
  | _ => .int
theorem nmX3 : ∀ a, a < 3 → ∀ b, b < 3 → a ≠ b → (TX3 a).2.1 ≠ (TX3 b).2.1 := by decide +kernel
theorem tyX3_ok : ∀ k, k < 3 → parseFieldDescriptor (TX3 k).2.2.1 = some (tyX3 k) := by decide +kernel
abbrev cX3_init : ByteArray := prog_5_method_1_code
def yX3_init : MethodName := ⟨RX3, "<init>", "()V"⟩
abbrev cX3_keep : ByteArray := prog_5_method_2_code
def yX3_keep : MethodName := ⟨RX3, "keep", "(LTermOffice$State;)V"⟩
abbrev cX3_restore : ByteArray := prog_5_method_3_code
def yX3_restore : MethodName := ⟨RX3, "restore", "(LTermOffice$State;)V"⟩
def RX4 : String := "TermOffice$Race"
def TX4 : u_T := fun k => match k with
  | 0 => ("TermOffice$Race", "roundsHeld", "I", false)
  | _ => ("TermOffice$Race", "votes", "[I", true)
def tyX4 : Nat → FieldType := fun k => match k with
  | 0 => .int
  | _ => .array .int
theorem nmX4 : ∀ a, a < 2 → ∀ b, b < 2 → a ≠ b → (TX4 a).2.1 ≠ (TX4 b).2.1 := by decide +kernel
theorem tyX4_ok : ∀ k, k < 2 → parseFieldDescriptor (TX4 k).2.2.1 = some (tyX4 k) := by decide +kernel
abbrev cX4_init : ByteArray := prog_6_method_1_code
def yX4_init : MethodName := ⟨RX4, "<init>", "()V"⟩
abbrev cX4_copy : ByteArray := prog_6_method_2_code
def yX4_copy : MethodName := ⟨RX4, "copy", "(LTermOffice$Race;)V"⟩
abbrev cX4_votesFor : ByteArray := prog_6_method_3_code
def yX4_votesFor : MethodName := ⟨RX4, "votesFor", "(II)I"⟩
abbrev cX4_count : ByteArray := prog_6_method_4_code
def yX4_count : MethodName := ⟨RX4, "count", "(IILTermOffice$Election;)V"⟩
abbrev cX4_winner : ByteArray := prog_6_method_5_code
def yX4_winner : MethodName := ⟨RX4, "winner", "(II)I"⟩
abbrev cX4_countAll : ByteArray := prog_6_method_6_code
def yX4_countAll : MethodName := ⟨RX4, "countAll", "(II)I"⟩
def RX5 : String := "TermOffice$State"
def TX5 : u_T := fun k => match k with
  | 0 => ("TermOffice$State", "settings", "[I", true)
  | 1 => ("TermOffice$State", "now", "I", false)
  | 2 => ("TermOffice$State", "memberCount", "I", false)
  | 3 => ("TermOffice$State", "keys", "[I", true)
  | 4 => ("TermOffice$State", "present", "I", false)
  | 5 => ("TermOffice$State", "signed", "I", false)
  | 6 => ("TermOffice$State", "officeState", "I", false)
  | 7 => ("TermOffice$State", "keeper", "I", false)
  | 8 => ("TermOffice$State", "election", "LTermOffice$Election;", true)
  | 9 => ("TermOffice$State", "race", "LTermOffice$Race;", true)
  | 10 => ("TermOffice$State", "book", "LTermOffice$TermBook;", true)
  | _ => ("TermOffice$State", "chronicle", "LTermOffice$Chronicle;", true)
def tyX5 : Nat → FieldType := fun k => match k with
  | 0 => .array .int
  | 1 => .int
  | 2 => .int
  | 3 => .array .int
  | 4 => .int
  | 5 => .int
  | 6 => .int
  | 7 => .int
  | 8 => .object "TermOffice$Election"
  | 9 => .object "TermOffice$Race"
  | 10 => .object "TermOffice$TermBook"
  | _ => .object "TermOffice$Chronicle"
theorem nmX5 : ∀ a, a < 12 → ∀ b, b < 12 → a ≠ b → (TX5 a).2.1 ≠ (TX5 b).2.1 := by decide +kernel
theorem tyX5_ok : ∀ k, k < 12 → parseFieldDescriptor (TX5 k).2.2.1 = some (tyX5 k) := by decide +kernel
abbrev cX5_init : ByteArray := prog_7_method_1_code
def yX5_init : MethodName := ⟨RX5, "<init>", "()V"⟩
abbrev cX5_copy : ByteArray := prog_7_method_2_code
def yX5_copy : MethodName := ⟨RX5, "copy", "(LTermOffice$State;)V"⟩
abbrev cX5_isMember : ByteArray := prog_7_method_3_code
def yX5_isMember : MethodName := ⟨RX5, "isMember", "(I)Z"⟩
abbrev cX5_isPresent : ByteArray := prog_7_method_4_code
def yX5_isPresent : MethodName := ⟨RX5, "isPresent", "(I)Z"⟩
abbrev cX5_admit : ByteArray := prog_7_method_5_code
def yX5_admit : MethodName := ⟨RX5, "admit", "(I)I"⟩
abbrev cX5_leave : ByteArray := prog_7_method_6_code
def yX5_leave : MethodName := ⟨RX5, "leave", "(I)V"⟩
abbrev cX5_advance : ByteArray := prog_7_method_7_code
def yX5_advance : MethodName := ⟨RX5, "advance", "(I)V"⟩
abbrev cX5_countSignatures : ByteArray := prog_7_method_8_code
def yX5_countSignatures : MethodName := ⟨RX5, "countSignatures", "()I"⟩
abbrev cX5_lookAtPetition : ByteArray := prog_7_method_9_code
def yX5_lookAtPetition : MethodName := ⟨RX5, "lookAtPetition", "()V"⟩
abbrev cX5_beginTerm : ByteArray := prog_7_method_10_code
def yX5_beginTerm : MethodName := ⟨RX5, "beginTerm", "(I)V"⟩
abbrev cX5_endTerm : ByteArray := prog_7_method_11_code
def yX5_endTerm : MethodName := ⟨RX5, "endTerm", "(I)V"⟩
abbrev cX5_appointCaretaker : ByteArray := prog_7_method_12_code
def yX5_appointCaretaker : MethodName := ⟨RX5, "appointCaretaker", "(I)V"⟩
abbrev cX5_bestCaretaker : ByteArray := prog_7_method_13_code
def yX5_bestCaretaker : MethodName := ⟨RX5, "bestCaretaker", "(I)I"⟩
abbrev cX5_elect : ByteArray := prog_7_method_14_code
def yX5_elect : MethodName := ⟨RX5, "elect", "()I"⟩
abbrev cX5_hasQuorum : ByteArray := prog_7_method_15_code
def yX5_hasQuorum : MethodName := ⟨RX5, "hasQuorum", "()Z"⟩
abbrev cX5_holdRounds : ByteArray := prog_7_method_16_code
def yX5_holdRounds : MethodName := ⟨RX5, "holdRounds", "()I"⟩
abbrev cX5_weakest : ByteArray := prog_7_method_17_code
def yX5_weakest : MethodName := ⟨RX5, "weakest", "(II)I"⟩
abbrev cX5_leavesRather : ByteArray := prog_7_method_18_code
def yX5_leavesRather : MethodName := ⟨RX5, "leavesRather", "(III)Z"⟩
abbrev cX5_canLead : ByteArray := prog_7_method_19_code
def yX5_canLead : MethodName := ⟨RX5, "canLead", "(I)Z"⟩
abbrev cX5_numberOf : ByteArray := prog_7_method_20_code
def yX5_numberOf : MethodName := ⟨RX5, "numberOf", "(II)I"⟩
def RX6 : String := "TermOffice$TermBook"
def TX6 : u_T := fun k => match k with
  | 0 => ("TermOffice$TermBook", "count", "I", false)
  | 1 => ("TermOffice$TermBook", "leaders", "[I", true)
  | 2 => ("TermOffice$TermBook", "beginnings", "[I", true)
  | 3 => ("TermOffice$TermBook", "plannedEnds", "[I", true)
  | 4 => ("TermOffice$TermBook", "ends", "[I", true)
  | 5 => ("TermOffice$TermBook", "deeds", "[I", true)
  | 6 => ("TermOffice$TermBook", "recalls", "[I", true)
  | 7 => ("TermOffice$TermBook", "witnesses", "[I", true)
  | _ => ("TermOffice$TermBook", "grades", "[I", true)
def tyX6 : Nat → FieldType := fun k => match k with
  | 0 => .int
  | 1 => .array .int
  | 2 => .array .int
  | 3 => .array .int
  | 4 => .array .int
  | 5 => .array .int
  | 6 => .array .int
  | 7 => .array .int
  | _ => .array .int
theorem nmX6 : ∀ a, a < 9 → ∀ b, b < 9 → a ≠ b → (TX6 a).2.1 ≠ (TX6 b).2.1 := by decide +kernel
theorem tyX6_ok : ∀ k, k < 9 → parseFieldDescriptor (TX6 k).2.2.1 = some (tyX6 k) := by decide +kernel
abbrev cX6_init : ByteArray := prog_8_method_1_code
def yX6_init : MethodName := ⟨RX6, "<init>", "()V"⟩
abbrev cX6_copy : ByteArray := prog_8_method_2_code
def yX6_copy : MethodName := ⟨RX6, "copy", "(LTermOffice$TermBook;)V"⟩
abbrev cX6_copyRow : ByteArray := prog_8_method_3_code
def yX6_copyRow : MethodName := ⟨RX6, "copyRow", "([I[I)V"⟩
abbrev cX6_isTerm : ByteArray := prog_8_method_4_code
def yX6_isTerm : MethodName := ⟨RX6, "isTerm", "(I)Z"⟩
abbrev cX6_begin : ByteArray := prog_8_method_5_code
def yX6_begin : MethodName := ⟨RX6, "begin", "(IIII)V"⟩
abbrev cX6_finishLatest : ByteArray := prog_8_method_6_code
def yX6_finishLatest : MethodName := ⟨RX6, "finishLatest", "(IZ)V"⟩
abbrev cX6_latestPlannedEnd : ByteArray := prog_8_method_7_code
def yX6_latestPlannedEnd : MethodName := ⟨RX6, "latestPlannedEnd", "()I"⟩
abbrev cX6_latestDeeds : ByteArray := prog_8_method_8_code
def yX6_latestDeeds : MethodName := ⟨RX6, "latestDeeds", "()I"⟩
abbrev cX6_setLatestDeeds : ByteArray := prog_8_method_9_code
def yX6_setLatestDeeds : MethodName := ⟨RX6, "setLatestDeeds", "(I)V"⟩
abbrev cX6_isOver : ByteArray := prog_8_method_10_code
def yX6_isOver : MethodName := ⟨RX6, "isOver", "(I)Z"⟩
abbrev cX6_mayGrade : ByteArray := prog_8_method_11_code
def yX6_mayGrade : MethodName := ⟨RX6, "mayGrade", "(III)Z"⟩
abbrev cX6_putGrade : ByteArray := prog_8_method_12_code
def yX6_putGrade : MethodName := ⟨RX6, "putGrade", "(III)V"⟩
abbrev cX6_givenPoints : ByteArray := prog_8_method_13_code
def yX6_givenPoints : MethodName := ⟨RX6, "givenPoints", "(II)I"⟩
abbrev cX6_countGrades : ByteArray := prog_8_method_14_code
def yX6_countGrades : MethodName := ⟨RX6, "countGrades", "(I)I"⟩
abbrev cX6_score : ByteArray := prog_8_method_15_code
def yX6_score : MethodName := ⟨RX6, "score", "(I)I"⟩
abbrev cX6_number : ByteArray := prog_8_method_16_code
def yX6_number : MethodName := ⟨RX6, "number", "(II)I"⟩
abbrev cX6_countLed : ByteArray := prog_8_method_17_code
def yX6_countLed : MethodName := ⟨RX6, "countLed", "(I)I"⟩
abbrev cX6_countLedInARow : ByteArray := prog_8_method_18_code
def yX6_countLedInARow : MethodName := ⟨RX6, "countLedInARow", "(I)I"⟩
abbrev cX6_reputation : ByteArray := prog_8_method_19_code
def yX6_reputation : MethodName := ⟨RX6, "reputation", "(II)I"⟩
def RX7 : String := "TermOffice"
def TX7 : u_T := fun k => match k with
  | 0 => ("TermOffice", "text", "LTermOffice$BallotText;", true)
  | 1 => ("TermOffice", "state", "LTermOffice$State;", true)
  | _ => ("TermOffice", "history", "LTermOffice$History;", true)
def tyX7 : Nat → FieldType := fun k => match k with
  | 0 => .object "TermOffice$BallotText"
  | 1 => .object "TermOffice$State"
  | _ => .object "TermOffice$History"
theorem nmX7 : ∀ a, a < 3 → ∀ b, b < 3 → a ≠ b → (TX7 a).2.1 ≠ (TX7 b).2.1 := by decide +kernel
theorem tyX7_ok : ∀ k, k < 3 → parseFieldDescriptor (TX7 k).2.2.1 = some (tyX7 k) := by decide +kernel
abbrev cX7_init : ByteArray := prog_1_method_1_code
def yX7_init : MethodName := ⟨RX7, "<init>", "()V"⟩
abbrev cX7_set : ByteArray := prog_1_method_2_code
def yX7_set : MethodName := ⟨RX7, "set", "(II)I"⟩
abbrev cX7_join : ByteArray := prog_1_method_3_code
def yX7_join : MethodName := ⟨RX7, "join", "(I)I"⟩
abbrev cX7_setPresent : ByteArray := prog_1_method_4_code
def yX7_setPresent : MethodName := ⟨RX7, "setPresent", "(IZ)I"⟩
abbrev cX7_pass : ByteArray := prog_1_method_5_code
def yX7_pass : MethodName := ⟨RX7, "pass", "(I)I"⟩
abbrev cX7_open : ByteArray := prog_1_method_6_code
def yX7_open : MethodName := ⟨RX7, "open", "()I"⟩
abbrev cX7_nominate : ByteArray := prog_1_method_7_code
def yX7_nominate : MethodName := ⟨RX7, "nominate", "(I)I"⟩
abbrev cX7_cast : ByteArray := prog_1_method_8_code
def yX7_cast : MethodName := ⟨RX7, "cast", "(I)I"⟩
abbrev cX7_close : ByteArray := prog_1_method_9_code
def yX7_close : MethodName := ⟨RX7, "close", "()I"⟩
abbrev cX7_rounds : ByteArray := prog_1_method_10_code
def yX7_rounds : MethodName := ⟨RX7, "rounds", "()I"⟩
abbrev cX7_tally : ByteArray := prog_1_method_11_code
def yX7_tally : MethodName := ⟨RX7, "tally", "(II)I"⟩
abbrev cX7_ballot : ByteArray := prog_1_method_12_code
def yX7_ballot : MethodName := ⟨RX7, "ballot", "(II)I"⟩
abbrev cX7_office : ByteArray := prog_1_method_13_code
def yX7_office : MethodName := ⟨RX7, "office", "()I"⟩
abbrev cX7_holder : ByteArray := prog_1_method_14_code
def yX7_holder : MethodName := ⟨RX7, "holder", "()I"⟩
abbrev cX7_deed : ByteArray := prog_1_method_15_code
def yX7_deed : MethodName := ⟨RX7, "deed", "(Z)I"⟩
abbrev cX7_sign : ByteArray := prog_1_method_16_code
def yX7_sign : MethodName := ⟨RX7, "sign", "(IZ)I"⟩
abbrev cX7_grade : ByteArray := prog_1_method_17_code
def yX7_grade : MethodName := ⟨RX7, "grade", "(IIII)I"⟩
abbrev cX7_term : ByteArray := prog_1_method_18_code
def yX7_term : MethodName := ⟨RX7, "term", "(II)I"⟩
abbrev cX7_points : ByteArray := prog_1_method_19_code
def yX7_points : MethodName := ⟨RX7, "points", "(II)I"⟩
abbrev cX7_terms : ByteArray := prog_1_method_20_code
def yX7_terms : MethodName := ⟨RX7, "terms", "()I"⟩
abbrev cX7_member : ByteArray := prog_1_method_21_code
def yX7_member : MethodName := ⟨RX7, "member", "(II)I"⟩
abbrev cX7_time : ByteArray := prog_1_method_22_code
def yX7_time : MethodName := ⟨RX7, "time", "()I"⟩
abbrev cX7_events : ByteArray := prog_1_method_23_code
def yX7_events : MethodName := ⟨RX7, "events", "()I"⟩
abbrev cX7_event : ByteArray := prog_1_method_24_code
def yX7_event : MethodName := ⟨RX7, "event", "(II)I"⟩
abbrev cX7_type : ByteArray := prog_1_method_25_code
def yX7_type : MethodName := ⟨RX7, "type", "(I)I"⟩
abbrev cX7_clear : ByteArray := prog_1_method_26_code
def yX7_clear : MethodName := ⟨RX7, "clear", "()I"⟩
abbrev cX7_undo : ByteArray := prog_1_method_27_code
def yX7_undo : MethodName := ⟨RX7, "undo", "()I"⟩
abbrev cX7_fingerprint : ByteArray := prog_1_method_28_code
def yX7_fingerprint : MethodName := ⟨RX7, "fingerprint", "()J"⟩
abbrev cX7_mixed : ByteArray := prog_1_method_29_code
def yX7_mixed : MethodName := ⟨RX7, "mixed", "(JI)J"⟩
abbrev cX7_only : ByteArray := prog_1_method_30_code
def yX7_only : MethodName := ⟨RX7, "only", "(I)I"⟩
abbrev cX7_has : ByteArray := prog_1_method_31_code
def yX7_has : MethodName := ⟨RX7, "has", "(II)Z"⟩
abbrev cX7_asNumber : ByteArray := prog_1_method_32_code
def yX7_asNumber : MethodName := ⟨RX7, "asNumber", "(Z)I"⟩
def RX8 : String := "TermOfficeModel"
def TX8 : u_T := fun k => match k with
  | 0 => ("TermOfficeModel", "v", "[I", true)
  | 1 => ("TermOfficeModel", "past", "[I", true)
  | 2 => ("TermOfficeModel", "pastMany", "I", false)
  | 3 => ("TermOfficeModel", "text", "[I", true)
  | 4 => ("TermOfficeModel", "typed", "I", false)
  | _ => ("TermOfficeModel", "race", "I", false)
def tyX8 : Nat → FieldType := fun k => match k with
  | 0 => .array .int
  | 1 => .array .int
  | 2 => .int
  | 3 => .array .int
  | 4 => .int
  | _ => .int
theorem nmX8 : ∀ a, a < 6 → ∀ b, b < 6 → a ≠ b → (TX8 a).2.1 ≠ (TX8 b).2.1 := by decide +kernel
theorem tyX8_ok : ∀ k, k < 6 → parseFieldDescriptor (TX8 k).2.2.1 = some (tyX8 k) := by decide +kernel
abbrev cX8_init : ByteArray := prog_10_method_1_code
def yX8_init : MethodName := ⟨RX8, "<init>", "()V"⟩
abbrev cX8_in : ByteArray := prog_10_method_2_code
def yX8_in : MethodName := ⟨RX8, "in", "(III)Z"⟩
abbrev cX8_act : ByteArray := prog_10_method_3_code
def yX8_act : MethodName := ⟨RX8, "act", "()V"⟩
abbrev cX8_isMember : ByteArray := prog_10_method_4_code
def yX8_isMember : MethodName := ⟨RX8, "isMember", "(I)Z"⟩
abbrev cX8_isTerm : ByteArray := prog_10_method_5_code
def yX8_isTerm : MethodName := ⟨RX8, "isTerm", "(I)Z"⟩
abbrev cX8_at : ByteArray := prog_10_method_6_code
def yX8_at : MethodName := ⟨RX8, "at", "(II)I"⟩
abbrev cX8_of : ByteArray := prog_10_method_7_code
def yX8_of : MethodName := ⟨RX8, "of", "(II)I"⟩
abbrev cX8_isPresent : ByteArray := prog_10_method_8_code
def yX8_isPresent : MethodName := ⟨RX8, "isPresent", "(I)Z"⟩
abbrev cX8_grades : ByteArray := prog_10_method_9_code
def yX8_grades : MethodName := ⟨RX8, "grades", "(I)I"⟩
abbrev cX8_scoreOf : ByteArray := prog_10_method_10_code
def yX8_scoreOf : MethodName := ⟨RX8, "scoreOf", "(I)I"⟩
abbrev cX8_reputation : ByteArray := prog_10_method_11_code
def yX8_reputation : MethodName := ⟨RX8, "reputation", "(I)I"⟩
abbrev cX8_led : ByteArray := prog_10_method_12_code
def yX8_led : MethodName := ⟨RX8, "led", "(I)I"⟩
abbrev cX8_canLead : ByteArray := prog_10_method_13_code
def yX8_canLead : MethodName := ⟨RX8, "canLead", "(I)Z"⟩
abbrev cX8_tells : ByteArray := prog_10_method_14_code
def yX8_tells : MethodName := ⟨RX8, "tells", "(II)V"⟩
abbrev cX8_appoints : ByteArray := prog_10_method_15_code
def yX8_appoints : MethodName := ⟨RX8, "appoints", "(I)V"⟩
abbrev cX8_ends : ByteArray := prog_10_method_16_code
def yX8_ends : MethodName := ⟨RX8, "ends", "(I)V"⟩
abbrev cX8_signatures : ByteArray := prog_10_method_17_code
def yX8_signatures : MethodName := ⟨RX8, "signatures", "()I"⟩
abbrev cX8_presentMany : ByteArray := prog_10_method_18_code
def yX8_presentMany : MethodName := ⟨RX8, "presentMany", "()I"⟩
abbrev cX8_looks : ByteArray := prog_10_method_19_code
def yX8_looks : MethodName := ⟨RX8, "looks", "()V"⟩
abbrev cX8_isIn : ByteArray := prog_10_method_20_code
def yX8_isIn : MethodName := ⟨RX8, "isIn", "(II)Z"⟩
abbrev cX8_set : ByteArray := prog_10_method_21_code
def yX8_set : MethodName := ⟨RX8, "set", "(II)I"⟩
abbrev cX8_join : ByteArray := prog_10_method_22_code
def yX8_join : MethodName := ⟨RX8, "join", "(I)I"⟩
abbrev cX8_strikes : ByteArray := prog_10_method_23_code
def yX8_strikes : MethodName := ⟨RX8, "strikes", "(II)V"⟩
abbrev cX8_leaves : ByteArray := prog_10_method_24_code
def yX8_leaves : MethodName := ⟨RX8, "leaves", "(I)V"⟩
abbrev cX8_setPresent : ByteArray := prog_10_method_25_code
def yX8_setPresent : MethodName := ⟨RX8, "setPresent", "(IZ)I"⟩
abbrev cX8_pass : ByteArray := prog_10_method_26_code
def yX8_pass : MethodName := ⟨RX8, "pass", "(I)I"⟩
abbrev cX8_open : ByteArray := prog_10_method_27_code
def yX8_open : MethodName := ⟨RX8, "open", "()I"⟩
abbrev cX8_candidates : ByteArray := prog_10_method_28_code
def yX8_candidates : MethodName := ⟨RX8, "candidates", "()I"⟩
abbrev cX8_nominate : ByteArray := prog_10_method_29_code
def yX8_nominate : MethodName := ⟨RX8, "nominate", "(I)I"⟩
abbrev cX8_ballots : ByteArray := prog_10_method_30_code
def yX8_ballots : MethodName := ⟨RX8, "ballots", "()I"⟩
abbrev cX8_wrongAt : ByteArray := prog_10_method_31_code
def yX8_wrongAt : MethodName := ⟨RX8, "wrongAt", "()I"⟩
abbrev cX8_cast : ByteArray := prog_10_method_32_code
def yX8_cast : MethodName := ⟨RX8, "cast", "(I)I"⟩
abbrev cX8_firstOf : ByteArray := prog_10_method_33_code
def yX8_firstOf : MethodName := ⟨RX8, "firstOf", "(I)I"⟩
abbrev cX8_raceMany : ByteArray := prog_10_method_34_code
def yX8_raceMany : MethodName := ⟨RX8, "raceMany", "()I"⟩
abbrev cX8_tallyAt : ByteArray := prog_10_method_35_code
def yX8_tallyAt : MethodName := ⟨RX8, "tallyAt", "(II)I"⟩
abbrev cX8_isWeaker : ByteArray := prog_10_method_36_code
def yX8_isWeaker : MethodName := ⟨RX8, "isWeaker", "(III)Z"⟩
abbrev cX8_holdsRound : ByteArray := prog_10_method_37_code
def yX8_holdsRound : MethodName := ⟨RX8, "holdsRound", "(I)I"⟩
abbrev cX8_begins : ByteArray := prog_10_method_38_code
def yX8_begins : MethodName := ⟨RX8, "begins", "(I)V"⟩
abbrev cX8_close : ByteArray := prog_10_method_39_code
def yX8_close : MethodName := ⟨RX8, "close", "()I"⟩
abbrev cX8_rounds : ByteArray := prog_10_method_40_code
def yX8_rounds : MethodName := ⟨RX8, "rounds", "()I"⟩
abbrev cX8_tally : ByteArray := prog_10_method_41_code
def yX8_tally : MethodName := ⟨RX8, "tally", "(II)I"⟩
abbrev cX8_ballot : ByteArray := prog_10_method_42_code
def yX8_ballot : MethodName := ⟨RX8, "ballot", "(II)I"⟩
abbrev cX8_office : ByteArray := prog_10_method_43_code
def yX8_office : MethodName := ⟨RX8, "office", "()I"⟩
abbrev cX8_holder : ByteArray := prog_10_method_44_code
def yX8_holder : MethodName := ⟨RX8, "holder", "()I"⟩
abbrev cX8_deed : ByteArray := prog_10_method_45_code
def yX8_deed : MethodName := ⟨RX8, "deed", "(Z)I"⟩
abbrev cX8_sign : ByteArray := prog_10_method_46_code
def yX8_sign : MethodName := ⟨RX8, "sign", "(IZ)I"⟩
abbrev cX8_grade : ByteArray := prog_10_method_47_code
def yX8_grade : MethodName := ⟨RX8, "grade", "(IIII)I"⟩
abbrev cX8_toldOf : ByteArray := prog_10_method_48_code
def yX8_toldOf : MethodName := ⟨RX8, "toldOf", "(II)I"⟩
abbrev cX8_term : ByteArray := prog_10_method_49_code
def yX8_term : MethodName := ⟨RX8, "term", "(II)I"⟩
abbrev cX8_points : ByteArray := prog_10_method_50_code
def yX8_points : MethodName := ⟨RX8, "points", "(II)I"⟩
abbrev cX8_terms : ByteArray := prog_10_method_51_code
def yX8_terms : MethodName := ⟨RX8, "terms", "()I"⟩
abbrev cX8_told : ByteArray := prog_10_method_52_code
def yX8_told : MethodName := ⟨RX8, "told", "(II)I"⟩
abbrev cX8_member : ByteArray := prog_10_method_53_code
def yX8_member : MethodName := ⟨RX8, "member", "(II)I"⟩
abbrev cX8_time : ByteArray := prog_10_method_54_code
def yX8_time : MethodName := ⟨RX8, "time", "()I"⟩
abbrev cX8_events : ByteArray := prog_10_method_55_code
def yX8_events : MethodName := ⟨RX8, "events", "()I"⟩
abbrev cX8_event : ByteArray := prog_10_method_56_code
def yX8_event : MethodName := ⟨RX8, "event", "(II)I"⟩
abbrev cX8_type : ByteArray := prog_10_method_57_code
def yX8_type : MethodName := ⟨RX8, "type", "(I)I"⟩
abbrev cX8_clear : ByteArray := prog_10_method_58_code
def yX8_clear : MethodName := ⟨RX8, "clear", "()I"⟩
abbrev cX8_undo : ByteArray := prog_10_method_59_code
def yX8_undo : MethodName := ⟨RX8, "undo", "()I"⟩
abbrev cX8_fingerprint : ByteArray := prog_10_method_60_code
def yX8_fingerprint : MethodName := ⟨RX8, "fingerprint", "()J"⟩
def RJ6 : String := "java/lang/Integer"
abbrev cJ6_bitCount_0f7a4 : ByteArray := prog_11_method_49_code
def yJ6_bitCount_0f7a4 : MethodName := ⟨RJ6, "bitCount", "(I)I"⟩
def RJ9 : String := "java/lang/Math"
abbrev cJ9_min_7cf53 : ByteArray := prog_12_method_69_code
def yJ9_min_7cf53 : MethodName := ⟨RJ9, "min", "(II)I"⟩
def RJ10 : String := "java/lang/System"
def RJ7 : String := "java/util/Arrays"
abbrev cJ7_fill_53178 : ByteArray := prog_14_method_103_code
def yJ7_fill_53178 : MethodName := ⟨RJ7, "fill", "([II)V"⟩
def RL : String := "TermOfficeLaw"
abbrev cL_law : ByteArray := code
def yL_law : MethodName := ⟨RL, "law", "([I)Z"⟩
theorem dX0_init_0 : decode cX0_init 0 = .ok (.aload_n 0, 1) := by decide +kernel
theorem dX0_init_1 : decode cX0_init 1 = .ok (.invokespecial 3, 3) := by decide +kernel
theorem dX0_init_4 : decode cX0_init 4 = .ok (.aload_n 0, 1) := by decide +kernel
theorem dX0_init_5 : decode cX0_init 5 = .ok (.bipush 40, 2) := by decide +kernel
theorem dX0_init_7 : decode cX0_init 7 = .ok (.newarray .int, 2) := by decide +kernel
theorem dX0_init_9 : decode cX0_init 9 = .ok (.putfield 9, 3) := by decide +kernel
theorem dX0_init_12 : decode cX0_init 12 = .ok (.return_, 1) := by decide +kernel
theorem dX0_append_0 : decode cX0_append 0 = .ok (.aload_n 0, 1) := by decide +kernel
theorem dX0_append_1 : decode cX0_append 1 = .ok (.getfield 15, 3) := by decide +kernel
theorem dX0_append_4 : decode cX0_append 4 = .ok (.bipush 40, 2) := by decide +kernel
theorem dX0_append_6 : decode cX0_append 6 = .ok (.if_icmp .lt 6, 3) := by decide +kernel
theorem dX0_append_9 : decode cX0_append 9 = .ok (.bipush (-3), 2) := by decide +kernel
theorem dX0_append_11 : decode cX0_append 11 = .ok (.ireturn, 1) := by decide +kernel
theorem dX0_append_12 : decode cX0_append 12 = .ok (.aload_n 0, 1) := by decide +kernel
theorem dX0_append_13 : decode cX0_append 13 = .ok (.getfield 9, 3) := by decide +kernel
theorem dX0_append_16 : decode cX0_append 16 = .ok (.aload_n 0, 1) := by decide +kernel
theorem dX0_append_17 : decode cX0_append 17 = .ok (.getfield 15, 3) := by decide +kernel
theorem dX0_append_20 : decode cX0_append 20 = .ok (.iload_n 1, 1) := by decide +kernel
theorem dX0_append_21 : decode cX0_append 21 = .ok (.iastore, 1) := by decide +kernel
theorem dX0_append_22 : decode cX0_append 22 = .ok (.aload_n 0, 1) := by decide +kernel
theorem dX0_append_23 : decode cX0_append 23 = .ok (.dup, 1) := by decide +kernel
theorem dX0_append_24 : decode cX0_append 24 = .ok (.getfield 15, 3) := by decide +kernel
theorem dX0_append_27 : decode cX0_append 27 = .ok (.iconst 1, 1) := by decide +kernel
theorem dX0_append_28 : decode cX0_append 28 = .ok (.iadd, 1) := by decide +kernel
theorem dX0_append_29 : decode cX0_append 29 = .ok (.putfield 15, 3) := by decide +kernel
theorem dX0_append_32 : decode cX0_append 32 = .ok (.aload_n 0, 1) := by decide +kernel
theorem dX0_append_33 : decode cX0_append 33 = .ok (.getfield 15, 3) := by decide +kernel
theorem dX0_append_36 : decode cX0_append 36 = .ok (.ireturn, 1) := by decide +kernel
theorem dX0_errorPlace_0 : decode cX0_errorPlace 0 = .ok (.iload_n 1, 1) := by decide +kernel
theorem dX0_errorPlace_1 : decode cX0_errorPlace 1 = .ok (.istore_n 2, 1) := by decide +kernel
theorem dX0_errorPlace_2 : decode cX0_errorPlace 2 = .ok (.iconst 0, 1) := by decide +kernel
theorem dX0_errorPlace_3 : decode cX0_errorPlace 3 = .ok (.istore_n 3, 1) := by decide +kernel
theorem dX0_errorPlace_4 : decode cX0_errorPlace 4 = .ok (.iload_n 3, 1) := by decide +kernel
theorem dX0_errorPlace_5 : decode cX0_errorPlace 5 = .ok (.aload_n 0, 1) := by decide +kernel
theorem dX0_errorPlace_6 : decode cX0_errorPlace 6 = .ok (.getfield 15, 3) := by decide +kernel
theorem dX0_errorPlace_9 : decode cX0_errorPlace 9 = .ok (.if_icmp .ge 73, 3) := by decide +kernel
theorem dX0_errorPlace_12 : decode cX0_errorPlace 12 = .ok (.iload_n 3, 1) := by decide +kernel
theorem dX0_errorPlace_13 : decode cX0_errorPlace 13 = .ok (.iconst 2, 1) := by decide +kernel
theorem dX0_errorPlace_14 : decode cX0_errorPlace 14 = .ok (.irem, 1) := by decide +kernel
theorem dX0_errorPlace_15 : decode cX0_errorPlace 15 = .ok (.iconst 1, 1) := by decide +kernel
theorem dX0_errorPlace_16 : decode cX0_errorPlace 16 = .ok (.if_icmp .ne 16, 3) := by decide +kernel
theorem dX0_errorPlace_19 : decode cX0_errorPlace 19 = .ok (.aload_n 0, 1) := by decide +kernel
theorem dX0_errorPlace_20 : decode cX0_errorPlace 20 = .ok (.getfield 9, 3) := by decide +kernel
theorem dX0_errorPlace_23 : decode cX0_errorPlace 23 = .ok (.iload_n 3, 1) := by decide +kernel
theorem dX0_errorPlace_24 : decode cX0_errorPlace 24 = .ok (.iaload, 1) := by decide +kernel
theorem dX0_errorPlace_25 : decode cX0_errorPlace 25 = .ok (.bipush 62, 2) := by decide +kernel
theorem dX0_errorPlace_27 : decode cX0_errorPlace 27 = .ok (.if_icmp .eq 49, 3) := by decide +kernel
theorem dX0_errorPlace_30 : decode cX0_errorPlace 30 = .ok (.iload_n 3, 1) := by decide +kernel
theorem dX0_errorPlace_31 : decode cX0_errorPlace 31 = .ok (.ireturn, 1) := by decide +kernel
theorem dX0_errorPlace_32 : decode cX0_errorPlace 32 = .ok (.aload_n 0, 1) := by decide +kernel
theorem dX0_errorPlace_33 : decode cX0_errorPlace 33 = .ok (.getfield 9, 3) := by decide +kernel
theorem dX0_errorPlace_36 : decode cX0_errorPlace 36 = .ok (.iload_n 3, 1) := by decide +kernel
theorem dX0_errorPlace_37 : decode cX0_errorPlace 37 = .ok (.iaload, 1) := by decide +kernel
theorem dX0_errorPlace_38 : decode cX0_errorPlace 38 = .ok (.bipush 48, 2) := by decide +kernel
theorem dX0_errorPlace_40 : decode cX0_errorPlace 40 = .ok (.isub, 1) := by decide +kernel
theorem dX0_errorPlace_41 : decode cX0_errorPlace 41 = .ok (.istore 4, 2) := by decide +kernel
theorem dX0_errorPlace_43 : decode cX0_errorPlace 43 = .ok (.iload 4, 2) := by decide +kernel
theorem dX0_errorPlace_45 : decode cX0_errorPlace 45 = .ok (.ifCond .lt 19, 3) := by decide +kernel
theorem dX0_errorPlace_48 : decode cX0_errorPlace 48 = .ok (.iload 4, 2) := by decide +kernel
theorem dX0_errorPlace_50 : decode cX0_errorPlace 50 = .ok (.bipush 9, 2) := by decide +kernel
theorem dX0_errorPlace_52 : decode cX0_errorPlace 52 = .ok (.if_icmp .gt 12, 3) := by decide +kernel
theorem dX0_errorPlace_55 : decode cX0_errorPlace 55 = .ok (.iload_n 2, 1) := by decide +kernel
theorem dX0_errorPlace_56 : decode cX0_errorPlace 56 = .ok (.iload 4, 2) := by decide +kernel
theorem dX0_errorPlace_58 : decode cX0_errorPlace 58 = .ok (.invokestatic 19, 3) := by decide +kernel
theorem dX0_errorPlace_61 : decode cX0_errorPlace 61 = .ok (.ifCond .ne 5, 3) := by decide +kernel
theorem dX0_errorPlace_64 : decode cX0_errorPlace 64 = .ok (.iload_n 3, 1) := by decide +kernel
theorem dX0_errorPlace_65 : decode cX0_errorPlace 65 = .ok (.ireturn, 1) := by decide +kernel
theorem dX0_errorPlace_66 : decode cX0_errorPlace 66 = .ok (.iload_n 2, 1) := by decide +kernel
theorem dX0_errorPlace_67 : decode cX0_errorPlace 67 = .ok (.iload 4, 2) := by decide +kernel
theorem dX0_errorPlace_69 : decode cX0_errorPlace 69 = .ok (.invokestatic 23, 3) := by decide +kernel
theorem dX0_errorPlace_72 : decode cX0_errorPlace 72 = .ok (.iconst (-1), 1) := by decide +kernel
theorem dX0_errorPlace_73 : decode cX0_errorPlace 73 = .ok (.ixor, 1) := by decide +kernel
theorem dX0_errorPlace_74 : decode cX0_errorPlace 74 = .ok (.iand, 1) := by decide +kernel
theorem dX0_errorPlace_75 : decode cX0_errorPlace 75 = .ok (.istore_n 2, 1) := by decide +kernel
theorem dX0_errorPlace_76 : decode cX0_errorPlace 76 = .ok (.iinc 3 1, 3) := by decide +kernel
theorem dX0_errorPlace_79 : decode cX0_errorPlace 79 = .ok (.goto (-75), 3) := by decide +kernel
theorem dX0_errorPlace_82 : decode cX0_errorPlace 82 = .ok (.aload_n 0, 1) := by decide +kernel
theorem dX0_errorPlace_83 : decode cX0_errorPlace 83 = .ok (.getfield 15, 3) := by decide +kernel
theorem dX0_errorPlace_86 : decode cX0_errorPlace 86 = .ok (.iconst 2, 1) := by decide +kernel
theorem dX0_errorPlace_87 : decode cX0_errorPlace 87 = .ok (.irem, 1) := by decide +kernel
theorem dX0_errorPlace_88 : decode cX0_errorPlace 88 = .ok (.iconst 1, 1) := by decide +kernel
theorem dX0_errorPlace_89 : decode cX0_errorPlace 89 = .ok (.if_icmp .ne 8, 3) := by decide +kernel
theorem dX0_errorPlace_92 : decode cX0_errorPlace 92 = .ok (.bipush (-9), 2) := by decide +kernel
theorem dX0_errorPlace_94 : decode cX0_errorPlace 94 = .ok (.goto 7, 3) := by decide +kernel
theorem dX0_errorPlace_97 : decode cX0_errorPlace 97 = .ok (.aload_n 0, 1) := by decide +kernel
theorem dX0_errorPlace_98 : decode cX0_errorPlace 98 = .ok (.getfield 15, 3) := by decide +kernel
theorem dX0_errorPlace_101 : decode cX0_errorPlace 101 = .ok (.ireturn, 1) := by decide +kernel
theorem dX0_choice_0 : decode cX0_choice 0 = .ok (.iconst 2, 1) := by decide +kernel
theorem dX0_choice_1 : decode cX0_choice 1 = .ok (.iload_n 1, 1) := by decide +kernel
theorem dX0_choice_2 : decode cX0_choice 2 = .ok (.imul, 1) := by decide +kernel
theorem dX0_choice_3 : decode cX0_choice 3 = .ok (.istore_n 2, 1) := by decide +kernel
theorem dX0_choice_4 : decode cX0_choice 4 = .ok (.iload_n 2, 1) := by decide +kernel
theorem dX0_choice_5 : decode cX0_choice 5 = .ok (.aload_n 0, 1) := by decide +kernel
theorem dX0_choice_6 : decode cX0_choice 6 = .ok (.getfield 15, 3) := by decide +kernel
theorem dX0_choice_9 : decode cX0_choice 9 = .ok (.if_icmp .ge 15, 3) := by decide +kernel
theorem dX0_choice_12 : decode cX0_choice 12 = .ok (.aload_n 0, 1) := by decide +kernel
theorem dX0_choice_13 : decode cX0_choice 13 = .ok (.getfield 9, 3) := by decide +kernel
theorem dX0_choice_16 : decode cX0_choice 16 = .ok (.iload_n 2, 1) := by decide +kernel
theorem dX0_choice_17 : decode cX0_choice 17 = .ok (.iaload, 1) := by decide +kernel
theorem dX0_choice_18 : decode cX0_choice 18 = .ok (.bipush 48, 2) := by decide +kernel
theorem dX0_choice_20 : decode cX0_choice 20 = .ok (.isub, 1) := by decide +kernel
theorem dX0_choice_21 : decode cX0_choice 21 = .ok (.goto 5, 3) := by decide +kernel
theorem dX0_choice_24 : decode cX0_choice 24 = .ok (.bipush (-9), 2) := by decide +kernel
theorem dX0_choice_26 : decode cX0_choice 26 = .ok (.ireturn, 1) := by decide +kernel
theorem dX1_init_0 : decode cX1_init 0 = .ok (.aload_n 0, 1) := by decide +kernel
theorem dX1_init_1 : decode cX1_init 1 = .ok (.invokespecial 3, 3) := by decide +kernel
theorem dX1_init_4 : decode cX1_init 4 = .ok (.aload_n 0, 1) := by decide +kernel
theorem dX1_init_5 : decode cX1_init 5 = .ok (.bipush 20, 2) := by decide +kernel
theorem dX1_init_7 : decode cX1_init 7 = .ok (.newarray .int, 2) := by decide +kernel
theorem dX1_init_9 : decode cX1_init 9 = .ok (.putfield 9, 3) := by decide +kernel
theorem dX1_init_12 : decode cX1_init 12 = .ok (.aload_n 0, 1) := by decide +kernel
theorem dX1_init_13 : decode cX1_init 13 = .ok (.bipush 20, 2) := by decide +kernel
theorem dX1_init_15 : decode cX1_init 15 = .ok (.newarray .int, 2) := by decide +kernel
theorem dX1_init_17 : decode cX1_init 17 = .ok (.putfield 15, 3) := by decide +kernel
theorem dX1_init_20 : decode cX1_init 20 = .ok (.aload_n 0, 1) := by decide +kernel
theorem dX1_init_21 : decode cX1_init 21 = .ok (.bipush 20, 2) := by decide +kernel
theorem dX1_init_23 : decode cX1_init 23 = .ok (.newarray .int, 2) := by decide +kernel
theorem dX1_init_25 : decode cX1_init 25 = .ok (.putfield 18, 3) := by decide +kernel
theorem dX1_init_28 : decode cX1_init 28 = .ok (.return_, 1) := by decide +kernel
theorem dX1_copy_0 : decode cX1_copy 0 = .ok (.aload_n 0, 1) := by decide +kernel
theorem dX1_copy_1 : decode cX1_copy 1 = .ok (.aload_n 1, 1) := by decide +kernel
theorem dX1_copy_2 : decode cX1_copy 2 = .ok (.getfield 21, 3) := by decide +kernel
theorem dX1_copy_5 : decode cX1_copy 5 = .ok (.putfield 21, 3) := by decide +kernel
theorem dX1_copy_8 : decode cX1_copy 8 = .ok (.aload_n 1, 1) := by decide +kernel
theorem dX1_copy_9 : decode cX1_copy 9 = .ok (.getfield 9, 3) := by decide +kernel
theorem dX1_copy_12 : decode cX1_copy 12 = .ok (.iconst 0, 1) := by decide +kernel
theorem dX1_copy_13 : decode cX1_copy 13 = .ok (.aload_n 0, 1) := by decide +kernel
theorem dX1_copy_14 : decode cX1_copy 14 = .ok (.getfield 9, 3) := by decide +kernel
theorem dX1_copy_17 : decode cX1_copy 17 = .ok (.iconst 0, 1) := by decide +kernel
theorem dX1_copy_18 : decode cX1_copy 18 = .ok (.aload_n 0, 1) := by decide +kernel
theorem dX1_copy_19 : decode cX1_copy 19 = .ok (.getfield 9, 3) := by decide +kernel
theorem dX1_copy_22 : decode cX1_copy 22 = .ok (.arraylength, 1) := by decide +kernel
theorem dX1_copy_23 : decode cX1_copy 23 = .ok (.invokestatic 25, 3) := by decide +kernel
theorem dX1_copy_26 : decode cX1_copy 26 = .ok (.aload_n 1, 1) := by decide +kernel
theorem dX1_copy_27 : decode cX1_copy 27 = .ok (.getfield 15, 3) := by decide +kernel
theorem dX1_copy_30 : decode cX1_copy 30 = .ok (.iconst 0, 1) := by decide +kernel
theorem dX1_copy_31 : decode cX1_copy 31 = .ok (.aload_n 0, 1) := by decide +kernel
theorem dX1_copy_32 : decode cX1_copy 32 = .ok (.getfield 15, 3) := by decide +kernel
theorem dX1_copy_35 : decode cX1_copy 35 = .ok (.iconst 0, 1) := by decide +kernel
theorem dX1_copy_36 : decode cX1_copy 36 = .ok (.aload_n 0, 1) := by decide +kernel
theorem dX1_copy_37 : decode cX1_copy 37 = .ok (.getfield 15, 3) := by decide +kernel
theorem dX1_copy_40 : decode cX1_copy 40 = .ok (.arraylength, 1) := by decide +kernel
theorem dX1_copy_41 : decode cX1_copy 41 = .ok (.invokestatic 25, 3) := by decide +kernel
theorem dX1_copy_44 : decode cX1_copy 44 = .ok (.aload_n 1, 1) := by decide +kernel
theorem dX1_copy_45 : decode cX1_copy 45 = .ok (.getfield 18, 3) := by decide +kernel
theorem dX1_copy_48 : decode cX1_copy 48 = .ok (.iconst 0, 1) := by decide +kernel
theorem dX1_copy_49 : decode cX1_copy 49 = .ok (.aload_n 0, 1) := by decide +kernel
theorem dX1_copy_50 : decode cX1_copy 50 = .ok (.getfield 18, 3) := by decide +kernel
theorem dX1_copy_53 : decode cX1_copy 53 = .ok (.iconst 0, 1) := by decide +kernel
theorem dX1_copy_54 : decode cX1_copy 54 = .ok (.aload_n 0, 1) := by decide +kernel
theorem dX1_copy_55 : decode cX1_copy 55 = .ok (.getfield 18, 3) := by decide +kernel
theorem dX1_copy_58 : decode cX1_copy 58 = .ok (.arraylength, 1) := by decide +kernel
theorem dX1_copy_59 : decode cX1_copy 59 = .ok (.invokestatic 25, 3) := by decide +kernel
theorem dX1_copy_62 : decode cX1_copy 62 = .ok (.return_, 1) := by decide +kernel
theorem dX1_tell_0 : decode cX1_tell 0 = .ok (.aload_n 0, 1) := by decide +kernel
theorem dX1_tell_1 : decode cX1_tell 1 = .ok (.getfield 21, 3) := by decide +kernel
theorem dX1_tell_4 : decode cX1_tell 4 = .ok (.bipush 20, 2) := by decide +kernel
theorem dX1_tell_6 : decode cX1_tell 6 = .ok (.irem, 1) := by decide +kernel
theorem dX1_tell_7 : decode cX1_tell 7 = .ok (.istore 4, 2) := by decide +kernel
theorem dX1_tell_9 : decode cX1_tell 9 = .ok (.aload_n 0, 1) := by decide +kernel
theorem dX1_tell_10 : decode cX1_tell 10 = .ok (.getfield 9, 3) := by decide +kernel
theorem dX1_tell_13 : decode cX1_tell 13 = .ok (.iload 4, 2) := by decide +kernel
theorem dX1_tell_15 : decode cX1_tell 15 = .ok (.iload_n 1, 1) := by decide +kernel
theorem dX1_tell_16 : decode cX1_tell 16 = .ok (.iastore, 1) := by decide +kernel
theorem dX1_tell_17 : decode cX1_tell 17 = .ok (.aload_n 0, 1) := by decide +kernel
theorem dX1_tell_18 : decode cX1_tell 18 = .ok (.getfield 15, 3) := by decide +kernel
theorem dX1_tell_21 : decode cX1_tell 21 = .ok (.iload 4, 2) := by decide +kernel
theorem dX1_tell_23 : decode cX1_tell 23 = .ok (.iload_n 2, 1) := by decide +kernel
theorem dX1_tell_24 : decode cX1_tell 24 = .ok (.iastore, 1) := by decide +kernel
theorem dX1_tell_25 : decode cX1_tell 25 = .ok (.aload_n 0, 1) := by decide +kernel
theorem dX1_tell_26 : decode cX1_tell 26 = .ok (.getfield 18, 3) := by decide +kernel
theorem dX1_tell_29 : decode cX1_tell 29 = .ok (.iload 4, 2) := by decide +kernel
theorem dX1_tell_31 : decode cX1_tell 31 = .ok (.iload_n 3, 1) := by decide +kernel
theorem dX1_tell_32 : decode cX1_tell 32 = .ok (.iastore, 1) := by decide +kernel
theorem dX1_tell_33 : decode cX1_tell 33 = .ok (.aload_n 0, 1) := by decide +kernel
theorem dX1_tell_34 : decode cX1_tell 34 = .ok (.dup, 1) := by decide +kernel
theorem dX1_tell_35 : decode cX1_tell 35 = .ok (.getfield 21, 3) := by decide +kernel
theorem dX1_tell_38 : decode cX1_tell 38 = .ok (.iconst 1, 1) := by decide +kernel
theorem dX1_tell_39 : decode cX1_tell 39 = .ok (.iadd, 1) := by decide +kernel
theorem dX1_tell_40 : decode cX1_tell 40 = .ok (.putfield 21, 3) := by decide +kernel
theorem dX1_tell_43 : decode cX1_tell 43 = .ok (.return_, 1) := by decide +kernel
theorem dX1_number_0 : decode cX1_number 0 = .ok (.iload_n 1, 1) := by decide +kernel
theorem dX1_number_1 : decode cX1_number 1 = .ok (.aload_n 0, 1) := by decide +kernel
theorem dX1_number_2 : decode cX1_number 2 = .ok (.getfield 21, 3) := by decide +kernel
theorem dX1_number_5 : decode cX1_number 5 = .ok (.if_icmp .ge 9, 3) := by decide +kernel
theorem dX1_number_8 : decode cX1_number 8 = .ok (.iload_n 1, 1) := by decide +kernel
theorem dX1_number_9 : decode cX1_number 9 = .ok (.bipush 20, 2) := by decide +kernel
theorem dX1_number_11 : decode cX1_number 11 = .ok (.if_icmp .lt 6, 3) := by decide +kernel
theorem dX1_number_14 : decode cX1_number 14 = .ok (.bipush (-9), 2) := by decide +kernel
theorem dX1_number_16 : decode cX1_number 16 = .ok (.ireturn, 1) := by decide +kernel
theorem dX1_number_17 : decode cX1_number 17 = .ok (.aload_n 0, 1) := by decide +kernel
theorem dX1_number_18 : decode cX1_number 18 = .ok (.getfield 21, 3) := by decide +kernel
theorem dX1_number_21 : decode cX1_number 21 = .ok (.iconst 1, 1) := by decide +kernel
theorem dX1_number_22 : decode cX1_number 22 = .ok (.isub, 1) := by decide +kernel
theorem dX1_number_23 : decode cX1_number 23 = .ok (.iload_n 1, 1) := by decide +kernel
theorem dX1_number_24 : decode cX1_number 24 = .ok (.isub, 1) := by decide +kernel
theorem dX1_number_25 : decode cX1_number 25 = .ok (.bipush 20, 2) := by decide +kernel
theorem dX1_number_27 : decode cX1_number 27 = .ok (.irem, 1) := by decide +kernel
theorem dX1_number_28 : decode cX1_number 28 = .ok (.istore_n 3, 1) := by decide +kernel
theorem dX1_number_29 : decode cX1_number 29 = .ok (.iload_n 2, 1) := by decide +kernel
theorem dX1_number_30 : decode cX1_number 30 = .ok (.lookupswitch 40 #[(0, 26), (1, 33)], 26) := by decide +kernel
theorem dX1_number_56 : decode cX1_number 56 = .ok (.aload_n 0, 1) := by decide +kernel
theorem dX1_number_57 : decode cX1_number 57 = .ok (.getfield 9, 3) := by decide +kernel
theorem dX1_number_60 : decode cX1_number 60 = .ok (.iload_n 3, 1) := by decide +kernel
theorem dX1_number_61 : decode cX1_number 61 = .ok (.iaload, 1) := by decide +kernel
theorem dX1_number_62 : decode cX1_number 62 = .ok (.ireturn, 1) := by decide +kernel
theorem dX1_number_63 : decode cX1_number 63 = .ok (.aload_n 0, 1) := by decide +kernel
theorem dX1_number_64 : decode cX1_number 64 = .ok (.getfield 15, 3) := by decide +kernel
theorem dX1_number_67 : decode cX1_number 67 = .ok (.iload_n 3, 1) := by decide +kernel
theorem dX1_number_68 : decode cX1_number 68 = .ok (.iaload, 1) := by decide +kernel
theorem dX1_number_69 : decode cX1_number 69 = .ok (.ireturn, 1) := by decide +kernel
theorem dX1_number_70 : decode cX1_number 70 = .ok (.aload_n 0, 1) := by decide +kernel
theorem dX1_number_71 : decode cX1_number 71 = .ok (.getfield 18, 3) := by decide +kernel
theorem dX1_number_74 : decode cX1_number 74 = .ok (.iload_n 3, 1) := by decide +kernel
theorem dX1_number_75 : decode cX1_number 75 = .ok (.iaload, 1) := by decide +kernel
theorem dX1_number_76 : decode cX1_number 76 = .ok (.ireturn, 1) := by decide +kernel
theorem dX2_init_0 : decode cX2_init 0 = .ok (.aload_n 0, 1) := by decide +kernel
theorem dX2_init_1 : decode cX2_init 1 = .ok (.invokespecial 3, 3) := by decide +kernel
theorem dX2_init_4 : decode cX2_init 4 = .ok (.aload_n 0, 1) := by decide +kernel
theorem dX2_init_5 : decode cX2_init 5 = .ok (.bipush 100, 2) := by decide +kernel
theorem dX2_init_7 : decode cX2_init 7 = .ok (.newarray .int, 2) := by decide +kernel
theorem dX2_init_9 : decode cX2_init 9 = .ok (.putfield 9, 3) := by decide +kernel
theorem dX2_init_12 : decode cX2_init 12 = .ok (.aload_n 0, 1) := by decide +kernel
theorem dX2_init_13 : decode cX2_init 13 = .ok (.getfield 9, 3) := by decide +kernel
theorem dX2_init_16 : decode cX2_init 16 = .ok (.bipush (-9), 2) := by decide +kernel
theorem dX2_init_18 : decode cX2_init 18 = .ok (.invokestatic 15, 3) := by decide +kernel
theorem dX2_init_21 : decode cX2_init 21 = .ok (.return_, 1) := by decide +kernel
theorem dX2_copy_0 : decode cX2_copy 0 = .ok (.aload_n 0, 1) := by decide +kernel
theorem dX2_copy_1 : decode cX2_copy 1 = .ok (.aload_n 1, 1) := by decide +kernel
theorem dX2_copy_2 : decode cX2_copy 2 = .ok (.getfield 21, 3) := by decide +kernel
theorem dX2_copy_5 : decode cX2_copy 5 = .ok (.putfield 21, 3) := by decide +kernel
theorem dX2_copy_8 : decode cX2_copy 8 = .ok (.aload_n 0, 1) := by decide +kernel
theorem dX2_copy_9 : decode cX2_copy 9 = .ok (.aload_n 1, 1) := by decide +kernel
theorem dX2_copy_10 : decode cX2_copy 10 = .ok (.getfield 25, 3) := by decide +kernel
theorem dX2_copy_13 : decode cX2_copy 13 = .ok (.putfield 25, 3) := by decide +kernel
theorem dX2_copy_16 : decode cX2_copy 16 = .ok (.aload_n 1, 1) := by decide +kernel
theorem dX2_copy_17 : decode cX2_copy 17 = .ok (.getfield 9, 3) := by decide +kernel
theorem dX2_copy_20 : decode cX2_copy 20 = .ok (.iconst 0, 1) := by decide +kernel
theorem dX2_copy_21 : decode cX2_copy 21 = .ok (.aload_n 0, 1) := by decide +kernel
theorem dX2_copy_22 : decode cX2_copy 22 = .ok (.getfield 9, 3) := by decide +kernel
theorem dX2_copy_25 : decode cX2_copy 25 = .ok (.iconst 0, 1) := by decide +kernel
theorem dX2_copy_26 : decode cX2_copy 26 = .ok (.aload_n 0, 1) := by decide +kernel
theorem dX2_copy_27 : decode cX2_copy 27 = .ok (.getfield 9, 3) := by decide +kernel
theorem dX2_copy_30 : decode cX2_copy 30 = .ok (.arraylength, 1) := by decide +kernel
theorem dX2_copy_31 : decode cX2_copy 31 = .ok (.invokestatic 29, 3) := by decide +kernel
theorem dX2_copy_34 : decode cX2_copy 34 = .ok (.return_, 1) := by decide +kernel
theorem dX2_finish_0 : decode cX2_finish 0 = .ok (.aload_n 0, 1) := by decide +kernel
theorem dX2_finish_1 : decode cX2_finish 1 = .ok (.iconst 0, 1) := by decide +kernel
theorem dX2_finish_2 : decode cX2_finish 2 = .ok (.putfield 21, 3) := by decide +kernel
theorem dX2_finish_5 : decode cX2_finish 5 = .ok (.aload_n 0, 1) := by decide +kernel
theorem dX2_finish_6 : decode cX2_finish 6 = .ok (.iconst 0, 1) := by decide +kernel
theorem dX2_finish_7 : decode cX2_finish 7 = .ok (.putfield 25, 3) := by decide +kernel
theorem dX2_finish_10 : decode cX2_finish 10 = .ok (.aload_n 0, 1) := by decide +kernel
theorem dX2_finish_11 : decode cX2_finish 11 = .ok (.getfield 9, 3) := by decide +kernel
theorem dX2_finish_14 : decode cX2_finish 14 = .ok (.bipush (-9), 2) := by decide +kernel
theorem dX2_finish_16 : decode cX2_finish 16 = .ok (.invokestatic 15, 3) := by decide +kernel
theorem dX2_finish_19 : decode cX2_finish 19 = .ok (.return_, 1) := by decide +kernel
theorem dX2_choice_0 : decode cX2_choice 0 = .ok (.aload_n 0, 1) := by decide +kernel
theorem dX2_choice_1 : decode cX2_choice 1 = .ok (.getfield 9, 3) := by decide +kernel
theorem dX2_choice_4 : decode cX2_choice 4 = .ok (.iload_n 1, 1) := by decide +kernel
theorem dX2_choice_5 : decode cX2_choice 5 = .ok (.bipush 10, 2) := by decide +kernel
theorem dX2_choice_7 : decode cX2_choice 7 = .ok (.imul, 1) := by decide +kernel
theorem dX2_choice_8 : decode cX2_choice 8 = .ok (.iload_n 2, 1) := by decide +kernel
theorem dX2_choice_9 : decode cX2_choice 9 = .ok (.iadd, 1) := by decide +kernel
theorem dX2_choice_10 : decode cX2_choice 10 = .ok (.iaload, 1) := by decide +kernel
theorem dX2_choice_11 : decode cX2_choice 11 = .ok (.ireturn, 1) := by decide +kernel
theorem dX2_take_0 : decode cX2_take 0 = .ok (.iconst 0, 1) := by decide +kernel
theorem dX2_take_1 : decode cX2_take 1 = .ok (.istore_n 3, 1) := by decide +kernel
theorem dX2_take_2 : decode cX2_take 2 = .ok (.iload_n 3, 1) := by decide +kernel
theorem dX2_take_3 : decode cX2_take 3 = .ok (.bipush 10, 2) := by decide +kernel
theorem dX2_take_5 : decode cX2_take 5 = .ok (.if_icmp .ge 25, 3) := by decide +kernel
theorem dX2_take_8 : decode cX2_take 8 = .ok (.aload_n 0, 1) := by decide +kernel
theorem dX2_take_9 : decode cX2_take 9 = .ok (.getfield 9, 3) := by decide +kernel
theorem dX2_take_12 : decode cX2_take 12 = .ok (.iload_n 1, 1) := by decide +kernel
theorem dX2_take_13 : decode cX2_take 13 = .ok (.bipush 10, 2) := by decide +kernel
theorem dX2_take_15 : decode cX2_take 15 = .ok (.imul, 1) := by decide +kernel
theorem dX2_take_16 : decode cX2_take 16 = .ok (.iload_n 3, 1) := by decide +kernel
theorem dX2_take_17 : decode cX2_take 17 = .ok (.iadd, 1) := by decide +kernel
theorem dX2_take_18 : decode cX2_take 18 = .ok (.aload_n 2, 1) := by decide +kernel
theorem dX2_take_19 : decode cX2_take 19 = .ok (.iload_n 3, 1) := by decide +kernel
theorem dX2_take_20 : decode cX2_take 20 = .ok (.invokevirtual 35, 3) := by decide +kernel
theorem dX2_take_23 : decode cX2_take 23 = .ok (.iastore, 1) := by decide +kernel
theorem dX2_take_24 : decode cX2_take 24 = .ok (.iinc 3 1, 3) := by decide +kernel
theorem dX2_take_27 : decode cX2_take 27 = .ok (.goto (-25), 3) := by decide +kernel
theorem dX2_take_30 : decode cX2_take 30 = .ok (.return_, 1) := by decide +kernel
theorem dX2_countBallots_0 : decode cX2_countBallots 0 = .ok (.iconst 0, 1) := by decide +kernel
theorem dX2_countBallots_1 : decode cX2_countBallots 1 = .ok (.istore_n 1, 1) := by decide +kernel
theorem dX2_countBallots_2 : decode cX2_countBallots 2 = .ok (.iconst 0, 1) := by decide +kernel
theorem dX2_countBallots_3 : decode cX2_countBallots 3 = .ok (.istore_n 2, 1) := by decide +kernel
theorem dX2_countBallots_4 : decode cX2_countBallots 4 = .ok (.iload_n 2, 1) := by decide +kernel
theorem dX2_countBallots_5 : decode cX2_countBallots 5 = .ok (.bipush 10, 2) := by decide +kernel
theorem dX2_countBallots_7 : decode cX2_countBallots 7 = .ok (.if_icmp .ge 23, 3) := by decide +kernel
theorem dX2_countBallots_10 : decode cX2_countBallots 10 = .ok (.aload_n 0, 1) := by decide +kernel
theorem dX2_countBallots_11 : decode cX2_countBallots 11 = .ok (.iload_n 2, 1) := by decide +kernel
theorem dX2_countBallots_12 : decode cX2_countBallots 12 = .ok (.iconst 0, 1) := by decide +kernel
theorem dX2_countBallots_13 : decode cX2_countBallots 13 = .ok (.invokevirtual 41, 3) := by decide +kernel
theorem dX2_countBallots_16 : decode cX2_countBallots 16 = .ok (.bipush (-9), 2) := by decide +kernel
theorem dX2_countBallots_18 : decode cX2_countBallots 18 = .ok (.if_icmp .eq 6, 3) := by decide +kernel
theorem dX2_countBallots_21 : decode cX2_countBallots 21 = .ok (.iinc 1 1, 3) := by decide +kernel
theorem dX2_countBallots_24 : decode cX2_countBallots 24 = .ok (.iinc 2 1, 3) := by decide +kernel
theorem dX2_countBallots_27 : decode cX2_countBallots 27 = .ok (.goto (-23), 3) := by decide +kernel
theorem dX2_countBallots_30 : decode cX2_countBallots 30 = .ok (.iload_n 1, 1) := by decide +kernel
theorem dX2_countBallots_31 : decode cX2_countBallots 31 = .ok (.ireturn, 1) := by decide +kernel
theorem dX2_forget_0 : decode cX2_forget 0 = .ok (.aload_n 0, 1) := by decide +kernel
theorem dX2_forget_1 : decode cX2_forget 1 = .ok (.dup, 1) := by decide +kernel
theorem dX2_forget_2 : decode cX2_forget 2 = .ok (.getfield 25, 3) := by decide +kernel
theorem dX2_forget_5 : decode cX2_forget 5 = .ok (.iload_n 1, 1) := by decide +kernel
theorem dX2_forget_6 : decode cX2_forget 6 = .ok (.invokestatic 44, 3) := by decide +kernel
theorem dX2_forget_9 : decode cX2_forget 9 = .ok (.iconst (-1), 1) := by decide +kernel
theorem dX2_forget_10 : decode cX2_forget 10 = .ok (.ixor, 1) := by decide +kernel
theorem dX2_forget_11 : decode cX2_forget 11 = .ok (.iand, 1) := by decide +kernel
theorem dX2_forget_12 : decode cX2_forget 12 = .ok (.putfield 25, 3) := by decide +kernel
theorem dX2_forget_15 : decode cX2_forget 15 = .ok (.iconst 0, 1) := by decide +kernel
theorem dX2_forget_16 : decode cX2_forget 16 = .ok (.istore_n 2, 1) := by decide +kernel
theorem dX2_forget_17 : decode cX2_forget 17 = .ok (.iload_n 2, 1) := by decide +kernel
theorem dX2_forget_18 : decode cX2_forget 18 = .ok (.bipush 10, 2) := by decide +kernel
theorem dX2_forget_20 : decode cX2_forget 20 = .ok (.if_icmp .ge 22, 3) := by decide +kernel
theorem dX2_forget_23 : decode cX2_forget 23 = .ok (.aload_n 0, 1) := by decide +kernel
theorem dX2_forget_24 : decode cX2_forget 24 = .ok (.getfield 9, 3) := by decide +kernel
theorem dX2_forget_27 : decode cX2_forget 27 = .ok (.iload_n 1, 1) := by decide +kernel
theorem dX2_forget_28 : decode cX2_forget 28 = .ok (.bipush 10, 2) := by decide +kernel
theorem dX2_forget_30 : decode cX2_forget 30 = .ok (.imul, 1) := by decide +kernel
theorem dX2_forget_31 : decode cX2_forget 31 = .ok (.iload_n 2, 1) := by decide +kernel
theorem dX2_forget_32 : decode cX2_forget 32 = .ok (.iadd, 1) := by decide +kernel
theorem dX2_forget_33 : decode cX2_forget 33 = .ok (.bipush (-9), 2) := by decide +kernel
theorem dX2_forget_35 : decode cX2_forget 35 = .ok (.iastore, 1) := by decide +kernel
theorem dX2_forget_36 : decode cX2_forget 36 = .ok (.iinc 2 1, 3) := by decide +kernel
theorem dX2_forget_39 : decode cX2_forget 39 = .ok (.goto (-22), 3) := by decide +kernel
theorem dX2_forget_42 : decode cX2_forget 42 = .ok (.iconst 0, 1) := by decide +kernel
theorem dX2_forget_43 : decode cX2_forget 43 = .ok (.istore_n 2, 1) := by decide +kernel
theorem dX2_forget_44 : decode cX2_forget 44 = .ok (.iload_n 2, 1) := by decide +kernel
theorem dX2_forget_45 : decode cX2_forget 45 = .ok (.bipush 10, 2) := by decide +kernel
theorem dX2_forget_47 : decode cX2_forget 47 = .ok (.if_icmp .ge 15, 3) := by decide +kernel
theorem dX2_forget_50 : decode cX2_forget 50 = .ok (.aload_n 0, 1) := by decide +kernel
theorem dX2_forget_51 : decode cX2_forget 51 = .ok (.iload_n 2, 1) := by decide +kernel
theorem dX2_forget_52 : decode cX2_forget 52 = .ok (.iload_n 1, 1) := by decide +kernel
theorem dX2_forget_53 : decode cX2_forget 53 = .ok (.invokevirtual 47, 3) := by decide +kernel
theorem dX2_forget_56 : decode cX2_forget 56 = .ok (.iinc 2 1, 3) := by decide +kernel
theorem dX2_forget_59 : decode cX2_forget 59 = .ok (.goto (-15), 3) := by decide +kernel
theorem dX2_forget_62 : decode cX2_forget 62 = .ok (.return_, 1) := by decide +kernel
theorem dX2_strike_0 : decode cX2_strike 0 = .ok (.iload_n 1, 1) := by decide +kernel
theorem dX2_strike_1 : decode cX2_strike 1 = .ok (.bipush 10, 2) := by decide +kernel
theorem dX2_strike_3 : decode cX2_strike 3 = .ok (.imul, 1) := by decide +kernel
theorem dX2_strike_4 : decode cX2_strike 4 = .ok (.istore_n 3, 1) := by decide +kernel
theorem dX2_strike_5 : decode cX2_strike 5 = .ok (.iconst 0, 1) := by decide +kernel
theorem dX2_strike_6 : decode cX2_strike 6 = .ok (.istore 4, 2) := by decide +kernel
theorem dX2_strike_8 : decode cX2_strike 8 = .ok (.iconst 0, 1) := by decide +kernel
theorem dX2_strike_9 : decode cX2_strike 9 = .ok (.istore 5, 2) := by decide +kernel
theorem dX2_strike_11 : decode cX2_strike 11 = .ok (.iload 5, 2) := by decide +kernel
theorem dX2_strike_13 : decode cX2_strike 13 = .ok (.bipush 10, 2) := by decide +kernel
theorem dX2_strike_15 : decode cX2_strike 15 = .ok (.if_icmp .ge 40, 3) := by decide +kernel
theorem dX2_strike_18 : decode cX2_strike 18 = .ok (.aload_n 0, 1) := by decide +kernel
theorem dX2_strike_19 : decode cX2_strike 19 = .ok (.getfield 9, 3) := by decide +kernel
theorem dX2_strike_22 : decode cX2_strike 22 = .ok (.iload_n 3, 1) := by decide +kernel
theorem dX2_strike_23 : decode cX2_strike 23 = .ok (.iload 5, 2) := by decide +kernel
theorem dX2_strike_25 : decode cX2_strike 25 = .ok (.iadd, 1) := by decide +kernel
theorem dX2_strike_26 : decode cX2_strike 26 = .ok (.iaload, 1) := by decide +kernel
theorem dX2_strike_27 : decode cX2_strike 27 = .ok (.istore 6, 2) := by decide +kernel
theorem dX2_strike_29 : decode cX2_strike 29 = .ok (.iload 6, 2) := by decide +kernel
theorem dX2_strike_31 : decode cX2_strike 31 = .ok (.iload_n 2, 1) := by decide +kernel
theorem dX2_strike_32 : decode cX2_strike 32 = .ok (.if_icmp .eq 17, 3) := by decide +kernel
theorem dX2_strike_35 : decode cX2_strike 35 = .ok (.aload_n 0, 1) := by decide +kernel
theorem dX2_strike_36 : decode cX2_strike 36 = .ok (.getfield 9, 3) := by decide +kernel
theorem dX2_strike_39 : decode cX2_strike 39 = .ok (.iload_n 3, 1) := by decide +kernel
theorem dX2_strike_40 : decode cX2_strike 40 = .ok (.iload 4, 2) := by decide +kernel
theorem dX2_strike_42 : decode cX2_strike 42 = .ok (.iadd, 1) := by decide +kernel
theorem dX2_strike_43 : decode cX2_strike 43 = .ok (.iload 6, 2) := by decide +kernel
theorem dX2_strike_45 : decode cX2_strike 45 = .ok (.iastore, 1) := by decide +kernel
theorem dX2_strike_46 : decode cX2_strike 46 = .ok (.iinc 4 1, 3) := by decide +kernel
theorem dX2_strike_49 : decode cX2_strike 49 = .ok (.iinc 5 1, 3) := by decide +kernel
theorem dX2_strike_52 : decode cX2_strike 52 = .ok (.goto (-41), 3) := by decide +kernel
theorem dX2_strike_55 : decode cX2_strike 55 = .ok (.iload 4, 2) := by decide +kernel
theorem dX2_strike_57 : decode cX2_strike 57 = .ok (.istore 5, 2) := by decide +kernel
theorem dX2_strike_59 : decode cX2_strike 59 = .ok (.iload 5, 2) := by decide +kernel
theorem dX2_strike_61 : decode cX2_strike 61 = .ok (.bipush 10, 2) := by decide +kernel
theorem dX2_strike_63 : decode cX2_strike 63 = .ok (.if_icmp .ge 20, 3) := by decide +kernel
theorem dX2_strike_66 : decode cX2_strike 66 = .ok (.aload_n 0, 1) := by decide +kernel
theorem dX2_strike_67 : decode cX2_strike 67 = .ok (.getfield 9, 3) := by decide +kernel
theorem dX2_strike_70 : decode cX2_strike 70 = .ok (.iload_n 3, 1) := by decide +kernel
theorem dX2_strike_71 : decode cX2_strike 71 = .ok (.iload 5, 2) := by decide +kernel
theorem dX2_strike_73 : decode cX2_strike 73 = .ok (.iadd, 1) := by decide +kernel
theorem dX2_strike_74 : decode cX2_strike 74 = .ok (.bipush (-9), 2) := by decide +kernel
theorem dX2_strike_76 : decode cX2_strike 76 = .ok (.iastore, 1) := by decide +kernel
theorem dX2_strike_77 : decode cX2_strike 77 = .ok (.iinc 5 1, 3) := by decide +kernel
theorem dX2_strike_80 : decode cX2_strike 80 = .ok (.goto (-21), 3) := by decide +kernel
theorem dX2_strike_83 : decode cX2_strike 83 = .ok (.return_, 1) := by decide +kernel
theorem dX2_firstAmong_0 : decode cX2_firstAmong 0 = .ok (.iconst 0, 1) := by decide +kernel
theorem dX2_firstAmong_1 : decode cX2_firstAmong 1 = .ok (.istore_n 3, 1) := by decide +kernel
theorem dX2_firstAmong_2 : decode cX2_firstAmong 2 = .ok (.iload_n 3, 1) := by decide +kernel
theorem dX2_firstAmong_3 : decode cX2_firstAmong 3 = .ok (.bipush 10, 2) := by decide +kernel
theorem dX2_firstAmong_5 : decode cX2_firstAmong 5 = .ok (.if_icmp .ge 36, 3) := by decide +kernel
theorem dX2_firstAmong_8 : decode cX2_firstAmong 8 = .ok (.aload_n 0, 1) := by decide +kernel
theorem dX2_firstAmong_9 : decode cX2_firstAmong 9 = .ok (.iload_n 2, 1) := by decide +kernel
theorem dX2_firstAmong_10 : decode cX2_firstAmong 10 = .ok (.iload_n 3, 1) := by decide +kernel
theorem dX2_firstAmong_11 : decode cX2_firstAmong 11 = .ok (.invokevirtual 41, 3) := by decide +kernel
theorem dX2_firstAmong_14 : decode cX2_firstAmong 14 = .ok (.istore 4, 2) := by decide +kernel
theorem dX2_firstAmong_16 : decode cX2_firstAmong 16 = .ok (.iload 4, 2) := by decide +kernel
theorem dX2_firstAmong_18 : decode cX2_firstAmong 18 = .ok (.bipush (-9), 2) := by decide +kernel
theorem dX2_firstAmong_20 : decode cX2_firstAmong 20 = .ok (.if_icmp .eq 15, 3) := by decide +kernel
theorem dX2_firstAmong_23 : decode cX2_firstAmong 23 = .ok (.iload_n 1, 1) := by decide +kernel
theorem dX2_firstAmong_24 : decode cX2_firstAmong 24 = .ok (.iload 4, 2) := by decide +kernel
theorem dX2_firstAmong_26 : decode cX2_firstAmong 26 = .ok (.invokestatic 51, 3) := by decide +kernel
theorem dX2_firstAmong_29 : decode cX2_firstAmong 29 = .ok (.ifCond .eq 6, 3) := by decide +kernel
theorem dX2_firstAmong_32 : decode cX2_firstAmong 32 = .ok (.iload 4, 2) := by decide +kernel
theorem dX2_firstAmong_34 : decode cX2_firstAmong 34 = .ok (.ireturn, 1) := by decide +kernel
theorem dX2_firstAmong_35 : decode cX2_firstAmong 35 = .ok (.iinc 3 1, 3) := by decide +kernel
theorem dX2_firstAmong_38 : decode cX2_firstAmong 38 = .ok (.goto (-36), 3) := by decide +kernel
theorem dX2_firstAmong_41 : decode cX2_firstAmong 41 = .ok (.bipush (-9), 2) := by decide +kernel
theorem dX2_firstAmong_43 : decode cX2_firstAmong 43 = .ok (.ireturn, 1) := by decide +kernel
theorem dX3_init_0 : decode cX3_init 0 = .ok (.aload_n 0, 1) := by decide +kernel
theorem dX3_init_1 : decode cX3_init 1 = .ok (.invokespecial 3, 3) := by decide +kernel
theorem dX3_init_4 : decode cX3_init 4 = .ok (.aload_n 0, 1) := by decide +kernel
theorem dX3_init_5 : decode cX3_init 5 = .ok (.iconst 5, 1) := by decide +kernel
theorem dX3_init_6 : decode cX3_init 6 = .ok (.anewarray 9, 3) := by decide +kernel
theorem dX3_init_9 : decode cX3_init 9 = .ok (.putfield 11, 3) := by decide +kernel
theorem dX3_init_12 : decode cX3_init 12 = .ok (.iconst 0, 1) := by decide +kernel
theorem dX3_init_13 : decode cX3_init 13 = .ok (.istore_n 1, 1) := by decide +kernel
theorem dX3_init_14 : decode cX3_init 14 = .ok (.iload_n 1, 1) := by decide +kernel
theorem dX3_init_15 : decode cX3_init 15 = .ok (.iconst 5, 1) := by decide +kernel
theorem dX3_init_16 : decode cX3_init 16 = .ok (.if_icmp .ge 22, 3) := by decide +kernel
theorem dX3_init_19 : decode cX3_init 19 = .ok (.aload_n 0, 1) := by decide +kernel
theorem dX3_init_20 : decode cX3_init 20 = .ok (.getfield 11, 3) := by decide +kernel
theorem dX3_init_23 : decode cX3_init 23 = .ok (.iload_n 1, 1) := by decide +kernel
theorem dX3_init_24 : decode cX3_init 24 = .ok (.new 9, 3) := by decide +kernel
theorem dX3_init_27 : decode cX3_init 27 = .ok (.dup, 1) := by decide +kernel
theorem dX3_init_28 : decode cX3_init 28 = .ok (.invokespecial 17, 3) := by decide +kernel
theorem dX3_init_31 : decode cX3_init 31 = .ok (.aastore, 1) := by decide +kernel
theorem dX3_init_32 : decode cX3_init 32 = .ok (.iinc 1 1, 3) := by decide +kernel
theorem dX3_init_35 : decode cX3_init 35 = .ok (.goto (-21), 3) := by decide +kernel
theorem dX3_init_38 : decode cX3_init 38 = .ok (.return_, 1) := by decide +kernel
theorem dX3_keep_0 : decode cX3_keep 0 = .ok (.aload_n 0, 1) := by decide +kernel
theorem dX3_keep_1 : decode cX3_keep 1 = .ok (.getfield 11, 3) := by decide +kernel
theorem dX3_keep_4 : decode cX3_keep 4 = .ok (.aload_n 0, 1) := by decide +kernel
theorem dX3_keep_5 : decode cX3_keep 5 = .ok (.getfield 18, 3) := by decide +kernel
theorem dX3_keep_8 : decode cX3_keep 8 = .ok (.aaload, 1) := by decide +kernel
theorem dX3_keep_9 : decode cX3_keep 9 = .ok (.aload_n 1, 1) := by decide +kernel
theorem dX3_keep_10 : decode cX3_keep 10 = .ok (.invokevirtual 22, 3) := by decide +kernel
theorem dX3_keep_13 : decode cX3_keep 13 = .ok (.aload_n 0, 1) := by decide +kernel
theorem dX3_keep_14 : decode cX3_keep 14 = .ok (.aload_n 0, 1) := by decide +kernel
theorem dX3_keep_15 : decode cX3_keep 15 = .ok (.getfield 18, 3) := by decide +kernel
theorem dX3_keep_18 : decode cX3_keep 18 = .ok (.iconst 1, 1) := by decide +kernel
theorem dX3_keep_19 : decode cX3_keep 19 = .ok (.iadd, 1) := by decide +kernel
theorem dX3_keep_20 : decode cX3_keep 20 = .ok (.iconst 5, 1) := by decide +kernel
theorem dX3_keep_21 : decode cX3_keep 21 = .ok (.irem, 1) := by decide +kernel
theorem dX3_keep_22 : decode cX3_keep 22 = .ok (.putfield 18, 3) := by decide +kernel
theorem dX3_keep_25 : decode cX3_keep 25 = .ok (.aload_n 0, 1) := by decide +kernel
theorem dX3_keep_26 : decode cX3_keep 26 = .ok (.aload_n 0, 1) := by decide +kernel
theorem dX3_keep_27 : decode cX3_keep 27 = .ok (.getfield 26, 3) := by decide +kernel
theorem dX3_keep_30 : decode cX3_keep 30 = .ok (.iconst 1, 1) := by decide +kernel
theorem dX3_keep_31 : decode cX3_keep 31 = .ok (.iadd, 1) := by decide +kernel
theorem dX3_keep_32 : decode cX3_keep 32 = .ok (.iconst 5, 1) := by decide +kernel
theorem dX3_keep_33 : decode cX3_keep 33 = .ok (.invokestatic 29, 3) := by decide +kernel
theorem dX3_keep_36 : decode cX3_keep 36 = .ok (.putfield 26, 3) := by decide +kernel
theorem dX3_keep_39 : decode cX3_keep 39 = .ok (.return_, 1) := by decide +kernel
theorem dX3_restore_0 : decode cX3_restore 0 = .ok (.aload_n 0, 1) := by decide +kernel
theorem dX3_restore_1 : decode cX3_restore 1 = .ok (.aload_n 0, 1) := by decide +kernel
theorem dX3_restore_2 : decode cX3_restore 2 = .ok (.getfield 18, 3) := by decide +kernel
theorem dX3_restore_5 : decode cX3_restore 5 = .ok (.iconst 5, 1) := by decide +kernel
theorem dX3_restore_6 : decode cX3_restore 6 = .ok (.iadd, 1) := by decide +kernel
theorem dX3_restore_7 : decode cX3_restore 7 = .ok (.iconst 1, 1) := by decide +kernel
theorem dX3_restore_8 : decode cX3_restore 8 = .ok (.isub, 1) := by decide +kernel
theorem dX3_restore_9 : decode cX3_restore 9 = .ok (.iconst 5, 1) := by decide +kernel
theorem dX3_restore_10 : decode cX3_restore 10 = .ok (.irem, 1) := by decide +kernel
theorem dX3_restore_11 : decode cX3_restore 11 = .ok (.putfield 18, 3) := by decide +kernel
theorem dX3_restore_14 : decode cX3_restore 14 = .ok (.aload_n 1, 1) := by decide +kernel
theorem dX3_restore_15 : decode cX3_restore 15 = .ok (.aload_n 0, 1) := by decide +kernel
theorem dX3_restore_16 : decode cX3_restore 16 = .ok (.getfield 11, 3) := by decide +kernel
theorem dX3_restore_19 : decode cX3_restore 19 = .ok (.aload_n 0, 1) := by decide +kernel
theorem dX3_restore_20 : decode cX3_restore 20 = .ok (.getfield 18, 3) := by decide +kernel
theorem dX3_restore_23 : decode cX3_restore 23 = .ok (.aaload, 1) := by decide +kernel
theorem dX3_restore_24 : decode cX3_restore 24 = .ok (.invokevirtual 22, 3) := by decide +kernel
theorem dX3_restore_27 : decode cX3_restore 27 = .ok (.aload_n 0, 1) := by decide +kernel
theorem dX3_restore_28 : decode cX3_restore 28 = .ok (.dup, 1) := by decide +kernel
theorem dX3_restore_29 : decode cX3_restore 29 = .ok (.getfield 26, 3) := by decide +kernel
theorem dX3_restore_32 : decode cX3_restore 32 = .ok (.iconst 1, 1) := by decide +kernel
theorem dX3_restore_33 : decode cX3_restore 33 = .ok (.isub, 1) := by decide +kernel
theorem dX3_restore_34 : decode cX3_restore 34 = .ok (.putfield 26, 3) := by decide +kernel
theorem dX3_restore_37 : decode cX3_restore 37 = .ok (.return_, 1) := by decide +kernel
theorem dX4_init_0 : decode cX4_init 0 = .ok (.aload_n 0, 1) := by decide +kernel
theorem dX4_init_1 : decode cX4_init 1 = .ok (.invokespecial 3, 3) := by decide +kernel
theorem dX4_init_4 : decode cX4_init 4 = .ok (.aload_n 0, 1) := by decide +kernel
theorem dX4_init_5 : decode cX4_init 5 = .ok (.bipush 100, 2) := by decide +kernel
theorem dX4_init_7 : decode cX4_init 7 = .ok (.newarray .int, 2) := by decide +kernel
theorem dX4_init_9 : decode cX4_init 9 = .ok (.putfield 9, 3) := by decide +kernel
theorem dX4_init_12 : decode cX4_init 12 = .ok (.return_, 1) := by decide +kernel
theorem dX4_copy_0 : decode cX4_copy 0 = .ok (.aload_n 0, 1) := by decide +kernel
theorem dX4_copy_1 : decode cX4_copy 1 = .ok (.aload_n 1, 1) := by decide +kernel
theorem dX4_copy_2 : decode cX4_copy 2 = .ok (.getfield 15, 3) := by decide +kernel
theorem dX4_copy_5 : decode cX4_copy 5 = .ok (.putfield 15, 3) := by decide +kernel
theorem dX4_copy_8 : decode cX4_copy 8 = .ok (.aload_n 1, 1) := by decide +kernel
theorem dX4_copy_9 : decode cX4_copy 9 = .ok (.getfield 9, 3) := by decide +kernel
theorem dX4_copy_12 : decode cX4_copy 12 = .ok (.iconst 0, 1) := by decide +kernel
theorem dX4_copy_13 : decode cX4_copy 13 = .ok (.aload_n 0, 1) := by decide +kernel
theorem dX4_copy_14 : decode cX4_copy 14 = .ok (.getfield 9, 3) := by decide +kernel
theorem dX4_copy_17 : decode cX4_copy 17 = .ok (.iconst 0, 1) := by decide +kernel
theorem dX4_copy_18 : decode cX4_copy 18 = .ok (.aload_n 0, 1) := by decide +kernel
theorem dX4_copy_19 : decode cX4_copy 19 = .ok (.getfield 9, 3) := by decide +kernel
theorem dX4_copy_22 : decode cX4_copy 22 = .ok (.arraylength, 1) := by decide +kernel
theorem dX4_copy_23 : decode cX4_copy 23 = .ok (.invokestatic 19, 3) := by decide +kernel
theorem dX4_copy_26 : decode cX4_copy 26 = .ok (.return_, 1) := by decide +kernel
theorem dX4_votesFor_0 : decode cX4_votesFor 0 = .ok (.aload_n 0, 1) := by decide +kernel
theorem dX4_votesFor_1 : decode cX4_votesFor 1 = .ok (.getfield 9, 3) := by decide +kernel
theorem dX4_votesFor_4 : decode cX4_votesFor 4 = .ok (.iload_n 2, 1) := by decide +kernel
theorem dX4_votesFor_5 : decode cX4_votesFor 5 = .ok (.bipush 10, 2) := by decide +kernel
theorem dX4_votesFor_7 : decode cX4_votesFor 7 = .ok (.imul, 1) := by decide +kernel
theorem dX4_votesFor_8 : decode cX4_votesFor 8 = .ok (.iload_n 1, 1) := by decide +kernel
theorem dX4_votesFor_9 : decode cX4_votesFor 9 = .ok (.iadd, 1) := by decide +kernel
theorem dX4_votesFor_10 : decode cX4_votesFor 10 = .ok (.iaload, 1) := by decide +kernel
theorem dX4_votesFor_11 : decode cX4_votesFor 11 = .ok (.ireturn, 1) := by decide +kernel
theorem dX4_count_0 : decode cX4_count 0 = .ok (.iload_n 1, 1) := by decide +kernel
theorem dX4_count_1 : decode cX4_count 1 = .ok (.bipush 10, 2) := by decide +kernel
theorem dX4_count_3 : decode cX4_count 3 = .ok (.imul, 1) := by decide +kernel
theorem dX4_count_4 : decode cX4_count 4 = .ok (.istore 4, 2) := by decide +kernel
theorem dX4_count_6 : decode cX4_count 6 = .ok (.iconst 0, 1) := by decide +kernel
theorem dX4_count_7 : decode cX4_count 7 = .ok (.istore 5, 2) := by decide +kernel
theorem dX4_count_9 : decode cX4_count 9 = .ok (.iload 5, 2) := by decide +kernel
theorem dX4_count_11 : decode cX4_count 11 = .ok (.bipush 10, 2) := by decide +kernel
theorem dX4_count_13 : decode cX4_count 13 = .ok (.if_icmp .ge 34, 3) := by decide +kernel
theorem dX4_count_16 : decode cX4_count 16 = .ok (.aload_n 0, 1) := by decide +kernel
theorem dX4_count_17 : decode cX4_count 17 = .ok (.getfield 9, 3) := by decide +kernel
theorem dX4_count_20 : decode cX4_count 20 = .ok (.iload 4, 2) := by decide +kernel
theorem dX4_count_22 : decode cX4_count 22 = .ok (.iload 5, 2) := by decide +kernel
theorem dX4_count_24 : decode cX4_count 24 = .ok (.iadd, 1) := by decide +kernel
theorem dX4_count_25 : decode cX4_count 25 = .ok (.iload_n 2, 1) := by decide +kernel
theorem dX4_count_26 : decode cX4_count 26 = .ok (.iload 5, 2) := by decide +kernel
theorem dX4_count_28 : decode cX4_count 28 = .ok (.invokestatic 25, 3) := by decide +kernel
theorem dX4_count_31 : decode cX4_count 31 = .ok (.ifCond .eq 7, 3) := by decide +kernel
theorem dX4_count_34 : decode cX4_count 34 = .ok (.iconst 0, 1) := by decide +kernel
theorem dX4_count_35 : decode cX4_count 35 = .ok (.goto 5, 3) := by decide +kernel
theorem dX4_count_38 : decode cX4_count 38 = .ok (.bipush (-9), 2) := by decide +kernel
theorem dX4_count_40 : decode cX4_count 40 = .ok (.iastore, 1) := by decide +kernel
theorem dX4_count_41 : decode cX4_count 41 = .ok (.iinc 5 1, 3) := by decide +kernel
theorem dX4_count_44 : decode cX4_count 44 = .ok (.goto (-35), 3) := by decide +kernel
theorem dX4_count_47 : decode cX4_count 47 = .ok (.iconst 0, 1) := by decide +kernel
theorem dX4_count_48 : decode cX4_count 48 = .ok (.istore 5, 2) := by decide +kernel
theorem dX4_count_50 : decode cX4_count 50 = .ok (.iload 5, 2) := by decide +kernel
theorem dX4_count_52 : decode cX4_count 52 = .ok (.bipush 10, 2) := by decide +kernel
theorem dX4_count_54 : decode cX4_count 54 = .ok (.if_icmp .ge 44, 3) := by decide +kernel
theorem dX4_count_57 : decode cX4_count 57 = .ok (.aload_n 3, 1) := by decide +kernel
theorem dX4_count_58 : decode cX4_count 58 = .ok (.iload_n 2, 1) := by decide +kernel
theorem dX4_count_59 : decode cX4_count 59 = .ok (.iload 5, 2) := by decide +kernel
theorem dX4_count_61 : decode cX4_count 61 = .ok (.invokevirtual 29, 3) := by decide +kernel
theorem dX4_count_64 : decode cX4_count 64 = .ok (.istore 6, 2) := by decide +kernel
theorem dX4_count_66 : decode cX4_count 66 = .ok (.iload 6, 2) := by decide +kernel
theorem dX4_count_68 : decode cX4_count 68 = .ok (.ifCond .lt 24, 3) := by decide +kernel
theorem dX4_count_71 : decode cX4_count 71 = .ok (.iload 6, 2) := by decide +kernel
theorem dX4_count_73 : decode cX4_count 73 = .ok (.bipush 10, 2) := by decide +kernel
theorem dX4_count_75 : decode cX4_count 75 = .ok (.if_icmp .ge 17, 3) := by decide +kernel
theorem dX4_count_78 : decode cX4_count 78 = .ok (.aload_n 0, 1) := by decide +kernel
theorem dX4_count_79 : decode cX4_count 79 = .ok (.getfield 9, 3) := by decide +kernel
theorem dX4_count_82 : decode cX4_count 82 = .ok (.iload 4, 2) := by decide +kernel
theorem dX4_count_84 : decode cX4_count 84 = .ok (.iload 6, 2) := by decide +kernel
theorem dX4_count_86 : decode cX4_count 86 = .ok (.iadd, 1) := by decide +kernel
theorem dX4_count_87 : decode cX4_count 87 = .ok (.dup2, 1) := by decide +kernel
theorem dX4_count_88 : decode cX4_count 88 = .ok (.iaload, 1) := by decide +kernel
theorem dX4_count_89 : decode cX4_count 89 = .ok (.iconst 1, 1) := by decide +kernel
theorem dX4_count_90 : decode cX4_count 90 = .ok (.iadd, 1) := by decide +kernel
theorem dX4_count_91 : decode cX4_count 91 = .ok (.iastore, 1) := by decide +kernel
theorem dX4_count_92 : decode cX4_count 92 = .ok (.iinc 5 1, 3) := by decide +kernel
theorem dX4_count_95 : decode cX4_count 95 = .ok (.goto (-45), 3) := by decide +kernel
theorem dX4_count_98 : decode cX4_count 98 = .ok (.aload_n 0, 1) := by decide +kernel
theorem dX4_count_99 : decode cX4_count 99 = .ok (.iload_n 1, 1) := by decide +kernel
theorem dX4_count_100 : decode cX4_count 100 = .ok (.iconst 1, 1) := by decide +kernel
theorem dX4_count_101 : decode cX4_count 101 = .ok (.iadd, 1) := by decide +kernel
theorem dX4_count_102 : decode cX4_count 102 = .ok (.putfield 15, 3) := by decide +kernel
theorem dX4_count_105 : decode cX4_count 105 = .ok (.return_, 1) := by decide +kernel
theorem dX4_winner_0 : decode cX4_winner 0 = .ok (.iload_n 2, 1) := by decide +kernel
theorem dX4_winner_1 : decode cX4_winner 1 = .ok (.invokestatic 35, 3) := by decide +kernel
theorem dX4_winner_4 : decode cX4_winner 4 = .ok (.iconst 1, 1) := by decide +kernel
theorem dX4_winner_5 : decode cX4_winner 5 = .ok (.if_icmp .ne 7, 3) := by decide +kernel
theorem dX4_winner_8 : decode cX4_winner 8 = .ok (.iconst 1, 1) := by decide +kernel
theorem dX4_winner_9 : decode cX4_winner 9 = .ok (.goto 4, 3) := by decide +kernel
theorem dX4_winner_12 : decode cX4_winner 12 = .ok (.iconst 0, 1) := by decide +kernel
theorem dX4_winner_13 : decode cX4_winner 13 = .ok (.istore_n 3, 1) := by decide +kernel
theorem dX4_winner_14 : decode cX4_winner 14 = .ok (.aload_n 0, 1) := by decide +kernel
theorem dX4_winner_15 : decode cX4_winner 15 = .ok (.iload_n 1, 1) := by decide +kernel
theorem dX4_winner_16 : decode cX4_winner 16 = .ok (.iload_n 2, 1) := by decide +kernel
theorem dX4_winner_17 : decode cX4_winner 17 = .ok (.invokevirtual 41, 3) := by decide +kernel
theorem dX4_winner_20 : decode cX4_winner 20 = .ok (.istore 4, 2) := by decide +kernel
theorem dX4_winner_22 : decode cX4_winner 22 = .ok (.iconst 0, 1) := by decide +kernel
theorem dX4_winner_23 : decode cX4_winner 23 = .ok (.istore 5, 2) := by decide +kernel
theorem dX4_winner_25 : decode cX4_winner 25 = .ok (.iload 5, 2) := by decide +kernel
theorem dX4_winner_27 : decode cX4_winner 27 = .ok (.bipush 10, 2) := by decide +kernel
theorem dX4_winner_29 : decode cX4_winner 29 = .ok (.if_icmp .ge 39, 3) := by decide +kernel
theorem dX4_winner_32 : decode cX4_winner 32 = .ok (.iload_n 2, 1) := by decide +kernel
theorem dX4_winner_33 : decode cX4_winner 33 = .ok (.iload 5, 2) := by decide +kernel
theorem dX4_winner_35 : decode cX4_winner 35 = .ok (.invokestatic 25, 3) := by decide +kernel
theorem dX4_winner_38 : decode cX4_winner 38 = .ok (.ifCond .eq 24, 3) := by decide +kernel
theorem dX4_winner_41 : decode cX4_winner 41 = .ok (.iload_n 3, 1) := by decide +kernel
theorem dX4_winner_42 : decode cX4_winner 42 = .ok (.ifCond .ne 17, 3) := by decide +kernel
theorem dX4_winner_45 : decode cX4_winner 45 = .ok (.iconst 2, 1) := by decide +kernel
theorem dX4_winner_46 : decode cX4_winner 46 = .ok (.aload_n 0, 1) := by decide +kernel
theorem dX4_winner_47 : decode cX4_winner 47 = .ok (.iload 5, 2) := by decide +kernel
theorem dX4_winner_49 : decode cX4_winner 49 = .ok (.iload_n 1, 1) := by decide +kernel
theorem dX4_winner_50 : decode cX4_winner 50 = .ok (.invokevirtual 44, 3) := by decide +kernel
theorem dX4_winner_53 : decode cX4_winner 53 = .ok (.imul, 1) := by decide +kernel
theorem dX4_winner_54 : decode cX4_winner 54 = .ok (.iload 4, 2) := by decide +kernel
theorem dX4_winner_56 : decode cX4_winner 56 = .ok (.if_icmp .le 6, 3) := by decide +kernel
theorem dX4_winner_59 : decode cX4_winner 59 = .ok (.iload 5, 2) := by decide +kernel
theorem dX4_winner_61 : decode cX4_winner 61 = .ok (.ireturn, 1) := by decide +kernel
theorem dX4_winner_62 : decode cX4_winner 62 = .ok (.iinc 5 1, 3) := by decide +kernel
theorem dX4_winner_65 : decode cX4_winner 65 = .ok (.goto (-40), 3) := by decide +kernel
theorem dX4_winner_68 : decode cX4_winner 68 = .ok (.bipush (-9), 2) := by decide +kernel
theorem dX4_winner_70 : decode cX4_winner 70 = .ok (.ireturn, 1) := by decide +kernel
theorem dX4_countAll_0 : decode cX4_countAll 0 = .ok (.iconst 0, 1) := by decide +kernel
theorem dX4_countAll_1 : decode cX4_countAll 1 = .ok (.istore_n 3, 1) := by decide +kernel
theorem dX4_countAll_2 : decode cX4_countAll 2 = .ok (.iconst 0, 1) := by decide +kernel
theorem dX4_countAll_3 : decode cX4_countAll 3 = .ok (.istore 4, 2) := by decide +kernel
theorem dX4_countAll_5 : decode cX4_countAll 5 = .ok (.iload 4, 2) := by decide +kernel
theorem dX4_countAll_7 : decode cX4_countAll 7 = .ok (.bipush 10, 2) := by decide +kernel
theorem dX4_countAll_9 : decode cX4_countAll 9 = .ok (.if_icmp .ge 28, 3) := by decide +kernel
theorem dX4_countAll_12 : decode cX4_countAll 12 = .ok (.iload_n 2, 1) := by decide +kernel
theorem dX4_countAll_13 : decode cX4_countAll 13 = .ok (.iload 4, 2) := by decide +kernel
theorem dX4_countAll_15 : decode cX4_countAll 15 = .ok (.invokestatic 25, 3) := by decide +kernel
theorem dX4_countAll_18 : decode cX4_countAll 18 = .ok (.ifCond .eq 13, 3) := by decide +kernel
theorem dX4_countAll_21 : decode cX4_countAll 21 = .ok (.iload_n 3, 1) := by decide +kernel
theorem dX4_countAll_22 : decode cX4_countAll 22 = .ok (.aload_n 0, 1) := by decide +kernel
theorem dX4_countAll_23 : decode cX4_countAll 23 = .ok (.iload 4, 2) := by decide +kernel
theorem dX4_countAll_25 : decode cX4_countAll 25 = .ok (.iload_n 1, 1) := by decide +kernel
theorem dX4_countAll_26 : decode cX4_countAll 26 = .ok (.invokevirtual 44, 3) := by decide +kernel
theorem dX4_countAll_29 : decode cX4_countAll 29 = .ok (.iadd, 1) := by decide +kernel
theorem dX4_countAll_30 : decode cX4_countAll 30 = .ok (.istore_n 3, 1) := by decide +kernel
theorem dX4_countAll_31 : decode cX4_countAll 31 = .ok (.iinc 4 1, 3) := by decide +kernel
theorem dX4_countAll_34 : decode cX4_countAll 34 = .ok (.goto (-29), 3) := by decide +kernel
theorem dX4_countAll_37 : decode cX4_countAll 37 = .ok (.iload_n 3, 1) := by decide +kernel
theorem dX4_countAll_38 : decode cX4_countAll 38 = .ok (.ireturn, 1) := by decide +kernel
theorem dX5_init_0 : decode cX5_init 0 = .ok (.aload_n 0, 1) := by decide +kernel
theorem dX5_init_1 : decode cX5_init 1 = .ok (.invokespecial 3, 3) := by decide +kernel
theorem dX5_init_4 : decode cX5_init 4 = .ok (.aload_n 0, 1) := by decide +kernel
theorem dX5_init_5 : decode cX5_init 5 = .ok (.bipush 6, 2) := by decide +kernel
theorem dX5_init_7 : decode cX5_init 7 = .ok (.newarray .int, 2) := by decide +kernel
theorem dX5_init_9 : decode cX5_init 9 = .ok (.putfield 9, 3) := by decide +kernel
theorem dX5_init_12 : decode cX5_init 12 = .ok (.aload_n 0, 1) := by decide +kernel
theorem dX5_init_13 : decode cX5_init 13 = .ok (.bipush 10, 2) := by decide +kernel
theorem dX5_init_15 : decode cX5_init 15 = .ok (.newarray .int, 2) := by decide +kernel
theorem dX5_init_17 : decode cX5_init 17 = .ok (.putfield 15, 3) := by decide +kernel
theorem dX5_init_20 : decode cX5_init 20 = .ok (.aload_n 0, 1) := by decide +kernel
theorem dX5_init_21 : decode cX5_init 21 = .ok (.iconst 0, 1) := by decide +kernel
theorem dX5_init_22 : decode cX5_init 22 = .ok (.putfield 18, 3) := by decide +kernel
theorem dX5_init_25 : decode cX5_init 25 = .ok (.aload_n 0, 1) := by decide +kernel
theorem dX5_init_26 : decode cX5_init 26 = .ok (.bipush (-9), 2) := by decide +kernel
theorem dX5_init_28 : decode cX5_init 28 = .ok (.putfield 22, 3) := by decide +kernel
theorem dX5_init_31 : decode cX5_init 31 = .ok (.aload_n 0, 1) := by decide +kernel
theorem dX5_init_32 : decode cX5_init 32 = .ok (.new 25, 3) := by decide +kernel
theorem dX5_init_35 : decode cX5_init 35 = .ok (.dup, 1) := by decide +kernel
theorem dX5_init_36 : decode cX5_init 36 = .ok (.invokespecial 27, 3) := by decide +kernel
theorem dX5_init_39 : decode cX5_init 39 = .ok (.putfield 28, 3) := by decide +kernel
theorem dX5_init_42 : decode cX5_init 42 = .ok (.aload_n 0, 1) := by decide +kernel
theorem dX5_init_43 : decode cX5_init 43 = .ok (.new 32, 3) := by decide +kernel
theorem dX5_init_46 : decode cX5_init 46 = .ok (.dup, 1) := by decide +kernel
theorem dX5_init_47 : decode cX5_init 47 = .ok (.invokespecial 34, 3) := by decide +kernel
theorem dX5_init_50 : decode cX5_init 50 = .ok (.putfield 35, 3) := by decide +kernel
theorem dX5_init_53 : decode cX5_init 53 = .ok (.aload_n 0, 1) := by decide +kernel
theorem dX5_init_54 : decode cX5_init 54 = .ok (.new 39, 3) := by decide +kernel
theorem dX5_init_57 : decode cX5_init 57 = .ok (.dup, 1) := by decide +kernel
theorem dX5_init_58 : decode cX5_init 58 = .ok (.invokespecial 41, 3) := by decide +kernel
theorem dX5_init_61 : decode cX5_init 61 = .ok (.putfield 42, 3) := by decide +kernel
theorem dX5_init_64 : decode cX5_init 64 = .ok (.aload_n 0, 1) := by decide +kernel
theorem dX5_init_65 : decode cX5_init 65 = .ok (.new 46, 3) := by decide +kernel
theorem dX5_init_68 : decode cX5_init 68 = .ok (.dup, 1) := by decide +kernel
theorem dX5_init_69 : decode cX5_init 69 = .ok (.invokespecial 48, 3) := by decide +kernel
theorem dX5_init_72 : decode cX5_init 72 = .ok (.putfield 49, 3) := by decide +kernel
theorem dX5_init_75 : decode cX5_init 75 = .ok (.getstatic 53, 3) := by decide +kernel
theorem dX5_init_78 : decode cX5_init 78 = .ok (.iconst 0, 1) := by decide +kernel
theorem dX5_init_79 : decode cX5_init 79 = .ok (.aload_n 0, 1) := by decide +kernel
theorem dX5_init_80 : decode cX5_init 80 = .ok (.getfield 9, 3) := by decide +kernel
theorem dX5_init_83 : decode cX5_init 83 = .ok (.iconst 0, 1) := by decide +kernel
theorem dX5_init_84 : decode cX5_init 84 = .ok (.bipush 6, 2) := by decide +kernel
theorem dX5_init_86 : decode cX5_init 86 = .ok (.invokestatic 56, 3) := by decide +kernel
theorem dX5_init_89 : decode cX5_init 89 = .ok (.return_, 1) := by decide +kernel
theorem dX5_copy_0 : decode cX5_copy 0 = .ok (.aload_n 1, 1) := by decide +kernel
theorem dX5_copy_1 : decode cX5_copy 1 = .ok (.getfield 9, 3) := by decide +kernel
theorem dX5_copy_4 : decode cX5_copy 4 = .ok (.iconst 0, 1) := by decide +kernel
theorem dX5_copy_5 : decode cX5_copy 5 = .ok (.aload_n 0, 1) := by decide +kernel
theorem dX5_copy_6 : decode cX5_copy 6 = .ok (.getfield 9, 3) := by decide +kernel
theorem dX5_copy_9 : decode cX5_copy 9 = .ok (.iconst 0, 1) := by decide +kernel
theorem dX5_copy_10 : decode cX5_copy 10 = .ok (.bipush 6, 2) := by decide +kernel
theorem dX5_copy_12 : decode cX5_copy 12 = .ok (.invokestatic 56, 3) := by decide +kernel
theorem dX5_copy_15 : decode cX5_copy 15 = .ok (.aload_n 0, 1) := by decide +kernel
theorem dX5_copy_16 : decode cX5_copy 16 = .ok (.aload_n 1, 1) := by decide +kernel
theorem dX5_copy_17 : decode cX5_copy 17 = .ok (.getfield 62, 3) := by decide +kernel
theorem dX5_copy_20 : decode cX5_copy 20 = .ok (.putfield 62, 3) := by decide +kernel
theorem dX5_copy_23 : decode cX5_copy 23 = .ok (.aload_n 0, 1) := by decide +kernel
theorem dX5_copy_24 : decode cX5_copy 24 = .ok (.aload_n 1, 1) := by decide +kernel
theorem dX5_copy_25 : decode cX5_copy 25 = .ok (.getfield 65, 3) := by decide +kernel
theorem dX5_copy_28 : decode cX5_copy 28 = .ok (.putfield 65, 3) := by decide +kernel
theorem dX5_copy_31 : decode cX5_copy 31 = .ok (.aload_n 1, 1) := by decide +kernel
theorem dX5_copy_32 : decode cX5_copy 32 = .ok (.getfield 15, 3) := by decide +kernel
theorem dX5_copy_35 : decode cX5_copy 35 = .ok (.iconst 0, 1) := by decide +kernel
theorem dX5_copy_36 : decode cX5_copy 36 = .ok (.aload_n 0, 1) := by decide +kernel
theorem dX5_copy_37 : decode cX5_copy 37 = .ok (.getfield 15, 3) := by decide +kernel
theorem dX5_copy_40 : decode cX5_copy 40 = .ok (.iconst 0, 1) := by decide +kernel
theorem dX5_copy_41 : decode cX5_copy 41 = .ok (.bipush 10, 2) := by decide +kernel
theorem dX5_copy_43 : decode cX5_copy 43 = .ok (.invokestatic 56, 3) := by decide +kernel
theorem dX5_copy_46 : decode cX5_copy 46 = .ok (.aload_n 0, 1) := by decide +kernel
theorem dX5_copy_47 : decode cX5_copy 47 = .ok (.aload_n 1, 1) := by decide +kernel
theorem dX5_copy_48 : decode cX5_copy 48 = .ok (.getfield 68, 3) := by decide +kernel
theorem dX5_copy_51 : decode cX5_copy 51 = .ok (.putfield 68, 3) := by decide +kernel
theorem dX5_copy_54 : decode cX5_copy 54 = .ok (.aload_n 0, 1) := by decide +kernel
theorem dX5_copy_55 : decode cX5_copy 55 = .ok (.aload_n 1, 1) := by decide +kernel
theorem dX5_copy_56 : decode cX5_copy 56 = .ok (.getfield 71, 3) := by decide +kernel
theorem dX5_copy_59 : decode cX5_copy 59 = .ok (.putfield 71, 3) := by decide +kernel
theorem dX5_copy_62 : decode cX5_copy 62 = .ok (.aload_n 0, 1) := by decide +kernel
theorem dX5_copy_63 : decode cX5_copy 63 = .ok (.aload_n 1, 1) := by decide +kernel
theorem dX5_copy_64 : decode cX5_copy 64 = .ok (.getfield 18, 3) := by decide +kernel
theorem dX5_copy_67 : decode cX5_copy 67 = .ok (.putfield 18, 3) := by decide +kernel
theorem dX5_copy_70 : decode cX5_copy 70 = .ok (.aload_n 0, 1) := by decide +kernel
theorem dX5_copy_71 : decode cX5_copy 71 = .ok (.aload_n 1, 1) := by decide +kernel
theorem dX5_copy_72 : decode cX5_copy 72 = .ok (.getfield 22, 3) := by decide +kernel
theorem dX5_copy_75 : decode cX5_copy 75 = .ok (.putfield 22, 3) := by decide +kernel
theorem dX5_copy_78 : decode cX5_copy 78 = .ok (.aload_n 0, 1) := by decide +kernel
theorem dX5_copy_79 : decode cX5_copy 79 = .ok (.getfield 28, 3) := by decide +kernel
theorem dX5_copy_82 : decode cX5_copy 82 = .ok (.aload_n 1, 1) := by decide +kernel
theorem dX5_copy_83 : decode cX5_copy 83 = .ok (.getfield 28, 3) := by decide +kernel
theorem dX5_copy_86 : decode cX5_copy 86 = .ok (.invokevirtual 74, 3) := by decide +kernel
theorem dX5_copy_89 : decode cX5_copy 89 = .ok (.aload_n 0, 1) := by decide +kernel
theorem dX5_copy_90 : decode cX5_copy 90 = .ok (.getfield 35, 3) := by decide +kernel
theorem dX5_copy_93 : decode cX5_copy 93 = .ok (.aload_n 1, 1) := by decide +kernel
theorem dX5_copy_94 : decode cX5_copy 94 = .ok (.getfield 35, 3) := by decide +kernel
theorem dX5_copy_97 : decode cX5_copy 97 = .ok (.invokevirtual 78, 3) := by decide +kernel
theorem dX5_copy_100 : decode cX5_copy 100 = .ok (.aload_n 0, 1) := by decide +kernel
theorem dX5_copy_101 : decode cX5_copy 101 = .ok (.getfield 42, 3) := by decide +kernel
theorem dX5_copy_104 : decode cX5_copy 104 = .ok (.aload_n 1, 1) := by decide +kernel
theorem dX5_copy_105 : decode cX5_copy 105 = .ok (.getfield 42, 3) := by decide +kernel
theorem dX5_copy_108 : decode cX5_copy 108 = .ok (.invokevirtual 81, 3) := by decide +kernel
theorem dX5_copy_111 : decode cX5_copy 111 = .ok (.aload_n 0, 1) := by decide +kernel
theorem dX5_copy_112 : decode cX5_copy 112 = .ok (.getfield 49, 3) := by decide +kernel
theorem dX5_copy_115 : decode cX5_copy 115 = .ok (.aload_n 1, 1) := by decide +kernel
theorem dX5_copy_116 : decode cX5_copy 116 = .ok (.getfield 49, 3) := by decide +kernel
theorem dX5_copy_119 : decode cX5_copy 119 = .ok (.invokevirtual 84, 3) := by decide +kernel
theorem dX5_copy_122 : decode cX5_copy 122 = .ok (.return_, 1) := by decide +kernel
theorem dX5_isMember_0 : decode cX5_isMember 0 = .ok (.iload_n 1, 1) := by decide +kernel
theorem dX5_isMember_1 : decode cX5_isMember 1 = .ok (.ifCond .lt 15, 3) := by decide +kernel
theorem dX5_isMember_4 : decode cX5_isMember 4 = .ok (.iload_n 1, 1) := by decide +kernel
theorem dX5_isMember_5 : decode cX5_isMember 5 = .ok (.aload_n 0, 1) := by decide +kernel
theorem dX5_isMember_6 : decode cX5_isMember 6 = .ok (.getfield 65, 3) := by decide +kernel
theorem dX5_isMember_9 : decode cX5_isMember 9 = .ok (.if_icmp .ge 7, 3) := by decide +kernel
theorem dX5_isMember_12 : decode cX5_isMember 12 = .ok (.iconst 1, 1) := by decide +kernel
theorem dX5_isMember_13 : decode cX5_isMember 13 = .ok (.goto 4, 3) := by decide +kernel
theorem dX5_isMember_16 : decode cX5_isMember 16 = .ok (.iconst 0, 1) := by decide +kernel
theorem dX5_isMember_17 : decode cX5_isMember 17 = .ok (.ireturn, 1) := by decide +kernel
theorem dX5_isPresent_0 : decode cX5_isPresent 0 = .ok (.aload_n 0, 1) := by decide +kernel
theorem dX5_isPresent_1 : decode cX5_isPresent 1 = .ok (.getfield 68, 3) := by decide +kernel
theorem dX5_isPresent_4 : decode cX5_isPresent 4 = .ok (.iload_n 1, 1) := by decide +kernel
theorem dX5_isPresent_5 : decode cX5_isPresent 5 = .ok (.invokestatic 87, 3) := by decide +kernel
theorem dX5_isPresent_8 : decode cX5_isPresent 8 = .ok (.ireturn, 1) := by decide +kernel
theorem dX5_admit_0 : decode cX5_admit 0 = .ok (.aload_n 0, 1) := by decide +kernel
theorem dX5_admit_1 : decode cX5_admit 1 = .ok (.getfield 65, 3) := by decide +kernel
theorem dX5_admit_4 : decode cX5_admit 4 = .ok (.istore_n 2, 1) := by decide +kernel
theorem dX5_admit_5 : decode cX5_admit 5 = .ok (.aload_n 0, 1) := by decide +kernel
theorem dX5_admit_6 : decode cX5_admit 6 = .ok (.getfield 15, 3) := by decide +kernel
theorem dX5_admit_9 : decode cX5_admit 9 = .ok (.iload_n 2, 1) := by decide +kernel
theorem dX5_admit_10 : decode cX5_admit 10 = .ok (.iload_n 1, 1) := by decide +kernel
theorem dX5_admit_11 : decode cX5_admit 11 = .ok (.iastore, 1) := by decide +kernel
theorem dX5_admit_12 : decode cX5_admit 12 = .ok (.aload_n 0, 1) := by decide +kernel
theorem dX5_admit_13 : decode cX5_admit 13 = .ok (.dup, 1) := by decide +kernel
theorem dX5_admit_14 : decode cX5_admit 14 = .ok (.getfield 65, 3) := by decide +kernel
theorem dX5_admit_17 : decode cX5_admit 17 = .ok (.iconst 1, 1) := by decide +kernel
theorem dX5_admit_18 : decode cX5_admit 18 = .ok (.iadd, 1) := by decide +kernel
theorem dX5_admit_19 : decode cX5_admit 19 = .ok (.putfield 65, 3) := by decide +kernel
theorem dX5_admit_22 : decode cX5_admit 22 = .ok (.aload_n 0, 1) := by decide +kernel
theorem dX5_admit_23 : decode cX5_admit 23 = .ok (.dup, 1) := by decide +kernel
theorem dX5_admit_24 : decode cX5_admit 24 = .ok (.getfield 68, 3) := by decide +kernel
theorem dX5_admit_27 : decode cX5_admit 27 = .ok (.iload_n 2, 1) := by decide +kernel
theorem dX5_admit_28 : decode cX5_admit 28 = .ok (.invokestatic 91, 3) := by decide +kernel
theorem dX5_admit_31 : decode cX5_admit 31 = .ok (.ior, 1) := by decide +kernel
theorem dX5_admit_32 : decode cX5_admit 32 = .ok (.putfield 68, 3) := by decide +kernel
theorem dX5_admit_35 : decode cX5_admit 35 = .ok (.iload_n 2, 1) := by decide +kernel
theorem dX5_admit_36 : decode cX5_admit 36 = .ok (.ireturn, 1) := by decide +kernel
theorem dX5_leave_0 : decode cX5_leave 0 = .ok (.aload_n 0, 1) := by decide +kernel
theorem dX5_leave_1 : decode cX5_leave 1 = .ok (.dup, 1) := by decide +kernel
theorem dX5_leave_2 : decode cX5_leave 2 = .ok (.getfield 68, 3) := by decide +kernel
theorem dX5_leave_5 : decode cX5_leave 5 = .ok (.iload_n 1, 1) := by decide +kernel
theorem dX5_leave_6 : decode cX5_leave 6 = .ok (.invokestatic 91, 3) := by decide +kernel
theorem dX5_leave_9 : decode cX5_leave 9 = .ok (.iconst (-1), 1) := by decide +kernel
theorem dX5_leave_10 : decode cX5_leave 10 = .ok (.ixor, 1) := by decide +kernel
theorem dX5_leave_11 : decode cX5_leave 11 = .ok (.iand, 1) := by decide +kernel
theorem dX5_leave_12 : decode cX5_leave 12 = .ok (.putfield 68, 3) := by decide +kernel
theorem dX5_leave_15 : decode cX5_leave 15 = .ok (.aload_n 0, 1) := by decide +kernel
theorem dX5_leave_16 : decode cX5_leave 16 = .ok (.getfield 28, 3) := by decide +kernel
theorem dX5_leave_19 : decode cX5_leave 19 = .ok (.iload_n 1, 1) := by decide +kernel
theorem dX5_leave_20 : decode cX5_leave 20 = .ok (.invokevirtual 95, 3) := by decide +kernel
theorem dX5_leave_23 : decode cX5_leave 23 = .ok (.iload_n 1, 1) := by decide +kernel
theorem dX5_leave_24 : decode cX5_leave 24 = .ok (.aload_n 0, 1) := by decide +kernel
theorem dX5_leave_25 : decode cX5_leave 25 = .ok (.getfield 22, 3) := by decide +kernel
theorem dX5_leave_28 : decode cX5_leave 28 = .ok (.if_icmp .ne 25, 3) := by decide +kernel
theorem dX5_leave_31 : decode cX5_leave 31 = .ok (.aload_n 0, 1) := by decide +kernel
theorem dX5_leave_32 : decode cX5_leave 32 = .ok (.getfield 18, 3) := by decide +kernel
theorem dX5_leave_35 : decode cX5_leave 35 = .ok (.iconst 2, 1) := by decide +kernel
theorem dX5_leave_36 : decode cX5_leave 36 = .ok (.if_icmp .ne 11, 3) := by decide +kernel
theorem dX5_leave_39 : decode cX5_leave 39 = .ok (.aload_n 0, 1) := by decide +kernel
theorem dX5_leave_40 : decode cX5_leave 40 = .ok (.iconst 4, 1) := by decide +kernel
theorem dX5_leave_41 : decode cX5_leave 41 = .ok (.invokevirtual 99, 3) := by decide +kernel
theorem dX5_leave_44 : decode cX5_leave 44 = .ok (.goto 9, 3) := by decide +kernel
theorem dX5_leave_47 : decode cX5_leave 47 = .ok (.aload_n 0, 1) := by decide +kernel
theorem dX5_leave_48 : decode cX5_leave 48 = .ok (.bipush (-9), 2) := by decide +kernel
theorem dX5_leave_50 : decode cX5_leave 50 = .ok (.invokevirtual 102, 3) := by decide +kernel
theorem dX5_leave_53 : decode cX5_leave 53 = .ok (.return_, 1) := by decide +kernel
theorem dX5_advance_0 : decode cX5_advance 0 = .ok (.aload_n 0, 1) := by decide +kernel
theorem dX5_advance_1 : decode cX5_advance 1 = .ok (.getfield 62, 3) := by decide +kernel
theorem dX5_advance_4 : decode cX5_advance 4 = .ok (.iload_n 1, 1) := by decide +kernel
theorem dX5_advance_5 : decode cX5_advance 5 = .ok (.iadd, 1) := by decide +kernel
theorem dX5_advance_6 : decode cX5_advance 6 = .ok (.istore_n 2, 1) := by decide +kernel
theorem dX5_advance_7 : decode cX5_advance 7 = .ok (.aload_n 0, 1) := by decide +kernel
theorem dX5_advance_8 : decode cX5_advance 8 = .ok (.getfield 18, 3) := by decide +kernel
theorem dX5_advance_11 : decode cX5_advance 11 = .ok (.iconst 2, 1) := by decide +kernel
theorem dX5_advance_12 : decode cX5_advance 12 = .ok (.if_icmp .ne 30, 3) := by decide +kernel
theorem dX5_advance_15 : decode cX5_advance 15 = .ok (.aload_n 0, 1) := by decide +kernel
theorem dX5_advance_16 : decode cX5_advance 16 = .ok (.getfield 42, 3) := by decide +kernel
theorem dX5_advance_19 : decode cX5_advance 19 = .ok (.invokevirtual 105, 3) := by decide +kernel
theorem dX5_advance_22 : decode cX5_advance 22 = .ok (.iload_n 2, 1) := by decide +kernel
theorem dX5_advance_23 : decode cX5_advance 23 = .ok (.if_icmp .gt 19, 3) := by decide +kernel
theorem dX5_advance_26 : decode cX5_advance 26 = .ok (.aload_n 0, 1) := by decide +kernel
theorem dX5_advance_27 : decode cX5_advance 27 = .ok (.aload_n 0, 1) := by decide +kernel
theorem dX5_advance_28 : decode cX5_advance 28 = .ok (.getfield 42, 3) := by decide +kernel
theorem dX5_advance_31 : decode cX5_advance 31 = .ok (.invokevirtual 105, 3) := by decide +kernel
theorem dX5_advance_34 : decode cX5_advance 34 = .ok (.putfield 62, 3) := by decide +kernel
theorem dX5_advance_37 : decode cX5_advance 37 = .ok (.aload_n 0, 1) := by decide +kernel
theorem dX5_advance_38 : decode cX5_advance 38 = .ok (.iconst 2, 1) := by decide +kernel
theorem dX5_advance_39 : decode cX5_advance 39 = .ok (.invokevirtual 99, 3) := by decide +kernel
theorem dX5_advance_42 : decode cX5_advance 42 = .ok (.aload_n 0, 1) := by decide +kernel
theorem dX5_advance_43 : decode cX5_advance 43 = .ok (.iload_n 2, 1) := by decide +kernel
theorem dX5_advance_44 : decode cX5_advance 44 = .ok (.putfield 62, 3) := by decide +kernel
theorem dX5_advance_47 : decode cX5_advance 47 = .ok (.return_, 1) := by decide +kernel
theorem dX5_countSignatures_0 : decode cX5_countSignatures 0 = .ok (.aload_n 0, 1) := by decide +kernel
theorem dX5_countSignatures_1 : decode cX5_countSignatures 1 = .ok (.getfield 71, 3) := by decide +kernel
theorem dX5_countSignatures_4 : decode cX5_countSignatures 4 = .ok (.aload_n 0, 1) := by decide +kernel
theorem dX5_countSignatures_5 : decode cX5_countSignatures 5 = .ok (.getfield 68, 3) := by decide +kernel
theorem dX5_countSignatures_8 : decode cX5_countSignatures 8 = .ok (.iand, 1) := by decide +kernel
theorem dX5_countSignatures_9 : decode cX5_countSignatures 9 = .ok (.invokestatic 109, 3) := by decide +kernel
theorem dX5_countSignatures_12 : decode cX5_countSignatures 12 = .ok (.ireturn, 1) := by decide +kernel
theorem dX5_lookAtPetition_0 : decode cX5_lookAtPetition 0 = .ok (.aload_n 0, 1) := by decide +kernel
theorem dX5_lookAtPetition_1 : decode cX5_lookAtPetition 1 = .ok (.getfield 18, 3) := by decide +kernel
theorem dX5_lookAtPetition_4 : decode cX5_lookAtPetition 4 = .ok (.iconst 2, 1) := by decide +kernel
theorem dX5_lookAtPetition_5 : decode cX5_lookAtPetition 5 = .ok (.if_icmp .eq 4, 3) := by decide +kernel
theorem dX5_lookAtPetition_8 : decode cX5_lookAtPetition 8 = .ok (.return_, 1) := by decide +kernel
theorem dX5_lookAtPetition_9 : decode cX5_lookAtPetition 9 = .ok (.aload_n 0, 1) := by decide +kernel
theorem dX5_lookAtPetition_10 : decode cX5_lookAtPetition 10 = .ok (.invokevirtual 114, 3) := by decide +kernel
theorem dX5_lookAtPetition_13 : decode cX5_lookAtPetition 13 = .ok (.istore_n 1, 1) := by decide +kernel
theorem dX5_lookAtPetition_14 : decode cX5_lookAtPetition 14 = .ok (.aload_n 0, 1) := by decide +kernel
theorem dX5_lookAtPetition_15 : decode cX5_lookAtPetition 15 = .ok (.getfield 68, 3) := by decide +kernel
theorem dX5_lookAtPetition_18 : decode cX5_lookAtPetition 18 = .ok (.aload_n 0, 1) := by decide +kernel
theorem dX5_lookAtPetition_19 : decode cX5_lookAtPetition 19 = .ok (.getfield 22, 3) := by decide +kernel
theorem dX5_lookAtPetition_22 : decode cX5_lookAtPetition 22 = .ok (.invokestatic 91, 3) := by decide +kernel
theorem dX5_lookAtPetition_25 : decode cX5_lookAtPetition 25 = .ok (.iconst (-1), 1) := by decide +kernel
theorem dX5_lookAtPetition_26 : decode cX5_lookAtPetition 26 = .ok (.ixor, 1) := by decide +kernel
theorem dX5_lookAtPetition_27 : decode cX5_lookAtPetition 27 = .ok (.iand, 1) := by decide +kernel
theorem dX5_lookAtPetition_28 : decode cX5_lookAtPetition 28 = .ok (.invokestatic 109, 3) := by decide +kernel
theorem dX5_lookAtPetition_31 : decode cX5_lookAtPetition 31 = .ok (.istore_n 2, 1) := by decide +kernel
theorem dX5_lookAtPetition_32 : decode cX5_lookAtPetition 32 = .ok (.iload_n 1, 1) := by decide +kernel
theorem dX5_lookAtPetition_33 : decode cX5_lookAtPetition 33 = .ok (.ifCond .le 23, 3) := by decide +kernel
theorem dX5_lookAtPetition_36 : decode cX5_lookAtPetition 36 = .ok (.bipush 100, 2) := by decide +kernel
theorem dX5_lookAtPetition_38 : decode cX5_lookAtPetition 38 = .ok (.iload_n 1, 1) := by decide +kernel
theorem dX5_lookAtPetition_39 : decode cX5_lookAtPetition 39 = .ok (.imul, 1) := by decide +kernel
theorem dX5_lookAtPetition_40 : decode cX5_lookAtPetition 40 = .ok (.aload_n 0, 1) := by decide +kernel
theorem dX5_lookAtPetition_41 : decode cX5_lookAtPetition 41 = .ok (.getfield 9, 3) := by decide +kernel
theorem dX5_lookAtPetition_44 : decode cX5_lookAtPetition 44 = .ok (.iconst 3, 1) := by decide +kernel
theorem dX5_lookAtPetition_45 : decode cX5_lookAtPetition 45 = .ok (.iaload, 1) := by decide +kernel
theorem dX5_lookAtPetition_46 : decode cX5_lookAtPetition 46 = .ok (.iload_n 2, 1) := by decide +kernel
theorem dX5_lookAtPetition_47 : decode cX5_lookAtPetition 47 = .ok (.imul, 1) := by decide +kernel
theorem dX5_lookAtPetition_48 : decode cX5_lookAtPetition 48 = .ok (.if_icmp .lt 8, 3) := by decide +kernel
theorem dX5_lookAtPetition_51 : decode cX5_lookAtPetition 51 = .ok (.aload_n 0, 1) := by decide +kernel
theorem dX5_lookAtPetition_52 : decode cX5_lookAtPetition 52 = .ok (.iconst 3, 1) := by decide +kernel
theorem dX5_lookAtPetition_53 : decode cX5_lookAtPetition 53 = .ok (.invokevirtual 99, 3) := by decide +kernel
theorem dX5_lookAtPetition_56 : decode cX5_lookAtPetition 56 = .ok (.return_, 1) := by decide +kernel
theorem dX5_beginTerm_0 : decode cX5_beginTerm 0 = .ok (.aload_n 0, 1) := by decide +kernel
theorem dX5_beginTerm_1 : decode cX5_beginTerm 1 = .ok (.getfield 42, 3) := by decide +kernel
theorem dX5_beginTerm_4 : decode cX5_beginTerm 4 = .ok (.iload_n 1, 1) := by decide +kernel
theorem dX5_beginTerm_5 : decode cX5_beginTerm 5 = .ok (.aload_n 0, 1) := by decide +kernel
theorem dX5_beginTerm_6 : decode cX5_beginTerm 6 = .ok (.getfield 62, 3) := by decide +kernel
theorem dX5_beginTerm_9 : decode cX5_beginTerm 9 = .ok (.aload_n 0, 1) := by decide +kernel
theorem dX5_beginTerm_10 : decode cX5_beginTerm 10 = .ok (.getfield 9, 3) := by decide +kernel
theorem dX5_beginTerm_13 : decode cX5_beginTerm 13 = .ok (.iconst 0, 1) := by decide +kernel
theorem dX5_beginTerm_14 : decode cX5_beginTerm 14 = .ok (.iaload, 1) := by decide +kernel
theorem dX5_beginTerm_15 : decode cX5_beginTerm 15 = .ok (.aload_n 0, 1) := by decide +kernel
theorem dX5_beginTerm_16 : decode cX5_beginTerm 16 = .ok (.getfield 68, 3) := by decide +kernel
theorem dX5_beginTerm_19 : decode cX5_beginTerm 19 = .ok (.invokevirtual 117, 3) := by decide +kernel
theorem dX5_beginTerm_22 : decode cX5_beginTerm 22 = .ok (.aload_n 0, 1) := by decide +kernel
theorem dX5_beginTerm_23 : decode cX5_beginTerm 23 = .ok (.iconst 2, 1) := by decide +kernel
theorem dX5_beginTerm_24 : decode cX5_beginTerm 24 = .ok (.putfield 18, 3) := by decide +kernel
theorem dX5_beginTerm_27 : decode cX5_beginTerm 27 = .ok (.aload_n 0, 1) := by decide +kernel
theorem dX5_beginTerm_28 : decode cX5_beginTerm 28 = .ok (.iload_n 1, 1) := by decide +kernel
theorem dX5_beginTerm_29 : decode cX5_beginTerm 29 = .ok (.putfield 22, 3) := by decide +kernel
theorem dX5_beginTerm_32 : decode cX5_beginTerm 32 = .ok (.aload_n 0, 1) := by decide +kernel
theorem dX5_beginTerm_33 : decode cX5_beginTerm 33 = .ok (.getfield 49, 3) := by decide +kernel
theorem dX5_beginTerm_36 : decode cX5_beginTerm 36 = .ok (.aload_n 0, 1) := by decide +kernel
theorem dX5_beginTerm_37 : decode cX5_beginTerm 37 = .ok (.getfield 62, 3) := by decide +kernel
theorem dX5_beginTerm_40 : decode cX5_beginTerm 40 = .ok (.iconst 1, 1) := by decide +kernel
theorem dX5_beginTerm_41 : decode cX5_beginTerm 41 = .ok (.iload_n 1, 1) := by decide +kernel
theorem dX5_beginTerm_42 : decode cX5_beginTerm 42 = .ok (.invokevirtual 121, 3) := by decide +kernel
theorem dX5_beginTerm_45 : decode cX5_beginTerm 45 = .ok (.return_, 1) := by decide +kernel
theorem dX5_endTerm_0 : decode cX5_endTerm 0 = .ok (.aload_n 0, 1) := by decide +kernel
theorem dX5_endTerm_1 : decode cX5_endTerm 1 = .ok (.getfield 22, 3) := by decide +kernel
theorem dX5_endTerm_4 : decode cX5_endTerm 4 = .ok (.istore_n 2, 1) := by decide +kernel
theorem dX5_endTerm_5 : decode cX5_endTerm 5 = .ok (.aload_n 0, 1) := by decide +kernel
theorem dX5_endTerm_6 : decode cX5_endTerm 6 = .ok (.getfield 42, 3) := by decide +kernel
theorem dX5_endTerm_9 : decode cX5_endTerm 9 = .ok (.aload_n 0, 1) := by decide +kernel
theorem dX5_endTerm_10 : decode cX5_endTerm 10 = .ok (.getfield 62, 3) := by decide +kernel
theorem dX5_endTerm_13 : decode cX5_endTerm 13 = .ok (.iload_n 1, 1) := by decide +kernel
theorem dX5_endTerm_14 : decode cX5_endTerm 14 = .ok (.iconst 3, 1) := by decide +kernel
theorem dX5_endTerm_15 : decode cX5_endTerm 15 = .ok (.if_icmp .ne 7, 3) := by decide +kernel
theorem dX5_endTerm_18 : decode cX5_endTerm 18 = .ok (.iconst 1, 1) := by decide +kernel
theorem dX5_endTerm_19 : decode cX5_endTerm 19 = .ok (.goto 4, 3) := by decide +kernel
theorem dX5_endTerm_22 : decode cX5_endTerm 22 = .ok (.iconst 0, 1) := by decide +kernel
theorem dX5_endTerm_23 : decode cX5_endTerm 23 = .ok (.invokevirtual 125, 3) := by decide +kernel
theorem dX5_endTerm_26 : decode cX5_endTerm 26 = .ok (.aload_n 0, 1) := by decide +kernel
theorem dX5_endTerm_27 : decode cX5_endTerm 27 = .ok (.iconst 0, 1) := by decide +kernel
theorem dX5_endTerm_28 : decode cX5_endTerm 28 = .ok (.putfield 71, 3) := by decide +kernel
theorem dX5_endTerm_31 : decode cX5_endTerm 31 = .ok (.aload_n 0, 1) := by decide +kernel
theorem dX5_endTerm_32 : decode cX5_endTerm 32 = .ok (.getfield 49, 3) := by decide +kernel
theorem dX5_endTerm_35 : decode cX5_endTerm 35 = .ok (.aload_n 0, 1) := by decide +kernel
theorem dX5_endTerm_36 : decode cX5_endTerm 36 = .ok (.getfield 62, 3) := by decide +kernel
theorem dX5_endTerm_39 : decode cX5_endTerm 39 = .ok (.iload_n 1, 1) := by decide +kernel
theorem dX5_endTerm_40 : decode cX5_endTerm 40 = .ok (.iload_n 2, 1) := by decide +kernel
theorem dX5_endTerm_41 : decode cX5_endTerm 41 = .ok (.invokevirtual 121, 3) := by decide +kernel
theorem dX5_endTerm_44 : decode cX5_endTerm 44 = .ok (.aload_n 0, 1) := by decide +kernel
theorem dX5_endTerm_45 : decode cX5_endTerm 45 = .ok (.iload_n 2, 1) := by decide +kernel
theorem dX5_endTerm_46 : decode cX5_endTerm 46 = .ok (.invokevirtual 102, 3) := by decide +kernel
theorem dX5_endTerm_49 : decode cX5_endTerm 49 = .ok (.return_, 1) := by decide +kernel
theorem dX5_appointCaretaker_0 : decode cX5_appointCaretaker 0 = .ok (.aload_n 0, 1) := by decide +kernel
theorem dX5_appointCaretaker_1 : decode cX5_appointCaretaker 1 = .ok (.aload_n 0, 1) := by decide +kernel
theorem dX5_appointCaretaker_2 : decode cX5_appointCaretaker 2 = .ok (.iload_n 1, 1) := by decide +kernel
theorem dX5_appointCaretaker_3 : decode cX5_appointCaretaker 3 = .ok (.invokevirtual 129, 3) := by decide +kernel
theorem dX5_appointCaretaker_6 : decode cX5_appointCaretaker 6 = .ok (.putfield 22, 3) := by decide +kernel
theorem dX5_appointCaretaker_9 : decode cX5_appointCaretaker 9 = .ok (.aload_n 0, 1) := by decide +kernel
theorem dX5_appointCaretaker_10 : decode cX5_appointCaretaker 10 = .ok (.aload_n 0, 1) := by decide +kernel
theorem dX5_appointCaretaker_11 : decode cX5_appointCaretaker 11 = .ok (.getfield 22, 3) := by decide +kernel
theorem dX5_appointCaretaker_14 : decode cX5_appointCaretaker 14 = .ok (.bipush (-9), 2) := by decide +kernel
theorem dX5_appointCaretaker_16 : decode cX5_appointCaretaker 16 = .ok (.if_icmp .ne 7, 3) := by decide +kernel
theorem dX5_appointCaretaker_19 : decode cX5_appointCaretaker 19 = .ok (.iconst 0, 1) := by decide +kernel
theorem dX5_appointCaretaker_20 : decode cX5_appointCaretaker 20 = .ok (.goto 4, 3) := by decide +kernel
theorem dX5_appointCaretaker_23 : decode cX5_appointCaretaker 23 = .ok (.iconst 1, 1) := by decide +kernel
theorem dX5_appointCaretaker_24 : decode cX5_appointCaretaker 24 = .ok (.putfield 18, 3) := by decide +kernel
theorem dX5_appointCaretaker_27 : decode cX5_appointCaretaker 27 = .ok (.aload_n 0, 1) := by decide +kernel
theorem dX5_appointCaretaker_28 : decode cX5_appointCaretaker 28 = .ok (.getfield 49, 3) := by decide +kernel
theorem dX5_appointCaretaker_31 : decode cX5_appointCaretaker 31 = .ok (.aload_n 0, 1) := by decide +kernel
theorem dX5_appointCaretaker_32 : decode cX5_appointCaretaker 32 = .ok (.getfield 62, 3) := by decide +kernel
theorem dX5_appointCaretaker_35 : decode cX5_appointCaretaker 35 = .ok (.aload_n 0, 1) := by decide +kernel
theorem dX5_appointCaretaker_36 : decode cX5_appointCaretaker 36 = .ok (.getfield 22, 3) := by decide +kernel
theorem dX5_appointCaretaker_39 : decode cX5_appointCaretaker 39 = .ok (.bipush (-9), 2) := by decide +kernel
theorem dX5_appointCaretaker_41 : decode cX5_appointCaretaker 41 = .ok (.if_icmp .ne 8, 3) := by decide +kernel
theorem dX5_appointCaretaker_44 : decode cX5_appointCaretaker 44 = .ok (.bipush 7, 2) := by decide +kernel
theorem dX5_appointCaretaker_46 : decode cX5_appointCaretaker 46 = .ok (.goto 4, 3) := by decide +kernel
theorem dX5_appointCaretaker_49 : decode cX5_appointCaretaker 49 = .ok (.iconst 5, 1) := by decide +kernel
theorem dX5_appointCaretaker_50 : decode cX5_appointCaretaker 50 = .ok (.aload_n 0, 1) := by decide +kernel
theorem dX5_appointCaretaker_51 : decode cX5_appointCaretaker 51 = .ok (.getfield 22, 3) := by decide +kernel
theorem dX5_appointCaretaker_54 : decode cX5_appointCaretaker 54 = .ok (.invokevirtual 121, 3) := by decide +kernel
theorem dX5_appointCaretaker_57 : decode cX5_appointCaretaker 57 = .ok (.return_, 1) := by decide +kernel
theorem dX5_bestCaretaker_0 : decode cX5_bestCaretaker 0 = .ok (.bipush (-9), 2) := by decide +kernel
theorem dX5_bestCaretaker_2 : decode cX5_bestCaretaker 2 = .ok (.istore_n 2, 1) := by decide +kernel
theorem dX5_bestCaretaker_3 : decode cX5_bestCaretaker 3 = .ok (.iconst 0, 1) := by decide +kernel
theorem dX5_bestCaretaker_4 : decode cX5_bestCaretaker 4 = .ok (.istore_n 3, 1) := by decide +kernel
theorem dX5_bestCaretaker_5 : decode cX5_bestCaretaker 5 = .ok (.iconst 0, 1) := by decide +kernel
theorem dX5_bestCaretaker_6 : decode cX5_bestCaretaker 6 = .ok (.istore 4, 2) := by decide +kernel
theorem dX5_bestCaretaker_8 : decode cX5_bestCaretaker 8 = .ok (.iconst 0, 1) := by decide +kernel
theorem dX5_bestCaretaker_9 : decode cX5_bestCaretaker 9 = .ok (.istore 5, 2) := by decide +kernel
theorem dX5_bestCaretaker_11 : decode cX5_bestCaretaker 11 = .ok (.iload 5, 2) := by decide +kernel
theorem dX5_bestCaretaker_13 : decode cX5_bestCaretaker 13 = .ok (.bipush 10, 2) := by decide +kernel
theorem dX5_bestCaretaker_15 : decode cX5_bestCaretaker 15 = .ok (.if_icmp .ge 93, 3) := by decide +kernel
theorem dX5_bestCaretaker_18 : decode cX5_bestCaretaker 18 = .ok (.aload_n 0, 1) := by decide +kernel
theorem dX5_bestCaretaker_19 : decode cX5_bestCaretaker 19 = .ok (.getfield 68, 3) := by decide +kernel
theorem dX5_bestCaretaker_22 : decode cX5_bestCaretaker 22 = .ok (.iload 5, 2) := by decide +kernel
theorem dX5_bestCaretaker_24 : decode cX5_bestCaretaker 24 = .ok (.invokestatic 87, 3) := by decide +kernel
theorem dX5_bestCaretaker_27 : decode cX5_bestCaretaker 27 = .ok (.ifCond .eq 75, 3) := by decide +kernel
theorem dX5_bestCaretaker_30 : decode cX5_bestCaretaker 30 = .ok (.iload 5, 2) := by decide +kernel
theorem dX5_bestCaretaker_32 : decode cX5_bestCaretaker 32 = .ok (.iload_n 1, 1) := by decide +kernel
theorem dX5_bestCaretaker_33 : decode cX5_bestCaretaker 33 = .ok (.if_icmp .ne 6, 3) := by decide +kernel
theorem dX5_bestCaretaker_36 : decode cX5_bestCaretaker 36 = .ok (.goto 66, 3) := by decide +kernel
theorem dX5_bestCaretaker_39 : decode cX5_bestCaretaker 39 = .ok (.aload_n 0, 1) := by decide +kernel
theorem dX5_bestCaretaker_40 : decode cX5_bestCaretaker 40 = .ok (.getfield 42, 3) := by decide +kernel
theorem dX5_bestCaretaker_43 : decode cX5_bestCaretaker 43 = .ok (.iload 5, 2) := by decide +kernel
theorem dX5_bestCaretaker_45 : decode cX5_bestCaretaker 45 = .ok (.aload_n 0, 1) := by decide +kernel
theorem dX5_bestCaretaker_46 : decode cX5_bestCaretaker 46 = .ok (.getfield 9, 3) := by decide +kernel
theorem dX5_bestCaretaker_49 : decode cX5_bestCaretaker 49 = .ok (.iconst 5, 1) := by decide +kernel
theorem dX5_bestCaretaker_50 : decode cX5_bestCaretaker 50 = .ok (.iaload, 1) := by decide +kernel
theorem dX5_bestCaretaker_51 : decode cX5_bestCaretaker 51 = .ok (.invokevirtual 132, 3) := by decide +kernel
theorem dX5_bestCaretaker_54 : decode cX5_bestCaretaker 54 = .ok (.istore 6, 2) := by decide +kernel
theorem dX5_bestCaretaker_56 : decode cX5_bestCaretaker 56 = .ok (.aload_n 0, 1) := by decide +kernel
theorem dX5_bestCaretaker_57 : decode cX5_bestCaretaker 57 = .ok (.getfield 42, 3) := by decide +kernel
theorem dX5_bestCaretaker_60 : decode cX5_bestCaretaker 60 = .ok (.iload 5, 2) := by decide +kernel
theorem dX5_bestCaretaker_62 : decode cX5_bestCaretaker 62 = .ok (.invokevirtual 136, 3) := by decide +kernel
theorem dX5_bestCaretaker_65 : decode cX5_bestCaretaker 65 = .ok (.istore 7, 2) := by decide +kernel
theorem dX5_bestCaretaker_67 : decode cX5_bestCaretaker 67 = .ok (.iload_n 2, 1) := by decide +kernel
theorem dX5_bestCaretaker_68 : decode cX5_bestCaretaker 68 = .ok (.bipush (-9), 2) := by decide +kernel
theorem dX5_bestCaretaker_70 : decode cX5_bestCaretaker 70 = .ok (.if_icmp .eq 22, 3) := by decide +kernel
theorem dX5_bestCaretaker_73 : decode cX5_bestCaretaker 73 = .ok (.iload 6, 2) := by decide +kernel
theorem dX5_bestCaretaker_75 : decode cX5_bestCaretaker 75 = .ok (.iload_n 3, 1) := by decide +kernel
theorem dX5_bestCaretaker_76 : decode cX5_bestCaretaker 76 = .ok (.if_icmp .gt 16, 3) := by decide +kernel
theorem dX5_bestCaretaker_79 : decode cX5_bestCaretaker 79 = .ok (.iload 6, 2) := by decide +kernel
theorem dX5_bestCaretaker_81 : decode cX5_bestCaretaker 81 = .ok (.iload_n 3, 1) := by decide +kernel
theorem dX5_bestCaretaker_82 : decode cX5_bestCaretaker 82 = .ok (.if_icmp .ne 20, 3) := by decide +kernel
theorem dX5_bestCaretaker_85 : decode cX5_bestCaretaker 85 = .ok (.iload 7, 2) := by decide +kernel
theorem dX5_bestCaretaker_87 : decode cX5_bestCaretaker 87 = .ok (.iload 4, 2) := by decide +kernel
theorem dX5_bestCaretaker_89 : decode cX5_bestCaretaker 89 = .ok (.if_icmp .ge 13, 3) := by decide +kernel
theorem dX5_bestCaretaker_92 : decode cX5_bestCaretaker 92 = .ok (.iload 5, 2) := by decide +kernel
theorem dX5_bestCaretaker_94 : decode cX5_bestCaretaker 94 = .ok (.istore_n 2, 1) := by decide +kernel
theorem dX5_bestCaretaker_95 : decode cX5_bestCaretaker 95 = .ok (.iload 6, 2) := by decide +kernel
theorem dX5_bestCaretaker_97 : decode cX5_bestCaretaker 97 = .ok (.istore_n 3, 1) := by decide +kernel
theorem dX5_bestCaretaker_98 : decode cX5_bestCaretaker 98 = .ok (.iload 7, 2) := by decide +kernel
theorem dX5_bestCaretaker_100 : decode cX5_bestCaretaker 100 = .ok (.istore 4, 2) := by decide +kernel
theorem dX5_bestCaretaker_102 : decode cX5_bestCaretaker 102 = .ok (.iinc 5 1, 3) := by decide +kernel
theorem dX5_bestCaretaker_105 : decode cX5_bestCaretaker 105 = .ok (.goto (-94), 3) := by decide +kernel
theorem dX5_bestCaretaker_108 : decode cX5_bestCaretaker 108 = .ok (.iload_n 2, 1) := by decide +kernel
theorem dX5_bestCaretaker_109 : decode cX5_bestCaretaker 109 = .ok (.ireturn, 1) := by decide +kernel
theorem dX5_elect_0 : decode cX5_elect 0 = .ok (.aload_n 0, 1) := by decide +kernel
theorem dX5_elect_1 : decode cX5_elect 1 = .ok (.getfield 35, 3) := by decide +kernel
theorem dX5_elect_4 : decode cX5_elect 4 = .ok (.iconst 0, 1) := by decide +kernel
theorem dX5_elect_5 : decode cX5_elect 5 = .ok (.putfield 139, 3) := by decide +kernel
theorem dX5_elect_8 : decode cX5_elect 8 = .ok (.aload_n 0, 1) := by decide +kernel
theorem dX5_elect_9 : decode cX5_elect 9 = .ok (.invokevirtual 142, 3) := by decide +kernel
theorem dX5_elect_12 : decode cX5_elect 12 = .ok (.ifCond .eq 10, 3) := by decide +kernel
theorem dX5_elect_15 : decode cX5_elect 15 = .ok (.aload_n 0, 1) := by decide +kernel
theorem dX5_elect_16 : decode cX5_elect 16 = .ok (.invokevirtual 146, 3) := by decide +kernel
theorem dX5_elect_19 : decode cX5_elect 19 = .ok (.goto 5, 3) := by decide +kernel
theorem dX5_elect_22 : decode cX5_elect 22 = .ok (.bipush (-9), 2) := by decide +kernel
theorem dX5_elect_24 : decode cX5_elect 24 = .ok (.istore_n 1, 1) := by decide +kernel
theorem dX5_elect_25 : decode cX5_elect 25 = .ok (.aload_n 0, 1) := by decide +kernel
theorem dX5_elect_26 : decode cX5_elect 26 = .ok (.getfield 28, 3) := by decide +kernel
theorem dX5_elect_29 : decode cX5_elect 29 = .ok (.invokevirtual 149, 3) := by decide +kernel
theorem dX5_elect_32 : decode cX5_elect 32 = .ok (.iload_n 1, 1) := by decide +kernel
theorem dX5_elect_33 : decode cX5_elect 33 = .ok (.bipush (-9), 2) := by decide +kernel
theorem dX5_elect_35 : decode cX5_elect 35 = .ok (.if_icmp .ne 21, 3) := by decide +kernel
theorem dX5_elect_38 : decode cX5_elect 38 = .ok (.aload_n 0, 1) := by decide +kernel
theorem dX5_elect_39 : decode cX5_elect 39 = .ok (.getfield 49, 3) := by decide +kernel
theorem dX5_elect_42 : decode cX5_elect 42 = .ok (.aload_n 0, 1) := by decide +kernel
theorem dX5_elect_43 : decode cX5_elect 43 = .ok (.getfield 62, 3) := by decide +kernel
theorem dX5_elect_46 : decode cX5_elect 46 = .ok (.bipush 6, 2) := by decide +kernel
theorem dX5_elect_48 : decode cX5_elect 48 = .ok (.bipush (-9), 2) := by decide +kernel
theorem dX5_elect_50 : decode cX5_elect 50 = .ok (.invokevirtual 121, 3) := by decide +kernel
theorem dX5_elect_53 : decode cX5_elect 53 = .ok (.goto 8, 3) := by decide +kernel
theorem dX5_elect_56 : decode cX5_elect 56 = .ok (.aload_n 0, 1) := by decide +kernel
theorem dX5_elect_57 : decode cX5_elect 57 = .ok (.iload_n 1, 1) := by decide +kernel
theorem dX5_elect_58 : decode cX5_elect 58 = .ok (.invokevirtual 152, 3) := by decide +kernel
theorem dX5_elect_61 : decode cX5_elect 61 = .ok (.iload_n 1, 1) := by decide +kernel
theorem dX5_elect_62 : decode cX5_elect 62 = .ok (.ireturn, 1) := by decide +kernel
theorem dX5_hasQuorum_0 : decode cX5_hasQuorum 0 = .ok (.bipush 100, 2) := by decide +kernel
theorem dX5_hasQuorum_2 : decode cX5_hasQuorum 2 = .ok (.aload_n 0, 1) := by decide +kernel
theorem dX5_hasQuorum_3 : decode cX5_hasQuorum 3 = .ok (.getfield 28, 3) := by decide +kernel
theorem dX5_hasQuorum_6 : decode cX5_hasQuorum 6 = .ok (.invokevirtual 155, 3) := by decide +kernel
theorem dX5_hasQuorum_9 : decode cX5_hasQuorum 9 = .ok (.imul, 1) := by decide +kernel
theorem dX5_hasQuorum_10 : decode cX5_hasQuorum 10 = .ok (.aload_n 0, 1) := by decide +kernel
theorem dX5_hasQuorum_11 : decode cX5_hasQuorum 11 = .ok (.getfield 9, 3) := by decide +kernel
theorem dX5_hasQuorum_14 : decode cX5_hasQuorum 14 = .ok (.iconst 4, 1) := by decide +kernel
theorem dX5_hasQuorum_15 : decode cX5_hasQuorum 15 = .ok (.iaload, 1) := by decide +kernel
theorem dX5_hasQuorum_16 : decode cX5_hasQuorum 16 = .ok (.aload_n 0, 1) := by decide +kernel
theorem dX5_hasQuorum_17 : decode cX5_hasQuorum 17 = .ok (.getfield 68, 3) := by decide +kernel
theorem dX5_hasQuorum_20 : decode cX5_hasQuorum 20 = .ok (.invokestatic 109, 3) := by decide +kernel
theorem dX5_hasQuorum_23 : decode cX5_hasQuorum 23 = .ok (.imul, 1) := by decide +kernel
theorem dX5_hasQuorum_24 : decode cX5_hasQuorum 24 = .ok (.if_icmp .lt 7, 3) := by decide +kernel
theorem dX5_hasQuorum_27 : decode cX5_hasQuorum 27 = .ok (.iconst 1, 1) := by decide +kernel
theorem dX5_hasQuorum_28 : decode cX5_hasQuorum 28 = .ok (.goto 4, 3) := by decide +kernel
theorem dX5_hasQuorum_31 : decode cX5_hasQuorum 31 = .ok (.iconst 0, 1) := by decide +kernel
theorem dX5_hasQuorum_32 : decode cX5_hasQuorum 32 = .ok (.ireturn, 1) := by decide +kernel
theorem dX5_holdRounds_0 : decode cX5_holdRounds 0 = .ok (.aload_n 0, 1) := by decide +kernel
theorem dX5_holdRounds_1 : decode cX5_holdRounds 1 = .ok (.getfield 28, 3) := by decide +kernel
theorem dX5_holdRounds_4 : decode cX5_holdRounds 4 = .ok (.getfield 158, 3) := by decide +kernel
theorem dX5_holdRounds_7 : decode cX5_holdRounds 7 = .ok (.istore_n 1, 1) := by decide +kernel
theorem dX5_holdRounds_8 : decode cX5_holdRounds 8 = .ok (.iconst 0, 1) := by decide +kernel
theorem dX5_holdRounds_9 : decode cX5_holdRounds 9 = .ok (.istore_n 2, 1) := by decide +kernel
theorem dX5_holdRounds_10 : decode cX5_holdRounds 10 = .ok (.iload_n 2, 1) := by decide +kernel
theorem dX5_holdRounds_11 : decode cX5_holdRounds 11 = .ok (.bipush 10, 2) := by decide +kernel
theorem dX5_holdRounds_13 : decode cX5_holdRounds 13 = .ok (.if_icmp .ge 54, 3) := by decide +kernel
theorem dX5_holdRounds_16 : decode cX5_holdRounds 16 = .ok (.aload_n 0, 1) := by decide +kernel
theorem dX5_holdRounds_17 : decode cX5_holdRounds 17 = .ok (.getfield 35, 3) := by decide +kernel
theorem dX5_holdRounds_20 : decode cX5_holdRounds 20 = .ok (.iload_n 2, 1) := by decide +kernel
theorem dX5_holdRounds_21 : decode cX5_holdRounds 21 = .ok (.iload_n 1, 1) := by decide +kernel
theorem dX5_holdRounds_22 : decode cX5_holdRounds 22 = .ok (.aload_n 0, 1) := by decide +kernel
theorem dX5_holdRounds_23 : decode cX5_holdRounds 23 = .ok (.getfield 28, 3) := by decide +kernel
theorem dX5_holdRounds_26 : decode cX5_holdRounds 26 = .ok (.invokevirtual 161, 3) := by decide +kernel
theorem dX5_holdRounds_29 : decode cX5_holdRounds 29 = .ok (.aload_n 0, 1) := by decide +kernel
theorem dX5_holdRounds_30 : decode cX5_holdRounds 30 = .ok (.getfield 35, 3) := by decide +kernel
theorem dX5_holdRounds_33 : decode cX5_holdRounds 33 = .ok (.iload_n 2, 1) := by decide +kernel
theorem dX5_holdRounds_34 : decode cX5_holdRounds 34 = .ok (.iload_n 1, 1) := by decide +kernel
theorem dX5_holdRounds_35 : decode cX5_holdRounds 35 = .ok (.invokevirtual 165, 3) := by decide +kernel
theorem dX5_holdRounds_38 : decode cX5_holdRounds 38 = .ok (.istore_n 3, 1) := by decide +kernel
theorem dX5_holdRounds_39 : decode cX5_holdRounds 39 = .ok (.iload_n 3, 1) := by decide +kernel
theorem dX5_holdRounds_40 : decode cX5_holdRounds 40 = .ok (.bipush (-9), 2) := by decide +kernel
theorem dX5_holdRounds_42 : decode cX5_holdRounds 42 = .ok (.if_icmp .eq 5, 3) := by decide +kernel
theorem dX5_holdRounds_45 : decode cX5_holdRounds 45 = .ok (.iload_n 3, 1) := by decide +kernel
theorem dX5_holdRounds_46 : decode cX5_holdRounds 46 = .ok (.ireturn, 1) := by decide +kernel
theorem dX5_holdRounds_47 : decode cX5_holdRounds 47 = .ok (.iload_n 1, 1) := by decide +kernel
theorem dX5_holdRounds_48 : decode cX5_holdRounds 48 = .ok (.aload_n 0, 1) := by decide +kernel
theorem dX5_holdRounds_49 : decode cX5_holdRounds 49 = .ok (.iload_n 2, 1) := by decide +kernel
theorem dX5_holdRounds_50 : decode cX5_holdRounds 50 = .ok (.iload_n 1, 1) := by decide +kernel
theorem dX5_holdRounds_51 : decode cX5_holdRounds 51 = .ok (.invokevirtual 168, 3) := by decide +kernel
theorem dX5_holdRounds_54 : decode cX5_holdRounds 54 = .ok (.invokestatic 91, 3) := by decide +kernel
theorem dX5_holdRounds_57 : decode cX5_holdRounds 57 = .ok (.iconst (-1), 1) := by decide +kernel
theorem dX5_holdRounds_58 : decode cX5_holdRounds 58 = .ok (.ixor, 1) := by decide +kernel
theorem dX5_holdRounds_59 : decode cX5_holdRounds 59 = .ok (.iand, 1) := by decide +kernel
theorem dX5_holdRounds_60 : decode cX5_holdRounds 60 = .ok (.istore_n 1, 1) := by decide +kernel
theorem dX5_holdRounds_61 : decode cX5_holdRounds 61 = .ok (.iinc 2 1, 3) := by decide +kernel
theorem dX5_holdRounds_64 : decode cX5_holdRounds 64 = .ok (.goto (-54), 3) := by decide +kernel
theorem dX5_holdRounds_67 : decode cX5_holdRounds 67 = .ok (.bipush (-9), 2) := by decide +kernel
theorem dX5_holdRounds_69 : decode cX5_holdRounds 69 = .ok (.ireturn, 1) := by decide +kernel
theorem dX5_weakest_0 : decode cX5_weakest 0 = .ok (.bipush (-9), 2) := by decide +kernel
theorem dX5_weakest_2 : decode cX5_weakest 2 = .ok (.istore_n 3, 1) := by decide +kernel
theorem dX5_weakest_3 : decode cX5_weakest 3 = .ok (.iconst 0, 1) := by decide +kernel
theorem dX5_weakest_4 : decode cX5_weakest 4 = .ok (.istore 4, 2) := by decide +kernel
theorem dX5_weakest_6 : decode cX5_weakest 6 = .ok (.iload 4, 2) := by decide +kernel
theorem dX5_weakest_8 : decode cX5_weakest 8 = .ok (.bipush 10, 2) := by decide +kernel
theorem dX5_weakest_10 : decode cX5_weakest 10 = .ok (.if_icmp .ge 38, 3) := by decide +kernel
theorem dX5_weakest_13 : decode cX5_weakest 13 = .ok (.iload_n 2, 1) := by decide +kernel
theorem dX5_weakest_14 : decode cX5_weakest 14 = .ok (.iload 4, 2) := by decide +kernel
theorem dX5_weakest_16 : decode cX5_weakest 16 = .ok (.invokestatic 87, 3) := by decide +kernel
theorem dX5_weakest_19 : decode cX5_weakest 19 = .ok (.ifCond .eq 23, 3) := by decide +kernel
theorem dX5_weakest_22 : decode cX5_weakest 22 = .ok (.iload_n 3, 1) := by decide +kernel
theorem dX5_weakest_23 : decode cX5_weakest 23 = .ok (.bipush (-9), 2) := by decide +kernel
theorem dX5_weakest_25 : decode cX5_weakest 25 = .ok (.if_icmp .eq 14, 3) := by decide +kernel
theorem dX5_weakest_28 : decode cX5_weakest 28 = .ok (.aload_n 0, 1) := by decide +kernel
theorem dX5_weakest_29 : decode cX5_weakest 29 = .ok (.iload 4, 2) := by decide +kernel
theorem dX5_weakest_31 : decode cX5_weakest 31 = .ok (.iload_n 3, 1) := by decide +kernel
theorem dX5_weakest_32 : decode cX5_weakest 32 = .ok (.iload_n 1, 1) := by decide +kernel
theorem dX5_weakest_33 : decode cX5_weakest 33 = .ok (.invokevirtual 171, 3) := by decide +kernel
theorem dX5_weakest_36 : decode cX5_weakest 36 = .ok (.ifCond .eq 6, 3) := by decide +kernel
theorem dX5_weakest_39 : decode cX5_weakest 39 = .ok (.iload 4, 2) := by decide +kernel
theorem dX5_weakest_41 : decode cX5_weakest 41 = .ok (.istore_n 3, 1) := by decide +kernel
theorem dX5_weakest_42 : decode cX5_weakest 42 = .ok (.iinc 4 1, 3) := by decide +kernel
theorem dX5_weakest_45 : decode cX5_weakest 45 = .ok (.goto (-39), 3) := by decide +kernel
theorem dX5_weakest_48 : decode cX5_weakest 48 = .ok (.iload_n 3, 1) := by decide +kernel
theorem dX5_weakest_49 : decode cX5_weakest 49 = .ok (.ireturn, 1) := by decide +kernel
theorem dX5_leavesRather_0 : decode cX5_leavesRather 0 = .ok (.aload_n 0, 1) := by decide +kernel
theorem dX5_leavesRather_1 : decode cX5_leavesRather 1 = .ok (.getfield 9, 3) := by decide +kernel
theorem dX5_leavesRather_4 : decode cX5_leavesRather 4 = .ok (.iconst 5, 1) := by decide +kernel
theorem dX5_leavesRather_5 : decode cX5_leavesRather 5 = .ok (.iaload, 1) := by decide +kernel
theorem dX5_leavesRather_6 : decode cX5_leavesRather 6 = .ok (.istore 4, 2) := by decide +kernel
theorem dX5_leavesRather_8 : decode cX5_leavesRather 8 = .ok (.aload_n 0, 1) := by decide +kernel
theorem dX5_leavesRather_9 : decode cX5_leavesRather 9 = .ok (.getfield 35, 3) := by decide +kernel
theorem dX5_leavesRather_12 : decode cX5_leavesRather 12 = .ok (.iload_n 1, 1) := by decide +kernel
theorem dX5_leavesRather_13 : decode cX5_leavesRather 13 = .ok (.iload_n 3, 1) := by decide +kernel
theorem dX5_leavesRather_14 : decode cX5_leavesRather 14 = .ok (.invokevirtual 175, 3) := by decide +kernel
theorem dX5_leavesRather_17 : decode cX5_leavesRather 17 = .ok (.aload_n 0, 1) := by decide +kernel
theorem dX5_leavesRather_18 : decode cX5_leavesRather 18 = .ok (.getfield 35, 3) := by decide +kernel
theorem dX5_leavesRather_21 : decode cX5_leavesRather 21 = .ok (.iload_n 2, 1) := by decide +kernel
theorem dX5_leavesRather_22 : decode cX5_leavesRather 22 = .ok (.iload_n 3, 1) := by decide +kernel
theorem dX5_leavesRather_23 : decode cX5_leavesRather 23 = .ok (.invokevirtual 175, 3) := by decide +kernel
theorem dX5_leavesRather_26 : decode cX5_leavesRather 26 = .ok (.isub, 1) := by decide +kernel
theorem dX5_leavesRather_27 : decode cX5_leavesRather 27 = .ok (.istore 5, 2) := by decide +kernel
theorem dX5_leavesRather_29 : decode cX5_leavesRather 29 = .ok (.iload 5, 2) := by decide +kernel
theorem dX5_leavesRather_31 : decode cX5_leavesRather 31 = .ok (.ifCond .ne 26, 3) := by decide +kernel
theorem dX5_leavesRather_34 : decode cX5_leavesRather 34 = .ok (.aload_n 0, 1) := by decide +kernel
theorem dX5_leavesRather_35 : decode cX5_leavesRather 35 = .ok (.getfield 42, 3) := by decide +kernel
theorem dX5_leavesRather_38 : decode cX5_leavesRather 38 = .ok (.iload_n 1, 1) := by decide +kernel
theorem dX5_leavesRather_39 : decode cX5_leavesRather 39 = .ok (.iload 4, 2) := by decide +kernel
theorem dX5_leavesRather_41 : decode cX5_leavesRather 41 = .ok (.invokevirtual 132, 3) := by decide +kernel
theorem dX5_leavesRather_44 : decode cX5_leavesRather 44 = .ok (.aload_n 0, 1) := by decide +kernel
theorem dX5_leavesRather_45 : decode cX5_leavesRather 45 = .ok (.getfield 42, 3) := by decide +kernel
theorem dX5_leavesRather_48 : decode cX5_leavesRather 48 = .ok (.iload_n 2, 1) := by decide +kernel
theorem dX5_leavesRather_49 : decode cX5_leavesRather 49 = .ok (.iload 4, 2) := by decide +kernel
theorem dX5_leavesRather_51 : decode cX5_leavesRather 51 = .ok (.invokevirtual 132, 3) := by decide +kernel
theorem dX5_leavesRather_54 : decode cX5_leavesRather 54 = .ok (.isub, 1) := by decide +kernel
theorem dX5_leavesRather_55 : decode cX5_leavesRather 55 = .ok (.istore 5, 2) := by decide +kernel
theorem dX5_leavesRather_57 : decode cX5_leavesRather 57 = .ok (.iload 5, 2) := by decide +kernel
theorem dX5_leavesRather_59 : decode cX5_leavesRather 59 = .ok (.ifCond .ne 22, 3) := by decide +kernel
theorem dX5_leavesRather_62 : decode cX5_leavesRather 62 = .ok (.aload_n 0, 1) := by decide +kernel
theorem dX5_leavesRather_63 : decode cX5_leavesRather 63 = .ok (.getfield 42, 3) := by decide +kernel
theorem dX5_leavesRather_66 : decode cX5_leavesRather 66 = .ok (.iload_n 2, 1) := by decide +kernel
theorem dX5_leavesRather_67 : decode cX5_leavesRather 67 = .ok (.invokevirtual 136, 3) := by decide +kernel
theorem dX5_leavesRather_70 : decode cX5_leavesRather 70 = .ok (.aload_n 0, 1) := by decide +kernel
theorem dX5_leavesRather_71 : decode cX5_leavesRather 71 = .ok (.getfield 42, 3) := by decide +kernel
theorem dX5_leavesRather_74 : decode cX5_leavesRather 74 = .ok (.iload_n 1, 1) := by decide +kernel
theorem dX5_leavesRather_75 : decode cX5_leavesRather 75 = .ok (.invokevirtual 136, 3) := by decide +kernel
theorem dX5_leavesRather_78 : decode cX5_leavesRather 78 = .ok (.isub, 1) := by decide +kernel
theorem dX5_leavesRather_79 : decode cX5_leavesRather 79 = .ok (.istore 5, 2) := by decide +kernel
theorem dX5_leavesRather_81 : decode cX5_leavesRather 81 = .ok (.iload 5, 2) := by decide +kernel
theorem dX5_leavesRather_83 : decode cX5_leavesRather 83 = .ok (.ifCond .gt 7, 3) := by decide +kernel
theorem dX5_leavesRather_86 : decode cX5_leavesRather 86 = .ok (.iconst 1, 1) := by decide +kernel
theorem dX5_leavesRather_87 : decode cX5_leavesRather 87 = .ok (.goto 4, 3) := by decide +kernel
theorem dX5_leavesRather_90 : decode cX5_leavesRather 90 = .ok (.iconst 0, 1) := by decide +kernel
theorem dX5_leavesRather_91 : decode cX5_leavesRather 91 = .ok (.ireturn, 1) := by decide +kernel
theorem dX5_canLead_0 : decode cX5_canLead 0 = .ok (.aload_n 0, 1) := by decide +kernel
theorem dX5_canLead_1 : decode cX5_canLead 1 = .ok (.iload_n 1, 1) := by decide +kernel
theorem dX5_canLead_2 : decode cX5_canLead 2 = .ok (.invokevirtual 178, 3) := by decide +kernel
theorem dX5_canLead_5 : decode cX5_canLead 5 = .ok (.ifCond .eq 41, 3) := by decide +kernel
theorem dX5_canLead_8 : decode cX5_canLead 8 = .ok (.aload_n 0, 1) := by decide +kernel
theorem dX5_canLead_9 : decode cX5_canLead 9 = .ok (.getfield 42, 3) := by decide +kernel
theorem dX5_canLead_12 : decode cX5_canLead 12 = .ok (.iload_n 1, 1) := by decide +kernel
theorem dX5_canLead_13 : decode cX5_canLead 13 = .ok (.invokevirtual 136, 3) := by decide +kernel
theorem dX5_canLead_16 : decode cX5_canLead 16 = .ok (.aload_n 0, 1) := by decide +kernel
theorem dX5_canLead_17 : decode cX5_canLead 17 = .ok (.getfield 9, 3) := by decide +kernel
theorem dX5_canLead_20 : decode cX5_canLead 20 = .ok (.iconst 1, 1) := by decide +kernel
theorem dX5_canLead_21 : decode cX5_canLead 21 = .ok (.iaload, 1) := by decide +kernel
theorem dX5_canLead_22 : decode cX5_canLead 22 = .ok (.if_icmp .ge 24, 3) := by decide +kernel
theorem dX5_canLead_25 : decode cX5_canLead 25 = .ok (.aload_n 0, 1) := by decide +kernel
theorem dX5_canLead_26 : decode cX5_canLead 26 = .ok (.getfield 42, 3) := by decide +kernel
theorem dX5_canLead_29 : decode cX5_canLead 29 = .ok (.iload_n 1, 1) := by decide +kernel
theorem dX5_canLead_30 : decode cX5_canLead 30 = .ok (.invokevirtual 182, 3) := by decide +kernel
theorem dX5_canLead_33 : decode cX5_canLead 33 = .ok (.aload_n 0, 1) := by decide +kernel
theorem dX5_canLead_34 : decode cX5_canLead 34 = .ok (.getfield 9, 3) := by decide +kernel
theorem dX5_canLead_37 : decode cX5_canLead 37 = .ok (.iconst 2, 1) := by decide +kernel
theorem dX5_canLead_38 : decode cX5_canLead 38 = .ok (.iaload, 1) := by decide +kernel
theorem dX5_canLead_39 : decode cX5_canLead 39 = .ok (.if_icmp .ge 7, 3) := by decide +kernel
theorem dX5_canLead_42 : decode cX5_canLead 42 = .ok (.iconst 1, 1) := by decide +kernel
theorem dX5_canLead_43 : decode cX5_canLead 43 = .ok (.goto 4, 3) := by decide +kernel
theorem dX5_canLead_46 : decode cX5_canLead 46 = .ok (.iconst 0, 1) := by decide +kernel
theorem dX5_canLead_47 : decode cX5_canLead 47 = .ok (.ireturn, 1) := by decide +kernel
theorem dX5_numberOf_0 : decode cX5_numberOf 0 = .ok (.iload_n 2, 1) := by decide +kernel
theorem dX5_numberOf_1 : decode cX5_numberOf 1 = .ok (.tableswitch 92 0 4 #[35, 50, 59, 68, 77], 35) := by decide +kernel
theorem dX5_numberOf_36 : decode cX5_numberOf 36 = .ok (.aload_n 0, 1) := by decide +kernel
theorem dX5_numberOf_37 : decode cX5_numberOf 37 = .ok (.getfield 42, 3) := by decide +kernel
theorem dX5_numberOf_40 : decode cX5_numberOf 40 = .ok (.iload_n 1, 1) := by decide +kernel
theorem dX5_numberOf_41 : decode cX5_numberOf 41 = .ok (.aload_n 0, 1) := by decide +kernel
theorem dX5_numberOf_42 : decode cX5_numberOf 42 = .ok (.getfield 9, 3) := by decide +kernel
theorem dX5_numberOf_45 : decode cX5_numberOf 45 = .ok (.iconst 5, 1) := by decide +kernel
theorem dX5_numberOf_46 : decode cX5_numberOf 46 = .ok (.iaload, 1) := by decide +kernel
theorem dX5_numberOf_47 : decode cX5_numberOf 47 = .ok (.invokevirtual 132, 3) := by decide +kernel
theorem dX5_numberOf_50 : decode cX5_numberOf 50 = .ok (.ireturn, 1) := by decide +kernel
theorem dX5_numberOf_51 : decode cX5_numberOf 51 = .ok (.aload_n 0, 1) := by decide +kernel
theorem dX5_numberOf_52 : decode cX5_numberOf 52 = .ok (.getfield 42, 3) := by decide +kernel
theorem dX5_numberOf_55 : decode cX5_numberOf 55 = .ok (.iload_n 1, 1) := by decide +kernel
theorem dX5_numberOf_56 : decode cX5_numberOf 56 = .ok (.invokevirtual 136, 3) := by decide +kernel
theorem dX5_numberOf_59 : decode cX5_numberOf 59 = .ok (.ireturn, 1) := by decide +kernel
theorem dX5_numberOf_60 : decode cX5_numberOf 60 = .ok (.aload_n 0, 1) := by decide +kernel
theorem dX5_numberOf_61 : decode cX5_numberOf 61 = .ok (.iload_n 1, 1) := by decide +kernel
theorem dX5_numberOf_62 : decode cX5_numberOf 62 = .ok (.invokevirtual 178, 3) := by decide +kernel
theorem dX5_numberOf_65 : decode cX5_numberOf 65 = .ok (.invokestatic 185, 3) := by decide +kernel
theorem dX5_numberOf_68 : decode cX5_numberOf 68 = .ok (.ireturn, 1) := by decide +kernel
theorem dX5_numberOf_69 : decode cX5_numberOf 69 = .ok (.aload_n 0, 1) := by decide +kernel
theorem dX5_numberOf_70 : decode cX5_numberOf 70 = .ok (.iload_n 1, 1) := by decide +kernel
theorem dX5_numberOf_71 : decode cX5_numberOf 71 = .ok (.invokevirtual 189, 3) := by decide +kernel
theorem dX5_numberOf_74 : decode cX5_numberOf 74 = .ok (.invokestatic 185, 3) := by decide +kernel
theorem dX5_numberOf_77 : decode cX5_numberOf 77 = .ok (.ireturn, 1) := by decide +kernel
theorem dX5_numberOf_78 : decode cX5_numberOf 78 = .ok (.aload_n 0, 1) := by decide +kernel
theorem dX5_numberOf_79 : decode cX5_numberOf 79 = .ok (.getfield 28, 3) := by decide +kernel
theorem dX5_numberOf_82 : decode cX5_numberOf 82 = .ok (.getfield 158, 3) := by decide +kernel
theorem dX5_numberOf_85 : decode cX5_numberOf 85 = .ok (.iload_n 1, 1) := by decide +kernel
theorem dX5_numberOf_86 : decode cX5_numberOf 86 = .ok (.invokestatic 87, 3) := by decide +kernel
theorem dX5_numberOf_89 : decode cX5_numberOf 89 = .ok (.invokestatic 185, 3) := by decide +kernel
theorem dX5_numberOf_92 : decode cX5_numberOf 92 = .ok (.ireturn, 1) := by decide +kernel
theorem dX5_numberOf_93 : decode cX5_numberOf 93 = .ok (.aload_n 0, 1) := by decide +kernel
theorem dX5_numberOf_94 : decode cX5_numberOf 94 = .ok (.getfield 71, 3) := by decide +kernel
theorem dX5_numberOf_97 : decode cX5_numberOf 97 = .ok (.iload_n 1, 1) := by decide +kernel
theorem dX5_numberOf_98 : decode cX5_numberOf 98 = .ok (.invokestatic 87, 3) := by decide +kernel
theorem dX5_numberOf_101 : decode cX5_numberOf 101 = .ok (.invokestatic 185, 3) := by decide +kernel
theorem dX5_numberOf_104 : decode cX5_numberOf 104 = .ok (.ireturn, 1) := by decide +kernel
theorem dX6_init_0 : decode cX6_init 0 = .ok (.aload_n 0, 1) := by decide +kernel
theorem dX6_init_1 : decode cX6_init 1 = .ok (.invokespecial 3, 3) := by decide +kernel
theorem dX6_init_4 : decode cX6_init 4 = .ok (.aload_n 0, 1) := by decide +kernel
theorem dX6_init_5 : decode cX6_init 5 = .ok (.bipush 41, 2) := by decide +kernel
theorem dX6_init_7 : decode cX6_init 7 = .ok (.newarray .int, 2) := by decide +kernel
theorem dX6_init_9 : decode cX6_init 9 = .ok (.putfield 9, 3) := by decide +kernel
theorem dX6_init_12 : decode cX6_init 12 = .ok (.aload_n 0, 1) := by decide +kernel
theorem dX6_init_13 : decode cX6_init 13 = .ok (.bipush 41, 2) := by decide +kernel
theorem dX6_init_15 : decode cX6_init 15 = .ok (.newarray .int, 2) := by decide +kernel
theorem dX6_init_17 : decode cX6_init 17 = .ok (.putfield 15, 3) := by decide +kernel
theorem dX6_init_20 : decode cX6_init 20 = .ok (.aload_n 0, 1) := by decide +kernel
theorem dX6_init_21 : decode cX6_init 21 = .ok (.bipush 41, 2) := by decide +kernel
theorem dX6_init_23 : decode cX6_init 23 = .ok (.newarray .int, 2) := by decide +kernel
theorem dX6_init_25 : decode cX6_init 25 = .ok (.putfield 18, 3) := by decide +kernel
theorem dX6_init_28 : decode cX6_init 28 = .ok (.aload_n 0, 1) := by decide +kernel
theorem dX6_init_29 : decode cX6_init 29 = .ok (.bipush 41, 2) := by decide +kernel
theorem dX6_init_31 : decode cX6_init 31 = .ok (.newarray .int, 2) := by decide +kernel
theorem dX6_init_33 : decode cX6_init 33 = .ok (.putfield 21, 3) := by decide +kernel
theorem dX6_init_36 : decode cX6_init 36 = .ok (.aload_n 0, 1) := by decide +kernel
theorem dX6_init_37 : decode cX6_init 37 = .ok (.bipush 41, 2) := by decide +kernel
theorem dX6_init_39 : decode cX6_init 39 = .ok (.newarray .int, 2) := by decide +kernel
theorem dX6_init_41 : decode cX6_init 41 = .ok (.putfield 24, 3) := by decide +kernel
theorem dX6_init_44 : decode cX6_init 44 = .ok (.aload_n 0, 1) := by decide +kernel
theorem dX6_init_45 : decode cX6_init 45 = .ok (.bipush 41, 2) := by decide +kernel
theorem dX6_init_47 : decode cX6_init 47 = .ok (.newarray .int, 2) := by decide +kernel
theorem dX6_init_49 : decode cX6_init 49 = .ok (.putfield 27, 3) := by decide +kernel
theorem dX6_init_52 : decode cX6_init 52 = .ok (.aload_n 0, 1) := by decide +kernel
theorem dX6_init_53 : decode cX6_init 53 = .ok (.bipush 41, 2) := by decide +kernel
theorem dX6_init_55 : decode cX6_init 55 = .ok (.newarray .int, 2) := by decide +kernel
theorem dX6_init_57 : decode cX6_init 57 = .ok (.putfield 30, 3) := by decide +kernel
theorem dX6_init_60 : decode cX6_init 60 = .ok (.aload_n 0, 1) := by decide +kernel
theorem dX6_init_61 : decode cX6_init 61 = .ok (.sipush 410, 3) := by decide +kernel
theorem dX6_init_64 : decode cX6_init 64 = .ok (.newarray .int, 2) := by decide +kernel
theorem dX6_init_66 : decode cX6_init 66 = .ok (.putfield 33, 3) := by decide +kernel
theorem dX6_init_69 : decode cX6_init 69 = .ok (.return_, 1) := by decide +kernel
theorem dX6_copy_0 : decode cX6_copy 0 = .ok (.aload_n 0, 1) := by decide +kernel
theorem dX6_copy_1 : decode cX6_copy 1 = .ok (.aload_n 1, 1) := by decide +kernel
theorem dX6_copy_2 : decode cX6_copy 2 = .ok (.getfield 36, 3) := by decide +kernel
theorem dX6_copy_5 : decode cX6_copy 5 = .ok (.putfield 36, 3) := by decide +kernel
theorem dX6_copy_8 : decode cX6_copy 8 = .ok (.aload_n 1, 1) := by decide +kernel
theorem dX6_copy_9 : decode cX6_copy 9 = .ok (.getfield 9, 3) := by decide +kernel
theorem dX6_copy_12 : decode cX6_copy 12 = .ok (.aload_n 0, 1) := by decide +kernel
theorem dX6_copy_13 : decode cX6_copy 13 = .ok (.getfield 9, 3) := by decide +kernel
theorem dX6_copy_16 : decode cX6_copy 16 = .ok (.invokestatic 40, 3) := by decide +kernel
theorem dX6_copy_19 : decode cX6_copy 19 = .ok (.aload_n 1, 1) := by decide +kernel
theorem dX6_copy_20 : decode cX6_copy 20 = .ok (.getfield 15, 3) := by decide +kernel
theorem dX6_copy_23 : decode cX6_copy 23 = .ok (.aload_n 0, 1) := by decide +kernel
theorem dX6_copy_24 : decode cX6_copy 24 = .ok (.getfield 15, 3) := by decide +kernel
theorem dX6_copy_27 : decode cX6_copy 27 = .ok (.invokestatic 40, 3) := by decide +kernel
theorem dX6_copy_30 : decode cX6_copy 30 = .ok (.aload_n 1, 1) := by decide +kernel
theorem dX6_copy_31 : decode cX6_copy 31 = .ok (.getfield 18, 3) := by decide +kernel
theorem dX6_copy_34 : decode cX6_copy 34 = .ok (.aload_n 0, 1) := by decide +kernel
theorem dX6_copy_35 : decode cX6_copy 35 = .ok (.getfield 18, 3) := by decide +kernel
theorem dX6_copy_38 : decode cX6_copy 38 = .ok (.invokestatic 40, 3) := by decide +kernel
theorem dX6_copy_41 : decode cX6_copy 41 = .ok (.aload_n 1, 1) := by decide +kernel
theorem dX6_copy_42 : decode cX6_copy 42 = .ok (.getfield 21, 3) := by decide +kernel
theorem dX6_copy_45 : decode cX6_copy 45 = .ok (.aload_n 0, 1) := by decide +kernel
theorem dX6_copy_46 : decode cX6_copy 46 = .ok (.getfield 21, 3) := by decide +kernel
theorem dX6_copy_49 : decode cX6_copy 49 = .ok (.invokestatic 40, 3) := by decide +kernel
theorem dX6_copy_52 : decode cX6_copy 52 = .ok (.aload_n 1, 1) := by decide +kernel
theorem dX6_copy_53 : decode cX6_copy 53 = .ok (.getfield 24, 3) := by decide +kernel
theorem dX6_copy_56 : decode cX6_copy 56 = .ok (.aload_n 0, 1) := by decide +kernel
theorem dX6_copy_57 : decode cX6_copy 57 = .ok (.getfield 24, 3) := by decide +kernel
theorem dX6_copy_60 : decode cX6_copy 60 = .ok (.invokestatic 40, 3) := by decide +kernel
theorem dX6_copy_63 : decode cX6_copy 63 = .ok (.aload_n 1, 1) := by decide +kernel
theorem dX6_copy_64 : decode cX6_copy 64 = .ok (.getfield 27, 3) := by decide +kernel
theorem dX6_copy_67 : decode cX6_copy 67 = .ok (.aload_n 0, 1) := by decide +kernel
theorem dX6_copy_68 : decode cX6_copy 68 = .ok (.getfield 27, 3) := by decide +kernel
theorem dX6_copy_71 : decode cX6_copy 71 = .ok (.invokestatic 40, 3) := by decide +kernel
theorem dX6_copy_74 : decode cX6_copy 74 = .ok (.aload_n 1, 1) := by decide +kernel
theorem dX6_copy_75 : decode cX6_copy 75 = .ok (.getfield 30, 3) := by decide +kernel
theorem dX6_copy_78 : decode cX6_copy 78 = .ok (.aload_n 0, 1) := by decide +kernel
theorem dX6_copy_79 : decode cX6_copy 79 = .ok (.getfield 30, 3) := by decide +kernel
theorem dX6_copy_82 : decode cX6_copy 82 = .ok (.invokestatic 40, 3) := by decide +kernel
theorem dX6_copy_85 : decode cX6_copy 85 = .ok (.aload_n 1, 1) := by decide +kernel
theorem dX6_copy_86 : decode cX6_copy 86 = .ok (.getfield 33, 3) := by decide +kernel
theorem dX6_copy_89 : decode cX6_copy 89 = .ok (.aload_n 0, 1) := by decide +kernel
theorem dX6_copy_90 : decode cX6_copy 90 = .ok (.getfield 33, 3) := by decide +kernel
theorem dX6_copy_93 : decode cX6_copy 93 = .ok (.invokestatic 40, 3) := by decide +kernel
theorem dX6_copy_96 : decode cX6_copy 96 = .ok (.return_, 1) := by decide +kernel
theorem dX6_copyRow_0 : decode cX6_copyRow 0 = .ok (.aload_n 0, 1) := by decide +kernel
theorem dX6_copyRow_1 : decode cX6_copyRow 1 = .ok (.iconst 0, 1) := by decide +kernel
theorem dX6_copyRow_2 : decode cX6_copyRow 2 = .ok (.aload_n 1, 1) := by decide +kernel
theorem dX6_copyRow_3 : decode cX6_copyRow 3 = .ok (.iconst 0, 1) := by decide +kernel
theorem dX6_copyRow_4 : decode cX6_copyRow 4 = .ok (.aload_n 1, 1) := by decide +kernel
theorem dX6_copyRow_5 : decode cX6_copyRow 5 = .ok (.arraylength, 1) := by decide +kernel
theorem dX6_copyRow_6 : decode cX6_copyRow 6 = .ok (.invokestatic 44, 3) := by decide +kernel
theorem dX6_copyRow_9 : decode cX6_copyRow 9 = .ok (.return_, 1) := by decide +kernel
theorem dX6_isTerm_0 : decode cX6_isTerm 0 = .ok (.iload_n 1, 1) := by decide +kernel
theorem dX6_isTerm_1 : decode cX6_isTerm 1 = .ok (.iconst 1, 1) := by decide +kernel
theorem dX6_isTerm_2 : decode cX6_isTerm 2 = .ok (.if_icmp .lt 15, 3) := by decide +kernel
theorem dX6_isTerm_5 : decode cX6_isTerm 5 = .ok (.iload_n 1, 1) := by decide +kernel
theorem dX6_isTerm_6 : decode cX6_isTerm 6 = .ok (.aload_n 0, 1) := by decide +kernel
theorem dX6_isTerm_7 : decode cX6_isTerm 7 = .ok (.getfield 36, 3) := by decide +kernel
theorem dX6_isTerm_10 : decode cX6_isTerm 10 = .ok (.if_icmp .gt 7, 3) := by decide +kernel
theorem dX6_isTerm_13 : decode cX6_isTerm 13 = .ok (.iconst 1, 1) := by decide +kernel
theorem dX6_isTerm_14 : decode cX6_isTerm 14 = .ok (.goto 4, 3) := by decide +kernel
theorem dX6_isTerm_17 : decode cX6_isTerm 17 = .ok (.iconst 0, 1) := by decide +kernel
theorem dX6_isTerm_18 : decode cX6_isTerm 18 = .ok (.ireturn, 1) := by decide +kernel
theorem dX6_begin_0 : decode cX6_begin 0 = .ok (.aload_n 0, 1) := by decide +kernel
theorem dX6_begin_1 : decode cX6_begin 1 = .ok (.getfield 36, 3) := by decide +kernel
theorem dX6_begin_4 : decode cX6_begin 4 = .ok (.bipush 40, 2) := by decide +kernel
theorem dX6_begin_6 : decode cX6_begin 6 = .ok (.if_icmp .lt 4, 3) := by decide +kernel
theorem dX6_begin_9 : decode cX6_begin 9 = .ok (.return_, 1) := by decide +kernel
theorem dX6_begin_10 : decode cX6_begin 10 = .ok (.aload_n 0, 1) := by decide +kernel
theorem dX6_begin_11 : decode cX6_begin 11 = .ok (.dup, 1) := by decide +kernel
theorem dX6_begin_12 : decode cX6_begin 12 = .ok (.getfield 36, 3) := by decide +kernel
theorem dX6_begin_15 : decode cX6_begin 15 = .ok (.iconst 1, 1) := by decide +kernel
theorem dX6_begin_16 : decode cX6_begin 16 = .ok (.iadd, 1) := by decide +kernel
theorem dX6_begin_17 : decode cX6_begin 17 = .ok (.putfield 36, 3) := by decide +kernel
theorem dX6_begin_20 : decode cX6_begin 20 = .ok (.aload_n 0, 1) := by decide +kernel
theorem dX6_begin_21 : decode cX6_begin 21 = .ok (.getfield 9, 3) := by decide +kernel
theorem dX6_begin_24 : decode cX6_begin 24 = .ok (.aload_n 0, 1) := by decide +kernel
theorem dX6_begin_25 : decode cX6_begin 25 = .ok (.getfield 36, 3) := by decide +kernel
theorem dX6_begin_28 : decode cX6_begin 28 = .ok (.iload_n 1, 1) := by decide +kernel
theorem dX6_begin_29 : decode cX6_begin 29 = .ok (.iastore, 1) := by decide +kernel
theorem dX6_begin_30 : decode cX6_begin 30 = .ok (.aload_n 0, 1) := by decide +kernel
theorem dX6_begin_31 : decode cX6_begin 31 = .ok (.getfield 15, 3) := by decide +kernel
theorem dX6_begin_34 : decode cX6_begin 34 = .ok (.aload_n 0, 1) := by decide +kernel
theorem dX6_begin_35 : decode cX6_begin 35 = .ok (.getfield 36, 3) := by decide +kernel
theorem dX6_begin_38 : decode cX6_begin 38 = .ok (.iload_n 2, 1) := by decide +kernel
theorem dX6_begin_39 : decode cX6_begin 39 = .ok (.iastore, 1) := by decide +kernel
theorem dX6_begin_40 : decode cX6_begin 40 = .ok (.aload_n 0, 1) := by decide +kernel
theorem dX6_begin_41 : decode cX6_begin 41 = .ok (.getfield 18, 3) := by decide +kernel
theorem dX6_begin_44 : decode cX6_begin 44 = .ok (.aload_n 0, 1) := by decide +kernel
theorem dX6_begin_45 : decode cX6_begin 45 = .ok (.getfield 36, 3) := by decide +kernel
theorem dX6_begin_48 : decode cX6_begin 48 = .ok (.iload_n 2, 1) := by decide +kernel
theorem dX6_begin_49 : decode cX6_begin 49 = .ok (.iload_n 3, 1) := by decide +kernel
theorem dX6_begin_50 : decode cX6_begin 50 = .ok (.iadd, 1) := by decide +kernel
theorem dX6_begin_51 : decode cX6_begin 51 = .ok (.iastore, 1) := by decide +kernel
theorem dX6_begin_52 : decode cX6_begin 52 = .ok (.aload_n 0, 1) := by decide +kernel
theorem dX6_begin_53 : decode cX6_begin 53 = .ok (.getfield 21, 3) := by decide +kernel
theorem dX6_begin_56 : decode cX6_begin 56 = .ok (.aload_n 0, 1) := by decide +kernel
theorem dX6_begin_57 : decode cX6_begin 57 = .ok (.getfield 36, 3) := by decide +kernel
theorem dX6_begin_60 : decode cX6_begin 60 = .ok (.bipush (-9), 2) := by decide +kernel
theorem dX6_begin_62 : decode cX6_begin 62 = .ok (.iastore, 1) := by decide +kernel
theorem dX6_begin_63 : decode cX6_begin 63 = .ok (.aload_n 0, 1) := by decide +kernel
theorem dX6_begin_64 : decode cX6_begin 64 = .ok (.getfield 24, 3) := by decide +kernel
theorem dX6_begin_67 : decode cX6_begin 67 = .ok (.aload_n 0, 1) := by decide +kernel
theorem dX6_begin_68 : decode cX6_begin 68 = .ok (.getfield 36, 3) := by decide +kernel
theorem dX6_begin_71 : decode cX6_begin 71 = .ok (.iconst 0, 1) := by decide +kernel
theorem dX6_begin_72 : decode cX6_begin 72 = .ok (.iastore, 1) := by decide +kernel
theorem dX6_begin_73 : decode cX6_begin 73 = .ok (.aload_n 0, 1) := by decide +kernel
theorem dX6_begin_74 : decode cX6_begin 74 = .ok (.getfield 27, 3) := by decide +kernel
theorem dX6_begin_77 : decode cX6_begin 77 = .ok (.aload_n 0, 1) := by decide +kernel
theorem dX6_begin_78 : decode cX6_begin 78 = .ok (.getfield 36, 3) := by decide +kernel
theorem dX6_begin_81 : decode cX6_begin 81 = .ok (.iconst 0, 1) := by decide +kernel
theorem dX6_begin_82 : decode cX6_begin 82 = .ok (.iastore, 1) := by decide +kernel
theorem dX6_begin_83 : decode cX6_begin 83 = .ok (.aload_n 0, 1) := by decide +kernel
theorem dX6_begin_84 : decode cX6_begin 84 = .ok (.getfield 30, 3) := by decide +kernel
theorem dX6_begin_87 : decode cX6_begin 87 = .ok (.aload_n 0, 1) := by decide +kernel
theorem dX6_begin_88 : decode cX6_begin 88 = .ok (.getfield 36, 3) := by decide +kernel
theorem dX6_begin_91 : decode cX6_begin 91 = .ok (.iload 4, 2) := by decide +kernel
theorem dX6_begin_93 : decode cX6_begin 93 = .ok (.iastore, 1) := by decide +kernel
theorem dX6_begin_94 : decode cX6_begin 94 = .ok (.iconst 0, 1) := by decide +kernel
theorem dX6_begin_95 : decode cX6_begin 95 = .ok (.istore 5, 2) := by decide +kernel
theorem dX6_begin_97 : decode cX6_begin 97 = .ok (.iload 5, 2) := by decide +kernel
theorem dX6_begin_99 : decode cX6_begin 99 = .ok (.bipush 10, 2) := by decide +kernel
theorem dX6_begin_101 : decode cX6_begin 101 = .ok (.if_icmp .ge 26, 3) := by decide +kernel
theorem dX6_begin_104 : decode cX6_begin 104 = .ok (.aload_n 0, 1) := by decide +kernel
theorem dX6_begin_105 : decode cX6_begin 105 = .ok (.getfield 33, 3) := by decide +kernel
theorem dX6_begin_108 : decode cX6_begin 108 = .ok (.aload_n 0, 1) := by decide +kernel
theorem dX6_begin_109 : decode cX6_begin 109 = .ok (.getfield 36, 3) := by decide +kernel
theorem dX6_begin_112 : decode cX6_begin 112 = .ok (.bipush 10, 2) := by decide +kernel
theorem dX6_begin_114 : decode cX6_begin 114 = .ok (.imul, 1) := by decide +kernel
theorem dX6_begin_115 : decode cX6_begin 115 = .ok (.iload 5, 2) := by decide +kernel
theorem dX6_begin_117 : decode cX6_begin 117 = .ok (.iadd, 1) := by decide +kernel
theorem dX6_begin_118 : decode cX6_begin 118 = .ok (.bipush (-9), 2) := by decide +kernel
theorem dX6_begin_120 : decode cX6_begin 120 = .ok (.iastore, 1) := by decide +kernel
theorem dX6_begin_121 : decode cX6_begin 121 = .ok (.iinc 5 1, 3) := by decide +kernel
theorem dX6_begin_124 : decode cX6_begin 124 = .ok (.goto (-27), 3) := by decide +kernel
theorem dX6_begin_127 : decode cX6_begin 127 = .ok (.return_, 1) := by decide +kernel
theorem dX6_finishLatest_0 : decode cX6_finishLatest 0 = .ok (.aload_n 0, 1) := by decide +kernel
theorem dX6_finishLatest_1 : decode cX6_finishLatest 1 = .ok (.getfield 21, 3) := by decide +kernel
theorem dX6_finishLatest_4 : decode cX6_finishLatest 4 = .ok (.aload_n 0, 1) := by decide +kernel
theorem dX6_finishLatest_5 : decode cX6_finishLatest 5 = .ok (.getfield 36, 3) := by decide +kernel
theorem dX6_finishLatest_8 : decode cX6_finishLatest 8 = .ok (.iload_n 1, 1) := by decide +kernel
theorem dX6_finishLatest_9 : decode cX6_finishLatest 9 = .ok (.iastore, 1) := by decide +kernel
theorem dX6_finishLatest_10 : decode cX6_finishLatest 10 = .ok (.aload_n 0, 1) := by decide +kernel
theorem dX6_finishLatest_11 : decode cX6_finishLatest 11 = .ok (.getfield 27, 3) := by decide +kernel
theorem dX6_finishLatest_14 : decode cX6_finishLatest 14 = .ok (.aload_n 0, 1) := by decide +kernel
theorem dX6_finishLatest_15 : decode cX6_finishLatest 15 = .ok (.getfield 36, 3) := by decide +kernel
theorem dX6_finishLatest_18 : decode cX6_finishLatest 18 = .ok (.iload_n 2, 1) := by decide +kernel
theorem dX6_finishLatest_19 : decode cX6_finishLatest 19 = .ok (.invokestatic 50, 3) := by decide +kernel
theorem dX6_finishLatest_22 : decode cX6_finishLatest 22 = .ok (.iastore, 1) := by decide +kernel
theorem dX6_finishLatest_23 : decode cX6_finishLatest 23 = .ok (.return_, 1) := by decide +kernel
theorem dX6_latestPlannedEnd_0 : decode cX6_latestPlannedEnd 0 = .ok (.aload_n 0, 1) := by decide +kernel
theorem dX6_latestPlannedEnd_1 : decode cX6_latestPlannedEnd 1 = .ok (.getfield 18, 3) := by decide +kernel
theorem dX6_latestPlannedEnd_4 : decode cX6_latestPlannedEnd 4 = .ok (.aload_n 0, 1) := by decide +kernel
theorem dX6_latestPlannedEnd_5 : decode cX6_latestPlannedEnd 5 = .ok (.getfield 36, 3) := by decide +kernel
theorem dX6_latestPlannedEnd_8 : decode cX6_latestPlannedEnd 8 = .ok (.iaload, 1) := by decide +kernel
theorem dX6_latestPlannedEnd_9 : decode cX6_latestPlannedEnd 9 = .ok (.ireturn, 1) := by decide +kernel
theorem dX6_latestDeeds_0 : decode cX6_latestDeeds 0 = .ok (.aload_n 0, 1) := by decide +kernel
theorem dX6_latestDeeds_1 : decode cX6_latestDeeds 1 = .ok (.getfield 24, 3) := by decide +kernel
theorem dX6_latestDeeds_4 : decode cX6_latestDeeds 4 = .ok (.aload_n 0, 1) := by decide +kernel
theorem dX6_latestDeeds_5 : decode cX6_latestDeeds 5 = .ok (.getfield 36, 3) := by decide +kernel
theorem dX6_latestDeeds_8 : decode cX6_latestDeeds 8 = .ok (.iaload, 1) := by decide +kernel
theorem dX6_latestDeeds_9 : decode cX6_latestDeeds 9 = .ok (.ireturn, 1) := by decide +kernel
theorem dX6_setLatestDeeds_0 : decode cX6_setLatestDeeds 0 = .ok (.aload_n 0, 1) := by decide +kernel
theorem dX6_setLatestDeeds_1 : decode cX6_setLatestDeeds 1 = .ok (.getfield 24, 3) := by decide +kernel
theorem dX6_setLatestDeeds_4 : decode cX6_setLatestDeeds 4 = .ok (.aload_n 0, 1) := by decide +kernel
theorem dX6_setLatestDeeds_5 : decode cX6_setLatestDeeds 5 = .ok (.getfield 36, 3) := by decide +kernel
theorem dX6_setLatestDeeds_8 : decode cX6_setLatestDeeds 8 = .ok (.iload_n 1, 1) := by decide +kernel
theorem dX6_setLatestDeeds_9 : decode cX6_setLatestDeeds 9 = .ok (.iastore, 1) := by decide +kernel
theorem dX6_setLatestDeeds_10 : decode cX6_setLatestDeeds 10 = .ok (.return_, 1) := by decide +kernel
theorem dX6_isOver_0 : decode cX6_isOver 0 = .ok (.aload_n 0, 1) := by decide +kernel
theorem dX6_isOver_1 : decode cX6_isOver 1 = .ok (.getfield 21, 3) := by decide +kernel
theorem dX6_isOver_4 : decode cX6_isOver 4 = .ok (.iload_n 1, 1) := by decide +kernel
theorem dX6_isOver_5 : decode cX6_isOver 5 = .ok (.iaload, 1) := by decide +kernel
theorem dX6_isOver_6 : decode cX6_isOver 6 = .ok (.bipush (-9), 2) := by decide +kernel
theorem dX6_isOver_8 : decode cX6_isOver 8 = .ok (.if_icmp .eq 7, 3) := by decide +kernel
theorem dX6_isOver_11 : decode cX6_isOver 11 = .ok (.iconst 1, 1) := by decide +kernel
theorem dX6_isOver_12 : decode cX6_isOver 12 = .ok (.goto 4, 3) := by decide +kernel
theorem dX6_isOver_15 : decode cX6_isOver 15 = .ok (.iconst 0, 1) := by decide +kernel
theorem dX6_isOver_16 : decode cX6_isOver 16 = .ok (.ireturn, 1) := by decide +kernel
theorem dX6_mayGrade_0 : decode cX6_mayGrade 0 = .ok (.aload_n 0, 1) := by decide +kernel
theorem dX6_mayGrade_1 : decode cX6_mayGrade 1 = .ok (.iload_n 2, 1) := by decide +kernel
theorem dX6_mayGrade_2 : decode cX6_mayGrade 2 = .ok (.invokevirtual 54, 3) := by decide +kernel
theorem dX6_mayGrade_5 : decode cX6_mayGrade 5 = .ok (.ifCond .eq 16, 3) := by decide +kernel
theorem dX6_mayGrade_8 : decode cX6_mayGrade 8 = .ok (.iload_n 3, 1) := by decide +kernel
theorem dX6_mayGrade_9 : decode cX6_mayGrade 9 = .ok (.aload_n 0, 1) := by decide +kernel
theorem dX6_mayGrade_10 : decode cX6_mayGrade 10 = .ok (.getfield 21, 3) := by decide +kernel
theorem dX6_mayGrade_13 : decode cX6_mayGrade 13 = .ok (.iload_n 2, 1) := by decide +kernel
theorem dX6_mayGrade_14 : decode cX6_mayGrade 14 = .ok (.iaload, 1) := by decide +kernel
theorem dX6_mayGrade_15 : decode cX6_mayGrade 15 = .ok (.isub, 1) := by decide +kernel
theorem dX6_mayGrade_16 : decode cX6_mayGrade 16 = .ok (.bipush 50, 2) := by decide +kernel
theorem dX6_mayGrade_18 : decode cX6_mayGrade 18 = .ok (.if_icmp .le 5, 3) := by decide +kernel
theorem dX6_mayGrade_21 : decode cX6_mayGrade 21 = .ok (.iconst 0, 1) := by decide +kernel
theorem dX6_mayGrade_22 : decode cX6_mayGrade 22 = .ok (.ireturn, 1) := by decide +kernel
theorem dX6_mayGrade_23 : decode cX6_mayGrade 23 = .ok (.iload_n 1, 1) := by decide +kernel
theorem dX6_mayGrade_24 : decode cX6_mayGrade 24 = .ok (.aload_n 0, 1) := by decide +kernel
theorem dX6_mayGrade_25 : decode cX6_mayGrade 25 = .ok (.getfield 9, 3) := by decide +kernel
theorem dX6_mayGrade_28 : decode cX6_mayGrade 28 = .ok (.iload_n 2, 1) := by decide +kernel
theorem dX6_mayGrade_29 : decode cX6_mayGrade 29 = .ok (.iaload, 1) := by decide +kernel
theorem dX6_mayGrade_30 : decode cX6_mayGrade 30 = .ok (.if_icmp .eq 20, 3) := by decide +kernel
theorem dX6_mayGrade_33 : decode cX6_mayGrade 33 = .ok (.aload_n 0, 1) := by decide +kernel
theorem dX6_mayGrade_34 : decode cX6_mayGrade 34 = .ok (.getfield 30, 3) := by decide +kernel
theorem dX6_mayGrade_37 : decode cX6_mayGrade 37 = .ok (.iload_n 2, 1) := by decide +kernel
theorem dX6_mayGrade_38 : decode cX6_mayGrade 38 = .ok (.iaload, 1) := by decide +kernel
theorem dX6_mayGrade_39 : decode cX6_mayGrade 39 = .ok (.iload_n 1, 1) := by decide +kernel
theorem dX6_mayGrade_40 : decode cX6_mayGrade 40 = .ok (.invokestatic 58, 3) := by decide +kernel
theorem dX6_mayGrade_43 : decode cX6_mayGrade 43 = .ok (.ifCond .eq 7, 3) := by decide +kernel
theorem dX6_mayGrade_46 : decode cX6_mayGrade 46 = .ok (.iconst 1, 1) := by decide +kernel
theorem dX6_mayGrade_47 : decode cX6_mayGrade 47 = .ok (.goto 4, 3) := by decide +kernel
theorem dX6_mayGrade_50 : decode cX6_mayGrade 50 = .ok (.iconst 0, 1) := by decide +kernel
theorem dX6_mayGrade_51 : decode cX6_mayGrade 51 = .ok (.ireturn, 1) := by decide +kernel
theorem dX6_putGrade_0 : decode cX6_putGrade 0 = .ok (.aload_n 0, 1) := by decide +kernel
theorem dX6_putGrade_1 : decode cX6_putGrade 1 = .ok (.getfield 33, 3) := by decide +kernel
theorem dX6_putGrade_4 : decode cX6_putGrade 4 = .ok (.iload_n 2, 1) := by decide +kernel
theorem dX6_putGrade_5 : decode cX6_putGrade 5 = .ok (.bipush 10, 2) := by decide +kernel
theorem dX6_putGrade_7 : decode cX6_putGrade 7 = .ok (.imul, 1) := by decide +kernel
theorem dX6_putGrade_8 : decode cX6_putGrade 8 = .ok (.iload_n 1, 1) := by decide +kernel
theorem dX6_putGrade_9 : decode cX6_putGrade 9 = .ok (.iadd, 1) := by decide +kernel
theorem dX6_putGrade_10 : decode cX6_putGrade 10 = .ok (.iload_n 3, 1) := by decide +kernel
theorem dX6_putGrade_11 : decode cX6_putGrade 11 = .ok (.iastore, 1) := by decide +kernel
theorem dX6_putGrade_12 : decode cX6_putGrade 12 = .ok (.return_, 1) := by decide +kernel
theorem dX6_givenPoints_0 : decode cX6_givenPoints 0 = .ok (.aload_n 0, 1) := by decide +kernel
theorem dX6_givenPoints_1 : decode cX6_givenPoints 1 = .ok (.getfield 33, 3) := by decide +kernel
theorem dX6_givenPoints_4 : decode cX6_givenPoints 4 = .ok (.iload_n 2, 1) := by decide +kernel
theorem dX6_givenPoints_5 : decode cX6_givenPoints 5 = .ok (.bipush 10, 2) := by decide +kernel
theorem dX6_givenPoints_7 : decode cX6_givenPoints 7 = .ok (.imul, 1) := by decide +kernel
theorem dX6_givenPoints_8 : decode cX6_givenPoints 8 = .ok (.iload_n 1, 1) := by decide +kernel
theorem dX6_givenPoints_9 : decode cX6_givenPoints 9 = .ok (.iadd, 1) := by decide +kernel
theorem dX6_givenPoints_10 : decode cX6_givenPoints 10 = .ok (.iaload, 1) := by decide +kernel
theorem dX6_givenPoints_11 : decode cX6_givenPoints 11 = .ok (.ireturn, 1) := by decide +kernel
theorem dX6_countGrades_0 : decode cX6_countGrades 0 = .ok (.iconst 0, 1) := by decide +kernel
theorem dX6_countGrades_1 : decode cX6_countGrades 1 = .ok (.istore_n 2, 1) := by decide +kernel
theorem dX6_countGrades_2 : decode cX6_countGrades 2 = .ok (.iconst 0, 1) := by decide +kernel
theorem dX6_countGrades_3 : decode cX6_countGrades 3 = .ok (.istore_n 3, 1) := by decide +kernel
theorem dX6_countGrades_4 : decode cX6_countGrades 4 = .ok (.iload_n 3, 1) := by decide +kernel
theorem dX6_countGrades_5 : decode cX6_countGrades 5 = .ok (.bipush 10, 2) := by decide +kernel
theorem dX6_countGrades_7 : decode cX6_countGrades 7 = .ok (.if_icmp .ge 23, 3) := by decide +kernel
theorem dX6_countGrades_10 : decode cX6_countGrades 10 = .ok (.aload_n 0, 1) := by decide +kernel
theorem dX6_countGrades_11 : decode cX6_countGrades 11 = .ok (.iload_n 3, 1) := by decide +kernel
theorem dX6_countGrades_12 : decode cX6_countGrades 12 = .ok (.iload_n 1, 1) := by decide +kernel
theorem dX6_countGrades_13 : decode cX6_countGrades 13 = .ok (.invokevirtual 62, 3) := by decide +kernel
theorem dX6_countGrades_16 : decode cX6_countGrades 16 = .ok (.bipush (-9), 2) := by decide +kernel
theorem dX6_countGrades_18 : decode cX6_countGrades 18 = .ok (.if_icmp .eq 6, 3) := by decide +kernel
theorem dX6_countGrades_21 : decode cX6_countGrades 21 = .ok (.iinc 2 1, 3) := by decide +kernel
theorem dX6_countGrades_24 : decode cX6_countGrades 24 = .ok (.iinc 3 1, 3) := by decide +kernel
theorem dX6_countGrades_27 : decode cX6_countGrades 27 = .ok (.goto (-23), 3) := by decide +kernel
theorem dX6_countGrades_30 : decode cX6_countGrades 30 = .ok (.iload_n 2, 1) := by decide +kernel
theorem dX6_countGrades_31 : decode cX6_countGrades 31 = .ok (.ireturn, 1) := by decide +kernel
theorem dX6_score_0 : decode cX6_score 0 = .ok (.iconst 0, 1) := by decide +kernel
theorem dX6_score_1 : decode cX6_score 1 = .ok (.istore_n 2, 1) := by decide +kernel
theorem dX6_score_2 : decode cX6_score 2 = .ok (.iconst 0, 1) := by decide +kernel
theorem dX6_score_3 : decode cX6_score 3 = .ok (.istore_n 3, 1) := by decide +kernel
theorem dX6_score_4 : decode cX6_score 4 = .ok (.iconst 0, 1) := by decide +kernel
theorem dX6_score_5 : decode cX6_score 5 = .ok (.istore 4, 2) := by decide +kernel
theorem dX6_score_7 : decode cX6_score 7 = .ok (.iload 4, 2) := by decide +kernel
theorem dX6_score_9 : decode cX6_score 9 = .ok (.bipush 10, 2) := by decide +kernel
theorem dX6_score_11 : decode cX6_score 11 = .ok (.if_icmp .ge 38, 3) := by decide +kernel
theorem dX6_score_14 : decode cX6_score 14 = .ok (.aload_n 0, 1) := by decide +kernel
theorem dX6_score_15 : decode cX6_score 15 = .ok (.getfield 33, 3) := by decide +kernel
theorem dX6_score_18 : decode cX6_score 18 = .ok (.iload_n 1, 1) := by decide +kernel
theorem dX6_score_19 : decode cX6_score 19 = .ok (.bipush 10, 2) := by decide +kernel
theorem dX6_score_21 : decode cX6_score 21 = .ok (.imul, 1) := by decide +kernel
theorem dX6_score_22 : decode cX6_score 22 = .ok (.iload 4, 2) := by decide +kernel
theorem dX6_score_24 : decode cX6_score 24 = .ok (.iadd, 1) := by decide +kernel
theorem dX6_score_25 : decode cX6_score 25 = .ok (.iaload, 1) := by decide +kernel
theorem dX6_score_26 : decode cX6_score 26 = .ok (.istore 5, 2) := by decide +kernel
theorem dX6_score_28 : decode cX6_score 28 = .ok (.iload 5, 2) := by decide +kernel
theorem dX6_score_30 : decode cX6_score 30 = .ok (.bipush (-9), 2) := by decide +kernel
theorem dX6_score_32 : decode cX6_score 32 = .ok (.if_icmp .eq 11, 3) := by decide +kernel
theorem dX6_score_35 : decode cX6_score 35 = .ok (.iload_n 2, 1) := by decide +kernel
theorem dX6_score_36 : decode cX6_score 36 = .ok (.iload 5, 2) := by decide +kernel
theorem dX6_score_38 : decode cX6_score 38 = .ok (.iadd, 1) := by decide +kernel
theorem dX6_score_39 : decode cX6_score 39 = .ok (.istore_n 2, 1) := by decide +kernel
theorem dX6_score_40 : decode cX6_score 40 = .ok (.iinc 3 1, 3) := by decide +kernel
theorem dX6_score_43 : decode cX6_score 43 = .ok (.iinc 4 1, 3) := by decide +kernel
theorem dX6_score_46 : decode cX6_score 46 = .ok (.goto (-39), 3) := by decide +kernel
theorem dX6_score_49 : decode cX6_score 49 = .ok (.iload_n 3, 1) := by decide +kernel
theorem dX6_score_50 : decode cX6_score 50 = .ok (.ifCond .le 12, 3) := by decide +kernel
theorem dX6_score_53 : decode cX6_score 53 = .ok (.bipush 10, 2) := by decide +kernel
theorem dX6_score_55 : decode cX6_score 55 = .ok (.iload_n 2, 1) := by decide +kernel
theorem dX6_score_56 : decode cX6_score 56 = .ok (.imul, 1) := by decide +kernel
theorem dX6_score_57 : decode cX6_score 57 = .ok (.iload_n 3, 1) := by decide +kernel
theorem dX6_score_58 : decode cX6_score 58 = .ok (.idiv, 1) := by decide +kernel
theorem dX6_score_59 : decode cX6_score 59 = .ok (.goto 5, 3) := by decide +kernel
theorem dX6_score_62 : decode cX6_score 62 = .ok (.bipush 50, 2) := by decide +kernel
theorem dX6_score_64 : decode cX6_score 64 = .ok (.istore 4, 2) := by decide +kernel
theorem dX6_score_66 : decode cX6_score 66 = .ok (.iload 4, 2) := by decide +kernel
theorem dX6_score_68 : decode cX6_score 68 = .ok (.iconst 5, 1) := by decide +kernel
theorem dX6_score_69 : decode cX6_score 69 = .ok (.aload_n 0, 1) := by decide +kernel
theorem dX6_score_70 : decode cX6_score 70 = .ok (.getfield 24, 3) := by decide +kernel
theorem dX6_score_73 : decode cX6_score 73 = .ok (.iload_n 1, 1) := by decide +kernel
theorem dX6_score_74 : decode cX6_score 74 = .ok (.iaload, 1) := by decide +kernel
theorem dX6_score_75 : decode cX6_score 75 = .ok (.imul, 1) := by decide +kernel
theorem dX6_score_76 : decode cX6_score 76 = .ok (.iadd, 1) := by decide +kernel
theorem dX6_score_77 : decode cX6_score 77 = .ok (.bipush 25, 2) := by decide +kernel
theorem dX6_score_79 : decode cX6_score 79 = .ok (.aload_n 0, 1) := by decide +kernel
theorem dX6_score_80 : decode cX6_score 80 = .ok (.getfield 27, 3) := by decide +kernel
theorem dX6_score_83 : decode cX6_score 83 = .ok (.iload_n 1, 1) := by decide +kernel
theorem dX6_score_84 : decode cX6_score 84 = .ok (.iaload, 1) := by decide +kernel
theorem dX6_score_85 : decode cX6_score 85 = .ok (.imul, 1) := by decide +kernel
theorem dX6_score_86 : decode cX6_score 86 = .ok (.isub, 1) := by decide +kernel
theorem dX6_score_87 : decode cX6_score 87 = .ok (.istore 5, 2) := by decide +kernel
theorem dX6_score_89 : decode cX6_score 89 = .ok (.iload 5, 2) := by decide +kernel
theorem dX6_score_91 : decode cX6_score 91 = .ok (.ifCond .ge 5, 3) := by decide +kernel
theorem dX6_score_94 : decode cX6_score 94 = .ok (.iconst 0, 1) := by decide +kernel
theorem dX6_score_95 : decode cX6_score 95 = .ok (.ireturn, 1) := by decide +kernel
theorem dX6_score_96 : decode cX6_score 96 = .ok (.iload 5, 2) := by decide +kernel
theorem dX6_score_98 : decode cX6_score 98 = .ok (.bipush 100, 2) := by decide +kernel
theorem dX6_score_100 : decode cX6_score 100 = .ok (.if_icmp .le 8, 3) := by decide +kernel
theorem dX6_score_103 : decode cX6_score 103 = .ok (.bipush 100, 2) := by decide +kernel
theorem dX6_score_105 : decode cX6_score 105 = .ok (.goto 5, 3) := by decide +kernel
theorem dX6_score_108 : decode cX6_score 108 = .ok (.iload 5, 2) := by decide +kernel
theorem dX6_score_110 : decode cX6_score 110 = .ok (.ireturn, 1) := by decide +kernel
theorem dX6_number_0 : decode cX6_number 0 = .ok (.iload_n 2, 1) := by decide +kernel
theorem dX6_number_1 : decode cX6_number 1 = .ok (.tableswitch 91 0 6 #[43, 50, 57, 64, 71, 78, 85], 43) := by decide +kernel
theorem dX6_number_44 : decode cX6_number 44 = .ok (.aload_n 0, 1) := by decide +kernel
theorem dX6_number_45 : decode cX6_number 45 = .ok (.getfield 9, 3) := by decide +kernel
theorem dX6_number_48 : decode cX6_number 48 = .ok (.iload_n 1, 1) := by decide +kernel
theorem dX6_number_49 : decode cX6_number 49 = .ok (.iaload, 1) := by decide +kernel
theorem dX6_number_50 : decode cX6_number 50 = .ok (.ireturn, 1) := by decide +kernel
theorem dX6_number_51 : decode cX6_number 51 = .ok (.aload_n 0, 1) := by decide +kernel
theorem dX6_number_52 : decode cX6_number 52 = .ok (.getfield 15, 3) := by decide +kernel
theorem dX6_number_55 : decode cX6_number 55 = .ok (.iload_n 1, 1) := by decide +kernel
theorem dX6_number_56 : decode cX6_number 56 = .ok (.iaload, 1) := by decide +kernel
theorem dX6_number_57 : decode cX6_number 57 = .ok (.ireturn, 1) := by decide +kernel
theorem dX6_number_58 : decode cX6_number 58 = .ok (.aload_n 0, 1) := by decide +kernel
theorem dX6_number_59 : decode cX6_number 59 = .ok (.getfield 18, 3) := by decide +kernel
theorem dX6_number_62 : decode cX6_number 62 = .ok (.iload_n 1, 1) := by decide +kernel
theorem dX6_number_63 : decode cX6_number 63 = .ok (.iaload, 1) := by decide +kernel
theorem dX6_number_64 : decode cX6_number 64 = .ok (.ireturn, 1) := by decide +kernel
theorem dX6_number_65 : decode cX6_number 65 = .ok (.aload_n 0, 1) := by decide +kernel
theorem dX6_number_66 : decode cX6_number 66 = .ok (.getfield 21, 3) := by decide +kernel
theorem dX6_number_69 : decode cX6_number 69 = .ok (.iload_n 1, 1) := by decide +kernel
theorem dX6_number_70 : decode cX6_number 70 = .ok (.iaload, 1) := by decide +kernel
theorem dX6_number_71 : decode cX6_number 71 = .ok (.ireturn, 1) := by decide +kernel
theorem dX6_number_72 : decode cX6_number 72 = .ok (.aload_n 0, 1) := by decide +kernel
theorem dX6_number_73 : decode cX6_number 73 = .ok (.getfield 24, 3) := by decide +kernel
theorem dX6_number_76 : decode cX6_number 76 = .ok (.iload_n 1, 1) := by decide +kernel
theorem dX6_number_77 : decode cX6_number 77 = .ok (.iaload, 1) := by decide +kernel
theorem dX6_number_78 : decode cX6_number 78 = .ok (.ireturn, 1) := by decide +kernel
theorem dX6_number_79 : decode cX6_number 79 = .ok (.aload_n 0, 1) := by decide +kernel
theorem dX6_number_80 : decode cX6_number 80 = .ok (.getfield 27, 3) := by decide +kernel
theorem dX6_number_83 : decode cX6_number 83 = .ok (.iload_n 1, 1) := by decide +kernel
theorem dX6_number_84 : decode cX6_number 84 = .ok (.iaload, 1) := by decide +kernel
theorem dX6_number_85 : decode cX6_number 85 = .ok (.ireturn, 1) := by decide +kernel
theorem dX6_number_86 : decode cX6_number 86 = .ok (.aload_n 0, 1) := by decide +kernel
theorem dX6_number_87 : decode cX6_number 87 = .ok (.iload_n 1, 1) := by decide +kernel
theorem dX6_number_88 : decode cX6_number 88 = .ok (.invokevirtual 66, 3) := by decide +kernel
theorem dX6_number_91 : decode cX6_number 91 = .ok (.ireturn, 1) := by decide +kernel
theorem dX6_number_92 : decode cX6_number 92 = .ok (.aload_n 0, 1) := by decide +kernel
theorem dX6_number_93 : decode cX6_number 93 = .ok (.iload_n 1, 1) := by decide +kernel
theorem dX6_number_94 : decode cX6_number 94 = .ok (.invokevirtual 54, 3) := by decide +kernel
theorem dX6_number_97 : decode cX6_number 97 = .ok (.ifCond .eq 11, 3) := by decide +kernel
theorem dX6_number_100 : decode cX6_number 100 = .ok (.aload_n 0, 1) := by decide +kernel
theorem dX6_number_101 : decode cX6_number 101 = .ok (.iload_n 1, 1) := by decide +kernel
theorem dX6_number_102 : decode cX6_number 102 = .ok (.invokevirtual 70, 3) := by decide +kernel
theorem dX6_number_105 : decode cX6_number 105 = .ok (.goto 5, 3) := by decide +kernel
theorem dX6_number_108 : decode cX6_number 108 = .ok (.bipush (-9), 2) := by decide +kernel
theorem dX6_number_110 : decode cX6_number 110 = .ok (.ireturn, 1) := by decide +kernel
theorem dX6_countLed_0 : decode cX6_countLed 0 = .ok (.iconst 0, 1) := by decide +kernel
theorem dX6_countLed_1 : decode cX6_countLed 1 = .ok (.istore_n 2, 1) := by decide +kernel
theorem dX6_countLed_2 : decode cX6_countLed 2 = .ok (.iconst 1, 1) := by decide +kernel
theorem dX6_countLed_3 : decode cX6_countLed 3 = .ok (.istore_n 3, 1) := by decide +kernel
theorem dX6_countLed_4 : decode cX6_countLed 4 = .ok (.iload_n 3, 1) := by decide +kernel
theorem dX6_countLed_5 : decode cX6_countLed 5 = .ok (.aload_n 0, 1) := by decide +kernel
theorem dX6_countLed_6 : decode cX6_countLed 6 = .ok (.getfield 36, 3) := by decide +kernel
theorem dX6_countLed_9 : decode cX6_countLed 9 = .ok (.if_icmp .gt 22, 3) := by decide +kernel
theorem dX6_countLed_12 : decode cX6_countLed 12 = .ok (.aload_n 0, 1) := by decide +kernel
theorem dX6_countLed_13 : decode cX6_countLed 13 = .ok (.getfield 9, 3) := by decide +kernel
theorem dX6_countLed_16 : decode cX6_countLed 16 = .ok (.iload_n 3, 1) := by decide +kernel
theorem dX6_countLed_17 : decode cX6_countLed 17 = .ok (.iaload, 1) := by decide +kernel
theorem dX6_countLed_18 : decode cX6_countLed 18 = .ok (.iload_n 1, 1) := by decide +kernel
theorem dX6_countLed_19 : decode cX6_countLed 19 = .ok (.if_icmp .ne 6, 3) := by decide +kernel
theorem dX6_countLed_22 : decode cX6_countLed 22 = .ok (.iinc 2 1, 3) := by decide +kernel
theorem dX6_countLed_25 : decode cX6_countLed 25 = .ok (.iinc 3 1, 3) := by decide +kernel
theorem dX6_countLed_28 : decode cX6_countLed 28 = .ok (.goto (-24), 3) := by decide +kernel
theorem dX6_countLed_31 : decode cX6_countLed 31 = .ok (.iload_n 2, 1) := by decide +kernel
theorem dX6_countLed_32 : decode cX6_countLed 32 = .ok (.ireturn, 1) := by decide +kernel
theorem dX6_countLedInARow_0 : decode cX6_countLedInARow 0 = .ok (.iconst 0, 1) := by decide +kernel
theorem dX6_countLedInARow_1 : decode cX6_countLedInARow 1 = .ok (.istore_n 2, 1) := by decide +kernel
theorem dX6_countLedInARow_2 : decode cX6_countLedInARow 2 = .ok (.aload_n 0, 1) := by decide +kernel
theorem dX6_countLedInARow_3 : decode cX6_countLedInARow 3 = .ok (.getfield 36, 3) := by decide +kernel
theorem dX6_countLedInARow_6 : decode cX6_countLedInARow 6 = .ok (.istore_n 3, 1) := by decide +kernel
theorem dX6_countLedInARow_7 : decode cX6_countLedInARow 7 = .ok (.iload_n 3, 1) := by decide +kernel
theorem dX6_countLedInARow_8 : decode cX6_countLedInARow 8 = .ok (.iconst 1, 1) := by decide +kernel
theorem dX6_countLedInARow_9 : decode cX6_countLedInARow 9 = .ok (.if_icmp .lt 22, 3) := by decide +kernel
theorem dX6_countLedInARow_12 : decode cX6_countLedInARow 12 = .ok (.aload_n 0, 1) := by decide +kernel
theorem dX6_countLedInARow_13 : decode cX6_countLedInARow 13 = .ok (.getfield 9, 3) := by decide +kernel
theorem dX6_countLedInARow_16 : decode cX6_countLedInARow 16 = .ok (.iload_n 3, 1) := by decide +kernel
theorem dX6_countLedInARow_17 : decode cX6_countLedInARow 17 = .ok (.iaload, 1) := by decide +kernel
theorem dX6_countLedInARow_18 : decode cX6_countLedInARow 18 = .ok (.iload_n 1, 1) := by decide +kernel
theorem dX6_countLedInARow_19 : decode cX6_countLedInARow 19 = .ok (.if_icmp .ne 12, 3) := by decide +kernel
theorem dX6_countLedInARow_22 : decode cX6_countLedInARow 22 = .ok (.iinc 2 1, 3) := by decide +kernel
theorem dX6_countLedInARow_25 : decode cX6_countLedInARow 25 = .ok (.iinc 3 (-1), 3) := by decide +kernel
theorem dX6_countLedInARow_28 : decode cX6_countLedInARow 28 = .ok (.goto (-21), 3) := by decide +kernel
theorem dX6_countLedInARow_31 : decode cX6_countLedInARow 31 = .ok (.iload_n 2, 1) := by decide +kernel
theorem dX6_countLedInARow_32 : decode cX6_countLedInARow 32 = .ok (.ireturn, 1) := by decide +kernel
theorem dX6_reputation_0 : decode cX6_reputation 0 = .ok (.iconst 0, 1) := by decide +kernel
theorem dX6_reputation_1 : decode cX6_reputation 1 = .ok (.istore_n 3, 1) := by decide +kernel
theorem dX6_reputation_2 : decode cX6_reputation 2 = .ok (.iconst 0, 1) := by decide +kernel
theorem dX6_reputation_3 : decode cX6_reputation 3 = .ok (.istore 4, 2) := by decide +kernel
theorem dX6_reputation_5 : decode cX6_reputation 5 = .ok (.aload_n 0, 1) := by decide +kernel
theorem dX6_reputation_6 : decode cX6_reputation 6 = .ok (.getfield 36, 3) := by decide +kernel
theorem dX6_reputation_9 : decode cX6_reputation 9 = .ok (.istore 5, 2) := by decide +kernel
theorem dX6_reputation_11 : decode cX6_reputation 11 = .ok (.iload 5, 2) := by decide +kernel
theorem dX6_reputation_13 : decode cX6_reputation 13 = .ok (.iconst 1, 1) := by decide +kernel
theorem dX6_reputation_14 : decode cX6_reputation 14 = .ok (.if_icmp .lt 50, 3) := by decide +kernel
theorem dX6_reputation_17 : decode cX6_reputation 17 = .ok (.iload 4, 2) := by decide +kernel
theorem dX6_reputation_19 : decode cX6_reputation 19 = .ok (.iload_n 2, 1) := by decide +kernel
theorem dX6_reputation_20 : decode cX6_reputation 20 = .ok (.if_icmp .ge 44, 3) := by decide +kernel
theorem dX6_reputation_23 : decode cX6_reputation 23 = .ok (.aload_n 0, 1) := by decide +kernel
theorem dX6_reputation_24 : decode cX6_reputation 24 = .ok (.getfield 9, 3) := by decide +kernel
theorem dX6_reputation_27 : decode cX6_reputation 27 = .ok (.iload 5, 2) := by decide +kernel
theorem dX6_reputation_29 : decode cX6_reputation 29 = .ok (.iaload, 1) := by decide +kernel
theorem dX6_reputation_30 : decode cX6_reputation 30 = .ok (.iload_n 1, 1) := by decide +kernel
theorem dX6_reputation_31 : decode cX6_reputation 31 = .ok (.if_icmp .ne 27, 3) := by decide +kernel
theorem dX6_reputation_34 : decode cX6_reputation 34 = .ok (.aload_n 0, 1) := by decide +kernel
theorem dX6_reputation_35 : decode cX6_reputation 35 = .ok (.getfield 21, 3) := by decide +kernel
theorem dX6_reputation_38 : decode cX6_reputation 38 = .ok (.iload 5, 2) := by decide +kernel
theorem dX6_reputation_40 : decode cX6_reputation 40 = .ok (.iaload, 1) := by decide +kernel
theorem dX6_reputation_41 : decode cX6_reputation 41 = .ok (.bipush (-9), 2) := by decide +kernel
theorem dX6_reputation_43 : decode cX6_reputation 43 = .ok (.if_icmp .eq 15, 3) := by decide +kernel
theorem dX6_reputation_46 : decode cX6_reputation 46 = .ok (.iload_n 3, 1) := by decide +kernel
theorem dX6_reputation_47 : decode cX6_reputation 47 = .ok (.aload_n 0, 1) := by decide +kernel
theorem dX6_reputation_48 : decode cX6_reputation 48 = .ok (.iload 5, 2) := by decide +kernel
theorem dX6_reputation_50 : decode cX6_reputation 50 = .ok (.invokevirtual 70, 3) := by decide +kernel
theorem dX6_reputation_53 : decode cX6_reputation 53 = .ok (.iadd, 1) := by decide +kernel
theorem dX6_reputation_54 : decode cX6_reputation 54 = .ok (.istore_n 3, 1) := by decide +kernel
theorem dX6_reputation_55 : decode cX6_reputation 55 = .ok (.iinc 4 1, 3) := by decide +kernel
theorem dX6_reputation_58 : decode cX6_reputation 58 = .ok (.iinc 5 (-1), 3) := by decide +kernel
theorem dX6_reputation_61 : decode cX6_reputation 61 = .ok (.goto (-50), 3) := by decide +kernel
theorem dX6_reputation_64 : decode cX6_reputation 64 = .ok (.iload 4, 2) := by decide +kernel
theorem dX6_reputation_66 : decode cX6_reputation 66 = .ok (.ifCond .le 10, 3) := by decide +kernel
theorem dX6_reputation_69 : decode cX6_reputation 69 = .ok (.iload_n 3, 1) := by decide +kernel
theorem dX6_reputation_70 : decode cX6_reputation 70 = .ok (.iload 4, 2) := by decide +kernel
theorem dX6_reputation_72 : decode cX6_reputation 72 = .ok (.idiv, 1) := by decide +kernel
theorem dX6_reputation_73 : decode cX6_reputation 73 = .ok (.goto 5, 3) := by decide +kernel
theorem dX6_reputation_76 : decode cX6_reputation 76 = .ok (.bipush 50, 2) := by decide +kernel
theorem dX6_reputation_78 : decode cX6_reputation 78 = .ok (.ireturn, 1) := by decide +kernel
theorem dX7_init_0 : decode cX7_init 0 = .ok (.aload_n 0, 1) := by decide +kernel
theorem dX7_init_1 : decode cX7_init 1 = .ok (.invokespecial 1, 3) := by decide +kernel
theorem dX7_init_4 : decode cX7_init 4 = .ok (.aload_n 0, 1) := by decide +kernel
theorem dX7_init_5 : decode cX7_init 5 = .ok (.new 7, 3) := by decide +kernel
theorem dX7_init_8 : decode cX7_init 8 = .ok (.dup, 1) := by decide +kernel
theorem dX7_init_9 : decode cX7_init 9 = .ok (.invokespecial 9, 3) := by decide +kernel
theorem dX7_init_12 : decode cX7_init 12 = .ok (.putfield 10, 3) := by decide +kernel
theorem dX7_init_15 : decode cX7_init 15 = .ok (.aload_n 0, 1) := by decide +kernel
theorem dX7_init_16 : decode cX7_init 16 = .ok (.new 16, 3) := by decide +kernel
theorem dX7_init_19 : decode cX7_init 19 = .ok (.dup, 1) := by decide +kernel
theorem dX7_init_20 : decode cX7_init 20 = .ok (.invokespecial 18, 3) := by decide +kernel
theorem dX7_init_23 : decode cX7_init 23 = .ok (.putfield 19, 3) := by decide +kernel
theorem dX7_init_26 : decode cX7_init 26 = .ok (.aload_n 0, 1) := by decide +kernel
theorem dX7_init_27 : decode cX7_init 27 = .ok (.new 23, 3) := by decide +kernel
theorem dX7_init_30 : decode cX7_init 30 = .ok (.dup, 1) := by decide +kernel
theorem dX7_init_31 : decode cX7_init 31 = .ok (.invokespecial 25, 3) := by decide +kernel
theorem dX7_init_34 : decode cX7_init 34 = .ok (.putfield 26, 3) := by decide +kernel
theorem dX7_init_37 : decode cX7_init 37 = .ok (.return_, 1) := by decide +kernel
theorem dX7_set_0 : decode cX7_set 0 = .ok (.iload_n 1, 1) := by decide +kernel
theorem dX7_set_1 : decode cX7_set 1 = .ok (.ifCond .lt 9, 3) := by decide +kernel
theorem dX7_set_4 : decode cX7_set 4 = .ok (.iload_n 1, 1) := by decide +kernel
theorem dX7_set_5 : decode cX7_set 5 = .ok (.bipush 6, 2) := by decide +kernel
theorem dX7_set_7 : decode cX7_set 7 = .ok (.if_icmp .lt 5, 3) := by decide +kernel
theorem dX7_set_10 : decode cX7_set 10 = .ok (.iconst (-1), 1) := by decide +kernel
theorem dX7_set_11 : decode cX7_set 11 = .ok (.ireturn, 1) := by decide +kernel
theorem dX7_set_12 : decode cX7_set 12 = .ok (.iload_n 2, 1) := by decide +kernel
theorem dX7_set_13 : decode cX7_set 13 = .ok (.getstatic 30, 3) := by decide +kernel
theorem dX7_set_16 : decode cX7_set 16 = .ok (.iload_n 1, 1) := by decide +kernel
theorem dX7_set_17 : decode cX7_set 17 = .ok (.iaload, 1) := by decide +kernel
theorem dX7_set_18 : decode cX7_set 18 = .ok (.if_icmp .lt 12, 3) := by decide +kernel
theorem dX7_set_21 : decode cX7_set 21 = .ok (.iload_n 2, 1) := by decide +kernel
theorem dX7_set_22 : decode cX7_set 22 = .ok (.getstatic 34, 3) := by decide +kernel
theorem dX7_set_25 : decode cX7_set 25 = .ok (.iload_n 1, 1) := by decide +kernel
theorem dX7_set_26 : decode cX7_set 26 = .ok (.iaload, 1) := by decide +kernel
theorem dX7_set_27 : decode cX7_set 27 = .ok (.if_icmp .le 5, 3) := by decide +kernel
theorem dX7_set_30 : decode cX7_set 30 = .ok (.iconst (-1), 1) := by decide +kernel
theorem dX7_set_31 : decode cX7_set 31 = .ok (.ireturn, 1) := by decide +kernel
theorem dX7_set_32 : decode cX7_set 32 = .ok (.aload_n 0, 1) := by decide +kernel
theorem dX7_set_33 : decode cX7_set 33 = .ok (.getfield 26, 3) := by decide +kernel
theorem dX7_set_36 : decode cX7_set 36 = .ok (.aload_n 0, 1) := by decide +kernel
theorem dX7_set_37 : decode cX7_set 37 = .ok (.getfield 19, 3) := by decide +kernel
theorem dX7_set_40 : decode cX7_set 40 = .ok (.invokevirtual 37, 3) := by decide +kernel
theorem dX7_set_43 : decode cX7_set 43 = .ok (.aload_n 0, 1) := by decide +kernel
theorem dX7_set_44 : decode cX7_set 44 = .ok (.getfield 19, 3) := by decide +kernel
theorem dX7_set_47 : decode cX7_set 47 = .ok (.getfield 41, 3) := by decide +kernel
theorem dX7_set_50 : decode cX7_set 50 = .ok (.iload_n 1, 1) := by decide +kernel
theorem dX7_set_51 : decode cX7_set 51 = .ok (.iaload, 1) := by decide +kernel
theorem dX7_set_52 : decode cX7_set 52 = .ok (.istore_n 3, 1) := by decide +kernel
theorem dX7_set_53 : decode cX7_set 53 = .ok (.aload_n 0, 1) := by decide +kernel
theorem dX7_set_54 : decode cX7_set 54 = .ok (.getfield 19, 3) := by decide +kernel
theorem dX7_set_57 : decode cX7_set 57 = .ok (.getfield 41, 3) := by decide +kernel
theorem dX7_set_60 : decode cX7_set 60 = .ok (.iload_n 1, 1) := by decide +kernel
theorem dX7_set_61 : decode cX7_set 61 = .ok (.iload_n 2, 1) := by decide +kernel
theorem dX7_set_62 : decode cX7_set 62 = .ok (.iastore, 1) := by decide +kernel
theorem dX7_set_63 : decode cX7_set 63 = .ok (.iload_n 1, 1) := by decide +kernel
theorem dX7_set_64 : decode cX7_set 64 = .ok (.iconst 3, 1) := by decide +kernel
theorem dX7_set_65 : decode cX7_set 65 = .ok (.if_icmp .ne 10, 3) := by decide +kernel
theorem dX7_set_68 : decode cX7_set 68 = .ok (.aload_n 0, 1) := by decide +kernel
theorem dX7_set_69 : decode cX7_set 69 = .ok (.getfield 19, 3) := by decide +kernel
theorem dX7_set_72 : decode cX7_set 72 = .ok (.invokevirtual 44, 3) := by decide +kernel
theorem dX7_set_75 : decode cX7_set 75 = .ok (.iload_n 3, 1) := by decide +kernel
theorem dX7_set_76 : decode cX7_set 76 = .ok (.ireturn, 1) := by decide +kernel
theorem dX7_join_0 : decode cX7_join 0 = .ok (.iload_n 1, 1) := by decide +kernel
theorem dX7_join_1 : decode cX7_join 1 = .ok (.ifCond .lt 10, 3) := by decide +kernel
theorem dX7_join_4 : decode cX7_join 4 = .ok (.iload_n 1, 1) := by decide +kernel
theorem dX7_join_5 : decode cX7_join 5 = .ok (.sipush 997, 3) := by decide +kernel
theorem dX7_join_8 : decode cX7_join 8 = .ok (.if_icmp .lt 5, 3) := by decide +kernel
theorem dX7_join_11 : decode cX7_join 11 = .ok (.iconst (-1), 1) := by decide +kernel
theorem dX7_join_12 : decode cX7_join 12 = .ok (.ireturn, 1) := by decide +kernel
theorem dX7_join_13 : decode cX7_join 13 = .ok (.aload_n 0, 1) := by decide +kernel
theorem dX7_join_14 : decode cX7_join 14 = .ok (.getfield 19, 3) := by decide +kernel
theorem dX7_join_17 : decode cX7_join 17 = .ok (.getfield 47, 3) := by decide +kernel
theorem dX7_join_20 : decode cX7_join 20 = .ok (.bipush 10, 2) := by decide +kernel
theorem dX7_join_22 : decode cX7_join 22 = .ok (.if_icmp .lt 6, 3) := by decide +kernel
theorem dX7_join_25 : decode cX7_join 25 = .ok (.bipush (-3), 2) := by decide +kernel
theorem dX7_join_27 : decode cX7_join 27 = .ok (.ireturn, 1) := by decide +kernel
theorem dX7_join_28 : decode cX7_join 28 = .ok (.aload_n 0, 1) := by decide +kernel
theorem dX7_join_29 : decode cX7_join 29 = .ok (.getfield 26, 3) := by decide +kernel
theorem dX7_join_32 : decode cX7_join 32 = .ok (.aload_n 0, 1) := by decide +kernel
theorem dX7_join_33 : decode cX7_join 33 = .ok (.getfield 19, 3) := by decide +kernel
theorem dX7_join_36 : decode cX7_join 36 = .ok (.invokevirtual 37, 3) := by decide +kernel
theorem dX7_join_39 : decode cX7_join 39 = .ok (.aload_n 0, 1) := by decide +kernel
theorem dX7_join_40 : decode cX7_join 40 = .ok (.getfield 19, 3) := by decide +kernel
theorem dX7_join_43 : decode cX7_join 43 = .ok (.iload_n 1, 1) := by decide +kernel
theorem dX7_join_44 : decode cX7_join 44 = .ok (.invokevirtual 51, 3) := by decide +kernel
theorem dX7_join_47 : decode cX7_join 47 = .ok (.istore_n 2, 1) := by decide +kernel
theorem dX7_join_48 : decode cX7_join 48 = .ok (.aload_n 0, 1) := by decide +kernel
theorem dX7_join_49 : decode cX7_join 49 = .ok (.getfield 19, 3) := by decide +kernel
theorem dX7_join_52 : decode cX7_join 52 = .ok (.invokevirtual 44, 3) := by decide +kernel
theorem dX7_join_55 : decode cX7_join 55 = .ok (.iload_n 2, 1) := by decide +kernel
theorem dX7_join_56 : decode cX7_join 56 = .ok (.ireturn, 1) := by decide +kernel
theorem dX7_setPresent_0 : decode cX7_setPresent 0 = .ok (.aload_n 0, 1) := by decide +kernel
theorem dX7_setPresent_1 : decode cX7_setPresent 1 = .ok (.getfield 19, 3) := by decide +kernel
theorem dX7_setPresent_4 : decode cX7_setPresent 4 = .ok (.iload_n 1, 1) := by decide +kernel
theorem dX7_setPresent_5 : decode cX7_setPresent 5 = .ok (.invokevirtual 55, 3) := by decide +kernel
theorem dX7_setPresent_8 : decode cX7_setPresent 8 = .ok (.ifCond .ne 5, 3) := by decide +kernel
theorem dX7_setPresent_11 : decode cX7_setPresent 11 = .ok (.iconst (-1), 1) := by decide +kernel
theorem dX7_setPresent_12 : decode cX7_setPresent 12 = .ok (.ireturn, 1) := by decide +kernel
theorem dX7_setPresent_13 : decode cX7_setPresent 13 = .ok (.aload_n 0, 1) := by decide +kernel
theorem dX7_setPresent_14 : decode cX7_setPresent 14 = .ok (.getfield 26, 3) := by decide +kernel
theorem dX7_setPresent_17 : decode cX7_setPresent 17 = .ok (.aload_n 0, 1) := by decide +kernel
theorem dX7_setPresent_18 : decode cX7_setPresent 18 = .ok (.getfield 19, 3) := by decide +kernel
theorem dX7_setPresent_21 : decode cX7_setPresent 21 = .ok (.invokevirtual 37, 3) := by decide +kernel
theorem dX7_setPresent_24 : decode cX7_setPresent 24 = .ok (.aload_n 0, 1) := by decide +kernel
theorem dX7_setPresent_25 : decode cX7_setPresent 25 = .ok (.getfield 19, 3) := by decide +kernel
theorem dX7_setPresent_28 : decode cX7_setPresent 28 = .ok (.iload_n 1, 1) := by decide +kernel
theorem dX7_setPresent_29 : decode cX7_setPresent 29 = .ok (.invokevirtual 59, 3) := by decide +kernel
theorem dX7_setPresent_32 : decode cX7_setPresent 32 = .ok (.istore_n 3, 1) := by decide +kernel
theorem dX7_setPresent_33 : decode cX7_setPresent 33 = .ok (.iload_n 2, 1) := by decide +kernel
theorem dX7_setPresent_34 : decode cX7_setPresent 34 = .ok (.iload_n 3, 1) := by decide +kernel
theorem dX7_setPresent_35 : decode cX7_setPresent 35 = .ok (.if_icmp .ne 8, 3) := by decide +kernel
theorem dX7_setPresent_38 : decode cX7_setPresent 38 = .ok (.iload_n 3, 1) := by decide +kernel
theorem dX7_setPresent_39 : decode cX7_setPresent 39 = .ok (.invokestatic 62, 3) := by decide +kernel
theorem dX7_setPresent_42 : decode cX7_setPresent 42 = .ok (.ireturn, 1) := by decide +kernel
theorem dX7_setPresent_43 : decode cX7_setPresent 43 = .ok (.iload_n 2, 1) := by decide +kernel
theorem dX7_setPresent_44 : decode cX7_setPresent 44 = .ok (.ifCond .eq 22, 3) := by decide +kernel
theorem dX7_setPresent_47 : decode cX7_setPresent 47 = .ok (.aload_n 0, 1) := by decide +kernel
theorem dX7_setPresent_48 : decode cX7_setPresent 48 = .ok (.getfield 19, 3) := by decide +kernel
theorem dX7_setPresent_51 : decode cX7_setPresent 51 = .ok (.dup, 1) := by decide +kernel
theorem dX7_setPresent_52 : decode cX7_setPresent 52 = .ok (.getfield 66, 3) := by decide +kernel
theorem dX7_setPresent_55 : decode cX7_setPresent 55 = .ok (.iload_n 1, 1) := by decide +kernel
theorem dX7_setPresent_56 : decode cX7_setPresent 56 = .ok (.invokestatic 69, 3) := by decide +kernel
theorem dX7_setPresent_59 : decode cX7_setPresent 59 = .ok (.ior, 1) := by decide +kernel
theorem dX7_setPresent_60 : decode cX7_setPresent 60 = .ok (.putfield 66, 3) := by decide +kernel
theorem dX7_setPresent_63 : decode cX7_setPresent 63 = .ok (.goto 11, 3) := by decide +kernel
theorem dX7_setPresent_66 : decode cX7_setPresent 66 = .ok (.aload_n 0, 1) := by decide +kernel
theorem dX7_setPresent_67 : decode cX7_setPresent 67 = .ok (.getfield 19, 3) := by decide +kernel
theorem dX7_setPresent_70 : decode cX7_setPresent 70 = .ok (.iload_n 1, 1) := by decide +kernel
theorem dX7_setPresent_71 : decode cX7_setPresent 71 = .ok (.invokevirtual 72, 3) := by decide +kernel
theorem dX7_setPresent_74 : decode cX7_setPresent 74 = .ok (.aload_n 0, 1) := by decide +kernel
theorem dX7_setPresent_75 : decode cX7_setPresent 75 = .ok (.getfield 19, 3) := by decide +kernel
theorem dX7_setPresent_78 : decode cX7_setPresent 78 = .ok (.invokevirtual 44, 3) := by decide +kernel
theorem dX7_setPresent_81 : decode cX7_setPresent 81 = .ok (.iload_n 3, 1) := by decide +kernel
theorem dX7_setPresent_82 : decode cX7_setPresent 82 = .ok (.invokestatic 62, 3) := by decide +kernel
theorem dX7_setPresent_85 : decode cX7_setPresent 85 = .ok (.ireturn, 1) := by decide +kernel
theorem dX7_pass_0 : decode cX7_pass 0 = .ok (.iload_n 1, 1) := by decide +kernel
theorem dX7_pass_1 : decode cX7_pass 1 = .ok (.iconst 1, 1) := by decide +kernel
theorem dX7_pass_2 : decode cX7_pass 2 = .ok (.if_icmp .lt 10, 3) := by decide +kernel
theorem dX7_pass_5 : decode cX7_pass 5 = .ok (.iload_n 1, 1) := by decide +kernel
theorem dX7_pass_6 : decode cX7_pass 6 = .ok (.sipush 1000, 3) := by decide +kernel
theorem dX7_pass_9 : decode cX7_pass 9 = .ok (.if_icmp .le 5, 3) := by decide +kernel
theorem dX7_pass_12 : decode cX7_pass 12 = .ok (.iconst (-1), 1) := by decide +kernel
theorem dX7_pass_13 : decode cX7_pass 13 = .ok (.ireturn, 1) := by decide +kernel
theorem dX7_pass_14 : decode cX7_pass 14 = .ok (.aload_n 0, 1) := by decide +kernel
theorem dX7_pass_15 : decode cX7_pass 15 = .ok (.getfield 19, 3) := by decide +kernel
theorem dX7_pass_18 : decode cX7_pass 18 = .ok (.getfield 76, 3) := by decide +kernel
theorem dX7_pass_21 : decode cX7_pass 21 = .ok (.iload_n 1, 1) := by decide +kernel
theorem dX7_pass_22 : decode cX7_pass 22 = .ok (.iadd, 1) := by decide +kernel
theorem dX7_pass_23 : decode cX7_pass 23 = .ok (.ldc 79, 2) := by decide +kernel
theorem dX7_pass_25 : decode cX7_pass 25 = .ok (.if_icmp .le 6, 3) := by decide +kernel
theorem dX7_pass_28 : decode cX7_pass 28 = .ok (.bipush (-2), 2) := by decide +kernel
theorem dX7_pass_30 : decode cX7_pass 30 = .ok (.ireturn, 1) := by decide +kernel
theorem dX7_pass_31 : decode cX7_pass 31 = .ok (.aload_n 0, 1) := by decide +kernel
theorem dX7_pass_32 : decode cX7_pass 32 = .ok (.getfield 26, 3) := by decide +kernel
theorem dX7_pass_35 : decode cX7_pass 35 = .ok (.aload_n 0, 1) := by decide +kernel
theorem dX7_pass_36 : decode cX7_pass 36 = .ok (.getfield 19, 3) := by decide +kernel
theorem dX7_pass_39 : decode cX7_pass 39 = .ok (.invokevirtual 37, 3) := by decide +kernel
theorem dX7_pass_42 : decode cX7_pass 42 = .ok (.aload_n 0, 1) := by decide +kernel
theorem dX7_pass_43 : decode cX7_pass 43 = .ok (.getfield 19, 3) := by decide +kernel
theorem dX7_pass_46 : decode cX7_pass 46 = .ok (.iload_n 1, 1) := by decide +kernel
theorem dX7_pass_47 : decode cX7_pass 47 = .ok (.invokevirtual 80, 3) := by decide +kernel
theorem dX7_pass_50 : decode cX7_pass 50 = .ok (.aload_n 0, 1) := by decide +kernel
theorem dX7_pass_51 : decode cX7_pass 51 = .ok (.getfield 19, 3) := by decide +kernel
theorem dX7_pass_54 : decode cX7_pass 54 = .ok (.getfield 76, 3) := by decide +kernel
theorem dX7_pass_57 : decode cX7_pass 57 = .ok (.ireturn, 1) := by decide +kernel
theorem dX7_open_0 : decode cX7_open 0 = .ok (.aload_n 0, 1) := by decide +kernel
theorem dX7_open_1 : decode cX7_open 1 = .ok (.getfield 19, 3) := by decide +kernel
theorem dX7_open_4 : decode cX7_open 4 = .ok (.getfield 83, 3) := by decide +kernel
theorem dX7_open_7 : decode cX7_open 7 = .ok (.getfield 87, 3) := by decide +kernel
theorem dX7_open_10 : decode cX7_open 10 = .ok (.ifCond .ne 14, 3) := by decide +kernel
theorem dX7_open_13 : decode cX7_open 13 = .ok (.aload_n 0, 1) := by decide +kernel
theorem dX7_open_14 : decode cX7_open 14 = .ok (.getfield 19, 3) := by decide +kernel
theorem dX7_open_17 : decode cX7_open 17 = .ok (.getfield 93, 3) := by decide +kernel
theorem dX7_open_20 : decode cX7_open 20 = .ok (.iconst 2, 1) := by decide +kernel
theorem dX7_open_21 : decode cX7_open 21 = .ok (.if_icmp .ne 6, 3) := by decide +kernel
theorem dX7_open_24 : decode cX7_open 24 = .ok (.bipush (-2), 2) := by decide +kernel
theorem dX7_open_26 : decode cX7_open 26 = .ok (.ireturn, 1) := by decide +kernel
theorem dX7_open_27 : decode cX7_open 27 = .ok (.aload_n 0, 1) := by decide +kernel
theorem dX7_open_28 : decode cX7_open 28 = .ok (.getfield 19, 3) := by decide +kernel
theorem dX7_open_31 : decode cX7_open 31 = .ok (.getfield 96, 3) := by decide +kernel
theorem dX7_open_34 : decode cX7_open 34 = .ok (.getfield 100, 3) := by decide +kernel
theorem dX7_open_37 : decode cX7_open 37 = .ok (.bipush 40, 2) := by decide +kernel
theorem dX7_open_39 : decode cX7_open 39 = .ok (.if_icmp .lt 6, 3) := by decide +kernel
theorem dX7_open_42 : decode cX7_open 42 = .ok (.bipush (-3), 2) := by decide +kernel
theorem dX7_open_44 : decode cX7_open 44 = .ok (.ireturn, 1) := by decide +kernel
theorem dX7_open_45 : decode cX7_open 45 = .ok (.aload_n 0, 1) := by decide +kernel
theorem dX7_open_46 : decode cX7_open 46 = .ok (.getfield 26, 3) := by decide +kernel
theorem dX7_open_49 : decode cX7_open 49 = .ok (.aload_n 0, 1) := by decide +kernel
theorem dX7_open_50 : decode cX7_open 50 = .ok (.getfield 19, 3) := by decide +kernel
theorem dX7_open_53 : decode cX7_open 53 = .ok (.invokevirtual 37, 3) := by decide +kernel
theorem dX7_open_56 : decode cX7_open 56 = .ok (.aload_n 0, 1) := by decide +kernel
theorem dX7_open_57 : decode cX7_open 57 = .ok (.getfield 19, 3) := by decide +kernel
theorem dX7_open_60 : decode cX7_open 60 = .ok (.getfield 83, 3) := by decide +kernel
theorem dX7_open_63 : decode cX7_open 63 = .ok (.iconst 1, 1) := by decide +kernel
theorem dX7_open_64 : decode cX7_open 64 = .ok (.putfield 87, 3) := by decide +kernel
theorem dX7_open_67 : decode cX7_open 67 = .ok (.aload_n 0, 1) := by decide +kernel
theorem dX7_open_68 : decode cX7_open 68 = .ok (.getfield 19, 3) := by decide +kernel
theorem dX7_open_71 : decode cX7_open 71 = .ok (.getfield 96, 3) := by decide +kernel
theorem dX7_open_74 : decode cX7_open 74 = .ok (.getfield 100, 3) := by decide +kernel
theorem dX7_open_77 : decode cX7_open 77 = .ok (.iconst 1, 1) := by decide +kernel
theorem dX7_open_78 : decode cX7_open 78 = .ok (.iadd, 1) := by decide +kernel
theorem dX7_open_79 : decode cX7_open 79 = .ok (.ireturn, 1) := by decide +kernel
theorem dX7_nominate_0 : decode cX7_nominate 0 = .ok (.aload_n 0, 1) := by decide +kernel
theorem dX7_nominate_1 : decode cX7_nominate 1 = .ok (.getfield 19, 3) := by decide +kernel
theorem dX7_nominate_4 : decode cX7_nominate 4 = .ok (.iload_n 1, 1) := by decide +kernel
theorem dX7_nominate_5 : decode cX7_nominate 5 = .ok (.invokevirtual 55, 3) := by decide +kernel
theorem dX7_nominate_8 : decode cX7_nominate 8 = .ok (.ifCond .ne 5, 3) := by decide +kernel
theorem dX7_nominate_11 : decode cX7_nominate 11 = .ok (.iconst (-1), 1) := by decide +kernel
theorem dX7_nominate_12 : decode cX7_nominate 12 = .ok (.ireturn, 1) := by decide +kernel
theorem dX7_nominate_13 : decode cX7_nominate 13 = .ok (.aload_n 0, 1) := by decide +kernel
theorem dX7_nominate_14 : decode cX7_nominate 14 = .ok (.getfield 19, 3) := by decide +kernel
theorem dX7_nominate_17 : decode cX7_nominate 17 = .ok (.getfield 83, 3) := by decide +kernel
theorem dX7_nominate_20 : decode cX7_nominate 20 = .ok (.getfield 87, 3) := by decide +kernel
theorem dX7_nominate_23 : decode cX7_nominate 23 = .ok (.ifCond .eq 20, 3) := by decide +kernel
theorem dX7_nominate_26 : decode cX7_nominate 26 = .ok (.aload_n 0, 1) := by decide +kernel
theorem dX7_nominate_27 : decode cX7_nominate 27 = .ok (.getfield 19, 3) := by decide +kernel
theorem dX7_nominate_30 : decode cX7_nominate 30 = .ok (.getfield 83, 3) := by decide +kernel
theorem dX7_nominate_33 : decode cX7_nominate 33 = .ok (.getfield 105, 3) := by decide +kernel
theorem dX7_nominate_36 : decode cX7_nominate 36 = .ok (.iload_n 1, 1) := by decide +kernel
theorem dX7_nominate_37 : decode cX7_nominate 37 = .ok (.invokestatic 108, 3) := by decide +kernel
theorem dX7_nominate_40 : decode cX7_nominate 40 = .ok (.ifCond .eq 6, 3) := by decide +kernel
theorem dX7_nominate_43 : decode cX7_nominate 43 = .ok (.bipush (-2), 2) := by decide +kernel
theorem dX7_nominate_45 : decode cX7_nominate 45 = .ok (.ireturn, 1) := by decide +kernel
theorem dX7_nominate_46 : decode cX7_nominate 46 = .ok (.aload_n 0, 1) := by decide +kernel
theorem dX7_nominate_47 : decode cX7_nominate 47 = .ok (.getfield 19, 3) := by decide +kernel
theorem dX7_nominate_50 : decode cX7_nominate 50 = .ok (.iload_n 1, 1) := by decide +kernel
theorem dX7_nominate_51 : decode cX7_nominate 51 = .ok (.invokevirtual 112, 3) := by decide +kernel
theorem dX7_nominate_54 : decode cX7_nominate 54 = .ok (.ifCond .ne 6, 3) := by decide +kernel
theorem dX7_nominate_57 : decode cX7_nominate 57 = .ok (.bipush (-4), 2) := by decide +kernel
theorem dX7_nominate_59 : decode cX7_nominate 59 = .ok (.ireturn, 1) := by decide +kernel
theorem dX7_nominate_60 : decode cX7_nominate 60 = .ok (.aload_n 0, 1) := by decide +kernel
theorem dX7_nominate_61 : decode cX7_nominate 61 = .ok (.getfield 26, 3) := by decide +kernel
theorem dX7_nominate_64 : decode cX7_nominate 64 = .ok (.aload_n 0, 1) := by decide +kernel
theorem dX7_nominate_65 : decode cX7_nominate 65 = .ok (.getfield 19, 3) := by decide +kernel
theorem dX7_nominate_68 : decode cX7_nominate 68 = .ok (.invokevirtual 37, 3) := by decide +kernel
theorem dX7_nominate_71 : decode cX7_nominate 71 = .ok (.aload_n 0, 1) := by decide +kernel
theorem dX7_nominate_72 : decode cX7_nominate 72 = .ok (.getfield 19, 3) := by decide +kernel
theorem dX7_nominate_75 : decode cX7_nominate 75 = .ok (.getfield 83, 3) := by decide +kernel
theorem dX7_nominate_78 : decode cX7_nominate 78 = .ok (.dup, 1) := by decide +kernel
theorem dX7_nominate_79 : decode cX7_nominate 79 = .ok (.getfield 105, 3) := by decide +kernel
theorem dX7_nominate_82 : decode cX7_nominate 82 = .ok (.iload_n 1, 1) := by decide +kernel
theorem dX7_nominate_83 : decode cX7_nominate 83 = .ok (.invokestatic 69, 3) := by decide +kernel
theorem dX7_nominate_86 : decode cX7_nominate 86 = .ok (.ior, 1) := by decide +kernel
theorem dX7_nominate_87 : decode cX7_nominate 87 = .ok (.putfield 105, 3) := by decide +kernel
theorem dX7_nominate_90 : decode cX7_nominate 90 = .ok (.aload_n 0, 1) := by decide +kernel
theorem dX7_nominate_91 : decode cX7_nominate 91 = .ok (.getfield 19, 3) := by decide +kernel
theorem dX7_nominate_94 : decode cX7_nominate 94 = .ok (.getfield 83, 3) := by decide +kernel
theorem dX7_nominate_97 : decode cX7_nominate 97 = .ok (.getfield 105, 3) := by decide +kernel
theorem dX7_nominate_100 : decode cX7_nominate 100 = .ok (.invokestatic 115, 3) := by decide +kernel
theorem dX7_nominate_103 : decode cX7_nominate 103 = .ok (.ireturn, 1) := by decide +kernel
theorem dX7_cast_0 : decode cX7_cast 0 = .ok (.aload_n 0, 1) := by decide +kernel
theorem dX7_cast_1 : decode cX7_cast 1 = .ok (.getfield 19, 3) := by decide +kernel
theorem dX7_cast_4 : decode cX7_cast 4 = .ok (.iload_n 1, 1) := by decide +kernel
theorem dX7_cast_5 : decode cX7_cast 5 = .ok (.invokevirtual 55, 3) := by decide +kernel
theorem dX7_cast_8 : decode cX7_cast 8 = .ok (.ifCond .ne 5, 3) := by decide +kernel
theorem dX7_cast_11 : decode cX7_cast 11 = .ok (.iconst (-1), 1) := by decide +kernel
theorem dX7_cast_12 : decode cX7_cast 12 = .ok (.ireturn, 1) := by decide +kernel
theorem dX7_cast_13 : decode cX7_cast 13 = .ok (.aload_n 0, 1) := by decide +kernel
theorem dX7_cast_14 : decode cX7_cast 14 = .ok (.getfield 19, 3) := by decide +kernel
theorem dX7_cast_17 : decode cX7_cast 17 = .ok (.getfield 83, 3) := by decide +kernel
theorem dX7_cast_20 : decode cX7_cast 20 = .ok (.getfield 87, 3) := by decide +kernel
theorem dX7_cast_23 : decode cX7_cast 23 = .ok (.ifCond .eq 14, 3) := by decide +kernel
theorem dX7_cast_26 : decode cX7_cast 26 = .ok (.aload_n 0, 1) := by decide +kernel
theorem dX7_cast_27 : decode cX7_cast 27 = .ok (.getfield 19, 3) := by decide +kernel
theorem dX7_cast_30 : decode cX7_cast 30 = .ok (.iload_n 1, 1) := by decide +kernel
theorem dX7_cast_31 : decode cX7_cast 31 = .ok (.invokevirtual 59, 3) := by decide +kernel
theorem dX7_cast_34 : decode cX7_cast 34 = .ok (.ifCond .ne 6, 3) := by decide +kernel
theorem dX7_cast_37 : decode cX7_cast 37 = .ok (.bipush (-2), 2) := by decide +kernel
theorem dX7_cast_39 : decode cX7_cast 39 = .ok (.ireturn, 1) := by decide +kernel
theorem dX7_cast_40 : decode cX7_cast 40 = .ok (.aload_n 0, 1) := by decide +kernel
theorem dX7_cast_41 : decode cX7_cast 41 = .ok (.getfield 10, 3) := by decide +kernel
theorem dX7_cast_44 : decode cX7_cast 44 = .ok (.aload_n 0, 1) := by decide +kernel
theorem dX7_cast_45 : decode cX7_cast 45 = .ok (.getfield 19, 3) := by decide +kernel
theorem dX7_cast_48 : decode cX7_cast 48 = .ok (.getfield 83, 3) := by decide +kernel
theorem dX7_cast_51 : decode cX7_cast 51 = .ok (.getfield 105, 3) := by decide +kernel
theorem dX7_cast_54 : decode cX7_cast 54 = .ok (.invokevirtual 120, 3) := by decide +kernel
theorem dX7_cast_57 : decode cX7_cast 57 = .ok (.istore_n 2, 1) := by decide +kernel
theorem dX7_cast_58 : decode cX7_cast 58 = .ok (.iload_n 2, 1) := by decide +kernel
theorem dX7_cast_59 : decode cX7_cast 59 = .ok (.bipush (-9), 2) := by decide +kernel
theorem dX7_cast_61 : decode cX7_cast 61 = .ok (.if_icmp .eq 8, 3) := by decide +kernel
theorem dX7_cast_64 : decode cX7_cast 64 = .ok (.bipush (-100), 2) := by decide +kernel
theorem dX7_cast_66 : decode cX7_cast 66 = .ok (.iload_n 2, 1) := by decide +kernel
theorem dX7_cast_67 : decode cX7_cast 67 = .ok (.isub, 1) := by decide +kernel
theorem dX7_cast_68 : decode cX7_cast 68 = .ok (.ireturn, 1) := by decide +kernel
theorem dX7_cast_69 : decode cX7_cast 69 = .ok (.aload_n 0, 1) := by decide +kernel
theorem dX7_cast_70 : decode cX7_cast 70 = .ok (.getfield 26, 3) := by decide +kernel
theorem dX7_cast_73 : decode cX7_cast 73 = .ok (.aload_n 0, 1) := by decide +kernel
theorem dX7_cast_74 : decode cX7_cast 74 = .ok (.getfield 19, 3) := by decide +kernel
theorem dX7_cast_77 : decode cX7_cast 77 = .ok (.invokevirtual 37, 3) := by decide +kernel
theorem dX7_cast_80 : decode cX7_cast 80 = .ok (.aload_n 0, 1) := by decide +kernel
theorem dX7_cast_81 : decode cX7_cast 81 = .ok (.getfield 19, 3) := by decide +kernel
theorem dX7_cast_84 : decode cX7_cast 84 = .ok (.getfield 83, 3) := by decide +kernel
theorem dX7_cast_87 : decode cX7_cast 87 = .ok (.iload_n 1, 1) := by decide +kernel
theorem dX7_cast_88 : decode cX7_cast 88 = .ok (.aload_n 0, 1) := by decide +kernel
theorem dX7_cast_89 : decode cX7_cast 89 = .ok (.getfield 10, 3) := by decide +kernel
theorem dX7_cast_92 : decode cX7_cast 92 = .ok (.invokevirtual 123, 3) := by decide +kernel
theorem dX7_cast_95 : decode cX7_cast 95 = .ok (.aload_n 0, 1) := by decide +kernel
theorem dX7_cast_96 : decode cX7_cast 96 = .ok (.getfield 10, 3) := by decide +kernel
theorem dX7_cast_99 : decode cX7_cast 99 = .ok (.iconst 0, 1) := by decide +kernel
theorem dX7_cast_100 : decode cX7_cast 100 = .ok (.putfield 127, 3) := by decide +kernel
theorem dX7_cast_103 : decode cX7_cast 103 = .ok (.aload_n 0, 1) := by decide +kernel
theorem dX7_cast_104 : decode cX7_cast 104 = .ok (.getfield 19, 3) := by decide +kernel
theorem dX7_cast_107 : decode cX7_cast 107 = .ok (.getfield 83, 3) := by decide +kernel
theorem dX7_cast_110 : decode cX7_cast 110 = .ok (.invokevirtual 130, 3) := by decide +kernel
theorem dX7_cast_113 : decode cX7_cast 113 = .ok (.ireturn, 1) := by decide +kernel
theorem dX7_close_0 : decode cX7_close 0 = .ok (.aload_n 0, 1) := by decide +kernel
theorem dX7_close_1 : decode cX7_close 1 = .ok (.getfield 19, 3) := by decide +kernel
theorem dX7_close_4 : decode cX7_close 4 = .ok (.getfield 83, 3) := by decide +kernel
theorem dX7_close_7 : decode cX7_close 7 = .ok (.getfield 87, 3) := by decide +kernel
theorem dX7_close_10 : decode cX7_close 10 = .ok (.ifCond .eq 16, 3) := by decide +kernel
theorem dX7_close_13 : decode cX7_close 13 = .ok (.aload_n 0, 1) := by decide +kernel
theorem dX7_close_14 : decode cX7_close 14 = .ok (.getfield 19, 3) := by decide +kernel
theorem dX7_close_17 : decode cX7_close 17 = .ok (.getfield 83, 3) := by decide +kernel
theorem dX7_close_20 : decode cX7_close 20 = .ok (.getfield 105, 3) := by decide +kernel
theorem dX7_close_23 : decode cX7_close 23 = .ok (.ifCond .ne 6, 3) := by decide +kernel
theorem dX7_close_26 : decode cX7_close 26 = .ok (.bipush (-2), 2) := by decide +kernel
theorem dX7_close_28 : decode cX7_close 28 = .ok (.ireturn, 1) := by decide +kernel
theorem dX7_close_29 : decode cX7_close 29 = .ok (.aload_n 0, 1) := by decide +kernel
theorem dX7_close_30 : decode cX7_close 30 = .ok (.getfield 26, 3) := by decide +kernel
theorem dX7_close_33 : decode cX7_close 33 = .ok (.aload_n 0, 1) := by decide +kernel
theorem dX7_close_34 : decode cX7_close 34 = .ok (.getfield 19, 3) := by decide +kernel
theorem dX7_close_37 : decode cX7_close 37 = .ok (.invokevirtual 37, 3) := by decide +kernel
theorem dX7_close_40 : decode cX7_close 40 = .ok (.aload_n 0, 1) := by decide +kernel
theorem dX7_close_41 : decode cX7_close 41 = .ok (.getfield 19, 3) := by decide +kernel
theorem dX7_close_44 : decode cX7_close 44 = .ok (.invokevirtual 134, 3) := by decide +kernel
theorem dX7_close_47 : decode cX7_close 47 = .ok (.ireturn, 1) := by decide +kernel
theorem dX7_rounds_0 : decode cX7_rounds 0 = .ok (.aload_n 0, 1) := by decide +kernel
theorem dX7_rounds_1 : decode cX7_rounds 1 = .ok (.getfield 19, 3) := by decide +kernel
theorem dX7_rounds_4 : decode cX7_rounds 4 = .ok (.getfield 137, 3) := by decide +kernel
theorem dX7_rounds_7 : decode cX7_rounds 7 = .ok (.getfield 141, 3) := by decide +kernel
theorem dX7_rounds_10 : decode cX7_rounds 10 = .ok (.ireturn, 1) := by decide +kernel
theorem dX7_tally_0 : decode cX7_tally 0 = .ok (.iload_n 1, 1) := by decide +kernel
theorem dX7_tally_1 : decode cX7_tally 1 = .ok (.ifCond .lt 28, 3) := by decide +kernel
theorem dX7_tally_4 : decode cX7_tally 4 = .ok (.iload_n 1, 1) := by decide +kernel
theorem dX7_tally_5 : decode cX7_tally 5 = .ok (.aload_n 0, 1) := by decide +kernel
theorem dX7_tally_6 : decode cX7_tally 6 = .ok (.getfield 19, 3) := by decide +kernel
theorem dX7_tally_9 : decode cX7_tally 9 = .ok (.getfield 137, 3) := by decide +kernel
theorem dX7_tally_12 : decode cX7_tally 12 = .ok (.getfield 141, 3) := by decide +kernel
theorem dX7_tally_15 : decode cX7_tally 15 = .ok (.if_icmp .ge 14, 3) := by decide +kernel
theorem dX7_tally_18 : decode cX7_tally 18 = .ok (.aload_n 0, 1) := by decide +kernel
theorem dX7_tally_19 : decode cX7_tally 19 = .ok (.getfield 19, 3) := by decide +kernel
theorem dX7_tally_22 : decode cX7_tally 22 = .ok (.iload_n 2, 1) := by decide +kernel
theorem dX7_tally_23 : decode cX7_tally 23 = .ok (.invokevirtual 55, 3) := by decide +kernel
theorem dX7_tally_26 : decode cX7_tally 26 = .ok (.ifCond .ne 5, 3) := by decide +kernel
theorem dX7_tally_29 : decode cX7_tally 29 = .ok (.iconst (-1), 1) := by decide +kernel
theorem dX7_tally_30 : decode cX7_tally 30 = .ok (.ireturn, 1) := by decide +kernel
theorem dX7_tally_31 : decode cX7_tally 31 = .ok (.aload_n 0, 1) := by decide +kernel
theorem dX7_tally_32 : decode cX7_tally 32 = .ok (.getfield 19, 3) := by decide +kernel
theorem dX7_tally_35 : decode cX7_tally 35 = .ok (.getfield 137, 3) := by decide +kernel
theorem dX7_tally_38 : decode cX7_tally 38 = .ok (.iload_n 2, 1) := by decide +kernel
theorem dX7_tally_39 : decode cX7_tally 39 = .ok (.iload_n 1, 1) := by decide +kernel
theorem dX7_tally_40 : decode cX7_tally 40 = .ok (.invokevirtual 146, 3) := by decide +kernel
theorem dX7_tally_43 : decode cX7_tally 43 = .ok (.ireturn, 1) := by decide +kernel
theorem dX7_ballot_0 : decode cX7_ballot 0 = .ok (.aload_n 0, 1) := by decide +kernel
theorem dX7_ballot_1 : decode cX7_ballot 1 = .ok (.getfield 19, 3) := by decide +kernel
theorem dX7_ballot_4 : decode cX7_ballot 4 = .ok (.iload_n 1, 1) := by decide +kernel
theorem dX7_ballot_5 : decode cX7_ballot 5 = .ok (.invokevirtual 55, 3) := by decide +kernel
theorem dX7_ballot_8 : decode cX7_ballot 8 = .ok (.ifCond .eq 7, 3) := by decide +kernel
theorem dX7_ballot_11 : decode cX7_ballot 11 = .ok (.iload_n 2, 1) := by decide +kernel
theorem dX7_ballot_12 : decode cX7_ballot 12 = .ok (.ifCond .ge 5, 3) := by decide +kernel
theorem dX7_ballot_15 : decode cX7_ballot 15 = .ok (.iconst (-1), 1) := by decide +kernel
theorem dX7_ballot_16 : decode cX7_ballot 16 = .ok (.ireturn, 1) := by decide +kernel
theorem dX7_ballot_17 : decode cX7_ballot 17 = .ok (.aload_n 0, 1) := by decide +kernel
theorem dX7_ballot_18 : decode cX7_ballot 18 = .ok (.getfield 19, 3) := by decide +kernel
theorem dX7_ballot_21 : decode cX7_ballot 21 = .ok (.getfield 83, 3) := by decide +kernel
theorem dX7_ballot_24 : decode cX7_ballot 24 = .ok (.getfield 87, 3) := by decide +kernel
theorem dX7_ballot_27 : decode cX7_ballot 27 = .ok (.ifCond .ne 6, 3) := by decide +kernel
theorem dX7_ballot_30 : decode cX7_ballot 30 = .ok (.bipush (-2), 2) := by decide +kernel
theorem dX7_ballot_32 : decode cX7_ballot 32 = .ok (.ireturn, 1) := by decide +kernel
theorem dX7_ballot_33 : decode cX7_ballot 33 = .ok (.iload_n 2, 1) := by decide +kernel
theorem dX7_ballot_34 : decode cX7_ballot 34 = .ok (.bipush 10, 2) := by decide +kernel
theorem dX7_ballot_36 : decode cX7_ballot 36 = .ok (.if_icmp .lt 6, 3) := by decide +kernel
theorem dX7_ballot_39 : decode cX7_ballot 39 = .ok (.bipush (-9), 2) := by decide +kernel
theorem dX7_ballot_41 : decode cX7_ballot 41 = .ok (.ireturn, 1) := by decide +kernel
theorem dX7_ballot_42 : decode cX7_ballot 42 = .ok (.aload_n 0, 1) := by decide +kernel
theorem dX7_ballot_43 : decode cX7_ballot 43 = .ok (.getfield 19, 3) := by decide +kernel
theorem dX7_ballot_46 : decode cX7_ballot 46 = .ok (.getfield 83, 3) := by decide +kernel
theorem dX7_ballot_49 : decode cX7_ballot 49 = .ok (.iload_n 1, 1) := by decide +kernel
theorem dX7_ballot_50 : decode cX7_ballot 50 = .ok (.iload_n 2, 1) := by decide +kernel
theorem dX7_ballot_51 : decode cX7_ballot 51 = .ok (.invokevirtual 150, 3) := by decide +kernel
theorem dX7_ballot_54 : decode cX7_ballot 54 = .ok (.ireturn, 1) := by decide +kernel
theorem dX7_office_0 : decode cX7_office 0 = .ok (.aload_n 0, 1) := by decide +kernel
theorem dX7_office_1 : decode cX7_office 1 = .ok (.getfield 19, 3) := by decide +kernel
theorem dX7_office_4 : decode cX7_office 4 = .ok (.getfield 93, 3) := by decide +kernel
theorem dX7_office_7 : decode cX7_office 7 = .ok (.ireturn, 1) := by decide +kernel
theorem dX7_holder_0 : decode cX7_holder 0 = .ok (.aload_n 0, 1) := by decide +kernel
theorem dX7_holder_1 : decode cX7_holder 1 = .ok (.getfield 19, 3) := by decide +kernel
theorem dX7_holder_4 : decode cX7_holder 4 = .ok (.getfield 153, 3) := by decide +kernel
theorem dX7_holder_7 : decode cX7_holder 7 = .ok (.ireturn, 1) := by decide +kernel
theorem dX7_deed_0 : decode cX7_deed 0 = .ok (.aload_n 0, 1) := by decide +kernel
theorem dX7_deed_1 : decode cX7_deed 1 = .ok (.getfield 19, 3) := by decide +kernel
theorem dX7_deed_4 : decode cX7_deed 4 = .ok (.getfield 93, 3) := by decide +kernel
theorem dX7_deed_7 : decode cX7_deed 7 = .ok (.iconst 2, 1) := by decide +kernel
theorem dX7_deed_8 : decode cX7_deed 8 = .ok (.if_icmp .eq 6, 3) := by decide +kernel
theorem dX7_deed_11 : decode cX7_deed 11 = .ok (.bipush (-2), 2) := by decide +kernel
theorem dX7_deed_13 : decode cX7_deed 13 = .ok (.ireturn, 1) := by decide +kernel
theorem dX7_deed_14 : decode cX7_deed 14 = .ok (.aload_n 0, 1) := by decide +kernel
theorem dX7_deed_15 : decode cX7_deed 15 = .ok (.getfield 19, 3) := by decide +kernel
theorem dX7_deed_18 : decode cX7_deed 18 = .ok (.getfield 96, 3) := by decide +kernel
theorem dX7_deed_21 : decode cX7_deed 21 = .ok (.invokevirtual 156, 3) := by decide +kernel
theorem dX7_deed_24 : decode cX7_deed 24 = .ok (.iload_n 1, 1) := by decide +kernel
theorem dX7_deed_25 : decode cX7_deed 25 = .ok (.ifCond .eq 7, 3) := by decide +kernel
theorem dX7_deed_28 : decode cX7_deed 28 = .ok (.iconst 1, 1) := by decide +kernel
theorem dX7_deed_29 : decode cX7_deed 29 = .ok (.goto 4, 3) := by decide +kernel
theorem dX7_deed_32 : decode cX7_deed 32 = .ok (.iconst (-1), 1) := by decide +kernel
theorem dX7_deed_33 : decode cX7_deed 33 = .ok (.iadd, 1) := by decide +kernel
theorem dX7_deed_34 : decode cX7_deed 34 = .ok (.istore_n 2, 1) := by decide +kernel
theorem dX7_deed_35 : decode cX7_deed 35 = .ok (.iload_n 2, 1) := by decide +kernel
theorem dX7_deed_36 : decode cX7_deed 36 = .ok (.bipush 20, 2) := by decide +kernel
theorem dX7_deed_38 : decode cX7_deed 38 = .ok (.if_icmp .gt 9, 3) := by decide +kernel
theorem dX7_deed_41 : decode cX7_deed 41 = .ok (.iload_n 2, 1) := by decide +kernel
theorem dX7_deed_42 : decode cX7_deed 42 = .ok (.bipush (-20), 2) := by decide +kernel
theorem dX7_deed_44 : decode cX7_deed 44 = .ok (.if_icmp .ge 6, 3) := by decide +kernel
theorem dX7_deed_47 : decode cX7_deed 47 = .ok (.bipush (-2), 2) := by decide +kernel
theorem dX7_deed_49 : decode cX7_deed 49 = .ok (.ireturn, 1) := by decide +kernel
theorem dX7_deed_50 : decode cX7_deed 50 = .ok (.aload_n 0, 1) := by decide +kernel
theorem dX7_deed_51 : decode cX7_deed 51 = .ok (.getfield 26, 3) := by decide +kernel
theorem dX7_deed_54 : decode cX7_deed 54 = .ok (.aload_n 0, 1) := by decide +kernel
theorem dX7_deed_55 : decode cX7_deed 55 = .ok (.getfield 19, 3) := by decide +kernel
theorem dX7_deed_58 : decode cX7_deed 58 = .ok (.invokevirtual 37, 3) := by decide +kernel
theorem dX7_deed_61 : decode cX7_deed 61 = .ok (.aload_n 0, 1) := by decide +kernel
theorem dX7_deed_62 : decode cX7_deed 62 = .ok (.getfield 19, 3) := by decide +kernel
theorem dX7_deed_65 : decode cX7_deed 65 = .ok (.getfield 96, 3) := by decide +kernel
theorem dX7_deed_68 : decode cX7_deed 68 = .ok (.iload_n 2, 1) := by decide +kernel
theorem dX7_deed_69 : decode cX7_deed 69 = .ok (.invokevirtual 159, 3) := by decide +kernel
theorem dX7_deed_72 : decode cX7_deed 72 = .ok (.iload_n 2, 1) := by decide +kernel
theorem dX7_deed_73 : decode cX7_deed 73 = .ok (.ireturn, 1) := by decide +kernel
theorem dX7_sign_0 : decode cX7_sign 0 = .ok (.aload_n 0, 1) := by decide +kernel
theorem dX7_sign_1 : decode cX7_sign 1 = .ok (.getfield 19, 3) := by decide +kernel
theorem dX7_sign_4 : decode cX7_sign 4 = .ok (.iload_n 1, 1) := by decide +kernel
theorem dX7_sign_5 : decode cX7_sign 5 = .ok (.invokevirtual 55, 3) := by decide +kernel
theorem dX7_sign_8 : decode cX7_sign 8 = .ok (.ifCond .ne 5, 3) := by decide +kernel
theorem dX7_sign_11 : decode cX7_sign 11 = .ok (.iconst (-1), 1) := by decide +kernel
theorem dX7_sign_12 : decode cX7_sign 12 = .ok (.ireturn, 1) := by decide +kernel
theorem dX7_sign_13 : decode cX7_sign 13 = .ok (.aload_n 0, 1) := by decide +kernel
theorem dX7_sign_14 : decode cX7_sign 14 = .ok (.getfield 19, 3) := by decide +kernel
theorem dX7_sign_17 : decode cX7_sign 17 = .ok (.getfield 93, 3) := by decide +kernel
theorem dX7_sign_20 : decode cX7_sign 20 = .ok (.iconst 2, 1) := by decide +kernel
theorem dX7_sign_21 : decode cX7_sign 21 = .ok (.if_icmp .ne 25, 3) := by decide +kernel
theorem dX7_sign_24 : decode cX7_sign 24 = .ok (.aload_n 0, 1) := by decide +kernel
theorem dX7_sign_25 : decode cX7_sign 25 = .ok (.getfield 19, 3) := by decide +kernel
theorem dX7_sign_28 : decode cX7_sign 28 = .ok (.iload_n 1, 1) := by decide +kernel
theorem dX7_sign_29 : decode cX7_sign 29 = .ok (.invokevirtual 59, 3) := by decide +kernel
theorem dX7_sign_32 : decode cX7_sign 32 = .ok (.ifCond .eq 14, 3) := by decide +kernel
theorem dX7_sign_35 : decode cX7_sign 35 = .ok (.iload_n 1, 1) := by decide +kernel
theorem dX7_sign_36 : decode cX7_sign 36 = .ok (.aload_n 0, 1) := by decide +kernel
theorem dX7_sign_37 : decode cX7_sign 37 = .ok (.getfield 19, 3) := by decide +kernel
theorem dX7_sign_40 : decode cX7_sign 40 = .ok (.getfield 153, 3) := by decide +kernel
theorem dX7_sign_43 : decode cX7_sign 43 = .ok (.if_icmp .ne 6, 3) := by decide +kernel
theorem dX7_sign_46 : decode cX7_sign 46 = .ok (.bipush (-2), 2) := by decide +kernel
theorem dX7_sign_48 : decode cX7_sign 48 = .ok (.ireturn, 1) := by decide +kernel
theorem dX7_sign_49 : decode cX7_sign 49 = .ok (.aload_n 0, 1) := by decide +kernel
theorem dX7_sign_50 : decode cX7_sign 50 = .ok (.getfield 19, 3) := by decide +kernel
theorem dX7_sign_53 : decode cX7_sign 53 = .ok (.getfield 162, 3) := by decide +kernel
theorem dX7_sign_56 : decode cX7_sign 56 = .ok (.iload_n 1, 1) := by decide +kernel
theorem dX7_sign_57 : decode cX7_sign 57 = .ok (.invokestatic 108, 3) := by decide +kernel
theorem dX7_sign_60 : decode cX7_sign 60 = .ok (.iload_n 2, 1) := by decide +kernel
theorem dX7_sign_61 : decode cX7_sign 61 = .ok (.if_icmp .ne 6, 3) := by decide +kernel
theorem dX7_sign_64 : decode cX7_sign 64 = .ok (.bipush (-2), 2) := by decide +kernel
theorem dX7_sign_66 : decode cX7_sign 66 = .ok (.ireturn, 1) := by decide +kernel
theorem dX7_sign_67 : decode cX7_sign 67 = .ok (.aload_n 0, 1) := by decide +kernel
theorem dX7_sign_68 : decode cX7_sign 68 = .ok (.getfield 26, 3) := by decide +kernel
theorem dX7_sign_71 : decode cX7_sign 71 = .ok (.aload_n 0, 1) := by decide +kernel
theorem dX7_sign_72 : decode cX7_sign 72 = .ok (.getfield 19, 3) := by decide +kernel
theorem dX7_sign_75 : decode cX7_sign 75 = .ok (.invokevirtual 37, 3) := by decide +kernel
theorem dX7_sign_78 : decode cX7_sign 78 = .ok (.iload_n 2, 1) := by decide +kernel
theorem dX7_sign_79 : decode cX7_sign 79 = .ok (.ifCond .eq 29, 3) := by decide +kernel
theorem dX7_sign_82 : decode cX7_sign 82 = .ok (.aload_n 0, 1) := by decide +kernel
theorem dX7_sign_83 : decode cX7_sign 83 = .ok (.getfield 19, 3) := by decide +kernel
theorem dX7_sign_86 : decode cX7_sign 86 = .ok (.dup, 1) := by decide +kernel
theorem dX7_sign_87 : decode cX7_sign 87 = .ok (.getfield 162, 3) := by decide +kernel
theorem dX7_sign_90 : decode cX7_sign 90 = .ok (.iload_n 1, 1) := by decide +kernel
theorem dX7_sign_91 : decode cX7_sign 91 = .ok (.invokestatic 69, 3) := by decide +kernel
theorem dX7_sign_94 : decode cX7_sign 94 = .ok (.ior, 1) := by decide +kernel
theorem dX7_sign_95 : decode cX7_sign 95 = .ok (.putfield 162, 3) := by decide +kernel
theorem dX7_sign_98 : decode cX7_sign 98 = .ok (.aload_n 0, 1) := by decide +kernel
theorem dX7_sign_99 : decode cX7_sign 99 = .ok (.getfield 19, 3) := by decide +kernel
theorem dX7_sign_102 : decode cX7_sign 102 = .ok (.invokevirtual 44, 3) := by decide +kernel
theorem dX7_sign_105 : decode cX7_sign 105 = .ok (.goto 21, 3) := by decide +kernel
theorem dX7_sign_108 : decode cX7_sign 108 = .ok (.aload_n 0, 1) := by decide +kernel
theorem dX7_sign_109 : decode cX7_sign 109 = .ok (.getfield 19, 3) := by decide +kernel
theorem dX7_sign_112 : decode cX7_sign 112 = .ok (.dup, 1) := by decide +kernel
theorem dX7_sign_113 : decode cX7_sign 113 = .ok (.getfield 162, 3) := by decide +kernel
theorem dX7_sign_116 : decode cX7_sign 116 = .ok (.iload_n 1, 1) := by decide +kernel
theorem dX7_sign_117 : decode cX7_sign 117 = .ok (.invokestatic 69, 3) := by decide +kernel
theorem dX7_sign_120 : decode cX7_sign 120 = .ok (.iconst (-1), 1) := by decide +kernel
theorem dX7_sign_121 : decode cX7_sign 121 = .ok (.ixor, 1) := by decide +kernel
theorem dX7_sign_122 : decode cX7_sign 122 = .ok (.iand, 1) := by decide +kernel
theorem dX7_sign_123 : decode cX7_sign 123 = .ok (.putfield 162, 3) := by decide +kernel
theorem dX7_sign_126 : decode cX7_sign 126 = .ok (.aload_n 0, 1) := by decide +kernel
theorem dX7_sign_127 : decode cX7_sign 127 = .ok (.getfield 19, 3) := by decide +kernel
theorem dX7_sign_130 : decode cX7_sign 130 = .ok (.invokevirtual 165, 3) := by decide +kernel
theorem dX7_sign_133 : decode cX7_sign 133 = .ok (.ireturn, 1) := by decide +kernel
theorem dX7_grade_0 : decode cX7_grade 0 = .ok (.aload_n 0, 1) := by decide +kernel
theorem dX7_grade_1 : decode cX7_grade 1 = .ok (.getfield 19, 3) := by decide +kernel
theorem dX7_grade_4 : decode cX7_grade 4 = .ok (.iload_n 1, 1) := by decide +kernel
theorem dX7_grade_5 : decode cX7_grade 5 = .ok (.invokevirtual 55, 3) := by decide +kernel
theorem dX7_grade_8 : decode cX7_grade 8 = .ok (.ifCond .eq 17, 3) := by decide +kernel
theorem dX7_grade_11 : decode cX7_grade 11 = .ok (.aload_n 0, 1) := by decide +kernel
theorem dX7_grade_12 : decode cX7_grade 12 = .ok (.getfield 19, 3) := by decide +kernel
theorem dX7_grade_15 : decode cX7_grade 15 = .ok (.getfield 96, 3) := by decide +kernel
theorem dX7_grade_18 : decode cX7_grade 18 = .ok (.iload_n 2, 1) := by decide +kernel
theorem dX7_grade_19 : decode cX7_grade 19 = .ok (.invokevirtual 168, 3) := by decide +kernel
theorem dX7_grade_22 : decode cX7_grade 22 = .ok (.ifCond .ne 5, 3) := by decide +kernel
theorem dX7_grade_25 : decode cX7_grade 25 = .ok (.iconst (-1), 1) := by decide +kernel
theorem dX7_grade_26 : decode cX7_grade 26 = .ok (.ireturn, 1) := by decide +kernel
theorem dX7_grade_27 : decode cX7_grade 27 = .ok (.iload_n 3, 1) := by decide +kernel
theorem dX7_grade_28 : decode cX7_grade 28 = .ok (.ifCond .lt 9, 3) := by decide +kernel
theorem dX7_grade_31 : decode cX7_grade 31 = .ok (.iload_n 3, 1) := by decide +kernel
theorem dX7_grade_32 : decode cX7_grade 32 = .ok (.bipush 10, 2) := by decide +kernel
theorem dX7_grade_34 : decode cX7_grade 34 = .ok (.if_icmp .le 5, 3) := by decide +kernel
theorem dX7_grade_37 : decode cX7_grade 37 = .ok (.iconst (-1), 1) := by decide +kernel
theorem dX7_grade_38 : decode cX7_grade 38 = .ok (.ireturn, 1) := by decide +kernel
theorem dX7_grade_39 : decode cX7_grade 39 = .ok (.aload_n 0, 1) := by decide +kernel
theorem dX7_grade_40 : decode cX7_grade 40 = .ok (.getfield 19, 3) := by decide +kernel
theorem dX7_grade_43 : decode cX7_grade 43 = .ok (.getfield 96, 3) := by decide +kernel
theorem dX7_grade_46 : decode cX7_grade 46 = .ok (.iload_n 1, 1) := by decide +kernel
theorem dX7_grade_47 : decode cX7_grade 47 = .ok (.iload_n 2, 1) := by decide +kernel
theorem dX7_grade_48 : decode cX7_grade 48 = .ok (.aload_n 0, 1) := by decide +kernel
theorem dX7_grade_49 : decode cX7_grade 49 = .ok (.getfield 19, 3) := by decide +kernel
theorem dX7_grade_52 : decode cX7_grade 52 = .ok (.getfield 76, 3) := by decide +kernel
theorem dX7_grade_55 : decode cX7_grade 55 = .ok (.invokevirtual 171, 3) := by decide +kernel
theorem dX7_grade_58 : decode cX7_grade 58 = .ok (.ifCond .ne 6, 3) := by decide +kernel
theorem dX7_grade_61 : decode cX7_grade 61 = .ok (.bipush (-2), 2) := by decide +kernel
theorem dX7_grade_63 : decode cX7_grade 63 = .ok (.ireturn, 1) := by decide +kernel
theorem dX7_grade_64 : decode cX7_grade 64 = .ok (.iload 4, 2) := by decide +kernel
theorem dX7_grade_66 : decode cX7_grade 66 = .ok (.bipush 31, 2) := by decide +kernel
theorem dX7_grade_68 : decode cX7_grade 68 = .ok (.iload_n 2, 1) := by decide +kernel
theorem dX7_grade_69 : decode cX7_grade 69 = .ok (.imul, 1) := by decide +kernel
theorem dX7_grade_70 : decode cX7_grade 70 = .ok (.bipush 17, 2) := by decide +kernel
theorem dX7_grade_72 : decode cX7_grade 72 = .ok (.iload_n 1, 1) := by decide +kernel
theorem dX7_grade_73 : decode cX7_grade 73 = .ok (.imul, 1) := by decide +kernel
theorem dX7_grade_74 : decode cX7_grade 74 = .ok (.iadd, 1) := by decide +kernel
theorem dX7_grade_75 : decode cX7_grade 75 = .ok (.bipush 7, 2) := by decide +kernel
theorem dX7_grade_77 : decode cX7_grade 77 = .ok (.iload_n 3, 1) := by decide +kernel
theorem dX7_grade_78 : decode cX7_grade 78 = .ok (.imul, 1) := by decide +kernel
theorem dX7_grade_79 : decode cX7_grade 79 = .ok (.iadd, 1) := by decide +kernel
theorem dX7_grade_80 : decode cX7_grade 80 = .ok (.aload_n 0, 1) := by decide +kernel
theorem dX7_grade_81 : decode cX7_grade 81 = .ok (.getfield 19, 3) := by decide +kernel
theorem dX7_grade_84 : decode cX7_grade 84 = .ok (.getfield 175, 3) := by decide +kernel
theorem dX7_grade_87 : decode cX7_grade 87 = .ok (.iload_n 1, 1) := by decide +kernel
theorem dX7_grade_88 : decode cX7_grade 88 = .ok (.iaload, 1) := by decide +kernel
theorem dX7_grade_89 : decode cX7_grade 89 = .ok (.iadd, 1) := by decide +kernel
theorem dX7_grade_90 : decode cX7_grade 90 = .ok (.sipush 997, 3) := by decide +kernel
theorem dX7_grade_93 : decode cX7_grade 93 = .ok (.irem, 1) := by decide +kernel
theorem dX7_grade_94 : decode cX7_grade 94 = .ok (.if_icmp .eq 6, 3) := by decide +kernel
theorem dX7_grade_97 : decode cX7_grade 97 = .ok (.bipush (-5), 2) := by decide +kernel
theorem dX7_grade_99 : decode cX7_grade 99 = .ok (.ireturn, 1) := by decide +kernel
theorem dX7_grade_100 : decode cX7_grade 100 = .ok (.aload_n 0, 1) := by decide +kernel
theorem dX7_grade_101 : decode cX7_grade 101 = .ok (.getfield 26, 3) := by decide +kernel
theorem dX7_grade_104 : decode cX7_grade 104 = .ok (.aload_n 0, 1) := by decide +kernel
theorem dX7_grade_105 : decode cX7_grade 105 = .ok (.getfield 19, 3) := by decide +kernel
theorem dX7_grade_108 : decode cX7_grade 108 = .ok (.invokevirtual 37, 3) := by decide +kernel
theorem dX7_grade_111 : decode cX7_grade 111 = .ok (.aload_n 0, 1) := by decide +kernel
theorem dX7_grade_112 : decode cX7_grade 112 = .ok (.getfield 19, 3) := by decide +kernel
theorem dX7_grade_115 : decode cX7_grade 115 = .ok (.getfield 96, 3) := by decide +kernel
theorem dX7_grade_118 : decode cX7_grade 118 = .ok (.iload_n 1, 1) := by decide +kernel
theorem dX7_grade_119 : decode cX7_grade 119 = .ok (.iload_n 2, 1) := by decide +kernel
theorem dX7_grade_120 : decode cX7_grade 120 = .ok (.iload_n 3, 1) := by decide +kernel
theorem dX7_grade_121 : decode cX7_grade 121 = .ok (.invokevirtual 178, 3) := by decide +kernel
theorem dX7_grade_124 : decode cX7_grade 124 = .ok (.aload_n 0, 1) := by decide +kernel
theorem dX7_grade_125 : decode cX7_grade 125 = .ok (.getfield 19, 3) := by decide +kernel
theorem dX7_grade_128 : decode cX7_grade 128 = .ok (.getfield 96, 3) := by decide +kernel
theorem dX7_grade_131 : decode cX7_grade 131 = .ok (.iload_n 2, 1) := by decide +kernel
theorem dX7_grade_132 : decode cX7_grade 132 = .ok (.invokevirtual 182, 3) := by decide +kernel
theorem dX7_grade_135 : decode cX7_grade 135 = .ok (.ireturn, 1) := by decide +kernel
theorem dX7_term_0 : decode cX7_term 0 = .ok (.aload_n 0, 1) := by decide +kernel
theorem dX7_term_1 : decode cX7_term 1 = .ok (.getfield 19, 3) := by decide +kernel
theorem dX7_term_4 : decode cX7_term 4 = .ok (.getfield 96, 3) := by decide +kernel
theorem dX7_term_7 : decode cX7_term 7 = .ok (.iload_n 1, 1) := by decide +kernel
theorem dX7_term_8 : decode cX7_term 8 = .ok (.invokevirtual 168, 3) := by decide +kernel
theorem dX7_term_11 : decode cX7_term 11 = .ok (.ifCond .eq 13, 3) := by decide +kernel
theorem dX7_term_14 : decode cX7_term 14 = .ok (.iload_n 2, 1) := by decide +kernel
theorem dX7_term_15 : decode cX7_term 15 = .ok (.ifCond .lt 9, 3) := by decide +kernel
theorem dX7_term_18 : decode cX7_term 18 = .ok (.iload_n 2, 1) := by decide +kernel
theorem dX7_term_19 : decode cX7_term 19 = .ok (.bipush 8, 2) := by decide +kernel
theorem dX7_term_21 : decode cX7_term 21 = .ok (.if_icmp .lt 5, 3) := by decide +kernel
theorem dX7_term_24 : decode cX7_term 24 = .ok (.iconst (-1), 1) := by decide +kernel
theorem dX7_term_25 : decode cX7_term 25 = .ok (.ireturn, 1) := by decide +kernel
theorem dX7_term_26 : decode cX7_term 26 = .ok (.aload_n 0, 1) := by decide +kernel
theorem dX7_term_27 : decode cX7_term 27 = .ok (.getfield 19, 3) := by decide +kernel
theorem dX7_term_30 : decode cX7_term 30 = .ok (.getfield 96, 3) := by decide +kernel
theorem dX7_term_33 : decode cX7_term 33 = .ok (.iload_n 1, 1) := by decide +kernel
theorem dX7_term_34 : decode cX7_term 34 = .ok (.iload_n 2, 1) := by decide +kernel
theorem dX7_term_35 : decode cX7_term 35 = .ok (.invokevirtual 185, 3) := by decide +kernel
theorem dX7_term_38 : decode cX7_term 38 = .ok (.ireturn, 1) := by decide +kernel
theorem dX7_points_0 : decode cX7_points 0 = .ok (.aload_n 0, 1) := by decide +kernel
theorem dX7_points_1 : decode cX7_points 1 = .ok (.getfield 19, 3) := by decide +kernel
theorem dX7_points_4 : decode cX7_points 4 = .ok (.iload_n 1, 1) := by decide +kernel
theorem dX7_points_5 : decode cX7_points 5 = .ok (.invokevirtual 55, 3) := by decide +kernel
theorem dX7_points_8 : decode cX7_points 8 = .ok (.ifCond .eq 17, 3) := by decide +kernel
theorem dX7_points_11 : decode cX7_points 11 = .ok (.aload_n 0, 1) := by decide +kernel
theorem dX7_points_12 : decode cX7_points 12 = .ok (.getfield 19, 3) := by decide +kernel
theorem dX7_points_15 : decode cX7_points 15 = .ok (.getfield 96, 3) := by decide +kernel
theorem dX7_points_18 : decode cX7_points 18 = .ok (.iload_n 2, 1) := by decide +kernel
theorem dX7_points_19 : decode cX7_points 19 = .ok (.invokevirtual 168, 3) := by decide +kernel
theorem dX7_points_22 : decode cX7_points 22 = .ok (.ifCond .ne 5, 3) := by decide +kernel
theorem dX7_points_25 : decode cX7_points 25 = .ok (.iconst (-1), 1) := by decide +kernel
theorem dX7_points_26 : decode cX7_points 26 = .ok (.ireturn, 1) := by decide +kernel
theorem dX7_points_27 : decode cX7_points 27 = .ok (.aload_n 0, 1) := by decide +kernel
theorem dX7_points_28 : decode cX7_points 28 = .ok (.getfield 19, 3) := by decide +kernel
theorem dX7_points_31 : decode cX7_points 31 = .ok (.getfield 96, 3) := by decide +kernel
theorem dX7_points_34 : decode cX7_points 34 = .ok (.iload_n 1, 1) := by decide +kernel
theorem dX7_points_35 : decode cX7_points 35 = .ok (.iload_n 2, 1) := by decide +kernel
theorem dX7_points_36 : decode cX7_points 36 = .ok (.invokevirtual 188, 3) := by decide +kernel
theorem dX7_points_39 : decode cX7_points 39 = .ok (.ireturn, 1) := by decide +kernel
theorem dX7_terms_0 : decode cX7_terms 0 = .ok (.aload_n 0, 1) := by decide +kernel
theorem dX7_terms_1 : decode cX7_terms 1 = .ok (.getfield 19, 3) := by decide +kernel
theorem dX7_terms_4 : decode cX7_terms 4 = .ok (.getfield 96, 3) := by decide +kernel
theorem dX7_terms_7 : decode cX7_terms 7 = .ok (.getfield 100, 3) := by decide +kernel
theorem dX7_terms_10 : decode cX7_terms 10 = .ok (.ireturn, 1) := by decide +kernel
theorem dX7_member_0 : decode cX7_member 0 = .ok (.aload_n 0, 1) := by decide +kernel
theorem dX7_member_1 : decode cX7_member 1 = .ok (.getfield 19, 3) := by decide +kernel
theorem dX7_member_4 : decode cX7_member 4 = .ok (.iload_n 1, 1) := by decide +kernel
theorem dX7_member_5 : decode cX7_member 5 = .ok (.invokevirtual 55, 3) := by decide +kernel
theorem dX7_member_8 : decode cX7_member 8 = .ok (.ifCond .eq 13, 3) := by decide +kernel
theorem dX7_member_11 : decode cX7_member 11 = .ok (.iload_n 2, 1) := by decide +kernel
theorem dX7_member_12 : decode cX7_member 12 = .ok (.ifCond .lt 9, 3) := by decide +kernel
theorem dX7_member_15 : decode cX7_member 15 = .ok (.iload_n 2, 1) := by decide +kernel
theorem dX7_member_16 : decode cX7_member 16 = .ok (.bipush 6, 2) := by decide +kernel
theorem dX7_member_18 : decode cX7_member 18 = .ok (.if_icmp .lt 5, 3) := by decide +kernel
theorem dX7_member_21 : decode cX7_member 21 = .ok (.iconst (-1), 1) := by decide +kernel
theorem dX7_member_22 : decode cX7_member 22 = .ok (.ireturn, 1) := by decide +kernel
theorem dX7_member_23 : decode cX7_member 23 = .ok (.aload_n 0, 1) := by decide +kernel
theorem dX7_member_24 : decode cX7_member 24 = .ok (.getfield 19, 3) := by decide +kernel
theorem dX7_member_27 : decode cX7_member 27 = .ok (.iload_n 1, 1) := by decide +kernel
theorem dX7_member_28 : decode cX7_member 28 = .ok (.iload_n 2, 1) := by decide +kernel
theorem dX7_member_29 : decode cX7_member 29 = .ok (.invokevirtual 191, 3) := by decide +kernel
theorem dX7_member_32 : decode cX7_member 32 = .ok (.ireturn, 1) := by decide +kernel
theorem dX7_time_0 : decode cX7_time 0 = .ok (.aload_n 0, 1) := by decide +kernel
theorem dX7_time_1 : decode cX7_time 1 = .ok (.getfield 19, 3) := by decide +kernel
theorem dX7_time_4 : decode cX7_time 4 = .ok (.getfield 76, 3) := by decide +kernel
theorem dX7_time_7 : decode cX7_time 7 = .ok (.ireturn, 1) := by decide +kernel
theorem dX7_events_0 : decode cX7_events 0 = .ok (.aload_n 0, 1) := by decide +kernel
theorem dX7_events_1 : decode cX7_events 1 = .ok (.getfield 19, 3) := by decide +kernel
theorem dX7_events_4 : decode cX7_events 4 = .ok (.getfield 194, 3) := by decide +kernel
theorem dX7_events_7 : decode cX7_events 7 = .ok (.getfield 198, 3) := by decide +kernel
theorem dX7_events_10 : decode cX7_events 10 = .ok (.ireturn, 1) := by decide +kernel
theorem dX7_event_0 : decode cX7_event 0 = .ok (.iload_n 1, 1) := by decide +kernel
theorem dX7_event_1 : decode cX7_event 1 = .ok (.ifCond .lt 12, 3) := by decide +kernel
theorem dX7_event_4 : decode cX7_event 4 = .ok (.iload_n 2, 1) := by decide +kernel
theorem dX7_event_5 : decode cX7_event 5 = .ok (.ifCond .lt 8, 3) := by decide +kernel
theorem dX7_event_8 : decode cX7_event 8 = .ok (.iload_n 2, 1) := by decide +kernel
theorem dX7_event_9 : decode cX7_event 9 = .ok (.iconst 3, 1) := by decide +kernel
theorem dX7_event_10 : decode cX7_event 10 = .ok (.if_icmp .lt 5, 3) := by decide +kernel
theorem dX7_event_13 : decode cX7_event 13 = .ok (.iconst (-1), 1) := by decide +kernel
theorem dX7_event_14 : decode cX7_event 14 = .ok (.ireturn, 1) := by decide +kernel
theorem dX7_event_15 : decode cX7_event 15 = .ok (.aload_n 0, 1) := by decide +kernel
theorem dX7_event_16 : decode cX7_event 16 = .ok (.getfield 19, 3) := by decide +kernel
theorem dX7_event_19 : decode cX7_event 19 = .ok (.getfield 194, 3) := by decide +kernel
theorem dX7_event_22 : decode cX7_event 22 = .ok (.iload_n 1, 1) := by decide +kernel
theorem dX7_event_23 : decode cX7_event 23 = .ok (.iload_n 2, 1) := by decide +kernel
theorem dX7_event_24 : decode cX7_event 24 = .ok (.invokevirtual 201, 3) := by decide +kernel
theorem dX7_event_27 : decode cX7_event 27 = .ok (.ireturn, 1) := by decide +kernel
theorem dX7_type_0 : decode cX7_type 0 = .ok (.iload_n 1, 1) := by decide +kernel
theorem dX7_type_1 : decode cX7_type 1 = .ok (.bipush 32, 2) := by decide +kernel
theorem dX7_type_3 : decode cX7_type 3 = .ok (.if_icmp .lt 9, 3) := by decide +kernel
theorem dX7_type_6 : decode cX7_type 6 = .ok (.iload_n 1, 1) := by decide +kernel
theorem dX7_type_7 : decode cX7_type 7 = .ok (.bipush 126, 2) := by decide +kernel
theorem dX7_type_9 : decode cX7_type 9 = .ok (.if_icmp .le 5, 3) := by decide +kernel
theorem dX7_type_12 : decode cX7_type 12 = .ok (.iconst (-1), 1) := by decide +kernel
theorem dX7_type_13 : decode cX7_type 13 = .ok (.ireturn, 1) := by decide +kernel
theorem dX7_type_14 : decode cX7_type 14 = .ok (.aload_n 0, 1) := by decide +kernel
theorem dX7_type_15 : decode cX7_type 15 = .ok (.getfield 10, 3) := by decide +kernel
theorem dX7_type_18 : decode cX7_type 18 = .ok (.iload_n 1, 1) := by decide +kernel
theorem dX7_type_19 : decode cX7_type 19 = .ok (.invokevirtual 202, 3) := by decide +kernel
theorem dX7_type_22 : decode cX7_type 22 = .ok (.ireturn, 1) := by decide +kernel
theorem dX7_clear_0 : decode cX7_clear 0 = .ok (.aload_n 0, 1) := by decide +kernel
theorem dX7_clear_1 : decode cX7_clear 1 = .ok (.getfield 10, 3) := by decide +kernel
theorem dX7_clear_4 : decode cX7_clear 4 = .ok (.getfield 127, 3) := by decide +kernel
theorem dX7_clear_7 : decode cX7_clear 7 = .ok (.istore_n 1, 1) := by decide +kernel
theorem dX7_clear_8 : decode cX7_clear 8 = .ok (.aload_n 0, 1) := by decide +kernel
theorem dX7_clear_9 : decode cX7_clear 9 = .ok (.getfield 10, 3) := by decide +kernel
theorem dX7_clear_12 : decode cX7_clear 12 = .ok (.iconst 0, 1) := by decide +kernel
theorem dX7_clear_13 : decode cX7_clear 13 = .ok (.putfield 127, 3) := by decide +kernel
theorem dX7_clear_16 : decode cX7_clear 16 = .ok (.iload_n 1, 1) := by decide +kernel
theorem dX7_clear_17 : decode cX7_clear 17 = .ok (.ireturn, 1) := by decide +kernel
theorem dX7_undo_0 : decode cX7_undo 0 = .ok (.aload_n 0, 1) := by decide +kernel
theorem dX7_undo_1 : decode cX7_undo 1 = .ok (.getfield 26, 3) := by decide +kernel
theorem dX7_undo_4 : decode cX7_undo 4 = .ok (.getfield 205, 3) := by decide +kernel
theorem dX7_undo_7 : decode cX7_undo 7 = .ok (.ifCond .gt 6, 3) := by decide +kernel
theorem dX7_undo_10 : decode cX7_undo 10 = .ok (.bipush (-9), 2) := by decide +kernel
theorem dX7_undo_12 : decode cX7_undo 12 = .ok (.ireturn, 1) := by decide +kernel
theorem dX7_undo_13 : decode cX7_undo 13 = .ok (.aload_n 0, 1) := by decide +kernel
theorem dX7_undo_14 : decode cX7_undo 14 = .ok (.getfield 26, 3) := by decide +kernel
theorem dX7_undo_17 : decode cX7_undo 17 = .ok (.aload_n 0, 1) := by decide +kernel
theorem dX7_undo_18 : decode cX7_undo 18 = .ok (.getfield 19, 3) := by decide +kernel
theorem dX7_undo_21 : decode cX7_undo 21 = .ok (.invokevirtual 206, 3) := by decide +kernel
theorem dX7_undo_24 : decode cX7_undo 24 = .ok (.aload_n 0, 1) := by decide +kernel
theorem dX7_undo_25 : decode cX7_undo 25 = .ok (.getfield 26, 3) := by decide +kernel
theorem dX7_undo_28 : decode cX7_undo 28 = .ok (.getfield 205, 3) := by decide +kernel
theorem dX7_undo_31 : decode cX7_undo 31 = .ok (.ireturn, 1) := by decide +kernel
theorem dX7_fingerprint_0 : decode cX7_fingerprint 0 = .ok (.ldc2_w 209, 3) := by decide +kernel
theorem dX7_fingerprint_3 : decode cX7_fingerprint 3 = .ok (.lstore_n 1, 1) := by decide +kernel
theorem dX7_fingerprint_4 : decode cX7_fingerprint 4 = .ok (.lload_n 1, 1) := by decide +kernel
theorem dX7_fingerprint_5 : decode cX7_fingerprint 5 = .ok (.aload_n 0, 1) := by decide +kernel
theorem dX7_fingerprint_6 : decode cX7_fingerprint 6 = .ok (.getfield 19, 3) := by decide +kernel
theorem dX7_fingerprint_9 : decode cX7_fingerprint 9 = .ok (.getfield 76, 3) := by decide +kernel
theorem dX7_fingerprint_12 : decode cX7_fingerprint 12 = .ok (.invokestatic 211, 3) := by decide +kernel
theorem dX7_fingerprint_15 : decode cX7_fingerprint 15 = .ok (.lstore_n 1, 1) := by decide +kernel
theorem dX7_fingerprint_16 : decode cX7_fingerprint 16 = .ok (.lload_n 1, 1) := by decide +kernel
theorem dX7_fingerprint_17 : decode cX7_fingerprint 17 = .ok (.aload_n 0, 1) := by decide +kernel
theorem dX7_fingerprint_18 : decode cX7_fingerprint 18 = .ok (.getfield 19, 3) := by decide +kernel
theorem dX7_fingerprint_21 : decode cX7_fingerprint 21 = .ok (.getfield 93, 3) := by decide +kernel
theorem dX7_fingerprint_24 : decode cX7_fingerprint 24 = .ok (.invokestatic 211, 3) := by decide +kernel
theorem dX7_fingerprint_27 : decode cX7_fingerprint 27 = .ok (.lstore_n 1, 1) := by decide +kernel
theorem dX7_fingerprint_28 : decode cX7_fingerprint 28 = .ok (.lload_n 1, 1) := by decide +kernel
theorem dX7_fingerprint_29 : decode cX7_fingerprint 29 = .ok (.aload_n 0, 1) := by decide +kernel
theorem dX7_fingerprint_30 : decode cX7_fingerprint 30 = .ok (.getfield 19, 3) := by decide +kernel
theorem dX7_fingerprint_33 : decode cX7_fingerprint 33 = .ok (.getfield 153, 3) := by decide +kernel
theorem dX7_fingerprint_36 : decode cX7_fingerprint 36 = .ok (.invokestatic 211, 3) := by decide +kernel
theorem dX7_fingerprint_39 : decode cX7_fingerprint 39 = .ok (.lstore_n 1, 1) := by decide +kernel
theorem dX7_fingerprint_40 : decode cX7_fingerprint 40 = .ok (.lload_n 1, 1) := by decide +kernel
theorem dX7_fingerprint_41 : decode cX7_fingerprint 41 = .ok (.aload_n 0, 1) := by decide +kernel
theorem dX7_fingerprint_42 : decode cX7_fingerprint 42 = .ok (.getfield 19, 3) := by decide +kernel
theorem dX7_fingerprint_45 : decode cX7_fingerprint 45 = .ok (.getfield 96, 3) := by decide +kernel
theorem dX7_fingerprint_48 : decode cX7_fingerprint 48 = .ok (.getfield 100, 3) := by decide +kernel
theorem dX7_fingerprint_51 : decode cX7_fingerprint 51 = .ok (.invokestatic 211, 3) := by decide +kernel
theorem dX7_fingerprint_54 : decode cX7_fingerprint 54 = .ok (.lstore_n 1, 1) := by decide +kernel
theorem dX7_fingerprint_55 : decode cX7_fingerprint 55 = .ok (.lload_n 1, 1) := by decide +kernel
theorem dX7_fingerprint_56 : decode cX7_fingerprint 56 = .ok (.aload_n 0, 1) := by decide +kernel
theorem dX7_fingerprint_57 : decode cX7_fingerprint 57 = .ok (.getfield 19, 3) := by decide +kernel
theorem dX7_fingerprint_60 : decode cX7_fingerprint 60 = .ok (.getfield 194, 3) := by decide +kernel
theorem dX7_fingerprint_63 : decode cX7_fingerprint 63 = .ok (.getfield 198, 3) := by decide +kernel
theorem dX7_fingerprint_66 : decode cX7_fingerprint 66 = .ok (.invokestatic 211, 3) := by decide +kernel
theorem dX7_fingerprint_69 : decode cX7_fingerprint 69 = .ok (.lstore_n 1, 1) := by decide +kernel
theorem dX7_fingerprint_70 : decode cX7_fingerprint 70 = .ok (.iconst 1, 1) := by decide +kernel
theorem dX7_fingerprint_71 : decode cX7_fingerprint 71 = .ok (.istore_n 3, 1) := by decide +kernel
theorem dX7_fingerprint_72 : decode cX7_fingerprint 72 = .ok (.iload_n 3, 1) := by decide +kernel
theorem dX7_fingerprint_73 : decode cX7_fingerprint 73 = .ok (.aload_n 0, 1) := by decide +kernel
theorem dX7_fingerprint_74 : decode cX7_fingerprint 74 = .ok (.getfield 19, 3) := by decide +kernel
theorem dX7_fingerprint_77 : decode cX7_fingerprint 77 = .ok (.getfield 96, 3) := by decide +kernel
theorem dX7_fingerprint_80 : decode cX7_fingerprint 80 = .ok (.getfield 100, 3) := by decide +kernel
theorem dX7_fingerprint_83 : decode cX7_fingerprint 83 = .ok (.if_icmp .gt 43, 3) := by decide +kernel
theorem dX7_fingerprint_86 : decode cX7_fingerprint 86 = .ok (.iconst 0, 1) := by decide +kernel
theorem dX7_fingerprint_87 : decode cX7_fingerprint 87 = .ok (.istore 4, 2) := by decide +kernel
theorem dX7_fingerprint_89 : decode cX7_fingerprint 89 = .ok (.iload 4, 2) := by decide +kernel
theorem dX7_fingerprint_91 : decode cX7_fingerprint 91 = .ok (.bipush 8, 2) := by decide +kernel
theorem dX7_fingerprint_93 : decode cX7_fingerprint 93 = .ok (.if_icmp .ge 27, 3) := by decide +kernel
theorem dX7_fingerprint_96 : decode cX7_fingerprint 96 = .ok (.lload_n 1, 1) := by decide +kernel
theorem dX7_fingerprint_97 : decode cX7_fingerprint 97 = .ok (.aload_n 0, 1) := by decide +kernel
theorem dX7_fingerprint_98 : decode cX7_fingerprint 98 = .ok (.getfield 19, 3) := by decide +kernel
theorem dX7_fingerprint_101 : decode cX7_fingerprint 101 = .ok (.getfield 96, 3) := by decide +kernel
theorem dX7_fingerprint_104 : decode cX7_fingerprint 104 = .ok (.iload_n 3, 1) := by decide +kernel
theorem dX7_fingerprint_105 : decode cX7_fingerprint 105 = .ok (.iload 4, 2) := by decide +kernel
theorem dX7_fingerprint_107 : decode cX7_fingerprint 107 = .ok (.invokevirtual 185, 3) := by decide +kernel
theorem dX7_fingerprint_110 : decode cX7_fingerprint 110 = .ok (.invokestatic 211, 3) := by decide +kernel
theorem dX7_fingerprint_113 : decode cX7_fingerprint 113 = .ok (.lstore_n 1, 1) := by decide +kernel
theorem dX7_fingerprint_114 : decode cX7_fingerprint 114 = .ok (.iinc 4 1, 3) := by decide +kernel
theorem dX7_fingerprint_117 : decode cX7_fingerprint 117 = .ok (.goto (-28), 3) := by decide +kernel
theorem dX7_fingerprint_120 : decode cX7_fingerprint 120 = .ok (.iinc 3 1, 3) := by decide +kernel
theorem dX7_fingerprint_123 : decode cX7_fingerprint 123 = .ok (.goto (-51), 3) := by decide +kernel
theorem dX7_fingerprint_126 : decode cX7_fingerprint 126 = .ok (.lload_n 1, 1) := by decide +kernel
theorem dX7_fingerprint_127 : decode cX7_fingerprint 127 = .ok (.aload_n 0, 1) := by decide +kernel
theorem dX7_fingerprint_128 : decode cX7_fingerprint 128 = .ok (.getfield 19, 3) := by decide +kernel
theorem dX7_fingerprint_131 : decode cX7_fingerprint 131 = .ok (.getfield 47, 3) := by decide +kernel
theorem dX7_fingerprint_134 : decode cX7_fingerprint 134 = .ok (.invokestatic 211, 3) := by decide +kernel
theorem dX7_fingerprint_137 : decode cX7_fingerprint 137 = .ok (.lstore_n 1, 1) := by decide +kernel
theorem dX7_fingerprint_138 : decode cX7_fingerprint 138 = .ok (.iconst 0, 1) := by decide +kernel
theorem dX7_fingerprint_139 : decode cX7_fingerprint 139 = .ok (.istore_n 3, 1) := by decide +kernel
theorem dX7_fingerprint_140 : decode cX7_fingerprint 140 = .ok (.iload_n 3, 1) := by decide +kernel
theorem dX7_fingerprint_141 : decode cX7_fingerprint 141 = .ok (.aload_n 0, 1) := by decide +kernel
theorem dX7_fingerprint_142 : decode cX7_fingerprint 142 = .ok (.getfield 19, 3) := by decide +kernel
theorem dX7_fingerprint_145 : decode cX7_fingerprint 145 = .ok (.getfield 47, 3) := by decide +kernel
theorem dX7_fingerprint_148 : decode cX7_fingerprint 148 = .ok (.if_icmp .ge 40, 3) := by decide +kernel
theorem dX7_fingerprint_151 : decode cX7_fingerprint 151 = .ok (.iconst 0, 1) := by decide +kernel
theorem dX7_fingerprint_152 : decode cX7_fingerprint 152 = .ok (.istore 4, 2) := by decide +kernel
theorem dX7_fingerprint_154 : decode cX7_fingerprint 154 = .ok (.iload 4, 2) := by decide +kernel
theorem dX7_fingerprint_156 : decode cX7_fingerprint 156 = .ok (.bipush 6, 2) := by decide +kernel
theorem dX7_fingerprint_158 : decode cX7_fingerprint 158 = .ok (.if_icmp .ge 24, 3) := by decide +kernel
theorem dX7_fingerprint_161 : decode cX7_fingerprint 161 = .ok (.lload_n 1, 1) := by decide +kernel
theorem dX7_fingerprint_162 : decode cX7_fingerprint 162 = .ok (.aload_n 0, 1) := by decide +kernel
theorem dX7_fingerprint_163 : decode cX7_fingerprint 163 = .ok (.getfield 19, 3) := by decide +kernel
theorem dX7_fingerprint_166 : decode cX7_fingerprint 166 = .ok (.iload_n 3, 1) := by decide +kernel
theorem dX7_fingerprint_167 : decode cX7_fingerprint 167 = .ok (.iload 4, 2) := by decide +kernel
theorem dX7_fingerprint_169 : decode cX7_fingerprint 169 = .ok (.invokevirtual 191, 3) := by decide +kernel
theorem dX7_fingerprint_172 : decode cX7_fingerprint 172 = .ok (.invokestatic 211, 3) := by decide +kernel
theorem dX7_fingerprint_175 : decode cX7_fingerprint 175 = .ok (.lstore_n 1, 1) := by decide +kernel
theorem dX7_fingerprint_176 : decode cX7_fingerprint 176 = .ok (.iinc 4 1, 3) := by decide +kernel
theorem dX7_fingerprint_179 : decode cX7_fingerprint 179 = .ok (.goto (-25), 3) := by decide +kernel
theorem dX7_fingerprint_182 : decode cX7_fingerprint 182 = .ok (.iinc 3 1, 3) := by decide +kernel
theorem dX7_fingerprint_185 : decode cX7_fingerprint 185 = .ok (.goto (-45), 3) := by decide +kernel
theorem dX7_fingerprint_188 : decode cX7_fingerprint 188 = .ok (.lload_n 1, 1) := by decide +kernel
theorem dX7_fingerprint_189 : decode cX7_fingerprint 189 = .ok (.lreturn, 1) := by decide +kernel
theorem dX7_mixed_0 : decode cX7_mixed 0 = .ok (.ldc2_w 215, 3) := by decide +kernel
theorem dX7_mixed_3 : decode cX7_mixed 3 = .ok (.lload_n 0, 1) := by decide +kernel
theorem dX7_mixed_4 : decode cX7_mixed 4 = .ok (.lmul, 1) := by decide +kernel
theorem dX7_mixed_5 : decode cX7_mixed 5 = .ok (.iload_n 2, 1) := by decide +kernel
theorem dX7_mixed_6 : decode cX7_mixed 6 = .ok (.i2l, 1) := by decide +kernel
theorem dX7_mixed_7 : decode cX7_mixed 7 = .ok (.ladd, 1) := by decide +kernel
theorem dX7_mixed_8 : decode cX7_mixed 8 = .ok (.lreturn, 1) := by decide +kernel
theorem dX7_only_0 : decode cX7_only 0 = .ok (.iconst 1, 1) := by decide +kernel
theorem dX7_only_1 : decode cX7_only 1 = .ok (.iload_n 0, 1) := by decide +kernel
theorem dX7_only_2 : decode cX7_only 2 = .ok (.ishl, 1) := by decide +kernel
theorem dX7_only_3 : decode cX7_only 3 = .ok (.ireturn, 1) := by decide +kernel
theorem dX7_has_0 : decode cX7_has 0 = .ok (.iload_n 0, 1) := by decide +kernel
theorem dX7_has_1 : decode cX7_has 1 = .ok (.iload_n 1, 1) := by decide +kernel
theorem dX7_has_2 : decode cX7_has 2 = .ok (.ishr, 1) := by decide +kernel
theorem dX7_has_3 : decode cX7_has 3 = .ok (.iconst 1, 1) := by decide +kernel
theorem dX7_has_4 : decode cX7_has 4 = .ok (.iand, 1) := by decide +kernel
theorem dX7_has_5 : decode cX7_has 5 = .ok (.iconst 1, 1) := by decide +kernel
theorem dX7_has_6 : decode cX7_has 6 = .ok (.if_icmp .ne 7, 3) := by decide +kernel
theorem dX7_has_9 : decode cX7_has 9 = .ok (.iconst 1, 1) := by decide +kernel
theorem dX7_has_10 : decode cX7_has 10 = .ok (.goto 4, 3) := by decide +kernel
theorem dX7_has_13 : decode cX7_has 13 = .ok (.iconst 0, 1) := by decide +kernel
theorem dX7_has_14 : decode cX7_has 14 = .ok (.ireturn, 1) := by decide +kernel
theorem dX7_asNumber_0 : decode cX7_asNumber 0 = .ok (.iload_n 0, 1) := by decide +kernel
theorem dX7_asNumber_1 : decode cX7_asNumber 1 = .ok (.ifCond .eq 7, 3) := by decide +kernel
theorem dX7_asNumber_4 : decode cX7_asNumber 4 = .ok (.iconst 1, 1) := by decide +kernel
theorem dX7_asNumber_5 : decode cX7_asNumber 5 = .ok (.goto 4, 3) := by decide +kernel
theorem dX7_asNumber_8 : decode cX7_asNumber 8 = .ok (.iconst 0, 1) := by decide +kernel
theorem dX7_asNumber_9 : decode cX7_asNumber 9 = .ok (.ireturn, 1) := by decide +kernel
theorem dX8_init_0 : decode cX8_init 0 = .ok (.aload_n 0, 1) := by decide +kernel
theorem dX8_init_1 : decode cX8_init 1 = .ok (.invokespecial 1, 3) := by decide +kernel
theorem dX8_init_4 : decode cX8_init 4 = .ok (.aload_n 0, 1) := by decide +kernel
theorem dX8_init_5 : decode cX8_init 5 = .ok (.sipush 1100, 3) := by decide +kernel
theorem dX8_init_8 : decode cX8_init 8 = .ok (.newarray .int, 2) := by decide +kernel
theorem dX8_init_10 : decode cX8_init 10 = .ok (.putfield 7, 3) := by decide +kernel
theorem dX8_init_13 : decode cX8_init 13 = .ok (.aload_n 0, 1) := by decide +kernel
theorem dX8_init_14 : decode cX8_init 14 = .ok (.sipush 5500, 3) := by decide +kernel
theorem dX8_init_17 : decode cX8_init 17 = .ok (.newarray .int, 2) := by decide +kernel
theorem dX8_init_19 : decode cX8_init 19 = .ok (.putfield 13, 3) := by decide +kernel
theorem dX8_init_22 : decode cX8_init 22 = .ok (.aload_n 0, 1) := by decide +kernel
theorem dX8_init_23 : decode cX8_init 23 = .ok (.bipush 40, 2) := by decide +kernel
theorem dX8_init_25 : decode cX8_init 25 = .ok (.newarray .int, 2) := by decide +kernel
theorem dX8_init_27 : decode cX8_init 27 = .ok (.putfield 16, 3) := by decide +kernel
theorem dX8_init_30 : decode cX8_init 30 = .ok (.aload_n 0, 1) := by decide +kernel
theorem dX8_init_31 : decode cX8_init 31 = .ok (.getfield 7, 3) := by decide +kernel
theorem dX8_init_34 : decode cX8_init 34 = .ok (.iconst 0, 1) := by decide +kernel
theorem dX8_init_35 : decode cX8_init 35 = .ok (.bipush 100, 2) := by decide +kernel
theorem dX8_init_37 : decode cX8_init 37 = .ok (.iastore, 1) := by decide +kernel
theorem dX8_init_38 : decode cX8_init 38 = .ok (.aload_n 0, 1) := by decide +kernel
theorem dX8_init_39 : decode cX8_init 39 = .ok (.getfield 7, 3) := by decide +kernel
theorem dX8_init_42 : decode cX8_init 42 = .ok (.iconst 1, 1) := by decide +kernel
theorem dX8_init_43 : decode cX8_init 43 = .ok (.iconst 2, 1) := by decide +kernel
theorem dX8_init_44 : decode cX8_init 44 = .ok (.iastore, 1) := by decide +kernel
theorem dX8_init_45 : decode cX8_init 45 = .ok (.aload_n 0, 1) := by decide +kernel
theorem dX8_init_46 : decode cX8_init 46 = .ok (.getfield 7, 3) := by decide +kernel
theorem dX8_init_49 : decode cX8_init 49 = .ok (.iconst 2, 1) := by decide +kernel
theorem dX8_init_50 : decode cX8_init 50 = .ok (.iconst 1, 1) := by decide +kernel
theorem dX8_init_51 : decode cX8_init 51 = .ok (.iastore, 1) := by decide +kernel
theorem dX8_init_52 : decode cX8_init 52 = .ok (.aload_n 0, 1) := by decide +kernel
theorem dX8_init_53 : decode cX8_init 53 = .ok (.getfield 7, 3) := by decide +kernel
theorem dX8_init_56 : decode cX8_init 56 = .ok (.iconst 3, 1) := by decide +kernel
theorem dX8_init_57 : decode cX8_init 57 = .ok (.bipush 50, 2) := by decide +kernel
theorem dX8_init_59 : decode cX8_init 59 = .ok (.iastore, 1) := by decide +kernel
theorem dX8_init_60 : decode cX8_init 60 = .ok (.aload_n 0, 1) := by decide +kernel
theorem dX8_init_61 : decode cX8_init 61 = .ok (.getfield 7, 3) := by decide +kernel
theorem dX8_init_64 : decode cX8_init 64 = .ok (.iconst 4, 1) := by decide +kernel
theorem dX8_init_65 : decode cX8_init 65 = .ok (.bipush 50, 2) := by decide +kernel
theorem dX8_init_67 : decode cX8_init 67 = .ok (.iastore, 1) := by decide +kernel
theorem dX8_init_68 : decode cX8_init 68 = .ok (.aload_n 0, 1) := by decide +kernel
theorem dX8_init_69 : decode cX8_init 69 = .ok (.getfield 7, 3) := by decide +kernel
theorem dX8_init_72 : decode cX8_init 72 = .ok (.iconst 5, 1) := by decide +kernel
theorem dX8_init_73 : decode cX8_init 73 = .ok (.iconst 3, 1) := by decide +kernel
theorem dX8_init_74 : decode cX8_init 74 = .ok (.iastore, 1) := by decide +kernel
theorem dX8_init_75 : decode cX8_init 75 = .ok (.aload_n 0, 1) := by decide +kernel
theorem dX8_init_76 : decode cX8_init 76 = .ok (.getfield 7, 3) := by decide +kernel
theorem dX8_init_79 : decode cX8_init 79 = .ok (.bipush 8, 2) := by decide +kernel
theorem dX8_init_81 : decode cX8_init 81 = .ok (.bipush (-9), 2) := by decide +kernel
theorem dX8_init_83 : decode cX8_init 83 = .ok (.iastore, 1) := by decide +kernel
theorem dX8_init_84 : decode cX8_init 84 = .ok (.return_, 1) := by decide +kernel
theorem dX8_in_0 : decode cX8_in 0 = .ok (.iload_n 0, 1) := by decide +kernel
theorem dX8_in_1 : decode cX8_in 1 = .ok (.iload_n 1, 1) := by decide +kernel
theorem dX8_in_2 : decode cX8_in 2 = .ok (.if_icmp .lt 12, 3) := by decide +kernel
theorem dX8_in_5 : decode cX8_in 5 = .ok (.iload_n 0, 1) := by decide +kernel
theorem dX8_in_6 : decode cX8_in 6 = .ok (.iload_n 2, 1) := by decide +kernel
theorem dX8_in_7 : decode cX8_in 7 = .ok (.if_icmp .gt 7, 3) := by decide +kernel
theorem dX8_in_10 : decode cX8_in 10 = .ok (.iconst 1, 1) := by decide +kernel
theorem dX8_in_11 : decode cX8_in 11 = .ok (.goto 4, 3) := by decide +kernel
theorem dX8_in_14 : decode cX8_in 14 = .ok (.iconst 0, 1) := by decide +kernel
theorem dX8_in_15 : decode cX8_in 15 = .ok (.ireturn, 1) := by decide +kernel
theorem dX8_act_0 : decode cX8_act 0 = .ok (.aload_n 0, 1) := by decide +kernel
theorem dX8_act_1 : decode cX8_act 1 = .ok (.getfield 19, 3) := by decide +kernel
theorem dX8_act_4 : decode cX8_act 4 = .ok (.iconst 5, 1) := by decide +kernel
theorem dX8_act_5 : decode cX8_act 5 = .ok (.if_icmp .ne 44, 3) := by decide +kernel
theorem dX8_act_8 : decode cX8_act 8 = .ok (.iconst 0, 1) := by decide +kernel
theorem dX8_act_9 : decode cX8_act 9 = .ok (.istore_n 1, 1) := by decide +kernel
theorem dX8_act_10 : decode cX8_act 10 = .ok (.iload_n 1, 1) := by decide +kernel
theorem dX8_act_11 : decode cX8_act 11 = .ok (.sipush 4400, 3) := by decide +kernel
theorem dX8_act_14 : decode cX8_act 14 = .ok (.if_icmp .ge 25, 3) := by decide +kernel
theorem dX8_act_17 : decode cX8_act 17 = .ok (.aload_n 0, 1) := by decide +kernel
theorem dX8_act_18 : decode cX8_act 18 = .ok (.getfield 13, 3) := by decide +kernel
theorem dX8_act_21 : decode cX8_act 21 = .ok (.iload_n 1, 1) := by decide +kernel
theorem dX8_act_22 : decode cX8_act 22 = .ok (.aload_n 0, 1) := by decide +kernel
theorem dX8_act_23 : decode cX8_act 23 = .ok (.getfield 13, 3) := by decide +kernel
theorem dX8_act_26 : decode cX8_act 26 = .ok (.iload_n 1, 1) := by decide +kernel
theorem dX8_act_27 : decode cX8_act 27 = .ok (.sipush 1100, 3) := by decide +kernel
theorem dX8_act_30 : decode cX8_act 30 = .ok (.iadd, 1) := by decide +kernel
theorem dX8_act_31 : decode cX8_act 31 = .ok (.iaload, 1) := by decide +kernel
theorem dX8_act_32 : decode cX8_act 32 = .ok (.iastore, 1) := by decide +kernel
theorem dX8_act_33 : decode cX8_act 33 = .ok (.iinc 1 1, 3) := by decide +kernel
theorem dX8_act_36 : decode cX8_act 36 = .ok (.goto (-26), 3) := by decide +kernel
theorem dX8_act_39 : decode cX8_act 39 = .ok (.aload_n 0, 1) := by decide +kernel
theorem dX8_act_40 : decode cX8_act 40 = .ok (.dup, 1) := by decide +kernel
theorem dX8_act_41 : decode cX8_act 41 = .ok (.getfield 19, 3) := by decide +kernel
theorem dX8_act_44 : decode cX8_act 44 = .ok (.iconst 1, 1) := by decide +kernel
theorem dX8_act_45 : decode cX8_act 45 = .ok (.isub, 1) := by decide +kernel
theorem dX8_act_46 : decode cX8_act 46 = .ok (.putfield 19, 3) := by decide +kernel
theorem dX8_act_49 : decode cX8_act 49 = .ok (.iconst 0, 1) := by decide +kernel
theorem dX8_act_50 : decode cX8_act 50 = .ok (.istore_n 1, 1) := by decide +kernel
theorem dX8_act_51 : decode cX8_act 51 = .ok (.iload_n 1, 1) := by decide +kernel
theorem dX8_act_52 : decode cX8_act 52 = .ok (.sipush 1100, 3) := by decide +kernel
theorem dX8_act_55 : decode cX8_act 55 = .ok (.if_icmp .ge 30, 3) := by decide +kernel
theorem dX8_act_58 : decode cX8_act 58 = .ok (.aload_n 0, 1) := by decide +kernel
theorem dX8_act_59 : decode cX8_act 59 = .ok (.getfield 13, 3) := by decide +kernel
theorem dX8_act_62 : decode cX8_act 62 = .ok (.sipush 1100, 3) := by decide +kernel
theorem dX8_act_65 : decode cX8_act 65 = .ok (.aload_n 0, 1) := by decide +kernel
theorem dX8_act_66 : decode cX8_act 66 = .ok (.getfield 19, 3) := by decide +kernel
theorem dX8_act_69 : decode cX8_act 69 = .ok (.imul, 1) := by decide +kernel
theorem dX8_act_70 : decode cX8_act 70 = .ok (.iload_n 1, 1) := by decide +kernel
theorem dX8_act_71 : decode cX8_act 71 = .ok (.iadd, 1) := by decide +kernel
theorem dX8_act_72 : decode cX8_act 72 = .ok (.aload_n 0, 1) := by decide +kernel
theorem dX8_act_73 : decode cX8_act 73 = .ok (.getfield 7, 3) := by decide +kernel
theorem dX8_act_76 : decode cX8_act 76 = .ok (.iload_n 1, 1) := by decide +kernel
theorem dX8_act_77 : decode cX8_act 77 = .ok (.iaload, 1) := by decide +kernel
theorem dX8_act_78 : decode cX8_act 78 = .ok (.iastore, 1) := by decide +kernel
theorem dX8_act_79 : decode cX8_act 79 = .ok (.iinc 1 1, 3) := by decide +kernel
theorem dX8_act_82 : decode cX8_act 82 = .ok (.goto (-31), 3) := by decide +kernel
theorem dX8_act_85 : decode cX8_act 85 = .ok (.aload_n 0, 1) := by decide +kernel
theorem dX8_act_86 : decode cX8_act 86 = .ok (.dup, 1) := by decide +kernel
theorem dX8_act_87 : decode cX8_act 87 = .ok (.getfield 19, 3) := by decide +kernel
theorem dX8_act_90 : decode cX8_act 90 = .ok (.iconst 1, 1) := by decide +kernel
theorem dX8_act_91 : decode cX8_act 91 = .ok (.iadd, 1) := by decide +kernel
theorem dX8_act_92 : decode cX8_act 92 = .ok (.putfield 19, 3) := by decide +kernel
theorem dX8_act_95 : decode cX8_act 95 = .ok (.return_, 1) := by decide +kernel
theorem dX8_isMember_0 : decode cX8_isMember 0 = .ok (.iload_n 1, 1) := by decide +kernel
theorem dX8_isMember_1 : decode cX8_isMember 1 = .ok (.iconst 0, 1) := by decide +kernel
theorem dX8_isMember_2 : decode cX8_isMember 2 = .ok (.aload_n 0, 1) := by decide +kernel
theorem dX8_isMember_3 : decode cX8_isMember 3 = .ok (.getfield 7, 3) := by decide +kernel
theorem dX8_isMember_6 : decode cX8_isMember 6 = .ok (.bipush 10, 2) := by decide +kernel
theorem dX8_isMember_8 : decode cX8_isMember 8 = .ok (.iaload, 1) := by decide +kernel
theorem dX8_isMember_9 : decode cX8_isMember 9 = .ok (.iconst 1, 1) := by decide +kernel
theorem dX8_isMember_10 : decode cX8_isMember 10 = .ok (.isub, 1) := by decide +kernel
theorem dX8_isMember_11 : decode cX8_isMember 11 = .ok (.invokestatic 23, 3) := by decide +kernel
theorem dX8_isMember_14 : decode cX8_isMember 14 = .ok (.ireturn, 1) := by decide +kernel
theorem dX8_isTerm_0 : decode cX8_isTerm 0 = .ok (.iload_n 1, 1) := by decide +kernel
theorem dX8_isTerm_1 : decode cX8_isTerm 1 = .ok (.iconst 1, 1) := by decide +kernel
theorem dX8_isTerm_2 : decode cX8_isTerm 2 = .ok (.aload_n 0, 1) := by decide +kernel
theorem dX8_isTerm_3 : decode cX8_isTerm 3 = .ok (.getfield 7, 3) := by decide +kernel
theorem dX8_isTerm_6 : decode cX8_isTerm 6 = .ok (.bipush 9, 2) := by decide +kernel
theorem dX8_isTerm_8 : decode cX8_isTerm 8 = .ok (.iaload, 1) := by decide +kernel
theorem dX8_isTerm_9 : decode cX8_isTerm 9 = .ok (.invokestatic 23, 3) := by decide +kernel
theorem dX8_isTerm_12 : decode cX8_isTerm 12 = .ok (.ireturn, 1) := by decide +kernel
theorem dX8_at_0 : decode cX8_at 0 = .ok (.bipush 20, 2) := by decide +kernel
theorem dX8_at_2 : decode cX8_at 2 = .ok (.bipush 15, 2) := by decide +kernel
theorem dX8_at_4 : decode cX8_at 4 = .ok (.iload_n 0, 1) := by decide +kernel
theorem dX8_at_5 : decode cX8_at 5 = .ok (.imul, 1) := by decide +kernel
theorem dX8_at_6 : decode cX8_at 6 = .ok (.iadd, 1) := by decide +kernel
theorem dX8_at_7 : decode cX8_at 7 = .ok (.iload_n 1, 1) := by decide +kernel
theorem dX8_at_8 : decode cX8_at 8 = .ok (.iadd, 1) := by decide +kernel
theorem dX8_at_9 : decode cX8_at 9 = .ok (.ireturn, 1) := by decide +kernel
theorem dX8_of_0 : decode cX8_of 0 = .ok (.sipush 170, 3) := by decide +kernel
theorem dX8_of_3 : decode cX8_of 3 = .ok (.bipush 18, 2) := by decide +kernel
theorem dX8_of_5 : decode cX8_of 5 = .ok (.iload_n 0, 1) := by decide +kernel
theorem dX8_of_6 : decode cX8_of 6 = .ok (.iconst 1, 1) := by decide +kernel
theorem dX8_of_7 : decode cX8_of 7 = .ok (.isub, 1) := by decide +kernel
theorem dX8_of_8 : decode cX8_of 8 = .ok (.imul, 1) := by decide +kernel
theorem dX8_of_9 : decode cX8_of 9 = .ok (.iadd, 1) := by decide +kernel
theorem dX8_of_10 : decode cX8_of 10 = .ok (.iload_n 1, 1) := by decide +kernel
theorem dX8_of_11 : decode cX8_of 11 = .ok (.iadd, 1) := by decide +kernel
theorem dX8_of_12 : decode cX8_of 12 = .ok (.ireturn, 1) := by decide +kernel
theorem dX8_isPresent_0 : decode cX8_isPresent 0 = .ok (.aload_n 0, 1) := by decide +kernel
theorem dX8_isPresent_1 : decode cX8_isPresent 1 = .ok (.getfield 7, 3) := by decide +kernel
theorem dX8_isPresent_4 : decode cX8_isPresent 4 = .ok (.iload_n 1, 1) := by decide +kernel
theorem dX8_isPresent_5 : decode cX8_isPresent 5 = .ok (.iconst 1, 1) := by decide +kernel
theorem dX8_isPresent_6 : decode cX8_isPresent 6 = .ok (.invokestatic 27, 3) := by decide +kernel
theorem dX8_isPresent_9 : decode cX8_isPresent 9 = .ok (.iaload, 1) := by decide +kernel
theorem dX8_isPresent_10 : decode cX8_isPresent 10 = .ok (.iconst 1, 1) := by decide +kernel
theorem dX8_isPresent_11 : decode cX8_isPresent 11 = .ok (.if_icmp .ne 7, 3) := by decide +kernel
theorem dX8_isPresent_14 : decode cX8_isPresent 14 = .ok (.iconst 1, 1) := by decide +kernel
theorem dX8_isPresent_15 : decode cX8_isPresent 15 = .ok (.goto 4, 3) := by decide +kernel
theorem dX8_isPresent_18 : decode cX8_isPresent 18 = .ok (.iconst 0, 1) := by decide +kernel
theorem dX8_isPresent_19 : decode cX8_isPresent 19 = .ok (.ireturn, 1) := by decide +kernel
theorem dX8_grades_0 : decode cX8_grades 0 = .ok (.iconst 0, 1) := by decide +kernel
theorem dX8_grades_1 : decode cX8_grades 1 = .ok (.istore_n 2, 1) := by decide +kernel
theorem dX8_grades_2 : decode cX8_grades 2 = .ok (.iconst 0, 1) := by decide +kernel
theorem dX8_grades_3 : decode cX8_grades 3 = .ok (.istore_n 3, 1) := by decide +kernel
theorem dX8_grades_4 : decode cX8_grades 4 = .ok (.iload_n 3, 1) := by decide +kernel
theorem dX8_grades_5 : decode cX8_grades 5 = .ok (.bipush 10, 2) := by decide +kernel
theorem dX8_grades_7 : decode cX8_grades 7 = .ok (.if_icmp .ge 27, 3) := by decide +kernel
theorem dX8_grades_10 : decode cX8_grades 10 = .ok (.iload_n 2, 1) := by decide +kernel
theorem dX8_grades_11 : decode cX8_grades 11 = .ok (.aload_n 0, 1) := by decide +kernel
theorem dX8_grades_12 : decode cX8_grades 12 = .ok (.getfield 7, 3) := by decide +kernel
theorem dX8_grades_15 : decode cX8_grades 15 = .ok (.iload_n 1, 1) := by decide +kernel
theorem dX8_grades_16 : decode cX8_grades 16 = .ok (.bipush 7, 2) := by decide +kernel
theorem dX8_grades_18 : decode cX8_grades 18 = .ok (.invokestatic 31, 3) := by decide +kernel
theorem dX8_grades_21 : decode cX8_grades 21 = .ok (.iaload, 1) := by decide +kernel
theorem dX8_grades_22 : decode cX8_grades 22 = .ok (.iload_n 3, 1) := by decide +kernel
theorem dX8_grades_23 : decode cX8_grades 23 = .ok (.ishr, 1) := by decide +kernel
theorem dX8_grades_24 : decode cX8_grades 24 = .ok (.iconst 1, 1) := by decide +kernel
theorem dX8_grades_25 : decode cX8_grades 25 = .ok (.iand, 1) := by decide +kernel
theorem dX8_grades_26 : decode cX8_grades 26 = .ok (.iadd, 1) := by decide +kernel
theorem dX8_grades_27 : decode cX8_grades 27 = .ok (.istore_n 2, 1) := by decide +kernel
theorem dX8_grades_28 : decode cX8_grades 28 = .ok (.iinc 3 1, 3) := by decide +kernel
theorem dX8_grades_31 : decode cX8_grades 31 = .ok (.goto (-27), 3) := by decide +kernel
theorem dX8_grades_34 : decode cX8_grades 34 = .ok (.iload_n 2, 1) := by decide +kernel
theorem dX8_grades_35 : decode cX8_grades 35 = .ok (.ireturn, 1) := by decide +kernel
theorem dX8_scoreOf_0 : decode cX8_scoreOf 0 = .ok (.aload_n 0, 1) := by decide +kernel
theorem dX8_scoreOf_1 : decode cX8_scoreOf 1 = .ok (.iload_n 1, 1) := by decide +kernel
theorem dX8_scoreOf_2 : decode cX8_scoreOf 2 = .ok (.invokevirtual 34, 3) := by decide +kernel
theorem dX8_scoreOf_5 : decode cX8_scoreOf 5 = .ok (.istore_n 2, 1) := by decide +kernel
theorem dX8_scoreOf_6 : decode cX8_scoreOf 6 = .ok (.iconst 0, 1) := by decide +kernel
theorem dX8_scoreOf_7 : decode cX8_scoreOf 7 = .ok (.istore_n 3, 1) := by decide +kernel
theorem dX8_scoreOf_8 : decode cX8_scoreOf 8 = .ok (.iconst 0, 1) := by decide +kernel
theorem dX8_scoreOf_9 : decode cX8_scoreOf 9 = .ok (.istore 4, 2) := by decide +kernel
theorem dX8_scoreOf_11 : decode cX8_scoreOf 11 = .ok (.iload 4, 2) := by decide +kernel
theorem dX8_scoreOf_13 : decode cX8_scoreOf 13 = .ok (.bipush 10, 2) := by decide +kernel
theorem dX8_scoreOf_15 : decode cX8_scoreOf 15 = .ok (.if_icmp .ge 50, 3) := by decide +kernel
theorem dX8_scoreOf_18 : decode cX8_scoreOf 18 = .ok (.iload_n 3, 1) := by decide +kernel
theorem dX8_scoreOf_19 : decode cX8_scoreOf 19 = .ok (.aload_n 0, 1) := by decide +kernel
theorem dX8_scoreOf_20 : decode cX8_scoreOf 20 = .ok (.getfield 7, 3) := by decide +kernel
theorem dX8_scoreOf_23 : decode cX8_scoreOf 23 = .ok (.iload_n 1, 1) := by decide +kernel
theorem dX8_scoreOf_24 : decode cX8_scoreOf 24 = .ok (.bipush 7, 2) := by decide +kernel
theorem dX8_scoreOf_26 : decode cX8_scoreOf 26 = .ok (.invokestatic 31, 3) := by decide +kernel
theorem dX8_scoreOf_29 : decode cX8_scoreOf 29 = .ok (.iaload, 1) := by decide +kernel
theorem dX8_scoreOf_30 : decode cX8_scoreOf 30 = .ok (.iload 4, 2) := by decide +kernel
theorem dX8_scoreOf_32 : decode cX8_scoreOf 32 = .ok (.ishr, 1) := by decide +kernel
theorem dX8_scoreOf_33 : decode cX8_scoreOf 33 = .ok (.iconst 1, 1) := by decide +kernel
theorem dX8_scoreOf_34 : decode cX8_scoreOf 34 = .ok (.iand, 1) := by decide +kernel
theorem dX8_scoreOf_35 : decode cX8_scoreOf 35 = .ok (.iconst 1, 1) := by decide +kernel
theorem dX8_scoreOf_36 : decode cX8_scoreOf 36 = .ok (.if_icmp .ne 20, 3) := by decide +kernel
theorem dX8_scoreOf_39 : decode cX8_scoreOf 39 = .ok (.aload_n 0, 1) := by decide +kernel
theorem dX8_scoreOf_40 : decode cX8_scoreOf 40 = .ok (.getfield 7, 3) := by decide +kernel
theorem dX8_scoreOf_43 : decode cX8_scoreOf 43 = .ok (.iload_n 1, 1) := by decide +kernel
theorem dX8_scoreOf_44 : decode cX8_scoreOf 44 = .ok (.bipush 8, 2) := by decide +kernel
theorem dX8_scoreOf_46 : decode cX8_scoreOf 46 = .ok (.iload 4, 2) := by decide +kernel
theorem dX8_scoreOf_48 : decode cX8_scoreOf 48 = .ok (.iadd, 1) := by decide +kernel
theorem dX8_scoreOf_49 : decode cX8_scoreOf 49 = .ok (.invokestatic 31, 3) := by decide +kernel
theorem dX8_scoreOf_52 : decode cX8_scoreOf 52 = .ok (.iaload, 1) := by decide +kernel
theorem dX8_scoreOf_53 : decode cX8_scoreOf 53 = .ok (.goto 4, 3) := by decide +kernel
theorem dX8_scoreOf_56 : decode cX8_scoreOf 56 = .ok (.iconst 0, 1) := by decide +kernel
theorem dX8_scoreOf_57 : decode cX8_scoreOf 57 = .ok (.iadd, 1) := by decide +kernel
theorem dX8_scoreOf_58 : decode cX8_scoreOf 58 = .ok (.istore_n 3, 1) := by decide +kernel
theorem dX8_scoreOf_59 : decode cX8_scoreOf 59 = .ok (.iinc 4 1, 3) := by decide +kernel
theorem dX8_scoreOf_62 : decode cX8_scoreOf 62 = .ok (.goto (-51), 3) := by decide +kernel
theorem dX8_scoreOf_65 : decode cX8_scoreOf 65 = .ok (.iload_n 2, 1) := by decide +kernel
theorem dX8_scoreOf_66 : decode cX8_scoreOf 66 = .ok (.ifCond .ne 8, 3) := by decide +kernel
theorem dX8_scoreOf_69 : decode cX8_scoreOf 69 = .ok (.bipush 50, 2) := by decide +kernel
theorem dX8_scoreOf_71 : decode cX8_scoreOf 71 = .ok (.goto 9, 3) := by decide +kernel
theorem dX8_scoreOf_74 : decode cX8_scoreOf 74 = .ok (.bipush 10, 2) := by decide +kernel
theorem dX8_scoreOf_76 : decode cX8_scoreOf 76 = .ok (.iload_n 3, 1) := by decide +kernel
theorem dX8_scoreOf_77 : decode cX8_scoreOf 77 = .ok (.imul, 1) := by decide +kernel
theorem dX8_scoreOf_78 : decode cX8_scoreOf 78 = .ok (.iload_n 2, 1) := by decide +kernel
theorem dX8_scoreOf_79 : decode cX8_scoreOf 79 = .ok (.idiv, 1) := by decide +kernel
theorem dX8_scoreOf_80 : decode cX8_scoreOf 80 = .ok (.iconst 5, 1) := by decide +kernel
theorem dX8_scoreOf_81 : decode cX8_scoreOf 81 = .ok (.aload_n 0, 1) := by decide +kernel
theorem dX8_scoreOf_82 : decode cX8_scoreOf 82 = .ok (.getfield 7, 3) := by decide +kernel
theorem dX8_scoreOf_85 : decode cX8_scoreOf 85 = .ok (.iload_n 1, 1) := by decide +kernel
theorem dX8_scoreOf_86 : decode cX8_scoreOf 86 = .ok (.iconst 4, 1) := by decide +kernel
theorem dX8_scoreOf_87 : decode cX8_scoreOf 87 = .ok (.invokestatic 31, 3) := by decide +kernel
theorem dX8_scoreOf_90 : decode cX8_scoreOf 90 = .ok (.iaload, 1) := by decide +kernel
theorem dX8_scoreOf_91 : decode cX8_scoreOf 91 = .ok (.imul, 1) := by decide +kernel
theorem dX8_scoreOf_92 : decode cX8_scoreOf 92 = .ok (.iadd, 1) := by decide +kernel
theorem dX8_scoreOf_93 : decode cX8_scoreOf 93 = .ok (.bipush 25, 2) := by decide +kernel
theorem dX8_scoreOf_95 : decode cX8_scoreOf 95 = .ok (.aload_n 0, 1) := by decide +kernel
theorem dX8_scoreOf_96 : decode cX8_scoreOf 96 = .ok (.getfield 7, 3) := by decide +kernel
theorem dX8_scoreOf_99 : decode cX8_scoreOf 99 = .ok (.iload_n 1, 1) := by decide +kernel
theorem dX8_scoreOf_100 : decode cX8_scoreOf 100 = .ok (.iconst 5, 1) := by decide +kernel
theorem dX8_scoreOf_101 : decode cX8_scoreOf 101 = .ok (.invokestatic 31, 3) := by decide +kernel
theorem dX8_scoreOf_104 : decode cX8_scoreOf 104 = .ok (.iaload, 1) := by decide +kernel
theorem dX8_scoreOf_105 : decode cX8_scoreOf 105 = .ok (.imul, 1) := by decide +kernel
theorem dX8_scoreOf_106 : decode cX8_scoreOf 106 = .ok (.isub, 1) := by decide +kernel
theorem dX8_scoreOf_107 : decode cX8_scoreOf 107 = .ok (.istore 4, 2) := by decide +kernel
theorem dX8_scoreOf_109 : decode cX8_scoreOf 109 = .ok (.iload 4, 2) := by decide +kernel
theorem dX8_scoreOf_111 : decode cX8_scoreOf 111 = .ok (.ifCond .ge 7, 3) := by decide +kernel
theorem dX8_scoreOf_114 : decode cX8_scoreOf 114 = .ok (.iconst 0, 1) := by decide +kernel
theorem dX8_scoreOf_115 : decode cX8_scoreOf 115 = .ok (.goto 17, 3) := by decide +kernel
theorem dX8_scoreOf_118 : decode cX8_scoreOf 118 = .ok (.iload 4, 2) := by decide +kernel
theorem dX8_scoreOf_120 : decode cX8_scoreOf 120 = .ok (.bipush 100, 2) := by decide +kernel
theorem dX8_scoreOf_122 : decode cX8_scoreOf 122 = .ok (.if_icmp .le 8, 3) := by decide +kernel
theorem dX8_scoreOf_125 : decode cX8_scoreOf 125 = .ok (.bipush 100, 2) := by decide +kernel
theorem dX8_scoreOf_127 : decode cX8_scoreOf 127 = .ok (.goto 5, 3) := by decide +kernel
theorem dX8_scoreOf_130 : decode cX8_scoreOf 130 = .ok (.iload 4, 2) := by decide +kernel
theorem dX8_scoreOf_132 : decode cX8_scoreOf 132 = .ok (.ireturn, 1) := by decide +kernel
theorem dX8_reputation_0 : decode cX8_reputation 0 = .ok (.iconst 0, 1) := by decide +kernel
theorem dX8_reputation_1 : decode cX8_reputation 1 = .ok (.istore_n 2, 1) := by decide +kernel
theorem dX8_reputation_2 : decode cX8_reputation 2 = .ok (.iconst 0, 1) := by decide +kernel
theorem dX8_reputation_3 : decode cX8_reputation 3 = .ok (.istore_n 3, 1) := by decide +kernel
theorem dX8_reputation_4 : decode cX8_reputation 4 = .ok (.aload_n 0, 1) := by decide +kernel
theorem dX8_reputation_5 : decode cX8_reputation 5 = .ok (.getfield 7, 3) := by decide +kernel
theorem dX8_reputation_8 : decode cX8_reputation 8 = .ok (.bipush 9, 2) := by decide +kernel
theorem dX8_reputation_10 : decode cX8_reputation 10 = .ok (.iaload, 1) := by decide +kernel
theorem dX8_reputation_11 : decode cX8_reputation 11 = .ok (.istore 4, 2) := by decide +kernel
theorem dX8_reputation_13 : decode cX8_reputation 13 = .ok (.iload 4, 2) := by decide +kernel
theorem dX8_reputation_15 : decode cX8_reputation 15 = .ok (.iconst 1, 1) := by decide +kernel
theorem dX8_reputation_16 : decode cX8_reputation 16 = .ok (.if_icmp .lt 62, 3) := by decide +kernel
theorem dX8_reputation_19 : decode cX8_reputation 19 = .ok (.iload_n 2, 1) := by decide +kernel
theorem dX8_reputation_20 : decode cX8_reputation 20 = .ok (.aload_n 0, 1) := by decide +kernel
theorem dX8_reputation_21 : decode cX8_reputation 21 = .ok (.getfield 7, 3) := by decide +kernel
theorem dX8_reputation_24 : decode cX8_reputation 24 = .ok (.iconst 5, 1) := by decide +kernel
theorem dX8_reputation_25 : decode cX8_reputation 25 = .ok (.iaload, 1) := by decide +kernel
theorem dX8_reputation_26 : decode cX8_reputation 26 = .ok (.if_icmp .ge 52, 3) := by decide +kernel
theorem dX8_reputation_29 : decode cX8_reputation 29 = .ok (.aload_n 0, 1) := by decide +kernel
theorem dX8_reputation_30 : decode cX8_reputation 30 = .ok (.getfield 7, 3) := by decide +kernel
theorem dX8_reputation_33 : decode cX8_reputation 33 = .ok (.iload 4, 2) := by decide +kernel
theorem dX8_reputation_35 : decode cX8_reputation 35 = .ok (.iconst 0, 1) := by decide +kernel
theorem dX8_reputation_36 : decode cX8_reputation 36 = .ok (.invokestatic 31, 3) := by decide +kernel
theorem dX8_reputation_39 : decode cX8_reputation 39 = .ok (.iaload, 1) := by decide +kernel
theorem dX8_reputation_40 : decode cX8_reputation 40 = .ok (.iload_n 1, 1) := by decide +kernel
theorem dX8_reputation_41 : decode cX8_reputation 41 = .ok (.if_icmp .ne 31, 3) := by decide +kernel
theorem dX8_reputation_44 : decode cX8_reputation 44 = .ok (.aload_n 0, 1) := by decide +kernel
theorem dX8_reputation_45 : decode cX8_reputation 45 = .ok (.getfield 7, 3) := by decide +kernel
theorem dX8_reputation_48 : decode cX8_reputation 48 = .ok (.iload 4, 2) := by decide +kernel
theorem dX8_reputation_50 : decode cX8_reputation 50 = .ok (.iconst 3, 1) := by decide +kernel
theorem dX8_reputation_51 : decode cX8_reputation 51 = .ok (.invokestatic 31, 3) := by decide +kernel
theorem dX8_reputation_54 : decode cX8_reputation 54 = .ok (.iaload, 1) := by decide +kernel
theorem dX8_reputation_55 : decode cX8_reputation 55 = .ok (.bipush (-9), 2) := by decide +kernel
theorem dX8_reputation_57 : decode cX8_reputation 57 = .ok (.if_icmp .eq 15, 3) := by decide +kernel
theorem dX8_reputation_60 : decode cX8_reputation 60 = .ok (.iload_n 3, 1) := by decide +kernel
theorem dX8_reputation_61 : decode cX8_reputation 61 = .ok (.aload_n 0, 1) := by decide +kernel
theorem dX8_reputation_62 : decode cX8_reputation 62 = .ok (.iload 4, 2) := by decide +kernel
theorem dX8_reputation_64 : decode cX8_reputation 64 = .ok (.invokevirtual 38, 3) := by decide +kernel
theorem dX8_reputation_67 : decode cX8_reputation 67 = .ok (.iadd, 1) := by decide +kernel
theorem dX8_reputation_68 : decode cX8_reputation 68 = .ok (.istore_n 3, 1) := by decide +kernel
theorem dX8_reputation_69 : decode cX8_reputation 69 = .ok (.iinc 2 1, 3) := by decide +kernel
theorem dX8_reputation_72 : decode cX8_reputation 72 = .ok (.iinc 4 (-1), 3) := by decide +kernel
theorem dX8_reputation_75 : decode cX8_reputation 75 = .ok (.goto (-62), 3) := by decide +kernel
theorem dX8_reputation_78 : decode cX8_reputation 78 = .ok (.iload_n 2, 1) := by decide +kernel
theorem dX8_reputation_79 : decode cX8_reputation 79 = .ok (.ifCond .ne 8, 3) := by decide +kernel
theorem dX8_reputation_82 : decode cX8_reputation 82 = .ok (.bipush 50, 2) := by decide +kernel
theorem dX8_reputation_84 : decode cX8_reputation 84 = .ok (.goto 6, 3) := by decide +kernel
theorem dX8_reputation_87 : decode cX8_reputation 87 = .ok (.iload_n 3, 1) := by decide +kernel
theorem dX8_reputation_88 : decode cX8_reputation 88 = .ok (.iload_n 2, 1) := by decide +kernel
theorem dX8_reputation_89 : decode cX8_reputation 89 = .ok (.idiv, 1) := by decide +kernel
theorem dX8_reputation_90 : decode cX8_reputation 90 = .ok (.ireturn, 1) := by decide +kernel
theorem dX8_led_0 : decode cX8_led 0 = .ok (.iconst 0, 1) := by decide +kernel
theorem dX8_led_1 : decode cX8_led 1 = .ok (.istore_n 2, 1) := by decide +kernel
theorem dX8_led_2 : decode cX8_led 2 = .ok (.iconst 1, 1) := by decide +kernel
theorem dX8_led_3 : decode cX8_led 3 = .ok (.istore_n 3, 1) := by decide +kernel
theorem dX8_led_4 : decode cX8_led 4 = .ok (.iload_n 3, 1) := by decide +kernel
theorem dX8_led_5 : decode cX8_led 5 = .ok (.aload_n 0, 1) := by decide +kernel
theorem dX8_led_6 : decode cX8_led 6 = .ok (.getfield 7, 3) := by decide +kernel
theorem dX8_led_9 : decode cX8_led 9 = .ok (.bipush 9, 2) := by decide +kernel
theorem dX8_led_11 : decode cX8_led 11 = .ok (.iaload, 1) := by decide +kernel
theorem dX8_led_12 : decode cX8_led 12 = .ok (.if_icmp .gt 31, 3) := by decide +kernel
theorem dX8_led_15 : decode cX8_led 15 = .ok (.iload_n 2, 1) := by decide +kernel
theorem dX8_led_16 : decode cX8_led 16 = .ok (.aload_n 0, 1) := by decide +kernel
theorem dX8_led_17 : decode cX8_led 17 = .ok (.getfield 7, 3) := by decide +kernel
theorem dX8_led_20 : decode cX8_led 20 = .ok (.iload_n 3, 1) := by decide +kernel
theorem dX8_led_21 : decode cX8_led 21 = .ok (.iconst 0, 1) := by decide +kernel
theorem dX8_led_22 : decode cX8_led 22 = .ok (.invokestatic 31, 3) := by decide +kernel
theorem dX8_led_25 : decode cX8_led 25 = .ok (.iaload, 1) := by decide +kernel
theorem dX8_led_26 : decode cX8_led 26 = .ok (.iload_n 1, 1) := by decide +kernel
theorem dX8_led_27 : decode cX8_led 27 = .ok (.if_icmp .ne 7, 3) := by decide +kernel
theorem dX8_led_30 : decode cX8_led 30 = .ok (.iconst 1, 1) := by decide +kernel
theorem dX8_led_31 : decode cX8_led 31 = .ok (.goto 4, 3) := by decide +kernel
theorem dX8_led_34 : decode cX8_led 34 = .ok (.iconst 0, 1) := by decide +kernel
theorem dX8_led_35 : decode cX8_led 35 = .ok (.iadd, 1) := by decide +kernel
theorem dX8_led_36 : decode cX8_led 36 = .ok (.istore_n 2, 1) := by decide +kernel
theorem dX8_led_37 : decode cX8_led 37 = .ok (.iinc 3 1, 3) := by decide +kernel
theorem dX8_led_40 : decode cX8_led 40 = .ok (.goto (-36), 3) := by decide +kernel
theorem dX8_led_43 : decode cX8_led 43 = .ok (.iload_n 2, 1) := by decide +kernel
theorem dX8_led_44 : decode cX8_led 44 = .ok (.ireturn, 1) := by decide +kernel
theorem dX8_canLead_0 : decode cX8_canLead 0 = .ok (.iconst 0, 1) := by decide +kernel
theorem dX8_canLead_1 : decode cX8_canLead 1 = .ok (.istore_n 2, 1) := by decide +kernel
theorem dX8_canLead_2 : decode cX8_canLead 2 = .ok (.aload_n 0, 1) := by decide +kernel
theorem dX8_canLead_3 : decode cX8_canLead 3 = .ok (.getfield 7, 3) := by decide +kernel
theorem dX8_canLead_6 : decode cX8_canLead 6 = .ok (.bipush 9, 2) := by decide +kernel
theorem dX8_canLead_8 : decode cX8_canLead 8 = .ok (.iaload, 1) := by decide +kernel
theorem dX8_canLead_9 : decode cX8_canLead 9 = .ok (.istore_n 3, 1) := by decide +kernel
theorem dX8_canLead_10 : decode cX8_canLead 10 = .ok (.iload_n 3, 1) := by decide +kernel
theorem dX8_canLead_11 : decode cX8_canLead 11 = .ok (.iconst 1, 1) := by decide +kernel
theorem dX8_canLead_12 : decode cX8_canLead 12 = .ok (.if_icmp .lt 26, 3) := by decide +kernel
theorem dX8_canLead_15 : decode cX8_canLead 15 = .ok (.aload_n 0, 1) := by decide +kernel
theorem dX8_canLead_16 : decode cX8_canLead 16 = .ok (.getfield 7, 3) := by decide +kernel
theorem dX8_canLead_19 : decode cX8_canLead 19 = .ok (.iload_n 3, 1) := by decide +kernel
theorem dX8_canLead_20 : decode cX8_canLead 20 = .ok (.iconst 0, 1) := by decide +kernel
theorem dX8_canLead_21 : decode cX8_canLead 21 = .ok (.invokestatic 31, 3) := by decide +kernel
theorem dX8_canLead_24 : decode cX8_canLead 24 = .ok (.iaload, 1) := by decide +kernel
theorem dX8_canLead_25 : decode cX8_canLead 25 = .ok (.iload_n 1, 1) := by decide +kernel
theorem dX8_canLead_26 : decode cX8_canLead 26 = .ok (.if_icmp .ne 12, 3) := by decide +kernel
theorem dX8_canLead_29 : decode cX8_canLead 29 = .ok (.iinc 2 1, 3) := by decide +kernel
theorem dX8_canLead_32 : decode cX8_canLead 32 = .ok (.iinc 3 (-1), 3) := by decide +kernel
theorem dX8_canLead_35 : decode cX8_canLead 35 = .ok (.goto (-25), 3) := by decide +kernel
theorem dX8_canLead_38 : decode cX8_canLead 38 = .ok (.aload_n 0, 1) := by decide +kernel
theorem dX8_canLead_39 : decode cX8_canLead 39 = .ok (.iload_n 1, 1) := by decide +kernel
theorem dX8_canLead_40 : decode cX8_canLead 40 = .ok (.invokevirtual 41, 3) := by decide +kernel
theorem dX8_canLead_43 : decode cX8_canLead 43 = .ok (.ifCond .eq 31, 3) := by decide +kernel
theorem dX8_canLead_46 : decode cX8_canLead 46 = .ok (.aload_n 0, 1) := by decide +kernel
theorem dX8_canLead_47 : decode cX8_canLead 47 = .ok (.iload_n 1, 1) := by decide +kernel
theorem dX8_canLead_48 : decode cX8_canLead 48 = .ok (.invokevirtual 45, 3) := by decide +kernel
theorem dX8_canLead_51 : decode cX8_canLead 51 = .ok (.aload_n 0, 1) := by decide +kernel
theorem dX8_canLead_52 : decode cX8_canLead 52 = .ok (.getfield 7, 3) := by decide +kernel
theorem dX8_canLead_55 : decode cX8_canLead 55 = .ok (.iconst 1, 1) := by decide +kernel
theorem dX8_canLead_56 : decode cX8_canLead 56 = .ok (.iaload, 1) := by decide +kernel
theorem dX8_canLead_57 : decode cX8_canLead 57 = .ok (.if_icmp .ge 17, 3) := by decide +kernel
theorem dX8_canLead_60 : decode cX8_canLead 60 = .ok (.iload_n 2, 1) := by decide +kernel
theorem dX8_canLead_61 : decode cX8_canLead 61 = .ok (.aload_n 0, 1) := by decide +kernel
theorem dX8_canLead_62 : decode cX8_canLead 62 = .ok (.getfield 7, 3) := by decide +kernel
theorem dX8_canLead_65 : decode cX8_canLead 65 = .ok (.iconst 2, 1) := by decide +kernel
theorem dX8_canLead_66 : decode cX8_canLead 66 = .ok (.iaload, 1) := by decide +kernel
theorem dX8_canLead_67 : decode cX8_canLead 67 = .ok (.if_icmp .ge 7, 3) := by decide +kernel
theorem dX8_canLead_70 : decode cX8_canLead 70 = .ok (.iconst 1, 1) := by decide +kernel
theorem dX8_canLead_71 : decode cX8_canLead 71 = .ok (.goto 4, 3) := by decide +kernel
theorem dX8_canLead_74 : decode cX8_canLead 74 = .ok (.iconst 0, 1) := by decide +kernel
theorem dX8_canLead_75 : decode cX8_canLead 75 = .ok (.ireturn, 1) := by decide +kernel
theorem dX8_tells_0 : decode cX8_tells 0 = .ok (.sipush 910, 3) := by decide +kernel
theorem dX8_tells_3 : decode cX8_tells 3 = .ok (.iconst 3, 1) := by decide +kernel
theorem dX8_tells_4 : decode cX8_tells 4 = .ok (.aload_n 0, 1) := by decide +kernel
theorem dX8_tells_5 : decode cX8_tells 5 = .ok (.getfield 7, 3) := by decide +kernel
theorem dX8_tells_8 : decode cX8_tells 8 = .ok (.bipush 12, 2) := by decide +kernel
theorem dX8_tells_10 : decode cX8_tells 10 = .ok (.iaload, 1) := by decide +kernel
theorem dX8_tells_11 : decode cX8_tells 11 = .ok (.bipush 20, 2) := by decide +kernel
theorem dX8_tells_13 : decode cX8_tells 13 = .ok (.irem, 1) := by decide +kernel
theorem dX8_tells_14 : decode cX8_tells 14 = .ok (.imul, 1) := by decide +kernel
theorem dX8_tells_15 : decode cX8_tells 15 = .ok (.iadd, 1) := by decide +kernel
theorem dX8_tells_16 : decode cX8_tells 16 = .ok (.istore_n 3, 1) := by decide +kernel
theorem dX8_tells_17 : decode cX8_tells 17 = .ok (.aload_n 0, 1) := by decide +kernel
theorem dX8_tells_18 : decode cX8_tells 18 = .ok (.getfield 7, 3) := by decide +kernel
theorem dX8_tells_21 : decode cX8_tells 21 = .ok (.iload_n 3, 1) := by decide +kernel
theorem dX8_tells_22 : decode cX8_tells 22 = .ok (.aload_n 0, 1) := by decide +kernel
theorem dX8_tells_23 : decode cX8_tells 23 = .ok (.getfield 7, 3) := by decide +kernel
theorem dX8_tells_26 : decode cX8_tells 26 = .ok (.bipush 6, 2) := by decide +kernel
theorem dX8_tells_28 : decode cX8_tells 28 = .ok (.iaload, 1) := by decide +kernel
theorem dX8_tells_29 : decode cX8_tells 29 = .ok (.iastore, 1) := by decide +kernel
theorem dX8_tells_30 : decode cX8_tells 30 = .ok (.aload_n 0, 1) := by decide +kernel
theorem dX8_tells_31 : decode cX8_tells 31 = .ok (.getfield 7, 3) := by decide +kernel
theorem dX8_tells_34 : decode cX8_tells 34 = .ok (.iload_n 3, 1) := by decide +kernel
theorem dX8_tells_35 : decode cX8_tells 35 = .ok (.iconst 1, 1) := by decide +kernel
theorem dX8_tells_36 : decode cX8_tells 36 = .ok (.iadd, 1) := by decide +kernel
theorem dX8_tells_37 : decode cX8_tells 37 = .ok (.iload_n 1, 1) := by decide +kernel
theorem dX8_tells_38 : decode cX8_tells 38 = .ok (.iastore, 1) := by decide +kernel
theorem dX8_tells_39 : decode cX8_tells 39 = .ok (.aload_n 0, 1) := by decide +kernel
theorem dX8_tells_40 : decode cX8_tells 40 = .ok (.getfield 7, 3) := by decide +kernel
theorem dX8_tells_43 : decode cX8_tells 43 = .ok (.iload_n 3, 1) := by decide +kernel
theorem dX8_tells_44 : decode cX8_tells 44 = .ok (.iconst 2, 1) := by decide +kernel
theorem dX8_tells_45 : decode cX8_tells 45 = .ok (.iadd, 1) := by decide +kernel
theorem dX8_tells_46 : decode cX8_tells 46 = .ok (.iload_n 2, 1) := by decide +kernel
theorem dX8_tells_47 : decode cX8_tells 47 = .ok (.iastore, 1) := by decide +kernel
theorem dX8_tells_48 : decode cX8_tells 48 = .ok (.aload_n 0, 1) := by decide +kernel
theorem dX8_tells_49 : decode cX8_tells 49 = .ok (.getfield 7, 3) := by decide +kernel
theorem dX8_tells_52 : decode cX8_tells 52 = .ok (.bipush 12, 2) := by decide +kernel
theorem dX8_tells_54 : decode cX8_tells 54 = .ok (.dup2, 1) := by decide +kernel
theorem dX8_tells_55 : decode cX8_tells 55 = .ok (.iaload, 1) := by decide +kernel
theorem dX8_tells_56 : decode cX8_tells 56 = .ok (.iconst 1, 1) := by decide +kernel
theorem dX8_tells_57 : decode cX8_tells 57 = .ok (.iadd, 1) := by decide +kernel
theorem dX8_tells_58 : decode cX8_tells 58 = .ok (.iastore, 1) := by decide +kernel
theorem dX8_tells_59 : decode cX8_tells 59 = .ok (.return_, 1) := by decide +kernel
theorem dX8_appoints_0 : decode cX8_appoints 0 = .ok (.bipush (-9), 2) := by decide +kernel
theorem dX8_appoints_2 : decode cX8_appoints 2 = .ok (.istore_n 2, 1) := by decide +kernel
theorem dX8_appoints_3 : decode cX8_appoints 3 = .ok (.iconst 0, 1) := by decide +kernel
theorem dX8_appoints_4 : decode cX8_appoints 4 = .ok (.istore_n 3, 1) := by decide +kernel
theorem dX8_appoints_5 : decode cX8_appoints 5 = .ok (.iload_n 3, 1) := by decide +kernel
theorem dX8_appoints_6 : decode cX8_appoints 6 = .ok (.aload_n 0, 1) := by decide +kernel
theorem dX8_appoints_7 : decode cX8_appoints 7 = .ok (.getfield 7, 3) := by decide +kernel
theorem dX8_appoints_10 : decode cX8_appoints 10 = .ok (.bipush 10, 2) := by decide +kernel
theorem dX8_appoints_12 : decode cX8_appoints 12 = .ok (.iaload, 1) := by decide +kernel
theorem dX8_appoints_13 : decode cX8_appoints 13 = .ok (.if_icmp .ge 77, 3) := by decide +kernel
theorem dX8_appoints_16 : decode cX8_appoints 16 = .ok (.aload_n 0, 1) := by decide +kernel
theorem dX8_appoints_17 : decode cX8_appoints 17 = .ok (.iload_n 3, 1) := by decide +kernel
theorem dX8_appoints_18 : decode cX8_appoints 18 = .ok (.invokevirtual 41, 3) := by decide +kernel
theorem dX8_appoints_21 : decode cX8_appoints 21 = .ok (.ifCond .eq 63, 3) := by decide +kernel
theorem dX8_appoints_24 : decode cX8_appoints 24 = .ok (.iload_n 3, 1) := by decide +kernel
theorem dX8_appoints_25 : decode cX8_appoints 25 = .ok (.iload_n 1, 1) := by decide +kernel
theorem dX8_appoints_26 : decode cX8_appoints 26 = .ok (.if_icmp .eq 58, 3) := by decide +kernel
theorem dX8_appoints_29 : decode cX8_appoints 29 = .ok (.iload_n 2, 1) := by decide +kernel
theorem dX8_appoints_30 : decode cX8_appoints 30 = .ok (.ifCond .ge 7, 3) := by decide +kernel
theorem dX8_appoints_33 : decode cX8_appoints 33 = .ok (.iconst 1, 1) := by decide +kernel
theorem dX8_appoints_34 : decode cX8_appoints 34 = .ok (.goto 14, 3) := by decide +kernel
theorem dX8_appoints_37 : decode cX8_appoints 37 = .ok (.aload_n 0, 1) := by decide +kernel
theorem dX8_appoints_38 : decode cX8_appoints 38 = .ok (.iload_n 3, 1) := by decide +kernel
theorem dX8_appoints_39 : decode cX8_appoints 39 = .ok (.invokevirtual 48, 3) := by decide +kernel
theorem dX8_appoints_42 : decode cX8_appoints 42 = .ok (.aload_n 0, 1) := by decide +kernel
theorem dX8_appoints_43 : decode cX8_appoints 43 = .ok (.iload_n 2, 1) := by decide +kernel
theorem dX8_appoints_44 : decode cX8_appoints 44 = .ok (.invokevirtual 48, 3) := by decide +kernel
theorem dX8_appoints_47 : decode cX8_appoints 47 = .ok (.isub, 1) := by decide +kernel
theorem dX8_appoints_48 : decode cX8_appoints 48 = .ok (.istore 4, 2) := by decide +kernel
theorem dX8_appoints_50 : decode cX8_appoints 50 = .ok (.iload 4, 2) := by decide +kernel
theorem dX8_appoints_52 : decode cX8_appoints 52 = .ok (.ifCond .ne 17, 3) := by decide +kernel
theorem dX8_appoints_55 : decode cX8_appoints 55 = .ok (.aload_n 0, 1) := by decide +kernel
theorem dX8_appoints_56 : decode cX8_appoints 56 = .ok (.iload_n 2, 1) := by decide +kernel
theorem dX8_appoints_57 : decode cX8_appoints 57 = .ok (.invokevirtual 45, 3) := by decide +kernel
theorem dX8_appoints_60 : decode cX8_appoints 60 = .ok (.aload_n 0, 1) := by decide +kernel
theorem dX8_appoints_61 : decode cX8_appoints 61 = .ok (.iload_n 3, 1) := by decide +kernel
theorem dX8_appoints_62 : decode cX8_appoints 62 = .ok (.invokevirtual 45, 3) := by decide +kernel
theorem dX8_appoints_65 : decode cX8_appoints 65 = .ok (.isub, 1) := by decide +kernel
theorem dX8_appoints_66 : decode cX8_appoints 66 = .ok (.goto 5, 3) := by decide +kernel
theorem dX8_appoints_69 : decode cX8_appoints 69 = .ok (.iload 4, 2) := by decide +kernel
theorem dX8_appoints_71 : decode cX8_appoints 71 = .ok (.istore 4, 2) := by decide +kernel
theorem dX8_appoints_73 : decode cX8_appoints 73 = .ok (.iload 4, 2) := by decide +kernel
theorem dX8_appoints_75 : decode cX8_appoints 75 = .ok (.ifCond .le 7, 3) := by decide +kernel
theorem dX8_appoints_78 : decode cX8_appoints 78 = .ok (.iload_n 3, 1) := by decide +kernel
theorem dX8_appoints_79 : decode cX8_appoints 79 = .ok (.goto 4, 3) := by decide +kernel
theorem dX8_appoints_82 : decode cX8_appoints 82 = .ok (.iload_n 2, 1) := by decide +kernel
theorem dX8_appoints_83 : decode cX8_appoints 83 = .ok (.istore_n 2, 1) := by decide +kernel
theorem dX8_appoints_84 : decode cX8_appoints 84 = .ok (.iinc 3 1, 3) := by decide +kernel
theorem dX8_appoints_87 : decode cX8_appoints 87 = .ok (.goto (-82), 3) := by decide +kernel
theorem dX8_appoints_90 : decode cX8_appoints 90 = .ok (.aload_n 0, 1) := by decide +kernel
theorem dX8_appoints_91 : decode cX8_appoints 91 = .ok (.getfield 7, 3) := by decide +kernel
theorem dX8_appoints_94 : decode cX8_appoints 94 = .ok (.bipush 7, 2) := by decide +kernel
theorem dX8_appoints_96 : decode cX8_appoints 96 = .ok (.iload_n 2, 1) := by decide +kernel
theorem dX8_appoints_97 : decode cX8_appoints 97 = .ok (.ifCond .ge 7, 3) := by decide +kernel
theorem dX8_appoints_100 : decode cX8_appoints 100 = .ok (.iconst 0, 1) := by decide +kernel
theorem dX8_appoints_101 : decode cX8_appoints 101 = .ok (.goto 4, 3) := by decide +kernel
theorem dX8_appoints_104 : decode cX8_appoints 104 = .ok (.iconst 1, 1) := by decide +kernel
theorem dX8_appoints_105 : decode cX8_appoints 105 = .ok (.iastore, 1) := by decide +kernel
theorem dX8_appoints_106 : decode cX8_appoints 106 = .ok (.aload_n 0, 1) := by decide +kernel
theorem dX8_appoints_107 : decode cX8_appoints 107 = .ok (.getfield 7, 3) := by decide +kernel
theorem dX8_appoints_110 : decode cX8_appoints 110 = .ok (.bipush 8, 2) := by decide +kernel
theorem dX8_appoints_112 : decode cX8_appoints 112 = .ok (.iload_n 2, 1) := by decide +kernel
theorem dX8_appoints_113 : decode cX8_appoints 113 = .ok (.iastore, 1) := by decide +kernel
theorem dX8_appoints_114 : decode cX8_appoints 114 = .ok (.aload_n 0, 1) := by decide +kernel
theorem dX8_appoints_115 : decode cX8_appoints 115 = .ok (.iload_n 2, 1) := by decide +kernel
theorem dX8_appoints_116 : decode cX8_appoints 116 = .ok (.ifCond .ge 8, 3) := by decide +kernel
theorem dX8_appoints_119 : decode cX8_appoints 119 = .ok (.bipush 7, 2) := by decide +kernel
theorem dX8_appoints_121 : decode cX8_appoints 121 = .ok (.goto 4, 3) := by decide +kernel
theorem dX8_appoints_124 : decode cX8_appoints 124 = .ok (.iconst 5, 1) := by decide +kernel
theorem dX8_appoints_125 : decode cX8_appoints 125 = .ok (.iload_n 2, 1) := by decide +kernel
theorem dX8_appoints_126 : decode cX8_appoints 126 = .ok (.invokevirtual 51, 3) := by decide +kernel
theorem dX8_appoints_129 : decode cX8_appoints 129 = .ok (.return_, 1) := by decide +kernel
theorem dX8_ends_0 : decode cX8_ends 0 = .ok (.aload_n 0, 1) := by decide +kernel
theorem dX8_ends_1 : decode cX8_ends 1 = .ok (.getfield 7, 3) := by decide +kernel
theorem dX8_ends_4 : decode cX8_ends 4 = .ok (.bipush 9, 2) := by decide +kernel
theorem dX8_ends_6 : decode cX8_ends 6 = .ok (.iaload, 1) := by decide +kernel
theorem dX8_ends_7 : decode cX8_ends 7 = .ok (.istore_n 2, 1) := by decide +kernel
theorem dX8_ends_8 : decode cX8_ends 8 = .ok (.aload_n 0, 1) := by decide +kernel
theorem dX8_ends_9 : decode cX8_ends 9 = .ok (.getfield 7, 3) := by decide +kernel
theorem dX8_ends_12 : decode cX8_ends 12 = .ok (.iload_n 2, 1) := by decide +kernel
theorem dX8_ends_13 : decode cX8_ends 13 = .ok (.iconst 0, 1) := by decide +kernel
theorem dX8_ends_14 : decode cX8_ends 14 = .ok (.invokestatic 31, 3) := by decide +kernel
theorem dX8_ends_17 : decode cX8_ends 17 = .ok (.iaload, 1) := by decide +kernel
theorem dX8_ends_18 : decode cX8_ends 18 = .ok (.istore_n 3, 1) := by decide +kernel
theorem dX8_ends_19 : decode cX8_ends 19 = .ok (.aload_n 0, 1) := by decide +kernel
theorem dX8_ends_20 : decode cX8_ends 20 = .ok (.getfield 7, 3) := by decide +kernel
theorem dX8_ends_23 : decode cX8_ends 23 = .ok (.iload_n 2, 1) := by decide +kernel
theorem dX8_ends_24 : decode cX8_ends 24 = .ok (.iconst 3, 1) := by decide +kernel
theorem dX8_ends_25 : decode cX8_ends 25 = .ok (.invokestatic 31, 3) := by decide +kernel
theorem dX8_ends_28 : decode cX8_ends 28 = .ok (.aload_n 0, 1) := by decide +kernel
theorem dX8_ends_29 : decode cX8_ends 29 = .ok (.getfield 7, 3) := by decide +kernel
theorem dX8_ends_32 : decode cX8_ends 32 = .ok (.bipush 6, 2) := by decide +kernel
theorem dX8_ends_34 : decode cX8_ends 34 = .ok (.iaload, 1) := by decide +kernel
theorem dX8_ends_35 : decode cX8_ends 35 = .ok (.iastore, 1) := by decide +kernel
theorem dX8_ends_36 : decode cX8_ends 36 = .ok (.aload_n 0, 1) := by decide +kernel
theorem dX8_ends_37 : decode cX8_ends 37 = .ok (.getfield 7, 3) := by decide +kernel
theorem dX8_ends_40 : decode cX8_ends 40 = .ok (.iload_n 2, 1) := by decide +kernel
theorem dX8_ends_41 : decode cX8_ends 41 = .ok (.iconst 5, 1) := by decide +kernel
theorem dX8_ends_42 : decode cX8_ends 42 = .ok (.invokestatic 31, 3) := by decide +kernel
theorem dX8_ends_45 : decode cX8_ends 45 = .ok (.iload_n 1, 1) := by decide +kernel
theorem dX8_ends_46 : decode cX8_ends 46 = .ok (.iconst 3, 1) := by decide +kernel
theorem dX8_ends_47 : decode cX8_ends 47 = .ok (.if_icmp .ne 7, 3) := by decide +kernel
theorem dX8_ends_50 : decode cX8_ends 50 = .ok (.iconst 1, 1) := by decide +kernel
theorem dX8_ends_51 : decode cX8_ends 51 = .ok (.goto 4, 3) := by decide +kernel
theorem dX8_ends_54 : decode cX8_ends 54 = .ok (.iconst 0, 1) := by decide +kernel
theorem dX8_ends_55 : decode cX8_ends 55 = .ok (.iastore, 1) := by decide +kernel
theorem dX8_ends_56 : decode cX8_ends 56 = .ok (.iconst 0, 1) := by decide +kernel
theorem dX8_ends_57 : decode cX8_ends 57 = .ok (.istore 4, 2) := by decide +kernel
theorem dX8_ends_59 : decode cX8_ends 59 = .ok (.iload 4, 2) := by decide +kernel
theorem dX8_ends_61 : decode cX8_ends 61 = .ok (.bipush 10, 2) := by decide +kernel
theorem dX8_ends_63 : decode cX8_ends 63 = .ok (.if_icmp .ge 21, 3) := by decide +kernel
theorem dX8_ends_66 : decode cX8_ends 66 = .ok (.aload_n 0, 1) := by decide +kernel
theorem dX8_ends_67 : decode cX8_ends 67 = .ok (.getfield 7, 3) := by decide +kernel
theorem dX8_ends_70 : decode cX8_ends 70 = .ok (.iload 4, 2) := by decide +kernel
theorem dX8_ends_72 : decode cX8_ends 72 = .ok (.iconst 3, 1) := by decide +kernel
theorem dX8_ends_73 : decode cX8_ends 73 = .ok (.invokestatic 27, 3) := by decide +kernel
theorem dX8_ends_76 : decode cX8_ends 76 = .ok (.iconst 0, 1) := by decide +kernel
theorem dX8_ends_77 : decode cX8_ends 77 = .ok (.iastore, 1) := by decide +kernel
theorem dX8_ends_78 : decode cX8_ends 78 = .ok (.iinc 4 1, 3) := by decide +kernel
theorem dX8_ends_81 : decode cX8_ends 81 = .ok (.goto (-22), 3) := by decide +kernel
theorem dX8_ends_84 : decode cX8_ends 84 = .ok (.aload_n 0, 1) := by decide +kernel
theorem dX8_ends_85 : decode cX8_ends 85 = .ok (.iload_n 1, 1) := by decide +kernel
theorem dX8_ends_86 : decode cX8_ends 86 = .ok (.iload_n 3, 1) := by decide +kernel
theorem dX8_ends_87 : decode cX8_ends 87 = .ok (.invokevirtual 51, 3) := by decide +kernel
theorem dX8_ends_90 : decode cX8_ends 90 = .ok (.aload_n 0, 1) := by decide +kernel
theorem dX8_ends_91 : decode cX8_ends 91 = .ok (.iload_n 3, 1) := by decide +kernel
theorem dX8_ends_92 : decode cX8_ends 92 = .ok (.invokevirtual 55, 3) := by decide +kernel
theorem dX8_ends_95 : decode cX8_ends 95 = .ok (.return_, 1) := by decide +kernel
theorem dX8_signatures_0 : decode cX8_signatures 0 = .ok (.iconst 0, 1) := by decide +kernel
theorem dX8_signatures_1 : decode cX8_signatures 1 = .ok (.istore_n 1, 1) := by decide +kernel
theorem dX8_signatures_2 : decode cX8_signatures 2 = .ok (.iconst 0, 1) := by decide +kernel
theorem dX8_signatures_3 : decode cX8_signatures 3 = .ok (.istore_n 2, 1) := by decide +kernel
theorem dX8_signatures_4 : decode cX8_signatures 4 = .ok (.iload_n 2, 1) := by decide +kernel
theorem dX8_signatures_5 : decode cX8_signatures 5 = .ok (.aload_n 0, 1) := by decide +kernel
theorem dX8_signatures_6 : decode cX8_signatures 6 = .ok (.getfield 7, 3) := by decide +kernel
theorem dX8_signatures_9 : decode cX8_signatures 9 = .ok (.bipush 10, 2) := by decide +kernel
theorem dX8_signatures_11 : decode cX8_signatures 11 = .ok (.iaload, 1) := by decide +kernel
theorem dX8_signatures_12 : decode cX8_signatures 12 = .ok (.if_icmp .ge 39, 3) := by decide +kernel
theorem dX8_signatures_15 : decode cX8_signatures 15 = .ok (.iload_n 1, 1) := by decide +kernel
theorem dX8_signatures_16 : decode cX8_signatures 16 = .ok (.aload_n 0, 1) := by decide +kernel
theorem dX8_signatures_17 : decode cX8_signatures 17 = .ok (.iload_n 2, 1) := by decide +kernel
theorem dX8_signatures_18 : decode cX8_signatures 18 = .ok (.invokevirtual 41, 3) := by decide +kernel
theorem dX8_signatures_21 : decode cX8_signatures 21 = .ok (.ifCond .eq 21, 3) := by decide +kernel
theorem dX8_signatures_24 : decode cX8_signatures 24 = .ok (.aload_n 0, 1) := by decide +kernel
theorem dX8_signatures_25 : decode cX8_signatures 25 = .ok (.getfield 7, 3) := by decide +kernel
theorem dX8_signatures_28 : decode cX8_signatures 28 = .ok (.iload_n 2, 1) := by decide +kernel
theorem dX8_signatures_29 : decode cX8_signatures 29 = .ok (.iconst 3, 1) := by decide +kernel
theorem dX8_signatures_30 : decode cX8_signatures 30 = .ok (.invokestatic 27, 3) := by decide +kernel
theorem dX8_signatures_33 : decode cX8_signatures 33 = .ok (.iaload, 1) := by decide +kernel
theorem dX8_signatures_34 : decode cX8_signatures 34 = .ok (.iconst 1, 1) := by decide +kernel
theorem dX8_signatures_35 : decode cX8_signatures 35 = .ok (.if_icmp .ne 7, 3) := by decide +kernel
theorem dX8_signatures_38 : decode cX8_signatures 38 = .ok (.iconst 1, 1) := by decide +kernel
theorem dX8_signatures_39 : decode cX8_signatures 39 = .ok (.goto 4, 3) := by decide +kernel
theorem dX8_signatures_42 : decode cX8_signatures 42 = .ok (.iconst 0, 1) := by decide +kernel
theorem dX8_signatures_43 : decode cX8_signatures 43 = .ok (.iadd, 1) := by decide +kernel
theorem dX8_signatures_44 : decode cX8_signatures 44 = .ok (.istore_n 1, 1) := by decide +kernel
theorem dX8_signatures_45 : decode cX8_signatures 45 = .ok (.iinc 2 1, 3) := by decide +kernel
theorem dX8_signatures_48 : decode cX8_signatures 48 = .ok (.goto (-44), 3) := by decide +kernel
theorem dX8_signatures_51 : decode cX8_signatures 51 = .ok (.iload_n 1, 1) := by decide +kernel
theorem dX8_signatures_52 : decode cX8_signatures 52 = .ok (.ireturn, 1) := by decide +kernel
theorem dX8_presentMany_0 : decode cX8_presentMany 0 = .ok (.iconst 0, 1) := by decide +kernel
theorem dX8_presentMany_1 : decode cX8_presentMany 1 = .ok (.istore_n 1, 1) := by decide +kernel
theorem dX8_presentMany_2 : decode cX8_presentMany 2 = .ok (.iconst 0, 1) := by decide +kernel
theorem dX8_presentMany_3 : decode cX8_presentMany 3 = .ok (.istore_n 2, 1) := by decide +kernel
theorem dX8_presentMany_4 : decode cX8_presentMany 4 = .ok (.iload_n 2, 1) := by decide +kernel
theorem dX8_presentMany_5 : decode cX8_presentMany 5 = .ok (.aload_n 0, 1) := by decide +kernel
theorem dX8_presentMany_6 : decode cX8_presentMany 6 = .ok (.getfield 7, 3) := by decide +kernel
theorem dX8_presentMany_9 : decode cX8_presentMany 9 = .ok (.bipush 10, 2) := by decide +kernel
theorem dX8_presentMany_11 : decode cX8_presentMany 11 = .ok (.iaload, 1) := by decide +kernel
theorem dX8_presentMany_12 : decode cX8_presentMany 12 = .ok (.if_icmp .ge 22, 3) := by decide +kernel
theorem dX8_presentMany_15 : decode cX8_presentMany 15 = .ok (.iload_n 1, 1) := by decide +kernel
theorem dX8_presentMany_16 : decode cX8_presentMany 16 = .ok (.aload_n 0, 1) := by decide +kernel
theorem dX8_presentMany_17 : decode cX8_presentMany 17 = .ok (.getfield 7, 3) := by decide +kernel
theorem dX8_presentMany_20 : decode cX8_presentMany 20 = .ok (.iload_n 2, 1) := by decide +kernel
theorem dX8_presentMany_21 : decode cX8_presentMany 21 = .ok (.iconst 1, 1) := by decide +kernel
theorem dX8_presentMany_22 : decode cX8_presentMany 22 = .ok (.invokestatic 27, 3) := by decide +kernel
theorem dX8_presentMany_25 : decode cX8_presentMany 25 = .ok (.iaload, 1) := by decide +kernel
theorem dX8_presentMany_26 : decode cX8_presentMany 26 = .ok (.iadd, 1) := by decide +kernel
theorem dX8_presentMany_27 : decode cX8_presentMany 27 = .ok (.istore_n 1, 1) := by decide +kernel
theorem dX8_presentMany_28 : decode cX8_presentMany 28 = .ok (.iinc 2 1, 3) := by decide +kernel
theorem dX8_presentMany_31 : decode cX8_presentMany 31 = .ok (.goto (-27), 3) := by decide +kernel
theorem dX8_presentMany_34 : decode cX8_presentMany 34 = .ok (.iload_n 1, 1) := by decide +kernel
theorem dX8_presentMany_35 : decode cX8_presentMany 35 = .ok (.ireturn, 1) := by decide +kernel
theorem dX8_looks_0 : decode cX8_looks 0 = .ok (.aload_n 0, 1) := by decide +kernel
theorem dX8_looks_1 : decode cX8_looks 1 = .ok (.getfield 7, 3) := by decide +kernel
theorem dX8_looks_4 : decode cX8_looks 4 = .ok (.bipush 7, 2) := by decide +kernel
theorem dX8_looks_6 : decode cX8_looks 6 = .ok (.iaload, 1) := by decide +kernel
theorem dX8_looks_7 : decode cX8_looks 7 = .ok (.iconst 2, 1) := by decide +kernel
theorem dX8_looks_8 : decode cX8_looks 8 = .ok (.if_icmp .ne 39, 3) := by decide +kernel
theorem dX8_looks_11 : decode cX8_looks 11 = .ok (.aload_n 0, 1) := by decide +kernel
theorem dX8_looks_12 : decode cX8_looks 12 = .ok (.invokevirtual 59, 3) := by decide +kernel
theorem dX8_looks_15 : decode cX8_looks 15 = .ok (.iconst 1, 1) := by decide +kernel
theorem dX8_looks_16 : decode cX8_looks 16 = .ok (.isub, 1) := by decide +kernel
theorem dX8_looks_17 : decode cX8_looks 17 = .ok (.istore_n 1, 1) := by decide +kernel
theorem dX8_looks_18 : decode cX8_looks 18 = .ok (.aload_n 0, 1) := by decide +kernel
theorem dX8_looks_19 : decode cX8_looks 19 = .ok (.invokevirtual 63, 3) := by decide +kernel
theorem dX8_looks_22 : decode cX8_looks 22 = .ok (.istore_n 2, 1) := by decide +kernel
theorem dX8_looks_23 : decode cX8_looks 23 = .ok (.iload_n 2, 1) := by decide +kernel
theorem dX8_looks_24 : decode cX8_looks 24 = .ok (.ifCond .le 23, 3) := by decide +kernel
theorem dX8_looks_27 : decode cX8_looks 27 = .ok (.bipush 100, 2) := by decide +kernel
theorem dX8_looks_29 : decode cX8_looks 29 = .ok (.iload_n 2, 1) := by decide +kernel
theorem dX8_looks_30 : decode cX8_looks 30 = .ok (.imul, 1) := by decide +kernel
theorem dX8_looks_31 : decode cX8_looks 31 = .ok (.aload_n 0, 1) := by decide +kernel
theorem dX8_looks_32 : decode cX8_looks 32 = .ok (.getfield 7, 3) := by decide +kernel
theorem dX8_looks_35 : decode cX8_looks 35 = .ok (.iconst 3, 1) := by decide +kernel
theorem dX8_looks_36 : decode cX8_looks 36 = .ok (.iaload, 1) := by decide +kernel
theorem dX8_looks_37 : decode cX8_looks 37 = .ok (.iload_n 1, 1) := by decide +kernel
theorem dX8_looks_38 : decode cX8_looks 38 = .ok (.imul, 1) := by decide +kernel
theorem dX8_looks_39 : decode cX8_looks 39 = .ok (.if_icmp .lt 8, 3) := by decide +kernel
theorem dX8_looks_42 : decode cX8_looks 42 = .ok (.aload_n 0, 1) := by decide +kernel
theorem dX8_looks_43 : decode cX8_looks 43 = .ok (.iconst 3, 1) := by decide +kernel
theorem dX8_looks_44 : decode cX8_looks 44 = .ok (.invokevirtual 66, 3) := by decide +kernel
theorem dX8_looks_47 : decode cX8_looks 47 = .ok (.return_, 1) := by decide +kernel
theorem dX8_isIn_0 : decode cX8_isIn 0 = .ok (.iload_n 0, 1) := by decide +kernel
theorem dX8_isIn_1 : decode cX8_isIn 1 = .ok (.tableswitch 77 0 4 #[35, 45, 53, 61, 69], 35) := by decide +kernel
theorem dX8_isIn_36 : decode cX8_isIn 36 = .ok (.iload_n 1, 1) := by decide +kernel
theorem dX8_isIn_37 : decode cX8_isIn 37 = .ok (.bipush 10, 2) := by decide +kernel
theorem dX8_isIn_39 : decode cX8_isIn 39 = .ok (.sipush 1000, 3) := by decide +kernel
theorem dX8_isIn_42 : decode cX8_isIn 42 = .ok (.invokestatic 23, 3) := by decide +kernel
theorem dX8_isIn_45 : decode cX8_isIn 45 = .ok (.ireturn, 1) := by decide +kernel
theorem dX8_isIn_46 : decode cX8_isIn 46 = .ok (.iload_n 1, 1) := by decide +kernel
theorem dX8_isIn_47 : decode cX8_isIn 47 = .ok (.iconst 1, 1) := by decide +kernel
theorem dX8_isIn_48 : decode cX8_isIn 48 = .ok (.bipush 9, 2) := by decide +kernel
theorem dX8_isIn_50 : decode cX8_isIn 50 = .ok (.invokestatic 23, 3) := by decide +kernel
theorem dX8_isIn_53 : decode cX8_isIn 53 = .ok (.ireturn, 1) := by decide +kernel
theorem dX8_isIn_54 : decode cX8_isIn 54 = .ok (.iload_n 1, 1) := by decide +kernel
theorem dX8_isIn_55 : decode cX8_isIn 55 = .ok (.iconst 1, 1) := by decide +kernel
theorem dX8_isIn_56 : decode cX8_isIn 56 = .ok (.bipush 9, 2) := by decide +kernel
theorem dX8_isIn_58 : decode cX8_isIn 58 = .ok (.invokestatic 23, 3) := by decide +kernel
theorem dX8_isIn_61 : decode cX8_isIn 61 = .ok (.ireturn, 1) := by decide +kernel
theorem dX8_isIn_62 : decode cX8_isIn 62 = .ok (.iload_n 1, 1) := by decide +kernel
theorem dX8_isIn_63 : decode cX8_isIn 63 = .ok (.iconst 1, 1) := by decide +kernel
theorem dX8_isIn_64 : decode cX8_isIn 64 = .ok (.bipush 100, 2) := by decide +kernel
theorem dX8_isIn_66 : decode cX8_isIn 66 = .ok (.invokestatic 23, 3) := by decide +kernel
theorem dX8_isIn_69 : decode cX8_isIn 69 = .ok (.ireturn, 1) := by decide +kernel
theorem dX8_isIn_70 : decode cX8_isIn 70 = .ok (.iload_n 1, 1) := by decide +kernel
theorem dX8_isIn_71 : decode cX8_isIn 71 = .ok (.iconst 0, 1) := by decide +kernel
theorem dX8_isIn_72 : decode cX8_isIn 72 = .ok (.bipush 100, 2) := by decide +kernel
theorem dX8_isIn_74 : decode cX8_isIn 74 = .ok (.invokestatic 23, 3) := by decide +kernel
theorem dX8_isIn_77 : decode cX8_isIn 77 = .ok (.ireturn, 1) := by decide +kernel
theorem dX8_isIn_78 : decode cX8_isIn 78 = .ok (.iload_n 0, 1) := by decide +kernel
theorem dX8_isIn_79 : decode cX8_isIn 79 = .ok (.iconst 5, 1) := by decide +kernel
theorem dX8_isIn_80 : decode cX8_isIn 80 = .ok (.if_icmp .ne 17, 3) := by decide +kernel
theorem dX8_isIn_83 : decode cX8_isIn 83 = .ok (.iload_n 1, 1) := by decide +kernel
theorem dX8_isIn_84 : decode cX8_isIn 84 = .ok (.iconst 1, 1) := by decide +kernel
theorem dX8_isIn_85 : decode cX8_isIn 85 = .ok (.bipush 10, 2) := by decide +kernel
theorem dX8_isIn_87 : decode cX8_isIn 87 = .ok (.invokestatic 23, 3) := by decide +kernel
theorem dX8_isIn_90 : decode cX8_isIn 90 = .ok (.ifCond .eq 7, 3) := by decide +kernel
theorem dX8_isIn_93 : decode cX8_isIn 93 = .ok (.iconst 1, 1) := by decide +kernel
theorem dX8_isIn_94 : decode cX8_isIn 94 = .ok (.goto 4, 3) := by decide +kernel
theorem dX8_isIn_97 : decode cX8_isIn 97 = .ok (.iconst 0, 1) := by decide +kernel
theorem dX8_isIn_98 : decode cX8_isIn 98 = .ok (.ireturn, 1) := by decide +kernel
theorem dX8_set_0 : decode cX8_set 0 = .ok (.iload_n 1, 1) := by decide +kernel
theorem dX8_set_1 : decode cX8_set 1 = .ok (.iload_n 2, 1) := by decide +kernel
theorem dX8_set_2 : decode cX8_set 2 = .ok (.invokestatic 69, 3) := by decide +kernel
theorem dX8_set_5 : decode cX8_set 5 = .ok (.ifCond .ne 5, 3) := by decide +kernel
theorem dX8_set_8 : decode cX8_set 8 = .ok (.iconst (-1), 1) := by decide +kernel
theorem dX8_set_9 : decode cX8_set 9 = .ok (.ireturn, 1) := by decide +kernel
theorem dX8_set_10 : decode cX8_set 10 = .ok (.aload_n 0, 1) := by decide +kernel
theorem dX8_set_11 : decode cX8_set 11 = .ok (.invokevirtual 73, 3) := by decide +kernel
theorem dX8_set_14 : decode cX8_set 14 = .ok (.aload_n 0, 1) := by decide +kernel
theorem dX8_set_15 : decode cX8_set 15 = .ok (.getfield 7, 3) := by decide +kernel
theorem dX8_set_18 : decode cX8_set 18 = .ok (.iload_n 1, 1) := by decide +kernel
theorem dX8_set_19 : decode cX8_set 19 = .ok (.iaload, 1) := by decide +kernel
theorem dX8_set_20 : decode cX8_set 20 = .ok (.istore_n 3, 1) := by decide +kernel
theorem dX8_set_21 : decode cX8_set 21 = .ok (.aload_n 0, 1) := by decide +kernel
theorem dX8_set_22 : decode cX8_set 22 = .ok (.getfield 7, 3) := by decide +kernel
theorem dX8_set_25 : decode cX8_set 25 = .ok (.iload_n 1, 1) := by decide +kernel
theorem dX8_set_26 : decode cX8_set 26 = .ok (.iload_n 2, 1) := by decide +kernel
theorem dX8_set_27 : decode cX8_set 27 = .ok (.iastore, 1) := by decide +kernel
theorem dX8_set_28 : decode cX8_set 28 = .ok (.iload_n 1, 1) := by decide +kernel
theorem dX8_set_29 : decode cX8_set 29 = .ok (.iconst 3, 1) := by decide +kernel
theorem dX8_set_30 : decode cX8_set 30 = .ok (.if_icmp .ne 7, 3) := by decide +kernel
theorem dX8_set_33 : decode cX8_set 33 = .ok (.aload_n 0, 1) := by decide +kernel
theorem dX8_set_34 : decode cX8_set 34 = .ok (.invokevirtual 76, 3) := by decide +kernel
theorem dX8_set_37 : decode cX8_set 37 = .ok (.iload_n 3, 1) := by decide +kernel
theorem dX8_set_38 : decode cX8_set 38 = .ok (.ireturn, 1) := by decide +kernel
theorem dX8_join_0 : decode cX8_join 0 = .ok (.iload_n 1, 1) := by decide +kernel
theorem dX8_join_1 : decode cX8_join 1 = .ok (.iconst 0, 1) := by decide +kernel
theorem dX8_join_2 : decode cX8_join 2 = .ok (.sipush 996, 3) := by decide +kernel
theorem dX8_join_5 : decode cX8_join 5 = .ok (.invokestatic 23, 3) := by decide +kernel
theorem dX8_join_8 : decode cX8_join 8 = .ok (.ifCond .ne 5, 3) := by decide +kernel
theorem dX8_join_11 : decode cX8_join 11 = .ok (.iconst (-1), 1) := by decide +kernel
theorem dX8_join_12 : decode cX8_join 12 = .ok (.ireturn, 1) := by decide +kernel
theorem dX8_join_13 : decode cX8_join 13 = .ok (.aload_n 0, 1) := by decide +kernel
theorem dX8_join_14 : decode cX8_join 14 = .ok (.getfield 7, 3) := by decide +kernel
theorem dX8_join_17 : decode cX8_join 17 = .ok (.bipush 10, 2) := by decide +kernel
theorem dX8_join_19 : decode cX8_join 19 = .ok (.iaload, 1) := by decide +kernel
theorem dX8_join_20 : decode cX8_join 20 = .ok (.bipush 10, 2) := by decide +kernel
theorem dX8_join_22 : decode cX8_join 22 = .ok (.if_icmp .ne 6, 3) := by decide +kernel
theorem dX8_join_25 : decode cX8_join 25 = .ok (.bipush (-3), 2) := by decide +kernel
theorem dX8_join_27 : decode cX8_join 27 = .ok (.ireturn, 1) := by decide +kernel
theorem dX8_join_28 : decode cX8_join 28 = .ok (.aload_n 0, 1) := by decide +kernel
theorem dX8_join_29 : decode cX8_join 29 = .ok (.invokevirtual 73, 3) := by decide +kernel
theorem dX8_join_32 : decode cX8_join 32 = .ok (.aload_n 0, 1) := by decide +kernel
theorem dX8_join_33 : decode cX8_join 33 = .ok (.getfield 7, 3) := by decide +kernel
theorem dX8_join_36 : decode cX8_join 36 = .ok (.bipush 10, 2) := by decide +kernel
theorem dX8_join_38 : decode cX8_join 38 = .ok (.iaload, 1) := by decide +kernel
theorem dX8_join_39 : decode cX8_join 39 = .ok (.istore_n 2, 1) := by decide +kernel
theorem dX8_join_40 : decode cX8_join 40 = .ok (.iconst 0, 1) := by decide +kernel
theorem dX8_join_41 : decode cX8_join 41 = .ok (.istore_n 3, 1) := by decide +kernel
theorem dX8_join_42 : decode cX8_join 42 = .ok (.iload_n 3, 1) := by decide +kernel
theorem dX8_join_43 : decode cX8_join 43 = .ok (.bipush 15, 2) := by decide +kernel
theorem dX8_join_45 : decode cX8_join 45 = .ok (.if_icmp .ge 20, 3) := by decide +kernel
theorem dX8_join_48 : decode cX8_join 48 = .ok (.aload_n 0, 1) := by decide +kernel
theorem dX8_join_49 : decode cX8_join 49 = .ok (.getfield 7, 3) := by decide +kernel
theorem dX8_join_52 : decode cX8_join 52 = .ok (.iload_n 2, 1) := by decide +kernel
theorem dX8_join_53 : decode cX8_join 53 = .ok (.iload_n 3, 1) := by decide +kernel
theorem dX8_join_54 : decode cX8_join 54 = .ok (.invokestatic 27, 3) := by decide +kernel
theorem dX8_join_57 : decode cX8_join 57 = .ok (.iconst 0, 1) := by decide +kernel
theorem dX8_join_58 : decode cX8_join 58 = .ok (.iastore, 1) := by decide +kernel
theorem dX8_join_59 : decode cX8_join 59 = .ok (.iinc 3 1, 3) := by decide +kernel
theorem dX8_join_62 : decode cX8_join 62 = .ok (.goto (-20), 3) := by decide +kernel
theorem dX8_join_65 : decode cX8_join 65 = .ok (.aload_n 0, 1) := by decide +kernel
theorem dX8_join_66 : decode cX8_join 66 = .ok (.getfield 7, 3) := by decide +kernel
theorem dX8_join_69 : decode cX8_join 69 = .ok (.iload_n 2, 1) := by decide +kernel
theorem dX8_join_70 : decode cX8_join 70 = .ok (.iconst 0, 1) := by decide +kernel
theorem dX8_join_71 : decode cX8_join 71 = .ok (.invokestatic 27, 3) := by decide +kernel
theorem dX8_join_74 : decode cX8_join 74 = .ok (.iload_n 1, 1) := by decide +kernel
theorem dX8_join_75 : decode cX8_join 75 = .ok (.iastore, 1) := by decide +kernel
theorem dX8_join_76 : decode cX8_join 76 = .ok (.aload_n 0, 1) := by decide +kernel
theorem dX8_join_77 : decode cX8_join 77 = .ok (.getfield 7, 3) := by decide +kernel
theorem dX8_join_80 : decode cX8_join 80 = .ok (.iload_n 2, 1) := by decide +kernel
theorem dX8_join_81 : decode cX8_join 81 = .ok (.iconst 1, 1) := by decide +kernel
theorem dX8_join_82 : decode cX8_join 82 = .ok (.invokestatic 27, 3) := by decide +kernel
theorem dX8_join_85 : decode cX8_join 85 = .ok (.iconst 1, 1) := by decide +kernel
theorem dX8_join_86 : decode cX8_join 86 = .ok (.iastore, 1) := by decide +kernel
theorem dX8_join_87 : decode cX8_join 87 = .ok (.aload_n 0, 1) := by decide +kernel
theorem dX8_join_88 : decode cX8_join 88 = .ok (.getfield 7, 3) := by decide +kernel
theorem dX8_join_91 : decode cX8_join 91 = .ok (.bipush 10, 2) := by decide +kernel
theorem dX8_join_93 : decode cX8_join 93 = .ok (.dup2, 1) := by decide +kernel
theorem dX8_join_94 : decode cX8_join 94 = .ok (.iaload, 1) := by decide +kernel
theorem dX8_join_95 : decode cX8_join 95 = .ok (.iconst 1, 1) := by decide +kernel
theorem dX8_join_96 : decode cX8_join 96 = .ok (.iadd, 1) := by decide +kernel
theorem dX8_join_97 : decode cX8_join 97 = .ok (.iastore, 1) := by decide +kernel
theorem dX8_join_98 : decode cX8_join 98 = .ok (.aload_n 0, 1) := by decide +kernel
theorem dX8_join_99 : decode cX8_join 99 = .ok (.invokevirtual 76, 3) := by decide +kernel
theorem dX8_join_102 : decode cX8_join 102 = .ok (.iload_n 2, 1) := by decide +kernel
theorem dX8_join_103 : decode cX8_join 103 = .ok (.ireturn, 1) := by decide +kernel
theorem dX8_strikes_0 : decode cX8_strikes 0 = .ok (.iconst 0, 1) := by decide +kernel
theorem dX8_strikes_1 : decode cX8_strikes 1 = .ok (.istore_n 3, 1) := by decide +kernel
theorem dX8_strikes_2 : decode cX8_strikes 2 = .ok (.iconst 0, 1) := by decide +kernel
theorem dX8_strikes_3 : decode cX8_strikes 3 = .ok (.istore 4, 2) := by decide +kernel
theorem dX8_strikes_5 : decode cX8_strikes 5 = .ok (.iload 4, 2) := by decide +kernel
theorem dX8_strikes_7 : decode cX8_strikes 7 = .ok (.aload_n 0, 1) := by decide +kernel
theorem dX8_strikes_8 : decode cX8_strikes 8 = .ok (.getfield 7, 3) := by decide +kernel
theorem dX8_strikes_11 : decode cX8_strikes 11 = .ok (.iload_n 1, 1) := by decide +kernel
theorem dX8_strikes_12 : decode cX8_strikes 12 = .ok (.iconst 4, 1) := by decide +kernel
theorem dX8_strikes_13 : decode cX8_strikes 13 = .ok (.invokestatic 27, 3) := by decide +kernel
theorem dX8_strikes_16 : decode cX8_strikes 16 = .ok (.iaload, 1) := by decide +kernel
theorem dX8_strikes_17 : decode cX8_strikes 17 = .ok (.if_icmp .ge 52, 3) := by decide +kernel
theorem dX8_strikes_20 : decode cX8_strikes 20 = .ok (.aload_n 0, 1) := by decide +kernel
theorem dX8_strikes_21 : decode cX8_strikes 21 = .ok (.getfield 7, 3) := by decide +kernel
theorem dX8_strikes_24 : decode cX8_strikes 24 = .ok (.iload_n 1, 1) := by decide +kernel
theorem dX8_strikes_25 : decode cX8_strikes 25 = .ok (.iconst 5, 1) := by decide +kernel
theorem dX8_strikes_26 : decode cX8_strikes 26 = .ok (.iload 4, 2) := by decide +kernel
theorem dX8_strikes_28 : decode cX8_strikes 28 = .ok (.iadd, 1) := by decide +kernel
theorem dX8_strikes_29 : decode cX8_strikes 29 = .ok (.invokestatic 27, 3) := by decide +kernel
theorem dX8_strikes_32 : decode cX8_strikes 32 = .ok (.iaload, 1) := by decide +kernel
theorem dX8_strikes_33 : decode cX8_strikes 33 = .ok (.istore 5, 2) := by decide +kernel
theorem dX8_strikes_35 : decode cX8_strikes 35 = .ok (.aload_n 0, 1) := by decide +kernel
theorem dX8_strikes_36 : decode cX8_strikes 36 = .ok (.getfield 7, 3) := by decide +kernel
theorem dX8_strikes_39 : decode cX8_strikes 39 = .ok (.iload_n 1, 1) := by decide +kernel
theorem dX8_strikes_40 : decode cX8_strikes 40 = .ok (.iconst 5, 1) := by decide +kernel
theorem dX8_strikes_41 : decode cX8_strikes 41 = .ok (.iload_n 3, 1) := by decide +kernel
theorem dX8_strikes_42 : decode cX8_strikes 42 = .ok (.iadd, 1) := by decide +kernel
theorem dX8_strikes_43 : decode cX8_strikes 43 = .ok (.invokestatic 27, 3) := by decide +kernel
theorem dX8_strikes_46 : decode cX8_strikes 46 = .ok (.iload 5, 2) := by decide +kernel
theorem dX8_strikes_48 : decode cX8_strikes 48 = .ok (.iastore, 1) := by decide +kernel
theorem dX8_strikes_49 : decode cX8_strikes 49 = .ok (.iload_n 3, 1) := by decide +kernel
theorem dX8_strikes_50 : decode cX8_strikes 50 = .ok (.iload 5, 2) := by decide +kernel
theorem dX8_strikes_52 : decode cX8_strikes 52 = .ok (.iload_n 2, 1) := by decide +kernel
theorem dX8_strikes_53 : decode cX8_strikes 53 = .ok (.if_icmp .ne 7, 3) := by decide +kernel
theorem dX8_strikes_56 : decode cX8_strikes 56 = .ok (.iconst 0, 1) := by decide +kernel
theorem dX8_strikes_57 : decode cX8_strikes 57 = .ok (.goto 4, 3) := by decide +kernel
theorem dX8_strikes_60 : decode cX8_strikes 60 = .ok (.iconst 1, 1) := by decide +kernel
theorem dX8_strikes_61 : decode cX8_strikes 61 = .ok (.iadd, 1) := by decide +kernel
theorem dX8_strikes_62 : decode cX8_strikes 62 = .ok (.istore_n 3, 1) := by decide +kernel
theorem dX8_strikes_63 : decode cX8_strikes 63 = .ok (.iinc 4 1, 3) := by decide +kernel
theorem dX8_strikes_66 : decode cX8_strikes 66 = .ok (.goto (-61), 3) := by decide +kernel
theorem dX8_strikes_69 : decode cX8_strikes 69 = .ok (.aload_n 0, 1) := by decide +kernel
theorem dX8_strikes_70 : decode cX8_strikes 70 = .ok (.getfield 7, 3) := by decide +kernel
theorem dX8_strikes_73 : decode cX8_strikes 73 = .ok (.iload_n 1, 1) := by decide +kernel
theorem dX8_strikes_74 : decode cX8_strikes 74 = .ok (.iconst 4, 1) := by decide +kernel
theorem dX8_strikes_75 : decode cX8_strikes 75 = .ok (.invokestatic 27, 3) := by decide +kernel
theorem dX8_strikes_78 : decode cX8_strikes 78 = .ok (.iload_n 3, 1) := by decide +kernel
theorem dX8_strikes_79 : decode cX8_strikes 79 = .ok (.iastore, 1) := by decide +kernel
theorem dX8_strikes_80 : decode cX8_strikes 80 = .ok (.return_, 1) := by decide +kernel
theorem dX8_leaves_0 : decode cX8_leaves 0 = .ok (.aload_n 0, 1) := by decide +kernel
theorem dX8_leaves_1 : decode cX8_leaves 1 = .ok (.getfield 7, 3) := by decide +kernel
theorem dX8_leaves_4 : decode cX8_leaves 4 = .ok (.iload_n 1, 1) := by decide +kernel
theorem dX8_leaves_5 : decode cX8_leaves 5 = .ok (.iconst 1, 1) := by decide +kernel
theorem dX8_leaves_6 : decode cX8_leaves 6 = .ok (.invokestatic 27, 3) := by decide +kernel
theorem dX8_leaves_9 : decode cX8_leaves 9 = .ok (.iconst 0, 1) := by decide +kernel
theorem dX8_leaves_10 : decode cX8_leaves 10 = .ok (.iastore, 1) := by decide +kernel
theorem dX8_leaves_11 : decode cX8_leaves 11 = .ok (.aload_n 0, 1) := by decide +kernel
theorem dX8_leaves_12 : decode cX8_leaves 12 = .ok (.getfield 7, 3) := by decide +kernel
theorem dX8_leaves_15 : decode cX8_leaves 15 = .ok (.iload_n 1, 1) := by decide +kernel
theorem dX8_leaves_16 : decode cX8_leaves 16 = .ok (.iconst 2, 1) := by decide +kernel
theorem dX8_leaves_17 : decode cX8_leaves 17 = .ok (.invokestatic 27, 3) := by decide +kernel
theorem dX8_leaves_20 : decode cX8_leaves 20 = .ok (.iconst 0, 1) := by decide +kernel
theorem dX8_leaves_21 : decode cX8_leaves 21 = .ok (.iastore, 1) := by decide +kernel
theorem dX8_leaves_22 : decode cX8_leaves 22 = .ok (.aload_n 0, 1) := by decide +kernel
theorem dX8_leaves_23 : decode cX8_leaves 23 = .ok (.getfield 7, 3) := by decide +kernel
theorem dX8_leaves_26 : decode cX8_leaves 26 = .ok (.iload_n 1, 1) := by decide +kernel
theorem dX8_leaves_27 : decode cX8_leaves 27 = .ok (.iconst 4, 1) := by decide +kernel
theorem dX8_leaves_28 : decode cX8_leaves 28 = .ok (.invokestatic 27, 3) := by decide +kernel
theorem dX8_leaves_31 : decode cX8_leaves 31 = .ok (.iconst 0, 1) := by decide +kernel
theorem dX8_leaves_32 : decode cX8_leaves 32 = .ok (.iastore, 1) := by decide +kernel
theorem dX8_leaves_33 : decode cX8_leaves 33 = .ok (.iconst 0, 1) := by decide +kernel
theorem dX8_leaves_34 : decode cX8_leaves 34 = .ok (.istore_n 2, 1) := by decide +kernel
theorem dX8_leaves_35 : decode cX8_leaves 35 = .ok (.iload_n 2, 1) := by decide +kernel
theorem dX8_leaves_36 : decode cX8_leaves 36 = .ok (.aload_n 0, 1) := by decide +kernel
theorem dX8_leaves_37 : decode cX8_leaves 37 = .ok (.getfield 7, 3) := by decide +kernel
theorem dX8_leaves_40 : decode cX8_leaves 40 = .ok (.bipush 10, 2) := by decide +kernel
theorem dX8_leaves_42 : decode cX8_leaves 42 = .ok (.iaload, 1) := by decide +kernel
theorem dX8_leaves_43 : decode cX8_leaves 43 = .ok (.if_icmp .ge 15, 3) := by decide +kernel
theorem dX8_leaves_46 : decode cX8_leaves 46 = .ok (.aload_n 0, 1) := by decide +kernel
theorem dX8_leaves_47 : decode cX8_leaves 47 = .ok (.iload_n 2, 1) := by decide +kernel
theorem dX8_leaves_48 : decode cX8_leaves 48 = .ok (.iload_n 1, 1) := by decide +kernel
theorem dX8_leaves_49 : decode cX8_leaves 49 = .ok (.invokevirtual 79, 3) := by decide +kernel
theorem dX8_leaves_52 : decode cX8_leaves 52 = .ok (.iinc 2 1, 3) := by decide +kernel
theorem dX8_leaves_55 : decode cX8_leaves 55 = .ok (.goto (-20), 3) := by decide +kernel
theorem dX8_leaves_58 : decode cX8_leaves 58 = .ok (.aload_n 0, 1) := by decide +kernel
theorem dX8_leaves_59 : decode cX8_leaves 59 = .ok (.getfield 7, 3) := by decide +kernel
theorem dX8_leaves_62 : decode cX8_leaves 62 = .ok (.bipush 8, 2) := by decide +kernel
theorem dX8_leaves_64 : decode cX8_leaves 64 = .ok (.iaload, 1) := by decide +kernel
theorem dX8_leaves_65 : decode cX8_leaves 65 = .ok (.iload_n 1, 1) := by decide +kernel
theorem dX8_leaves_66 : decode cX8_leaves 66 = .ok (.if_icmp .ne 22, 3) := by decide +kernel
theorem dX8_leaves_69 : decode cX8_leaves 69 = .ok (.aload_n 0, 1) := by decide +kernel
theorem dX8_leaves_70 : decode cX8_leaves 70 = .ok (.getfield 7, 3) := by decide +kernel
theorem dX8_leaves_73 : decode cX8_leaves 73 = .ok (.bipush 7, 2) := by decide +kernel
theorem dX8_leaves_75 : decode cX8_leaves 75 = .ok (.iaload, 1) := by decide +kernel
theorem dX8_leaves_76 : decode cX8_leaves 76 = .ok (.iconst 2, 1) := by decide +kernel
theorem dX8_leaves_77 : decode cX8_leaves 77 = .ok (.if_icmp .ne 11, 3) := by decide +kernel
theorem dX8_leaves_80 : decode cX8_leaves 80 = .ok (.aload_n 0, 1) := by decide +kernel
theorem dX8_leaves_81 : decode cX8_leaves 81 = .ok (.iconst 4, 1) := by decide +kernel
theorem dX8_leaves_82 : decode cX8_leaves 82 = .ok (.invokevirtual 66, 3) := by decide +kernel
theorem dX8_leaves_85 : decode cX8_leaves 85 = .ok (.goto 31, 3) := by decide +kernel
theorem dX8_leaves_88 : decode cX8_leaves 88 = .ok (.aload_n 0, 1) := by decide +kernel
theorem dX8_leaves_89 : decode cX8_leaves 89 = .ok (.getfield 7, 3) := by decide +kernel
theorem dX8_leaves_92 : decode cX8_leaves 92 = .ok (.bipush 8, 2) := by decide +kernel
theorem dX8_leaves_94 : decode cX8_leaves 94 = .ok (.iaload, 1) := by decide +kernel
theorem dX8_leaves_95 : decode cX8_leaves 95 = .ok (.iload_n 1, 1) := by decide +kernel
theorem dX8_leaves_96 : decode cX8_leaves 96 = .ok (.if_icmp .ne 20, 3) := by decide +kernel
theorem dX8_leaves_99 : decode cX8_leaves 99 = .ok (.aload_n 0, 1) := by decide +kernel
theorem dX8_leaves_100 : decode cX8_leaves 100 = .ok (.getfield 7, 3) := by decide +kernel
theorem dX8_leaves_103 : decode cX8_leaves 103 = .ok (.bipush 7, 2) := by decide +kernel
theorem dX8_leaves_105 : decode cX8_leaves 105 = .ok (.iaload, 1) := by decide +kernel
theorem dX8_leaves_106 : decode cX8_leaves 106 = .ok (.iconst 1, 1) := by decide +kernel
theorem dX8_leaves_107 : decode cX8_leaves 107 = .ok (.if_icmp .ne 9, 3) := by decide +kernel
theorem dX8_leaves_110 : decode cX8_leaves 110 = .ok (.aload_n 0, 1) := by decide +kernel
theorem dX8_leaves_111 : decode cX8_leaves 111 = .ok (.bipush (-9), 2) := by decide +kernel
theorem dX8_leaves_113 : decode cX8_leaves 113 = .ok (.invokevirtual 55, 3) := by decide +kernel
theorem dX8_leaves_116 : decode cX8_leaves 116 = .ok (.return_, 1) := by decide +kernel
theorem dX8_setPresent_0 : decode cX8_setPresent 0 = .ok (.aload_n 0, 1) := by decide +kernel
theorem dX8_setPresent_1 : decode cX8_setPresent 1 = .ok (.iload_n 1, 1) := by decide +kernel
theorem dX8_setPresent_2 : decode cX8_setPresent 2 = .ok (.invokevirtual 82, 3) := by decide +kernel
theorem dX8_setPresent_5 : decode cX8_setPresent 5 = .ok (.ifCond .ne 5, 3) := by decide +kernel
theorem dX8_setPresent_8 : decode cX8_setPresent 8 = .ok (.iconst (-1), 1) := by decide +kernel
theorem dX8_setPresent_9 : decode cX8_setPresent 9 = .ok (.ireturn, 1) := by decide +kernel
theorem dX8_setPresent_10 : decode cX8_setPresent 10 = .ok (.aload_n 0, 1) := by decide +kernel
theorem dX8_setPresent_11 : decode cX8_setPresent 11 = .ok (.invokevirtual 73, 3) := by decide +kernel
theorem dX8_setPresent_14 : decode cX8_setPresent 14 = .ok (.aload_n 0, 1) := by decide +kernel
theorem dX8_setPresent_15 : decode cX8_setPresent 15 = .ok (.getfield 7, 3) := by decide +kernel
theorem dX8_setPresent_18 : decode cX8_setPresent 18 = .ok (.iload_n 1, 1) := by decide +kernel
theorem dX8_setPresent_19 : decode cX8_setPresent 19 = .ok (.iconst 1, 1) := by decide +kernel
theorem dX8_setPresent_20 : decode cX8_setPresent 20 = .ok (.invokestatic 27, 3) := by decide +kernel
theorem dX8_setPresent_23 : decode cX8_setPresent 23 = .ok (.iaload, 1) := by decide +kernel
theorem dX8_setPresent_24 : decode cX8_setPresent 24 = .ok (.istore_n 3, 1) := by decide +kernel
theorem dX8_setPresent_25 : decode cX8_setPresent 25 = .ok (.iload_n 2, 1) := by decide +kernel
theorem dX8_setPresent_26 : decode cX8_setPresent 26 = .ok (.ifCond .eq 25, 3) := by decide +kernel
theorem dX8_setPresent_29 : decode cX8_setPresent 29 = .ok (.iload_n 3, 1) := by decide +kernel
theorem dX8_setPresent_30 : decode cX8_setPresent 30 = .ok (.ifCond .ne 21, 3) := by decide +kernel
theorem dX8_setPresent_33 : decode cX8_setPresent 33 = .ok (.aload_n 0, 1) := by decide +kernel
theorem dX8_setPresent_34 : decode cX8_setPresent 34 = .ok (.getfield 7, 3) := by decide +kernel
theorem dX8_setPresent_37 : decode cX8_setPresent 37 = .ok (.iload_n 1, 1) := by decide +kernel
theorem dX8_setPresent_38 : decode cX8_setPresent 38 = .ok (.iconst 1, 1) := by decide +kernel
theorem dX8_setPresent_39 : decode cX8_setPresent 39 = .ok (.invokestatic 27, 3) := by decide +kernel
theorem dX8_setPresent_42 : decode cX8_setPresent 42 = .ok (.iconst 1, 1) := by decide +kernel
theorem dX8_setPresent_43 : decode cX8_setPresent 43 = .ok (.iastore, 1) := by decide +kernel
theorem dX8_setPresent_44 : decode cX8_setPresent 44 = .ok (.aload_n 0, 1) := by decide +kernel
theorem dX8_setPresent_45 : decode cX8_setPresent 45 = .ok (.invokevirtual 76, 3) := by decide +kernel
theorem dX8_setPresent_48 : decode cX8_setPresent 48 = .ok (.goto 21, 3) := by decide +kernel
theorem dX8_setPresent_51 : decode cX8_setPresent 51 = .ok (.iload_n 2, 1) := by decide +kernel
theorem dX8_setPresent_52 : decode cX8_setPresent 52 = .ok (.ifCond .ne 17, 3) := by decide +kernel
theorem dX8_setPresent_55 : decode cX8_setPresent 55 = .ok (.iload_n 3, 1) := by decide +kernel
theorem dX8_setPresent_56 : decode cX8_setPresent 56 = .ok (.iconst 1, 1) := by decide +kernel
theorem dX8_setPresent_57 : decode cX8_setPresent 57 = .ok (.if_icmp .ne 12, 3) := by decide +kernel
theorem dX8_setPresent_60 : decode cX8_setPresent 60 = .ok (.aload_n 0, 1) := by decide +kernel
theorem dX8_setPresent_61 : decode cX8_setPresent 61 = .ok (.iload_n 1, 1) := by decide +kernel
theorem dX8_setPresent_62 : decode cX8_setPresent 62 = .ok (.invokevirtual 85, 3) := by decide +kernel
theorem dX8_setPresent_65 : decode cX8_setPresent 65 = .ok (.aload_n 0, 1) := by decide +kernel
theorem dX8_setPresent_66 : decode cX8_setPresent 66 = .ok (.invokevirtual 76, 3) := by decide +kernel
theorem dX8_setPresent_69 : decode cX8_setPresent 69 = .ok (.iload_n 3, 1) := by decide +kernel
theorem dX8_setPresent_70 : decode cX8_setPresent 70 = .ok (.ireturn, 1) := by decide +kernel
theorem dX8_pass_0 : decode cX8_pass 0 = .ok (.iload_n 1, 1) := by decide +kernel
theorem dX8_pass_1 : decode cX8_pass 1 = .ok (.iconst 1, 1) := by decide +kernel
theorem dX8_pass_2 : decode cX8_pass 2 = .ok (.sipush 1000, 3) := by decide +kernel
theorem dX8_pass_5 : decode cX8_pass 5 = .ok (.invokestatic 23, 3) := by decide +kernel
theorem dX8_pass_8 : decode cX8_pass 8 = .ok (.ifCond .ne 5, 3) := by decide +kernel
theorem dX8_pass_11 : decode cX8_pass 11 = .ok (.iconst (-1), 1) := by decide +kernel
theorem dX8_pass_12 : decode cX8_pass 12 = .ok (.ireturn, 1) := by decide +kernel
theorem dX8_pass_13 : decode cX8_pass 13 = .ok (.aload_n 0, 1) := by decide +kernel
theorem dX8_pass_14 : decode cX8_pass 14 = .ok (.getfield 7, 3) := by decide +kernel
theorem dX8_pass_17 : decode cX8_pass 17 = .ok (.bipush 6, 2) := by decide +kernel
theorem dX8_pass_19 : decode cX8_pass 19 = .ok (.iaload, 1) := by decide +kernel
theorem dX8_pass_20 : decode cX8_pass 20 = .ok (.iload_n 1, 1) := by decide +kernel
theorem dX8_pass_21 : decode cX8_pass 21 = .ok (.iadd, 1) := by decide +kernel
theorem dX8_pass_22 : decode cX8_pass 22 = .ok (.ldc 88, 2) := by decide +kernel
theorem dX8_pass_24 : decode cX8_pass 24 = .ok (.if_icmp .le 6, 3) := by decide +kernel
theorem dX8_pass_27 : decode cX8_pass 27 = .ok (.bipush (-2), 2) := by decide +kernel
theorem dX8_pass_29 : decode cX8_pass 29 = .ok (.ireturn, 1) := by decide +kernel
theorem dX8_pass_30 : decode cX8_pass 30 = .ok (.aload_n 0, 1) := by decide +kernel
theorem dX8_pass_31 : decode cX8_pass 31 = .ok (.invokevirtual 73, 3) := by decide +kernel
theorem dX8_pass_34 : decode cX8_pass 34 = .ok (.aload_n 0, 1) := by decide +kernel
theorem dX8_pass_35 : decode cX8_pass 35 = .ok (.getfield 7, 3) := by decide +kernel
theorem dX8_pass_38 : decode cX8_pass 38 = .ok (.bipush 6, 2) := by decide +kernel
theorem dX8_pass_40 : decode cX8_pass 40 = .ok (.iaload, 1) := by decide +kernel
theorem dX8_pass_41 : decode cX8_pass 41 = .ok (.iload_n 1, 1) := by decide +kernel
theorem dX8_pass_42 : decode cX8_pass 42 = .ok (.iadd, 1) := by decide +kernel
theorem dX8_pass_43 : decode cX8_pass 43 = .ok (.istore_n 2, 1) := by decide +kernel
theorem dX8_pass_44 : decode cX8_pass 44 = .ok (.aload_n 0, 1) := by decide +kernel
theorem dX8_pass_45 : decode cX8_pass 45 = .ok (.getfield 7, 3) := by decide +kernel
theorem dX8_pass_48 : decode cX8_pass 48 = .ok (.bipush 7, 2) := by decide +kernel
theorem dX8_pass_50 : decode cX8_pass 50 = .ok (.iaload, 1) := by decide +kernel
theorem dX8_pass_51 : decode cX8_pass 51 = .ok (.iconst 2, 1) := by decide +kernel
theorem dX8_pass_52 : decode cX8_pass 52 = .ok (.if_icmp .ne 51, 3) := by decide +kernel
theorem dX8_pass_55 : decode cX8_pass 55 = .ok (.aload_n 0, 1) := by decide +kernel
theorem dX8_pass_56 : decode cX8_pass 56 = .ok (.getfield 7, 3) := by decide +kernel
theorem dX8_pass_59 : decode cX8_pass 59 = .ok (.aload_n 0, 1) := by decide +kernel
theorem dX8_pass_60 : decode cX8_pass 60 = .ok (.getfield 7, 3) := by decide +kernel
theorem dX8_pass_63 : decode cX8_pass 63 = .ok (.bipush 9, 2) := by decide +kernel
theorem dX8_pass_65 : decode cX8_pass 65 = .ok (.iaload, 1) := by decide +kernel
theorem dX8_pass_66 : decode cX8_pass 66 = .ok (.iconst 2, 1) := by decide +kernel
theorem dX8_pass_67 : decode cX8_pass 67 = .ok (.invokestatic 31, 3) := by decide +kernel
theorem dX8_pass_70 : decode cX8_pass 70 = .ok (.iaload, 1) := by decide +kernel
theorem dX8_pass_71 : decode cX8_pass 71 = .ok (.iload_n 2, 1) := by decide +kernel
theorem dX8_pass_72 : decode cX8_pass 72 = .ok (.if_icmp .gt 31, 3) := by decide +kernel
theorem dX8_pass_75 : decode cX8_pass 75 = .ok (.aload_n 0, 1) := by decide +kernel
theorem dX8_pass_76 : decode cX8_pass 76 = .ok (.getfield 7, 3) := by decide +kernel
theorem dX8_pass_79 : decode cX8_pass 79 = .ok (.bipush 6, 2) := by decide +kernel
theorem dX8_pass_81 : decode cX8_pass 81 = .ok (.aload_n 0, 1) := by decide +kernel
theorem dX8_pass_82 : decode cX8_pass 82 = .ok (.getfield 7, 3) := by decide +kernel
theorem dX8_pass_85 : decode cX8_pass 85 = .ok (.aload_n 0, 1) := by decide +kernel
theorem dX8_pass_86 : decode cX8_pass 86 = .ok (.getfield 7, 3) := by decide +kernel
theorem dX8_pass_89 : decode cX8_pass 89 = .ok (.bipush 9, 2) := by decide +kernel
theorem dX8_pass_91 : decode cX8_pass 91 = .ok (.iaload, 1) := by decide +kernel
theorem dX8_pass_92 : decode cX8_pass 92 = .ok (.iconst 2, 1) := by decide +kernel
theorem dX8_pass_93 : decode cX8_pass 93 = .ok (.invokestatic 31, 3) := by decide +kernel
theorem dX8_pass_96 : decode cX8_pass 96 = .ok (.iaload, 1) := by decide +kernel
theorem dX8_pass_97 : decode cX8_pass 97 = .ok (.iastore, 1) := by decide +kernel
theorem dX8_pass_98 : decode cX8_pass 98 = .ok (.aload_n 0, 1) := by decide +kernel
theorem dX8_pass_99 : decode cX8_pass 99 = .ok (.iconst 2, 1) := by decide +kernel
theorem dX8_pass_100 : decode cX8_pass 100 = .ok (.invokevirtual 66, 3) := by decide +kernel
theorem dX8_pass_103 : decode cX8_pass 103 = .ok (.aload_n 0, 1) := by decide +kernel
theorem dX8_pass_104 : decode cX8_pass 104 = .ok (.getfield 7, 3) := by decide +kernel
theorem dX8_pass_107 : decode cX8_pass 107 = .ok (.bipush 6, 2) := by decide +kernel
theorem dX8_pass_109 : decode cX8_pass 109 = .ok (.iload_n 2, 1) := by decide +kernel
theorem dX8_pass_110 : decode cX8_pass 110 = .ok (.iastore, 1) := by decide +kernel
theorem dX8_pass_111 : decode cX8_pass 111 = .ok (.iload_n 2, 1) := by decide +kernel
theorem dX8_pass_112 : decode cX8_pass 112 = .ok (.ireturn, 1) := by decide +kernel
theorem dX8_open_0 : decode cX8_open 0 = .ok (.aload_n 0, 1) := by decide +kernel
theorem dX8_open_1 : decode cX8_open 1 = .ok (.getfield 7, 3) := by decide +kernel
theorem dX8_open_4 : decode cX8_open 4 = .ok (.bipush 11, 2) := by decide +kernel
theorem dX8_open_6 : decode cX8_open 6 = .ok (.iaload, 1) := by decide +kernel
theorem dX8_open_7 : decode cX8_open 7 = .ok (.iconst 1, 1) := by decide +kernel
theorem dX8_open_8 : decode cX8_open 8 = .ok (.if_icmp .eq 14, 3) := by decide +kernel
theorem dX8_open_11 : decode cX8_open 11 = .ok (.aload_n 0, 1) := by decide +kernel
theorem dX8_open_12 : decode cX8_open 12 = .ok (.getfield 7, 3) := by decide +kernel
theorem dX8_open_15 : decode cX8_open 15 = .ok (.bipush 7, 2) := by decide +kernel
theorem dX8_open_17 : decode cX8_open 17 = .ok (.iaload, 1) := by decide +kernel
theorem dX8_open_18 : decode cX8_open 18 = .ok (.iconst 2, 1) := by decide +kernel
theorem dX8_open_19 : decode cX8_open 19 = .ok (.if_icmp .ne 6, 3) := by decide +kernel
theorem dX8_open_22 : decode cX8_open 22 = .ok (.bipush (-2), 2) := by decide +kernel
theorem dX8_open_24 : decode cX8_open 24 = .ok (.ireturn, 1) := by decide +kernel
theorem dX8_open_25 : decode cX8_open 25 = .ok (.aload_n 0, 1) := by decide +kernel
theorem dX8_open_26 : decode cX8_open 26 = .ok (.getfield 7, 3) := by decide +kernel
theorem dX8_open_29 : decode cX8_open 29 = .ok (.bipush 9, 2) := by decide +kernel
theorem dX8_open_31 : decode cX8_open 31 = .ok (.iaload, 1) := by decide +kernel
theorem dX8_open_32 : decode cX8_open 32 = .ok (.bipush 40, 2) := by decide +kernel
theorem dX8_open_34 : decode cX8_open 34 = .ok (.if_icmp .ne 6, 3) := by decide +kernel
theorem dX8_open_37 : decode cX8_open 37 = .ok (.bipush (-3), 2) := by decide +kernel
theorem dX8_open_39 : decode cX8_open 39 = .ok (.ireturn, 1) := by decide +kernel
theorem dX8_open_40 : decode cX8_open 40 = .ok (.aload_n 0, 1) := by decide +kernel
theorem dX8_open_41 : decode cX8_open 41 = .ok (.invokevirtual 73, 3) := by decide +kernel
theorem dX8_open_44 : decode cX8_open 44 = .ok (.aload_n 0, 1) := by decide +kernel
theorem dX8_open_45 : decode cX8_open 45 = .ok (.getfield 7, 3) := by decide +kernel
theorem dX8_open_48 : decode cX8_open 48 = .ok (.bipush 11, 2) := by decide +kernel
theorem dX8_open_50 : decode cX8_open 50 = .ok (.iconst 1, 1) := by decide +kernel
theorem dX8_open_51 : decode cX8_open 51 = .ok (.iastore, 1) := by decide +kernel
theorem dX8_open_52 : decode cX8_open 52 = .ok (.aload_n 0, 1) := by decide +kernel
theorem dX8_open_53 : decode cX8_open 53 = .ok (.getfield 7, 3) := by decide +kernel
theorem dX8_open_56 : decode cX8_open 56 = .ok (.bipush 9, 2) := by decide +kernel
theorem dX8_open_58 : decode cX8_open 58 = .ok (.iaload, 1) := by decide +kernel
theorem dX8_open_59 : decode cX8_open 59 = .ok (.iconst 1, 1) := by decide +kernel
theorem dX8_open_60 : decode cX8_open 60 = .ok (.iadd, 1) := by decide +kernel
theorem dX8_open_61 : decode cX8_open 61 = .ok (.ireturn, 1) := by decide +kernel
theorem dX8_candidates_0 : decode cX8_candidates 0 = .ok (.iconst 0, 1) := by decide +kernel
theorem dX8_candidates_1 : decode cX8_candidates 1 = .ok (.istore_n 1, 1) := by decide +kernel
theorem dX8_candidates_2 : decode cX8_candidates 2 = .ok (.iconst 0, 1) := by decide +kernel
theorem dX8_candidates_3 : decode cX8_candidates 3 = .ok (.istore_n 2, 1) := by decide +kernel
theorem dX8_candidates_4 : decode cX8_candidates 4 = .ok (.iload_n 2, 1) := by decide +kernel
theorem dX8_candidates_5 : decode cX8_candidates 5 = .ok (.aload_n 0, 1) := by decide +kernel
theorem dX8_candidates_6 : decode cX8_candidates 6 = .ok (.getfield 7, 3) := by decide +kernel
theorem dX8_candidates_9 : decode cX8_candidates 9 = .ok (.bipush 10, 2) := by decide +kernel
theorem dX8_candidates_11 : decode cX8_candidates 11 = .ok (.iaload, 1) := by decide +kernel
theorem dX8_candidates_12 : decode cX8_candidates 12 = .ok (.if_icmp .ge 22, 3) := by decide +kernel
theorem dX8_candidates_15 : decode cX8_candidates 15 = .ok (.iload_n 1, 1) := by decide +kernel
theorem dX8_candidates_16 : decode cX8_candidates 16 = .ok (.aload_n 0, 1) := by decide +kernel
theorem dX8_candidates_17 : decode cX8_candidates 17 = .ok (.getfield 7, 3) := by decide +kernel
theorem dX8_candidates_20 : decode cX8_candidates 20 = .ok (.iload_n 2, 1) := by decide +kernel
theorem dX8_candidates_21 : decode cX8_candidates 21 = .ok (.iconst 2, 1) := by decide +kernel
theorem dX8_candidates_22 : decode cX8_candidates 22 = .ok (.invokestatic 27, 3) := by decide +kernel
theorem dX8_candidates_25 : decode cX8_candidates 25 = .ok (.iaload, 1) := by decide +kernel
theorem dX8_candidates_26 : decode cX8_candidates 26 = .ok (.iadd, 1) := by decide +kernel
theorem dX8_candidates_27 : decode cX8_candidates 27 = .ok (.istore_n 1, 1) := by decide +kernel
theorem dX8_candidates_28 : decode cX8_candidates 28 = .ok (.iinc 2 1, 3) := by decide +kernel
theorem dX8_candidates_31 : decode cX8_candidates 31 = .ok (.goto (-27), 3) := by decide +kernel
theorem dX8_candidates_34 : decode cX8_candidates 34 = .ok (.iload_n 1, 1) := by decide +kernel
theorem dX8_candidates_35 : decode cX8_candidates 35 = .ok (.ireturn, 1) := by decide +kernel
theorem dX8_nominate_0 : decode cX8_nominate 0 = .ok (.aload_n 0, 1) := by decide +kernel
theorem dX8_nominate_1 : decode cX8_nominate 1 = .ok (.iload_n 1, 1) := by decide +kernel
theorem dX8_nominate_2 : decode cX8_nominate 2 = .ok (.invokevirtual 82, 3) := by decide +kernel
theorem dX8_nominate_5 : decode cX8_nominate 5 = .ok (.ifCond .ne 5, 3) := by decide +kernel
theorem dX8_nominate_8 : decode cX8_nominate 8 = .ok (.iconst (-1), 1) := by decide +kernel
theorem dX8_nominate_9 : decode cX8_nominate 9 = .ok (.ireturn, 1) := by decide +kernel
theorem dX8_nominate_10 : decode cX8_nominate 10 = .ok (.aload_n 0, 1) := by decide +kernel
theorem dX8_nominate_11 : decode cX8_nominate 11 = .ok (.getfield 7, 3) := by decide +kernel
theorem dX8_nominate_14 : decode cX8_nominate 14 = .ok (.bipush 11, 2) := by decide +kernel
theorem dX8_nominate_16 : decode cX8_nominate 16 = .ok (.iaload, 1) := by decide +kernel
theorem dX8_nominate_17 : decode cX8_nominate 17 = .ok (.ifCond .eq 17, 3) := by decide +kernel
theorem dX8_nominate_20 : decode cX8_nominate 20 = .ok (.aload_n 0, 1) := by decide +kernel
theorem dX8_nominate_21 : decode cX8_nominate 21 = .ok (.getfield 7, 3) := by decide +kernel
theorem dX8_nominate_24 : decode cX8_nominate 24 = .ok (.iload_n 1, 1) := by decide +kernel
theorem dX8_nominate_25 : decode cX8_nominate 25 = .ok (.iconst 2, 1) := by decide +kernel
theorem dX8_nominate_26 : decode cX8_nominate 26 = .ok (.invokestatic 27, 3) := by decide +kernel
theorem dX8_nominate_29 : decode cX8_nominate 29 = .ok (.iaload, 1) := by decide +kernel
theorem dX8_nominate_30 : decode cX8_nominate 30 = .ok (.iconst 1, 1) := by decide +kernel
theorem dX8_nominate_31 : decode cX8_nominate 31 = .ok (.if_icmp .ne 6, 3) := by decide +kernel
theorem dX8_nominate_34 : decode cX8_nominate 34 = .ok (.bipush (-2), 2) := by decide +kernel
theorem dX8_nominate_36 : decode cX8_nominate 36 = .ok (.ireturn, 1) := by decide +kernel
theorem dX8_nominate_37 : decode cX8_nominate 37 = .ok (.aload_n 0, 1) := by decide +kernel
theorem dX8_nominate_38 : decode cX8_nominate 38 = .ok (.iload_n 1, 1) := by decide +kernel
theorem dX8_nominate_39 : decode cX8_nominate 39 = .ok (.invokevirtual 89, 3) := by decide +kernel
theorem dX8_nominate_42 : decode cX8_nominate 42 = .ok (.ifCond .ne 6, 3) := by decide +kernel
theorem dX8_nominate_45 : decode cX8_nominate 45 = .ok (.bipush (-4), 2) := by decide +kernel
theorem dX8_nominate_47 : decode cX8_nominate 47 = .ok (.ireturn, 1) := by decide +kernel
theorem dX8_nominate_48 : decode cX8_nominate 48 = .ok (.aload_n 0, 1) := by decide +kernel
theorem dX8_nominate_49 : decode cX8_nominate 49 = .ok (.invokevirtual 73, 3) := by decide +kernel
theorem dX8_nominate_52 : decode cX8_nominate 52 = .ok (.aload_n 0, 1) := by decide +kernel
theorem dX8_nominate_53 : decode cX8_nominate 53 = .ok (.getfield 7, 3) := by decide +kernel
theorem dX8_nominate_56 : decode cX8_nominate 56 = .ok (.iload_n 1, 1) := by decide +kernel
theorem dX8_nominate_57 : decode cX8_nominate 57 = .ok (.iconst 2, 1) := by decide +kernel
theorem dX8_nominate_58 : decode cX8_nominate 58 = .ok (.invokestatic 27, 3) := by decide +kernel
theorem dX8_nominate_61 : decode cX8_nominate 61 = .ok (.iconst 1, 1) := by decide +kernel
theorem dX8_nominate_62 : decode cX8_nominate 62 = .ok (.iastore, 1) := by decide +kernel
theorem dX8_nominate_63 : decode cX8_nominate 63 = .ok (.aload_n 0, 1) := by decide +kernel
theorem dX8_nominate_64 : decode cX8_nominate 64 = .ok (.invokevirtual 92, 3) := by decide +kernel
theorem dX8_nominate_67 : decode cX8_nominate 67 = .ok (.ireturn, 1) := by decide +kernel
theorem dX8_ballots_0 : decode cX8_ballots 0 = .ok (.iconst 0, 1) := by decide +kernel
theorem dX8_ballots_1 : decode cX8_ballots 1 = .ok (.istore_n 1, 1) := by decide +kernel
theorem dX8_ballots_2 : decode cX8_ballots 2 = .ok (.iconst 0, 1) := by decide +kernel
theorem dX8_ballots_3 : decode cX8_ballots 3 = .ok (.istore_n 2, 1) := by decide +kernel
theorem dX8_ballots_4 : decode cX8_ballots 4 = .ok (.iload_n 2, 1) := by decide +kernel
theorem dX8_ballots_5 : decode cX8_ballots 5 = .ok (.aload_n 0, 1) := by decide +kernel
theorem dX8_ballots_6 : decode cX8_ballots 6 = .ok (.getfield 7, 3) := by decide +kernel
theorem dX8_ballots_9 : decode cX8_ballots 9 = .ok (.bipush 10, 2) := by decide +kernel
theorem dX8_ballots_11 : decode cX8_ballots 11 = .ok (.iaload, 1) := by decide +kernel
theorem dX8_ballots_12 : decode cX8_ballots 12 = .ok (.if_icmp .ge 30, 3) := by decide +kernel
theorem dX8_ballots_15 : decode cX8_ballots 15 = .ok (.iload_n 1, 1) := by decide +kernel
theorem dX8_ballots_16 : decode cX8_ballots 16 = .ok (.aload_n 0, 1) := by decide +kernel
theorem dX8_ballots_17 : decode cX8_ballots 17 = .ok (.getfield 7, 3) := by decide +kernel
theorem dX8_ballots_20 : decode cX8_ballots 20 = .ok (.iload_n 2, 1) := by decide +kernel
theorem dX8_ballots_21 : decode cX8_ballots 21 = .ok (.iconst 4, 1) := by decide +kernel
theorem dX8_ballots_22 : decode cX8_ballots 22 = .ok (.invokestatic 27, 3) := by decide +kernel
theorem dX8_ballots_25 : decode cX8_ballots 25 = .ok (.iaload, 1) := by decide +kernel
theorem dX8_ballots_26 : decode cX8_ballots 26 = .ok (.ifCond .le 7, 3) := by decide +kernel
theorem dX8_ballots_29 : decode cX8_ballots 29 = .ok (.iconst 1, 1) := by decide +kernel
theorem dX8_ballots_30 : decode cX8_ballots 30 = .ok (.goto 4, 3) := by decide +kernel
theorem dX8_ballots_33 : decode cX8_ballots 33 = .ok (.iconst 0, 1) := by decide +kernel
theorem dX8_ballots_34 : decode cX8_ballots 34 = .ok (.iadd, 1) := by decide +kernel
theorem dX8_ballots_35 : decode cX8_ballots 35 = .ok (.istore_n 1, 1) := by decide +kernel
theorem dX8_ballots_36 : decode cX8_ballots 36 = .ok (.iinc 2 1, 3) := by decide +kernel
theorem dX8_ballots_39 : decode cX8_ballots 39 = .ok (.goto (-35), 3) := by decide +kernel
theorem dX8_ballots_42 : decode cX8_ballots 42 = .ok (.iload_n 1, 1) := by decide +kernel
theorem dX8_ballots_43 : decode cX8_ballots 43 = .ok (.ireturn, 1) := by decide +kernel
theorem dX8_wrongAt_0 : decode cX8_wrongAt 0 = .ok (.iconst 0, 1) := by decide +kernel
theorem dX8_wrongAt_1 : decode cX8_wrongAt 1 = .ok (.istore_n 1, 1) := by decide +kernel
theorem dX8_wrongAt_2 : decode cX8_wrongAt 2 = .ok (.iconst 0, 1) := by decide +kernel
theorem dX8_wrongAt_3 : decode cX8_wrongAt 3 = .ok (.istore_n 2, 1) := by decide +kernel
theorem dX8_wrongAt_4 : decode cX8_wrongAt 4 = .ok (.iload_n 2, 1) := by decide +kernel
theorem dX8_wrongAt_5 : decode cX8_wrongAt 5 = .ok (.aload_n 0, 1) := by decide +kernel
theorem dX8_wrongAt_6 : decode cX8_wrongAt 6 = .ok (.getfield 95, 3) := by decide +kernel
theorem dX8_wrongAt_9 : decode cX8_wrongAt 9 = .ok (.if_icmp .ge 83, 3) := by decide +kernel
theorem dX8_wrongAt_12 : decode cX8_wrongAt 12 = .ok (.aload_n 0, 1) := by decide +kernel
theorem dX8_wrongAt_13 : decode cX8_wrongAt 13 = .ok (.getfield 16, 3) := by decide +kernel
theorem dX8_wrongAt_16 : decode cX8_wrongAt 16 = .ok (.iload_n 2, 1) := by decide +kernel
theorem dX8_wrongAt_17 : decode cX8_wrongAt 17 = .ok (.iaload, 1) := by decide +kernel
theorem dX8_wrongAt_18 : decode cX8_wrongAt 18 = .ok (.bipush 48, 2) := by decide +kernel
theorem dX8_wrongAt_20 : decode cX8_wrongAt 20 = .ok (.isub, 1) := by decide +kernel
theorem dX8_wrongAt_21 : decode cX8_wrongAt 21 = .ok (.istore_n 3, 1) := by decide +kernel
theorem dX8_wrongAt_22 : decode cX8_wrongAt 22 = .ok (.iload_n 2, 1) := by decide +kernel
theorem dX8_wrongAt_23 : decode cX8_wrongAt 23 = .ok (.iconst 2, 1) := by decide +kernel
theorem dX8_wrongAt_24 : decode cX8_wrongAt 24 = .ok (.irem, 1) := by decide +kernel
theorem dX8_wrongAt_25 : decode cX8_wrongAt 25 = .ok (.iconst 1, 1) := by decide +kernel
theorem dX8_wrongAt_26 : decode cX8_wrongAt 26 = .ok (.if_icmp .ne 16, 3) := by decide +kernel
theorem dX8_wrongAt_29 : decode cX8_wrongAt 29 = .ok (.aload_n 0, 1) := by decide +kernel
theorem dX8_wrongAt_30 : decode cX8_wrongAt 30 = .ok (.getfield 16, 3) := by decide +kernel
theorem dX8_wrongAt_33 : decode cX8_wrongAt 33 = .ok (.iload_n 2, 1) := by decide +kernel
theorem dX8_wrongAt_34 : decode cX8_wrongAt 34 = .ok (.iaload, 1) := by decide +kernel
theorem dX8_wrongAt_35 : decode cX8_wrongAt 35 = .ok (.bipush 62, 2) := by decide +kernel
theorem dX8_wrongAt_37 : decode cX8_wrongAt 37 = .ok (.if_icmp .eq 5, 3) := by decide +kernel
theorem dX8_wrongAt_40 : decode cX8_wrongAt 40 = .ok (.iload_n 2, 1) := by decide +kernel
theorem dX8_wrongAt_41 : decode cX8_wrongAt 41 = .ok (.ireturn, 1) := by decide +kernel
theorem dX8_wrongAt_42 : decode cX8_wrongAt 42 = .ok (.iload_n 2, 1) := by decide +kernel
theorem dX8_wrongAt_43 : decode cX8_wrongAt 43 = .ok (.iconst 2, 1) := by decide +kernel
theorem dX8_wrongAt_44 : decode cX8_wrongAt 44 = .ok (.irem, 1) := by decide +kernel
theorem dX8_wrongAt_45 : decode cX8_wrongAt 45 = .ok (.ifCond .ne 41, 3) := by decide +kernel
theorem dX8_wrongAt_48 : decode cX8_wrongAt 48 = .ok (.aload_n 0, 1) := by decide +kernel
theorem dX8_wrongAt_49 : decode cX8_wrongAt 49 = .ok (.iload_n 3, 1) := by decide +kernel
theorem dX8_wrongAt_50 : decode cX8_wrongAt 50 = .ok (.invokevirtual 82, 3) := by decide +kernel
theorem dX8_wrongAt_53 : decode cX8_wrongAt 53 = .ok (.ifCond .eq 25, 3) := by decide +kernel
theorem dX8_wrongAt_56 : decode cX8_wrongAt 56 = .ok (.aload_n 0, 1) := by decide +kernel
theorem dX8_wrongAt_57 : decode cX8_wrongAt 57 = .ok (.getfield 7, 3) := by decide +kernel
theorem dX8_wrongAt_60 : decode cX8_wrongAt 60 = .ok (.iload_n 3, 1) := by decide +kernel
theorem dX8_wrongAt_61 : decode cX8_wrongAt 61 = .ok (.iconst 2, 1) := by decide +kernel
theorem dX8_wrongAt_62 : decode cX8_wrongAt 62 = .ok (.invokestatic 27, 3) := by decide +kernel
theorem dX8_wrongAt_65 : decode cX8_wrongAt 65 = .ok (.iaload, 1) := by decide +kernel
theorem dX8_wrongAt_66 : decode cX8_wrongAt 66 = .ok (.ifCond .eq 12, 3) := by decide +kernel
theorem dX8_wrongAt_69 : decode cX8_wrongAt 69 = .ok (.iload_n 1, 1) := by decide +kernel
theorem dX8_wrongAt_70 : decode cX8_wrongAt 70 = .ok (.iload_n 3, 1) := by decide +kernel
theorem dX8_wrongAt_71 : decode cX8_wrongAt 71 = .ok (.ishr, 1) := by decide +kernel
theorem dX8_wrongAt_72 : decode cX8_wrongAt 72 = .ok (.iconst 1, 1) := by decide +kernel
theorem dX8_wrongAt_73 : decode cX8_wrongAt 73 = .ok (.iand, 1) := by decide +kernel
theorem dX8_wrongAt_74 : decode cX8_wrongAt 74 = .ok (.iconst 1, 1) := by decide +kernel
theorem dX8_wrongAt_75 : decode cX8_wrongAt 75 = .ok (.if_icmp .ne 5, 3) := by decide +kernel
theorem dX8_wrongAt_78 : decode cX8_wrongAt 78 = .ok (.iload_n 2, 1) := by decide +kernel
theorem dX8_wrongAt_79 : decode cX8_wrongAt 79 = .ok (.ireturn, 1) := by decide +kernel
theorem dX8_wrongAt_80 : decode cX8_wrongAt 80 = .ok (.iload_n 1, 1) := by decide +kernel
theorem dX8_wrongAt_81 : decode cX8_wrongAt 81 = .ok (.iconst 1, 1) := by decide +kernel
theorem dX8_wrongAt_82 : decode cX8_wrongAt 82 = .ok (.iload_n 3, 1) := by decide +kernel
theorem dX8_wrongAt_83 : decode cX8_wrongAt 83 = .ok (.ishl, 1) := by decide +kernel
theorem dX8_wrongAt_84 : decode cX8_wrongAt 84 = .ok (.ior, 1) := by decide +kernel
theorem dX8_wrongAt_85 : decode cX8_wrongAt 85 = .ok (.istore_n 1, 1) := by decide +kernel
theorem dX8_wrongAt_86 : decode cX8_wrongAt 86 = .ok (.iinc 2 1, 3) := by decide +kernel
theorem dX8_wrongAt_89 : decode cX8_wrongAt 89 = .ok (.goto (-85), 3) := by decide +kernel
theorem dX8_wrongAt_92 : decode cX8_wrongAt 92 = .ok (.aload_n 0, 1) := by decide +kernel
theorem dX8_wrongAt_93 : decode cX8_wrongAt 93 = .ok (.getfield 95, 3) := by decide +kernel
theorem dX8_wrongAt_96 : decode cX8_wrongAt 96 = .ok (.iconst 2, 1) := by decide +kernel
theorem dX8_wrongAt_97 : decode cX8_wrongAt 97 = .ok (.irem, 1) := by decide +kernel
theorem dX8_wrongAt_98 : decode cX8_wrongAt 98 = .ok (.iconst 1, 1) := by decide +kernel
theorem dX8_wrongAt_99 : decode cX8_wrongAt 99 = .ok (.if_icmp .ne 7, 3) := by decide +kernel
theorem dX8_wrongAt_102 : decode cX8_wrongAt 102 = .ok (.iconst (-1), 1) := by decide +kernel
theorem dX8_wrongAt_103 : decode cX8_wrongAt 103 = .ok (.goto 7, 3) := by decide +kernel
theorem dX8_wrongAt_106 : decode cX8_wrongAt 106 = .ok (.aload_n 0, 1) := by decide +kernel
theorem dX8_wrongAt_107 : decode cX8_wrongAt 107 = .ok (.getfield 95, 3) := by decide +kernel
theorem dX8_wrongAt_110 : decode cX8_wrongAt 110 = .ok (.ireturn, 1) := by decide +kernel
theorem dX8_cast_0 : decode cX8_cast 0 = .ok (.aload_n 0, 1) := by decide +kernel
theorem dX8_cast_1 : decode cX8_cast 1 = .ok (.iload_n 1, 1) := by decide +kernel
theorem dX8_cast_2 : decode cX8_cast 2 = .ok (.invokevirtual 82, 3) := by decide +kernel
theorem dX8_cast_5 : decode cX8_cast 5 = .ok (.ifCond .ne 5, 3) := by decide +kernel
theorem dX8_cast_8 : decode cX8_cast 8 = .ok (.iconst (-1), 1) := by decide +kernel
theorem dX8_cast_9 : decode cX8_cast 9 = .ok (.ireturn, 1) := by decide +kernel
theorem dX8_cast_10 : decode cX8_cast 10 = .ok (.aload_n 0, 1) := by decide +kernel
theorem dX8_cast_11 : decode cX8_cast 11 = .ok (.getfield 7, 3) := by decide +kernel
theorem dX8_cast_14 : decode cX8_cast 14 = .ok (.bipush 11, 2) := by decide +kernel
theorem dX8_cast_16 : decode cX8_cast 16 = .ok (.iaload, 1) := by decide +kernel
theorem dX8_cast_17 : decode cX8_cast 17 = .ok (.ifCond .eq 11, 3) := by decide +kernel
theorem dX8_cast_20 : decode cX8_cast 20 = .ok (.aload_n 0, 1) := by decide +kernel
theorem dX8_cast_21 : decode cX8_cast 21 = .ok (.iload_n 1, 1) := by decide +kernel
theorem dX8_cast_22 : decode cX8_cast 22 = .ok (.invokevirtual 41, 3) := by decide +kernel
theorem dX8_cast_25 : decode cX8_cast 25 = .ok (.ifCond .ne 6, 3) := by decide +kernel
theorem dX8_cast_28 : decode cX8_cast 28 = .ok (.bipush (-2), 2) := by decide +kernel
theorem dX8_cast_30 : decode cX8_cast 30 = .ok (.ireturn, 1) := by decide +kernel
theorem dX8_cast_31 : decode cX8_cast 31 = .ok (.aload_n 0, 1) := by decide +kernel
theorem dX8_cast_32 : decode cX8_cast 32 = .ok (.invokevirtual 98, 3) := by decide +kernel
theorem dX8_cast_35 : decode cX8_cast 35 = .ok (.istore_n 2, 1) := by decide +kernel
theorem dX8_cast_36 : decode cX8_cast 36 = .ok (.iload_n 2, 1) := by decide +kernel
theorem dX8_cast_37 : decode cX8_cast 37 = .ok (.ifCond .lt 8, 3) := by decide +kernel
theorem dX8_cast_40 : decode cX8_cast 40 = .ok (.bipush (-100), 2) := by decide +kernel
theorem dX8_cast_42 : decode cX8_cast 42 = .ok (.iload_n 2, 1) := by decide +kernel
theorem dX8_cast_43 : decode cX8_cast 43 = .ok (.isub, 1) := by decide +kernel
theorem dX8_cast_44 : decode cX8_cast 44 = .ok (.ireturn, 1) := by decide +kernel
theorem dX8_cast_45 : decode cX8_cast 45 = .ok (.aload_n 0, 1) := by decide +kernel
theorem dX8_cast_46 : decode cX8_cast 46 = .ok (.invokevirtual 73, 3) := by decide +kernel
theorem dX8_cast_49 : decode cX8_cast 49 = .ok (.aload_n 0, 1) := by decide +kernel
theorem dX8_cast_50 : decode cX8_cast 50 = .ok (.getfield 7, 3) := by decide +kernel
theorem dX8_cast_53 : decode cX8_cast 53 = .ok (.iload_n 1, 1) := by decide +kernel
theorem dX8_cast_54 : decode cX8_cast 54 = .ok (.iconst 4, 1) := by decide +kernel
theorem dX8_cast_55 : decode cX8_cast 55 = .ok (.invokestatic 27, 3) := by decide +kernel
theorem dX8_cast_58 : decode cX8_cast 58 = .ok (.aload_n 0, 1) := by decide +kernel
theorem dX8_cast_59 : decode cX8_cast 59 = .ok (.getfield 95, 3) := by decide +kernel
theorem dX8_cast_62 : decode cX8_cast 62 = .ok (.iconst 1, 1) := by decide +kernel
theorem dX8_cast_63 : decode cX8_cast 63 = .ok (.iadd, 1) := by decide +kernel
theorem dX8_cast_64 : decode cX8_cast 64 = .ok (.iconst 2, 1) := by decide +kernel
theorem dX8_cast_65 : decode cX8_cast 65 = .ok (.idiv, 1) := by decide +kernel
theorem dX8_cast_66 : decode cX8_cast 66 = .ok (.iastore, 1) := by decide +kernel
theorem dX8_cast_67 : decode cX8_cast 67 = .ok (.iconst 0, 1) := by decide +kernel
theorem dX8_cast_68 : decode cX8_cast 68 = .ok (.istore_n 3, 1) := by decide +kernel
theorem dX8_cast_69 : decode cX8_cast 69 = .ok (.iload_n 3, 1) := by decide +kernel
theorem dX8_cast_70 : decode cX8_cast 70 = .ok (.aload_n 0, 1) := by decide +kernel
theorem dX8_cast_71 : decode cX8_cast 71 = .ok (.getfield 7, 3) := by decide +kernel
theorem dX8_cast_74 : decode cX8_cast 74 = .ok (.iload_n 1, 1) := by decide +kernel
theorem dX8_cast_75 : decode cX8_cast 75 = .ok (.iconst 4, 1) := by decide +kernel
theorem dX8_cast_76 : decode cX8_cast 76 = .ok (.invokestatic 27, 3) := by decide +kernel
theorem dX8_cast_79 : decode cX8_cast 79 = .ok (.iaload, 1) := by decide +kernel
theorem dX8_cast_80 : decode cX8_cast 80 = .ok (.if_icmp .ge 32, 3) := by decide +kernel
theorem dX8_cast_83 : decode cX8_cast 83 = .ok (.aload_n 0, 1) := by decide +kernel
theorem dX8_cast_84 : decode cX8_cast 84 = .ok (.getfield 7, 3) := by decide +kernel
theorem dX8_cast_87 : decode cX8_cast 87 = .ok (.iload_n 1, 1) := by decide +kernel
theorem dX8_cast_88 : decode cX8_cast 88 = .ok (.iconst 5, 1) := by decide +kernel
theorem dX8_cast_89 : decode cX8_cast 89 = .ok (.iload_n 3, 1) := by decide +kernel
theorem dX8_cast_90 : decode cX8_cast 90 = .ok (.iadd, 1) := by decide +kernel
theorem dX8_cast_91 : decode cX8_cast 91 = .ok (.invokestatic 27, 3) := by decide +kernel
theorem dX8_cast_94 : decode cX8_cast 94 = .ok (.aload_n 0, 1) := by decide +kernel
theorem dX8_cast_95 : decode cX8_cast 95 = .ok (.getfield 16, 3) := by decide +kernel
theorem dX8_cast_98 : decode cX8_cast 98 = .ok (.iconst 2, 1) := by decide +kernel
theorem dX8_cast_99 : decode cX8_cast 99 = .ok (.iload_n 3, 1) := by decide +kernel
theorem dX8_cast_100 : decode cX8_cast 100 = .ok (.imul, 1) := by decide +kernel
theorem dX8_cast_101 : decode cX8_cast 101 = .ok (.iaload, 1) := by decide +kernel
theorem dX8_cast_102 : decode cX8_cast 102 = .ok (.bipush 48, 2) := by decide +kernel
theorem dX8_cast_104 : decode cX8_cast 104 = .ok (.isub, 1) := by decide +kernel
theorem dX8_cast_105 : decode cX8_cast 105 = .ok (.iastore, 1) := by decide +kernel
theorem dX8_cast_106 : decode cX8_cast 106 = .ok (.iinc 3 1, 3) := by decide +kernel
theorem dX8_cast_109 : decode cX8_cast 109 = .ok (.goto (-40), 3) := by decide +kernel
theorem dX8_cast_112 : decode cX8_cast 112 = .ok (.aload_n 0, 1) := by decide +kernel
theorem dX8_cast_113 : decode cX8_cast 113 = .ok (.iconst 0, 1) := by decide +kernel
theorem dX8_cast_114 : decode cX8_cast 114 = .ok (.putfield 95, 3) := by decide +kernel
theorem dX8_cast_117 : decode cX8_cast 117 = .ok (.aload_n 0, 1) := by decide +kernel
theorem dX8_cast_118 : decode cX8_cast 118 = .ok (.invokevirtual 101, 3) := by decide +kernel
theorem dX8_cast_121 : decode cX8_cast 121 = .ok (.ireturn, 1) := by decide +kernel
theorem dX8_firstOf_0 : decode cX8_firstOf 0 = .ok (.iconst 0, 1) := by decide +kernel
theorem dX8_firstOf_1 : decode cX8_firstOf 1 = .ok (.istore_n 2, 1) := by decide +kernel
theorem dX8_firstOf_2 : decode cX8_firstOf 2 = .ok (.iload_n 2, 1) := by decide +kernel
theorem dX8_firstOf_3 : decode cX8_firstOf 3 = .ok (.aload_n 0, 1) := by decide +kernel
theorem dX8_firstOf_4 : decode cX8_firstOf 4 = .ok (.getfield 7, 3) := by decide +kernel
theorem dX8_firstOf_7 : decode cX8_firstOf 7 = .ok (.iload_n 1, 1) := by decide +kernel
theorem dX8_firstOf_8 : decode cX8_firstOf 8 = .ok (.iconst 4, 1) := by decide +kernel
theorem dX8_firstOf_9 : decode cX8_firstOf 9 = .ok (.invokestatic 27, 3) := by decide +kernel
theorem dX8_firstOf_12 : decode cX8_firstOf 12 = .ok (.iaload, 1) := by decide +kernel
theorem dX8_firstOf_13 : decode cX8_firstOf 13 = .ok (.if_icmp .ge 36, 3) := by decide +kernel
theorem dX8_firstOf_16 : decode cX8_firstOf 16 = .ok (.aload_n 0, 1) := by decide +kernel
theorem dX8_firstOf_17 : decode cX8_firstOf 17 = .ok (.getfield 7, 3) := by decide +kernel
theorem dX8_firstOf_20 : decode cX8_firstOf 20 = .ok (.iload_n 1, 1) := by decide +kernel
theorem dX8_firstOf_21 : decode cX8_firstOf 21 = .ok (.iconst 5, 1) := by decide +kernel
theorem dX8_firstOf_22 : decode cX8_firstOf 22 = .ok (.iload_n 2, 1) := by decide +kernel
theorem dX8_firstOf_23 : decode cX8_firstOf 23 = .ok (.iadd, 1) := by decide +kernel
theorem dX8_firstOf_24 : decode cX8_firstOf 24 = .ok (.invokestatic 27, 3) := by decide +kernel
theorem dX8_firstOf_27 : decode cX8_firstOf 27 = .ok (.iaload, 1) := by decide +kernel
theorem dX8_firstOf_28 : decode cX8_firstOf 28 = .ok (.istore_n 3, 1) := by decide +kernel
theorem dX8_firstOf_29 : decode cX8_firstOf 29 = .ok (.aload_n 0, 1) := by decide +kernel
theorem dX8_firstOf_30 : decode cX8_firstOf 30 = .ok (.getfield 104, 3) := by decide +kernel
theorem dX8_firstOf_33 : decode cX8_firstOf 33 = .ok (.iload_n 3, 1) := by decide +kernel
theorem dX8_firstOf_34 : decode cX8_firstOf 34 = .ok (.ishr, 1) := by decide +kernel
theorem dX8_firstOf_35 : decode cX8_firstOf 35 = .ok (.iconst 1, 1) := by decide +kernel
theorem dX8_firstOf_36 : decode cX8_firstOf 36 = .ok (.iand, 1) := by decide +kernel
theorem dX8_firstOf_37 : decode cX8_firstOf 37 = .ok (.iconst 1, 1) := by decide +kernel
theorem dX8_firstOf_38 : decode cX8_firstOf 38 = .ok (.if_icmp .ne 5, 3) := by decide +kernel
theorem dX8_firstOf_41 : decode cX8_firstOf 41 = .ok (.iload_n 3, 1) := by decide +kernel
theorem dX8_firstOf_42 : decode cX8_firstOf 42 = .ok (.ireturn, 1) := by decide +kernel
theorem dX8_firstOf_43 : decode cX8_firstOf 43 = .ok (.iinc 2 1, 3) := by decide +kernel
theorem dX8_firstOf_46 : decode cX8_firstOf 46 = .ok (.goto (-44), 3) := by decide +kernel
theorem dX8_firstOf_49 : decode cX8_firstOf 49 = .ok (.bipush (-9), 2) := by decide +kernel
theorem dX8_firstOf_51 : decode cX8_firstOf 51 = .ok (.ireturn, 1) := by decide +kernel
theorem dX8_raceMany_0 : decode cX8_raceMany 0 = .ok (.iconst 0, 1) := by decide +kernel
theorem dX8_raceMany_1 : decode cX8_raceMany 1 = .ok (.istore_n 1, 1) := by decide +kernel
theorem dX8_raceMany_2 : decode cX8_raceMany 2 = .ok (.iconst 0, 1) := by decide +kernel
theorem dX8_raceMany_3 : decode cX8_raceMany 3 = .ok (.istore_n 2, 1) := by decide +kernel
theorem dX8_raceMany_4 : decode cX8_raceMany 4 = .ok (.iload_n 2, 1) := by decide +kernel
theorem dX8_raceMany_5 : decode cX8_raceMany 5 = .ok (.bipush 10, 2) := by decide +kernel
theorem dX8_raceMany_7 : decode cX8_raceMany 7 = .ok (.if_icmp .ge 20, 3) := by decide +kernel
theorem dX8_raceMany_10 : decode cX8_raceMany 10 = .ok (.iload_n 1, 1) := by decide +kernel
theorem dX8_raceMany_11 : decode cX8_raceMany 11 = .ok (.aload_n 0, 1) := by decide +kernel
theorem dX8_raceMany_12 : decode cX8_raceMany 12 = .ok (.getfield 104, 3) := by decide +kernel
theorem dX8_raceMany_15 : decode cX8_raceMany 15 = .ok (.iload_n 2, 1) := by decide +kernel
theorem dX8_raceMany_16 : decode cX8_raceMany 16 = .ok (.ishr, 1) := by decide +kernel
theorem dX8_raceMany_17 : decode cX8_raceMany 17 = .ok (.iconst 1, 1) := by decide +kernel
theorem dX8_raceMany_18 : decode cX8_raceMany 18 = .ok (.iand, 1) := by decide +kernel
theorem dX8_raceMany_19 : decode cX8_raceMany 19 = .ok (.iadd, 1) := by decide +kernel
theorem dX8_raceMany_20 : decode cX8_raceMany 20 = .ok (.istore_n 1, 1) := by decide +kernel
theorem dX8_raceMany_21 : decode cX8_raceMany 21 = .ok (.iinc 2 1, 3) := by decide +kernel
theorem dX8_raceMany_24 : decode cX8_raceMany 24 = .ok (.goto (-20), 3) := by decide +kernel
theorem dX8_raceMany_27 : decode cX8_raceMany 27 = .ok (.iload_n 1, 1) := by decide +kernel
theorem dX8_raceMany_28 : decode cX8_raceMany 28 = .ok (.ireturn, 1) := by decide +kernel
theorem dX8_tallyAt_0 : decode cX8_tallyAt 0 = .ok (.sipush 980, 3) := by decide +kernel
theorem dX8_tallyAt_3 : decode cX8_tallyAt 3 = .ok (.bipush 10, 2) := by decide +kernel
theorem dX8_tallyAt_5 : decode cX8_tallyAt 5 = .ok (.iload_n 1, 1) := by decide +kernel
theorem dX8_tallyAt_6 : decode cX8_tallyAt 6 = .ok (.imul, 1) := by decide +kernel
theorem dX8_tallyAt_7 : decode cX8_tallyAt 7 = .ok (.iadd, 1) := by decide +kernel
theorem dX8_tallyAt_8 : decode cX8_tallyAt 8 = .ok (.iload_n 2, 1) := by decide +kernel
theorem dX8_tallyAt_9 : decode cX8_tallyAt 9 = .ok (.iadd, 1) := by decide +kernel
theorem dX8_tallyAt_10 : decode cX8_tallyAt 10 = .ok (.ireturn, 1) := by decide +kernel
theorem dX8_isWeaker_0 : decode cX8_isWeaker 0 = .ok (.aload_n 0, 1) := by decide +kernel
theorem dX8_isWeaker_1 : decode cX8_isWeaker 1 = .ok (.getfield 7, 3) := by decide +kernel
theorem dX8_isWeaker_4 : decode cX8_isWeaker 4 = .ok (.aload_n 0, 1) := by decide +kernel
theorem dX8_isWeaker_5 : decode cX8_isWeaker 5 = .ok (.iload_n 1, 1) := by decide +kernel
theorem dX8_isWeaker_6 : decode cX8_isWeaker 6 = .ok (.iload_n 3, 1) := by decide +kernel
theorem dX8_isWeaker_7 : decode cX8_isWeaker 7 = .ok (.invokevirtual 107, 3) := by decide +kernel
theorem dX8_isWeaker_10 : decode cX8_isWeaker 10 = .ok (.iaload, 1) := by decide +kernel
theorem dX8_isWeaker_11 : decode cX8_isWeaker 11 = .ok (.aload_n 0, 1) := by decide +kernel
theorem dX8_isWeaker_12 : decode cX8_isWeaker 12 = .ok (.getfield 7, 3) := by decide +kernel
theorem dX8_isWeaker_15 : decode cX8_isWeaker 15 = .ok (.aload_n 0, 1) := by decide +kernel
theorem dX8_isWeaker_16 : decode cX8_isWeaker 16 = .ok (.iload_n 1, 1) := by decide +kernel
theorem dX8_isWeaker_17 : decode cX8_isWeaker 17 = .ok (.iload_n 2, 1) := by decide +kernel
theorem dX8_isWeaker_18 : decode cX8_isWeaker 18 = .ok (.invokevirtual 107, 3) := by decide +kernel
theorem dX8_isWeaker_21 : decode cX8_isWeaker 21 = .ok (.iaload, 1) := by decide +kernel
theorem dX8_isWeaker_22 : decode cX8_isWeaker 22 = .ok (.isub, 1) := by decide +kernel
theorem dX8_isWeaker_23 : decode cX8_isWeaker 23 = .ok (.istore 4, 2) := by decide +kernel
theorem dX8_isWeaker_25 : decode cX8_isWeaker 25 = .ok (.iload 4, 2) := by decide +kernel
theorem dX8_isWeaker_27 : decode cX8_isWeaker 27 = .ok (.ifCond .ne 17, 3) := by decide +kernel
theorem dX8_isWeaker_30 : decode cX8_isWeaker 30 = .ok (.aload_n 0, 1) := by decide +kernel
theorem dX8_isWeaker_31 : decode cX8_isWeaker 31 = .ok (.iload_n 3, 1) := by decide +kernel
theorem dX8_isWeaker_32 : decode cX8_isWeaker 32 = .ok (.invokevirtual 48, 3) := by decide +kernel
theorem dX8_isWeaker_35 : decode cX8_isWeaker 35 = .ok (.aload_n 0, 1) := by decide +kernel
theorem dX8_isWeaker_36 : decode cX8_isWeaker 36 = .ok (.iload_n 2, 1) := by decide +kernel
theorem dX8_isWeaker_37 : decode cX8_isWeaker 37 = .ok (.invokevirtual 48, 3) := by decide +kernel
theorem dX8_isWeaker_40 : decode cX8_isWeaker 40 = .ok (.isub, 1) := by decide +kernel
theorem dX8_isWeaker_41 : decode cX8_isWeaker 41 = .ok (.goto 5, 3) := by decide +kernel
theorem dX8_isWeaker_44 : decode cX8_isWeaker 44 = .ok (.iload 4, 2) := by decide +kernel
theorem dX8_isWeaker_46 : decode cX8_isWeaker 46 = .ok (.istore 4, 2) := by decide +kernel
theorem dX8_isWeaker_48 : decode cX8_isWeaker 48 = .ok (.iload 4, 2) := by decide +kernel
theorem dX8_isWeaker_50 : decode cX8_isWeaker 50 = .ok (.ifCond .ne 17, 3) := by decide +kernel
theorem dX8_isWeaker_53 : decode cX8_isWeaker 53 = .ok (.aload_n 0, 1) := by decide +kernel
theorem dX8_isWeaker_54 : decode cX8_isWeaker 54 = .ok (.iload_n 2, 1) := by decide +kernel
theorem dX8_isWeaker_55 : decode cX8_isWeaker 55 = .ok (.invokevirtual 45, 3) := by decide +kernel
theorem dX8_isWeaker_58 : decode cX8_isWeaker 58 = .ok (.aload_n 0, 1) := by decide +kernel
theorem dX8_isWeaker_59 : decode cX8_isWeaker 59 = .ok (.iload_n 3, 1) := by decide +kernel
theorem dX8_isWeaker_60 : decode cX8_isWeaker 60 = .ok (.invokevirtual 45, 3) := by decide +kernel
theorem dX8_isWeaker_63 : decode cX8_isWeaker 63 = .ok (.isub, 1) := by decide +kernel
theorem dX8_isWeaker_64 : decode cX8_isWeaker 64 = .ok (.goto 5, 3) := by decide +kernel
theorem dX8_isWeaker_67 : decode cX8_isWeaker 67 = .ok (.iload 4, 2) := by decide +kernel
theorem dX8_isWeaker_69 : decode cX8_isWeaker 69 = .ok (.istore 4, 2) := by decide +kernel
theorem dX8_isWeaker_71 : decode cX8_isWeaker 71 = .ok (.iload 4, 2) := by decide +kernel
theorem dX8_isWeaker_73 : decode cX8_isWeaker 73 = .ok (.ifCond .ne 16, 3) := by decide +kernel
theorem dX8_isWeaker_76 : decode cX8_isWeaker 76 = .ok (.iload_n 2, 1) := by decide +kernel
theorem dX8_isWeaker_77 : decode cX8_isWeaker 77 = .ok (.iload_n 3, 1) := by decide +kernel
theorem dX8_isWeaker_78 : decode cX8_isWeaker 78 = .ok (.if_icmp .le 7, 3) := by decide +kernel
theorem dX8_isWeaker_81 : decode cX8_isWeaker 81 = .ok (.iconst 1, 1) := by decide +kernel
theorem dX8_isWeaker_82 : decode cX8_isWeaker 82 = .ok (.goto 17, 3) := by decide +kernel
theorem dX8_isWeaker_85 : decode cX8_isWeaker 85 = .ok (.iconst 0, 1) := by decide +kernel
theorem dX8_isWeaker_86 : decode cX8_isWeaker 86 = .ok (.goto 13, 3) := by decide +kernel
theorem dX8_isWeaker_89 : decode cX8_isWeaker 89 = .ok (.iload 4, 2) := by decide +kernel
theorem dX8_isWeaker_91 : decode cX8_isWeaker 91 = .ok (.ifCond .le 7, 3) := by decide +kernel
theorem dX8_isWeaker_94 : decode cX8_isWeaker 94 = .ok (.iconst 1, 1) := by decide +kernel
theorem dX8_isWeaker_95 : decode cX8_isWeaker 95 = .ok (.goto 4, 3) := by decide +kernel
theorem dX8_isWeaker_98 : decode cX8_isWeaker 98 = .ok (.iconst 0, 1) := by decide +kernel
theorem dX8_isWeaker_99 : decode cX8_isWeaker 99 = .ok (.ireturn, 1) := by decide +kernel
theorem dX8_holdsRound_0 : decode cX8_holdsRound 0 = .ok (.iconst 0, 1) := by decide +kernel
theorem dX8_holdsRound_1 : decode cX8_holdsRound 1 = .ok (.istore_n 2, 1) := by decide +kernel
theorem dX8_holdsRound_2 : decode cX8_holdsRound 2 = .ok (.iconst 0, 1) := by decide +kernel
theorem dX8_holdsRound_3 : decode cX8_holdsRound 3 = .ok (.istore_n 3, 1) := by decide +kernel
theorem dX8_holdsRound_4 : decode cX8_holdsRound 4 = .ok (.iload_n 3, 1) := by decide +kernel
theorem dX8_holdsRound_5 : decode cX8_holdsRound 5 = .ok (.bipush 10, 2) := by decide +kernel
theorem dX8_holdsRound_7 : decode cX8_holdsRound 7 = .ok (.if_icmp .ge 38, 3) := by decide +kernel
theorem dX8_holdsRound_10 : decode cX8_holdsRound 10 = .ok (.aload_n 0, 1) := by decide +kernel
theorem dX8_holdsRound_11 : decode cX8_holdsRound 11 = .ok (.getfield 7, 3) := by decide +kernel
theorem dX8_holdsRound_14 : decode cX8_holdsRound 14 = .ok (.aload_n 0, 1) := by decide +kernel
theorem dX8_holdsRound_15 : decode cX8_holdsRound 15 = .ok (.iload_n 1, 1) := by decide +kernel
theorem dX8_holdsRound_16 : decode cX8_holdsRound 16 = .ok (.iload_n 3, 1) := by decide +kernel
theorem dX8_holdsRound_17 : decode cX8_holdsRound 17 = .ok (.invokevirtual 107, 3) := by decide +kernel
theorem dX8_holdsRound_20 : decode cX8_holdsRound 20 = .ok (.aload_n 0, 1) := by decide +kernel
theorem dX8_holdsRound_21 : decode cX8_holdsRound 21 = .ok (.getfield 104, 3) := by decide +kernel
theorem dX8_holdsRound_24 : decode cX8_holdsRound 24 = .ok (.iload_n 3, 1) := by decide +kernel
theorem dX8_holdsRound_25 : decode cX8_holdsRound 25 = .ok (.ishr, 1) := by decide +kernel
theorem dX8_holdsRound_26 : decode cX8_holdsRound 26 = .ok (.iconst 1, 1) := by decide +kernel
theorem dX8_holdsRound_27 : decode cX8_holdsRound 27 = .ok (.iand, 1) := by decide +kernel
theorem dX8_holdsRound_28 : decode cX8_holdsRound 28 = .ok (.iconst 1, 1) := by decide +kernel
theorem dX8_holdsRound_29 : decode cX8_holdsRound 29 = .ok (.if_icmp .ne 7, 3) := by decide +kernel
theorem dX8_holdsRound_32 : decode cX8_holdsRound 32 = .ok (.iconst 0, 1) := by decide +kernel
theorem dX8_holdsRound_33 : decode cX8_holdsRound 33 = .ok (.goto 5, 3) := by decide +kernel
theorem dX8_holdsRound_36 : decode cX8_holdsRound 36 = .ok (.bipush (-9), 2) := by decide +kernel
theorem dX8_holdsRound_38 : decode cX8_holdsRound 38 = .ok (.iastore, 1) := by decide +kernel
theorem dX8_holdsRound_39 : decode cX8_holdsRound 39 = .ok (.iinc 3 1, 3) := by decide +kernel
theorem dX8_holdsRound_42 : decode cX8_holdsRound 42 = .ok (.goto (-38), 3) := by decide +kernel
theorem dX8_holdsRound_45 : decode cX8_holdsRound 45 = .ok (.iconst 0, 1) := by decide +kernel
theorem dX8_holdsRound_46 : decode cX8_holdsRound 46 = .ok (.istore_n 3, 1) := by decide +kernel
theorem dX8_holdsRound_47 : decode cX8_holdsRound 47 = .ok (.iload_n 3, 1) := by decide +kernel
theorem dX8_holdsRound_48 : decode cX8_holdsRound 48 = .ok (.aload_n 0, 1) := by decide +kernel
theorem dX8_holdsRound_49 : decode cX8_holdsRound 49 = .ok (.getfield 7, 3) := by decide +kernel
theorem dX8_holdsRound_52 : decode cX8_holdsRound 52 = .ok (.bipush 10, 2) := by decide +kernel
theorem dX8_holdsRound_54 : decode cX8_holdsRound 54 = .ok (.iaload, 1) := by decide +kernel
theorem dX8_holdsRound_55 : decode cX8_holdsRound 55 = .ok (.if_icmp .ge 40, 3) := by decide +kernel
theorem dX8_holdsRound_58 : decode cX8_holdsRound 58 = .ok (.aload_n 0, 1) := by decide +kernel
theorem dX8_holdsRound_59 : decode cX8_holdsRound 59 = .ok (.iload_n 3, 1) := by decide +kernel
theorem dX8_holdsRound_60 : decode cX8_holdsRound 60 = .ok (.invokevirtual 110, 3) := by decide +kernel
theorem dX8_holdsRound_63 : decode cX8_holdsRound 63 = .ok (.istore 4, 2) := by decide +kernel
theorem dX8_holdsRound_65 : decode cX8_holdsRound 65 = .ok (.iload 4, 2) := by decide +kernel
theorem dX8_holdsRound_67 : decode cX8_holdsRound 67 = .ok (.ifCond .lt 22, 3) := by decide +kernel
theorem dX8_holdsRound_70 : decode cX8_holdsRound 70 = .ok (.aload_n 0, 1) := by decide +kernel
theorem dX8_holdsRound_71 : decode cX8_holdsRound 71 = .ok (.getfield 7, 3) := by decide +kernel
theorem dX8_holdsRound_74 : decode cX8_holdsRound 74 = .ok (.aload_n 0, 1) := by decide +kernel
theorem dX8_holdsRound_75 : decode cX8_holdsRound 75 = .ok (.iload_n 1, 1) := by decide +kernel
theorem dX8_holdsRound_76 : decode cX8_holdsRound 76 = .ok (.iload 4, 2) := by decide +kernel
theorem dX8_holdsRound_78 : decode cX8_holdsRound 78 = .ok (.invokevirtual 107, 3) := by decide +kernel
theorem dX8_holdsRound_81 : decode cX8_holdsRound 81 = .ok (.dup2, 1) := by decide +kernel
theorem dX8_holdsRound_82 : decode cX8_holdsRound 82 = .ok (.iaload, 1) := by decide +kernel
theorem dX8_holdsRound_83 : decode cX8_holdsRound 83 = .ok (.iconst 1, 1) := by decide +kernel
theorem dX8_holdsRound_84 : decode cX8_holdsRound 84 = .ok (.iadd, 1) := by decide +kernel
theorem dX8_holdsRound_85 : decode cX8_holdsRound 85 = .ok (.iastore, 1) := by decide +kernel
theorem dX8_holdsRound_86 : decode cX8_holdsRound 86 = .ok (.iinc 2 1, 3) := by decide +kernel
theorem dX8_holdsRound_89 : decode cX8_holdsRound 89 = .ok (.iinc 3 1, 3) := by decide +kernel
theorem dX8_holdsRound_92 : decode cX8_holdsRound 92 = .ok (.goto (-45), 3) := by decide +kernel
theorem dX8_holdsRound_95 : decode cX8_holdsRound 95 = .ok (.bipush (-9), 2) := by decide +kernel
theorem dX8_holdsRound_97 : decode cX8_holdsRound 97 = .ok (.istore_n 3, 1) := by decide +kernel
theorem dX8_holdsRound_98 : decode cX8_holdsRound 98 = .ok (.iconst 0, 1) := by decide +kernel
theorem dX8_holdsRound_99 : decode cX8_holdsRound 99 = .ok (.istore 4, 2) := by decide +kernel
theorem dX8_holdsRound_101 : decode cX8_holdsRound 101 = .ok (.iload 4, 2) := by decide +kernel
theorem dX8_holdsRound_103 : decode cX8_holdsRound 103 = .ok (.bipush 10, 2) := by decide +kernel
theorem dX8_holdsRound_105 : decode cX8_holdsRound 105 = .ok (.if_icmp .ge 73, 3) := by decide +kernel
theorem dX8_holdsRound_108 : decode cX8_holdsRound 108 = .ok (.aload_n 0, 1) := by decide +kernel
theorem dX8_holdsRound_109 : decode cX8_holdsRound 109 = .ok (.getfield 104, 3) := by decide +kernel
theorem dX8_holdsRound_112 : decode cX8_holdsRound 112 = .ok (.iload 4, 2) := by decide +kernel
theorem dX8_holdsRound_114 : decode cX8_holdsRound 114 = .ok (.ishr, 1) := by decide +kernel
theorem dX8_holdsRound_115 : decode cX8_holdsRound 115 = .ok (.iconst 1, 1) := by decide +kernel
theorem dX8_holdsRound_116 : decode cX8_holdsRound 116 = .ok (.iand, 1) := by decide +kernel
theorem dX8_holdsRound_117 : decode cX8_holdsRound 117 = .ok (.iconst 1, 1) := by decide +kernel
theorem dX8_holdsRound_118 : decode cX8_holdsRound 118 = .ok (.if_icmp .ne 54, 3) := by decide +kernel
theorem dX8_holdsRound_121 : decode cX8_holdsRound 121 = .ok (.iconst 2, 1) := by decide +kernel
theorem dX8_holdsRound_122 : decode cX8_holdsRound 122 = .ok (.aload_n 0, 1) := by decide +kernel
theorem dX8_holdsRound_123 : decode cX8_holdsRound 123 = .ok (.getfield 7, 3) := by decide +kernel
theorem dX8_holdsRound_126 : decode cX8_holdsRound 126 = .ok (.aload_n 0, 1) := by decide +kernel
theorem dX8_holdsRound_127 : decode cX8_holdsRound 127 = .ok (.iload_n 1, 1) := by decide +kernel
theorem dX8_holdsRound_128 : decode cX8_holdsRound 128 = .ok (.iload 4, 2) := by decide +kernel
theorem dX8_holdsRound_130 : decode cX8_holdsRound 130 = .ok (.invokevirtual 107, 3) := by decide +kernel
theorem dX8_holdsRound_133 : decode cX8_holdsRound 133 = .ok (.iaload, 1) := by decide +kernel
theorem dX8_holdsRound_134 : decode cX8_holdsRound 134 = .ok (.imul, 1) := by decide +kernel
theorem dX8_holdsRound_135 : decode cX8_holdsRound 135 = .ok (.iload_n 2, 1) := by decide +kernel
theorem dX8_holdsRound_136 : decode cX8_holdsRound 136 = .ok (.if_icmp .gt 11, 3) := by decide +kernel
theorem dX8_holdsRound_139 : decode cX8_holdsRound 139 = .ok (.aload_n 0, 1) := by decide +kernel
theorem dX8_holdsRound_140 : decode cX8_holdsRound 140 = .ok (.invokevirtual 113, 3) := by decide +kernel
theorem dX8_holdsRound_143 : decode cX8_holdsRound 143 = .ok (.iconst 1, 1) := by decide +kernel
theorem dX8_holdsRound_144 : decode cX8_holdsRound 144 = .ok (.if_icmp .ne 6, 3) := by decide +kernel
theorem dX8_holdsRound_147 : decode cX8_holdsRound 147 = .ok (.iload 4, 2) := by decide +kernel
theorem dX8_holdsRound_149 : decode cX8_holdsRound 149 = .ok (.ireturn, 1) := by decide +kernel
theorem dX8_holdsRound_150 : decode cX8_holdsRound 150 = .ok (.iload_n 3, 1) := by decide +kernel
theorem dX8_holdsRound_151 : decode cX8_holdsRound 151 = .ok (.ifCond .lt 14, 3) := by decide +kernel
theorem dX8_holdsRound_154 : decode cX8_holdsRound 154 = .ok (.aload_n 0, 1) := by decide +kernel
theorem dX8_holdsRound_155 : decode cX8_holdsRound 155 = .ok (.iload_n 1, 1) := by decide +kernel
theorem dX8_holdsRound_156 : decode cX8_holdsRound 156 = .ok (.iload 4, 2) := by decide +kernel
theorem dX8_holdsRound_158 : decode cX8_holdsRound 158 = .ok (.iload_n 3, 1) := by decide +kernel
theorem dX8_holdsRound_159 : decode cX8_holdsRound 159 = .ok (.invokevirtual 116, 3) := by decide +kernel
theorem dX8_holdsRound_162 : decode cX8_holdsRound 162 = .ok (.ifCond .eq 8, 3) := by decide +kernel
theorem dX8_holdsRound_165 : decode cX8_holdsRound 165 = .ok (.iload 4, 2) := by decide +kernel
theorem dX8_holdsRound_167 : decode cX8_holdsRound 167 = .ok (.goto 4, 3) := by decide +kernel
theorem dX8_holdsRound_170 : decode cX8_holdsRound 170 = .ok (.iload_n 3, 1) := by decide +kernel
theorem dX8_holdsRound_171 : decode cX8_holdsRound 171 = .ok (.istore_n 3, 1) := by decide +kernel
theorem dX8_holdsRound_172 : decode cX8_holdsRound 172 = .ok (.iinc 4 1, 3) := by decide +kernel
theorem dX8_holdsRound_175 : decode cX8_holdsRound 175 = .ok (.goto (-74), 3) := by decide +kernel
theorem dX8_holdsRound_178 : decode cX8_holdsRound 178 = .ok (.aload_n 0, 1) := by decide +kernel
theorem dX8_holdsRound_179 : decode cX8_holdsRound 179 = .ok (.dup, 1) := by decide +kernel
theorem dX8_holdsRound_180 : decode cX8_holdsRound 180 = .ok (.getfield 104, 3) := by decide +kernel
theorem dX8_holdsRound_183 : decode cX8_holdsRound 183 = .ok (.iconst 1, 1) := by decide +kernel
theorem dX8_holdsRound_184 : decode cX8_holdsRound 184 = .ok (.iload_n 3, 1) := by decide +kernel
theorem dX8_holdsRound_185 : decode cX8_holdsRound 185 = .ok (.ishl, 1) := by decide +kernel
theorem dX8_holdsRound_186 : decode cX8_holdsRound 186 = .ok (.iconst (-1), 1) := by decide +kernel
theorem dX8_holdsRound_187 : decode cX8_holdsRound 187 = .ok (.ixor, 1) := by decide +kernel
theorem dX8_holdsRound_188 : decode cX8_holdsRound 188 = .ok (.iand, 1) := by decide +kernel
theorem dX8_holdsRound_189 : decode cX8_holdsRound 189 = .ok (.putfield 104, 3) := by decide +kernel
theorem dX8_holdsRound_192 : decode cX8_holdsRound 192 = .ok (.bipush (-9), 2) := by decide +kernel
theorem dX8_holdsRound_194 : decode cX8_holdsRound 194 = .ok (.ireturn, 1) := by decide +kernel
theorem dX8_begins_0 : decode cX8_begins 0 = .ok (.aload_n 0, 1) := by decide +kernel
theorem dX8_begins_1 : decode cX8_begins 1 = .ok (.getfield 7, 3) := by decide +kernel
theorem dX8_begins_4 : decode cX8_begins 4 = .ok (.bipush 9, 2) := by decide +kernel
theorem dX8_begins_6 : decode cX8_begins 6 = .ok (.dup2, 1) := by decide +kernel
theorem dX8_begins_7 : decode cX8_begins 7 = .ok (.iaload, 1) := by decide +kernel
theorem dX8_begins_8 : decode cX8_begins 8 = .ok (.iconst 1, 1) := by decide +kernel
theorem dX8_begins_9 : decode cX8_begins 9 = .ok (.iadd, 1) := by decide +kernel
theorem dX8_begins_10 : decode cX8_begins 10 = .ok (.iastore, 1) := by decide +kernel
theorem dX8_begins_11 : decode cX8_begins 11 = .ok (.aload_n 0, 1) := by decide +kernel
theorem dX8_begins_12 : decode cX8_begins 12 = .ok (.getfield 7, 3) := by decide +kernel
theorem dX8_begins_15 : decode cX8_begins 15 = .ok (.bipush 9, 2) := by decide +kernel
theorem dX8_begins_17 : decode cX8_begins 17 = .ok (.iaload, 1) := by decide +kernel
theorem dX8_begins_18 : decode cX8_begins 18 = .ok (.istore_n 2, 1) := by decide +kernel
theorem dX8_begins_19 : decode cX8_begins 19 = .ok (.iconst 0, 1) := by decide +kernel
theorem dX8_begins_20 : decode cX8_begins 20 = .ok (.istore_n 3, 1) := by decide +kernel
theorem dX8_begins_21 : decode cX8_begins 21 = .ok (.iload_n 3, 1) := by decide +kernel
theorem dX8_begins_22 : decode cX8_begins 22 = .ok (.bipush 18, 2) := by decide +kernel
theorem dX8_begins_24 : decode cX8_begins 24 = .ok (.if_icmp .ge 20, 3) := by decide +kernel
theorem dX8_begins_27 : decode cX8_begins 27 = .ok (.aload_n 0, 1) := by decide +kernel
theorem dX8_begins_28 : decode cX8_begins 28 = .ok (.getfield 7, 3) := by decide +kernel
theorem dX8_begins_31 : decode cX8_begins 31 = .ok (.iload_n 2, 1) := by decide +kernel
theorem dX8_begins_32 : decode cX8_begins 32 = .ok (.iload_n 3, 1) := by decide +kernel
theorem dX8_begins_33 : decode cX8_begins 33 = .ok (.invokestatic 31, 3) := by decide +kernel
theorem dX8_begins_36 : decode cX8_begins 36 = .ok (.iconst 0, 1) := by decide +kernel
theorem dX8_begins_37 : decode cX8_begins 37 = .ok (.iastore, 1) := by decide +kernel
theorem dX8_begins_38 : decode cX8_begins 38 = .ok (.iinc 3 1, 3) := by decide +kernel
theorem dX8_begins_41 : decode cX8_begins 41 = .ok (.goto (-20), 3) := by decide +kernel
theorem dX8_begins_44 : decode cX8_begins 44 = .ok (.aload_n 0, 1) := by decide +kernel
theorem dX8_begins_45 : decode cX8_begins 45 = .ok (.getfield 7, 3) := by decide +kernel
theorem dX8_begins_48 : decode cX8_begins 48 = .ok (.iload_n 2, 1) := by decide +kernel
theorem dX8_begins_49 : decode cX8_begins 49 = .ok (.iconst 0, 1) := by decide +kernel
theorem dX8_begins_50 : decode cX8_begins 50 = .ok (.invokestatic 31, 3) := by decide +kernel
theorem dX8_begins_53 : decode cX8_begins 53 = .ok (.iload_n 1, 1) := by decide +kernel
theorem dX8_begins_54 : decode cX8_begins 54 = .ok (.iastore, 1) := by decide +kernel
theorem dX8_begins_55 : decode cX8_begins 55 = .ok (.aload_n 0, 1) := by decide +kernel
theorem dX8_begins_56 : decode cX8_begins 56 = .ok (.getfield 7, 3) := by decide +kernel
theorem dX8_begins_59 : decode cX8_begins 59 = .ok (.iload_n 2, 1) := by decide +kernel
theorem dX8_begins_60 : decode cX8_begins 60 = .ok (.iconst 1, 1) := by decide +kernel
theorem dX8_begins_61 : decode cX8_begins 61 = .ok (.invokestatic 31, 3) := by decide +kernel
theorem dX8_begins_64 : decode cX8_begins 64 = .ok (.aload_n 0, 1) := by decide +kernel
theorem dX8_begins_65 : decode cX8_begins 65 = .ok (.getfield 7, 3) := by decide +kernel
theorem dX8_begins_68 : decode cX8_begins 68 = .ok (.bipush 6, 2) := by decide +kernel
theorem dX8_begins_70 : decode cX8_begins 70 = .ok (.iaload, 1) := by decide +kernel
theorem dX8_begins_71 : decode cX8_begins 71 = .ok (.iastore, 1) := by decide +kernel
theorem dX8_begins_72 : decode cX8_begins 72 = .ok (.aload_n 0, 1) := by decide +kernel
theorem dX8_begins_73 : decode cX8_begins 73 = .ok (.getfield 7, 3) := by decide +kernel
theorem dX8_begins_76 : decode cX8_begins 76 = .ok (.iload_n 2, 1) := by decide +kernel
theorem dX8_begins_77 : decode cX8_begins 77 = .ok (.iconst 2, 1) := by decide +kernel
theorem dX8_begins_78 : decode cX8_begins 78 = .ok (.invokestatic 31, 3) := by decide +kernel
theorem dX8_begins_81 : decode cX8_begins 81 = .ok (.aload_n 0, 1) := by decide +kernel
theorem dX8_begins_82 : decode cX8_begins 82 = .ok (.getfield 7, 3) := by decide +kernel
theorem dX8_begins_85 : decode cX8_begins 85 = .ok (.bipush 6, 2) := by decide +kernel
theorem dX8_begins_87 : decode cX8_begins 87 = .ok (.iaload, 1) := by decide +kernel
theorem dX8_begins_88 : decode cX8_begins 88 = .ok (.aload_n 0, 1) := by decide +kernel
theorem dX8_begins_89 : decode cX8_begins 89 = .ok (.getfield 7, 3) := by decide +kernel
theorem dX8_begins_92 : decode cX8_begins 92 = .ok (.iconst 0, 1) := by decide +kernel
theorem dX8_begins_93 : decode cX8_begins 93 = .ok (.iaload, 1) := by decide +kernel
theorem dX8_begins_94 : decode cX8_begins 94 = .ok (.iadd, 1) := by decide +kernel
theorem dX8_begins_95 : decode cX8_begins 95 = .ok (.iastore, 1) := by decide +kernel
theorem dX8_begins_96 : decode cX8_begins 96 = .ok (.aload_n 0, 1) := by decide +kernel
theorem dX8_begins_97 : decode cX8_begins 97 = .ok (.getfield 7, 3) := by decide +kernel
theorem dX8_begins_100 : decode cX8_begins 100 = .ok (.iload_n 2, 1) := by decide +kernel
theorem dX8_begins_101 : decode cX8_begins 101 = .ok (.iconst 3, 1) := by decide +kernel
theorem dX8_begins_102 : decode cX8_begins 102 = .ok (.invokestatic 31, 3) := by decide +kernel
theorem dX8_begins_105 : decode cX8_begins 105 = .ok (.bipush (-9), 2) := by decide +kernel
theorem dX8_begins_107 : decode cX8_begins 107 = .ok (.iastore, 1) := by decide +kernel
theorem dX8_begins_108 : decode cX8_begins 108 = .ok (.iconst 0, 1) := by decide +kernel
theorem dX8_begins_109 : decode cX8_begins 109 = .ok (.istore_n 3, 1) := by decide +kernel
theorem dX8_begins_110 : decode cX8_begins 110 = .ok (.iload_n 3, 1) := by decide +kernel
theorem dX8_begins_111 : decode cX8_begins 111 = .ok (.aload_n 0, 1) := by decide +kernel
theorem dX8_begins_112 : decode cX8_begins 112 = .ok (.getfield 7, 3) := by decide +kernel
theorem dX8_begins_115 : decode cX8_begins 115 = .ok (.bipush 10, 2) := by decide +kernel
theorem dX8_begins_117 : decode cX8_begins 117 = .ok (.iaload, 1) := by decide +kernel
theorem dX8_begins_118 : decode cX8_begins 118 = .ok (.if_icmp .ge 35, 3) := by decide +kernel
theorem dX8_begins_121 : decode cX8_begins 121 = .ok (.aload_n 0, 1) := by decide +kernel
theorem dX8_begins_122 : decode cX8_begins 122 = .ok (.getfield 7, 3) := by decide +kernel
theorem dX8_begins_125 : decode cX8_begins 125 = .ok (.iload_n 2, 1) := by decide +kernel
theorem dX8_begins_126 : decode cX8_begins 126 = .ok (.bipush 6, 2) := by decide +kernel
theorem dX8_begins_128 : decode cX8_begins 128 = .ok (.invokestatic 31, 3) := by decide +kernel
theorem dX8_begins_131 : decode cX8_begins 131 = .ok (.dup2, 1) := by decide +kernel
theorem dX8_begins_132 : decode cX8_begins 132 = .ok (.iaload, 1) := by decide +kernel
theorem dX8_begins_133 : decode cX8_begins 133 = .ok (.aload_n 0, 1) := by decide +kernel
theorem dX8_begins_134 : decode cX8_begins 134 = .ok (.getfield 7, 3) := by decide +kernel
theorem dX8_begins_137 : decode cX8_begins 137 = .ok (.iload_n 3, 1) := by decide +kernel
theorem dX8_begins_138 : decode cX8_begins 138 = .ok (.iconst 1, 1) := by decide +kernel
theorem dX8_begins_139 : decode cX8_begins 139 = .ok (.invokestatic 27, 3) := by decide +kernel
theorem dX8_begins_142 : decode cX8_begins 142 = .ok (.iaload, 1) := by decide +kernel
theorem dX8_begins_143 : decode cX8_begins 143 = .ok (.iload_n 3, 1) := by decide +kernel
theorem dX8_begins_144 : decode cX8_begins 144 = .ok (.ishl, 1) := by decide +kernel
theorem dX8_begins_145 : decode cX8_begins 145 = .ok (.ior, 1) := by decide +kernel
theorem dX8_begins_146 : decode cX8_begins 146 = .ok (.iastore, 1) := by decide +kernel
theorem dX8_begins_147 : decode cX8_begins 147 = .ok (.iinc 3 1, 3) := by decide +kernel
theorem dX8_begins_150 : decode cX8_begins 150 = .ok (.goto (-40), 3) := by decide +kernel
theorem dX8_begins_153 : decode cX8_begins 153 = .ok (.aload_n 0, 1) := by decide +kernel
theorem dX8_begins_154 : decode cX8_begins 154 = .ok (.getfield 7, 3) := by decide +kernel
theorem dX8_begins_157 : decode cX8_begins 157 = .ok (.bipush 7, 2) := by decide +kernel
theorem dX8_begins_159 : decode cX8_begins 159 = .ok (.iconst 2, 1) := by decide +kernel
theorem dX8_begins_160 : decode cX8_begins 160 = .ok (.iastore, 1) := by decide +kernel
theorem dX8_begins_161 : decode cX8_begins 161 = .ok (.aload_n 0, 1) := by decide +kernel
theorem dX8_begins_162 : decode cX8_begins 162 = .ok (.getfield 7, 3) := by decide +kernel
theorem dX8_begins_165 : decode cX8_begins 165 = .ok (.bipush 8, 2) := by decide +kernel
theorem dX8_begins_167 : decode cX8_begins 167 = .ok (.iload_n 1, 1) := by decide +kernel
theorem dX8_begins_168 : decode cX8_begins 168 = .ok (.iastore, 1) := by decide +kernel
theorem dX8_begins_169 : decode cX8_begins 169 = .ok (.aload_n 0, 1) := by decide +kernel
theorem dX8_begins_170 : decode cX8_begins 170 = .ok (.iconst 1, 1) := by decide +kernel
theorem dX8_begins_171 : decode cX8_begins 171 = .ok (.iload_n 1, 1) := by decide +kernel
theorem dX8_begins_172 : decode cX8_begins 172 = .ok (.invokevirtual 51, 3) := by decide +kernel
theorem dX8_begins_175 : decode cX8_begins 175 = .ok (.return_, 1) := by decide +kernel
theorem dX8_close_0 : decode cX8_close 0 = .ok (.aload_n 0, 1) := by decide +kernel
theorem dX8_close_1 : decode cX8_close 1 = .ok (.getfield 7, 3) := by decide +kernel
theorem dX8_close_4 : decode cX8_close 4 = .ok (.bipush 11, 2) := by decide +kernel
theorem dX8_close_6 : decode cX8_close 6 = .ok (.iaload, 1) := by decide +kernel
theorem dX8_close_7 : decode cX8_close 7 = .ok (.ifCond .eq 10, 3) := by decide +kernel
theorem dX8_close_10 : decode cX8_close 10 = .ok (.aload_n 0, 1) := by decide +kernel
theorem dX8_close_11 : decode cX8_close 11 = .ok (.invokevirtual 92, 3) := by decide +kernel
theorem dX8_close_14 : decode cX8_close 14 = .ok (.ifCond .ne 6, 3) := by decide +kernel
theorem dX8_close_17 : decode cX8_close 17 = .ok (.bipush (-2), 2) := by decide +kernel
theorem dX8_close_19 : decode cX8_close 19 = .ok (.ireturn, 1) := by decide +kernel
theorem dX8_close_20 : decode cX8_close 20 = .ok (.aload_n 0, 1) := by decide +kernel
theorem dX8_close_21 : decode cX8_close 21 = .ok (.invokevirtual 73, 3) := by decide +kernel
theorem dX8_close_24 : decode cX8_close 24 = .ok (.bipush (-9), 2) := by decide +kernel
theorem dX8_close_26 : decode cX8_close 26 = .ok (.istore_n 1, 1) := by decide +kernel
theorem dX8_close_27 : decode cX8_close 27 = .ok (.aload_n 0, 1) := by decide +kernel
theorem dX8_close_28 : decode cX8_close 28 = .ok (.getfield 7, 3) := by decide +kernel
theorem dX8_close_31 : decode cX8_close 31 = .ok (.bipush 13, 2) := by decide +kernel
theorem dX8_close_33 : decode cX8_close 33 = .ok (.iconst 0, 1) := by decide +kernel
theorem dX8_close_34 : decode cX8_close 34 = .ok (.iastore, 1) := by decide +kernel
theorem dX8_close_35 : decode cX8_close 35 = .ok (.aload_n 0, 1) := by decide +kernel
theorem dX8_close_36 : decode cX8_close 36 = .ok (.iconst 0, 1) := by decide +kernel
theorem dX8_close_37 : decode cX8_close 37 = .ok (.putfield 104, 3) := by decide +kernel
theorem dX8_close_40 : decode cX8_close 40 = .ok (.iconst 0, 1) := by decide +kernel
theorem dX8_close_41 : decode cX8_close 41 = .ok (.istore_n 2, 1) := by decide +kernel
theorem dX8_close_42 : decode cX8_close 42 = .ok (.iload_n 2, 1) := by decide +kernel
theorem dX8_close_43 : decode cX8_close 43 = .ok (.aload_n 0, 1) := by decide +kernel
theorem dX8_close_44 : decode cX8_close 44 = .ok (.getfield 7, 3) := by decide +kernel
theorem dX8_close_47 : decode cX8_close 47 = .ok (.bipush 10, 2) := by decide +kernel
theorem dX8_close_49 : decode cX8_close 49 = .ok (.iaload, 1) := by decide +kernel
theorem dX8_close_50 : decode cX8_close 50 = .ok (.if_icmp .ge 30, 3) := by decide +kernel
theorem dX8_close_53 : decode cX8_close 53 = .ok (.aload_n 0, 1) := by decide +kernel
theorem dX8_close_54 : decode cX8_close 54 = .ok (.dup, 1) := by decide +kernel
theorem dX8_close_55 : decode cX8_close 55 = .ok (.getfield 104, 3) := by decide +kernel
theorem dX8_close_58 : decode cX8_close 58 = .ok (.aload_n 0, 1) := by decide +kernel
theorem dX8_close_59 : decode cX8_close 59 = .ok (.getfield 7, 3) := by decide +kernel
theorem dX8_close_62 : decode cX8_close 62 = .ok (.iload_n 2, 1) := by decide +kernel
theorem dX8_close_63 : decode cX8_close 63 = .ok (.iconst 2, 1) := by decide +kernel
theorem dX8_close_64 : decode cX8_close 64 = .ok (.invokestatic 27, 3) := by decide +kernel
theorem dX8_close_67 : decode cX8_close 67 = .ok (.iaload, 1) := by decide +kernel
theorem dX8_close_68 : decode cX8_close 68 = .ok (.iload_n 2, 1) := by decide +kernel
theorem dX8_close_69 : decode cX8_close 69 = .ok (.ishl, 1) := by decide +kernel
theorem dX8_close_70 : decode cX8_close 70 = .ok (.ior, 1) := by decide +kernel
theorem dX8_close_71 : decode cX8_close 71 = .ok (.putfield 104, 3) := by decide +kernel
theorem dX8_close_74 : decode cX8_close 74 = .ok (.iinc 2 1, 3) := by decide +kernel
theorem dX8_close_77 : decode cX8_close 77 = .ok (.goto (-35), 3) := by decide +kernel
theorem dX8_close_80 : decode cX8_close 80 = .ok (.bipush 100, 2) := by decide +kernel
theorem dX8_close_82 : decode cX8_close 82 = .ok (.aload_n 0, 1) := by decide +kernel
theorem dX8_close_83 : decode cX8_close 83 = .ok (.invokevirtual 101, 3) := by decide +kernel
theorem dX8_close_86 : decode cX8_close 86 = .ok (.imul, 1) := by decide +kernel
theorem dX8_close_87 : decode cX8_close 87 = .ok (.aload_n 0, 1) := by decide +kernel
theorem dX8_close_88 : decode cX8_close 88 = .ok (.getfield 7, 3) := by decide +kernel
theorem dX8_close_91 : decode cX8_close 91 = .ok (.iconst 4, 1) := by decide +kernel
theorem dX8_close_92 : decode cX8_close 92 = .ok (.iaload, 1) := by decide +kernel
theorem dX8_close_93 : decode cX8_close 93 = .ok (.aload_n 0, 1) := by decide +kernel
theorem dX8_close_94 : decode cX8_close 94 = .ok (.invokevirtual 59, 3) := by decide +kernel
theorem dX8_close_97 : decode cX8_close 97 = .ok (.imul, 1) := by decide +kernel
theorem dX8_close_98 : decode cX8_close 98 = .ok (.if_icmp .lt 7, 3) := by decide +kernel
theorem dX8_close_101 : decode cX8_close 101 = .ok (.iconst 1, 1) := by decide +kernel
theorem dX8_close_102 : decode cX8_close 102 = .ok (.goto 4, 3) := by decide +kernel
theorem dX8_close_105 : decode cX8_close 105 = .ok (.iconst 0, 1) := by decide +kernel
theorem dX8_close_106 : decode cX8_close 106 = .ok (.istore_n 2, 1) := by decide +kernel
theorem dX8_close_107 : decode cX8_close 107 = .ok (.iload_n 2, 1) := by decide +kernel
theorem dX8_close_108 : decode cX8_close 108 = .ok (.ifCond .eq 33, 3) := by decide +kernel
theorem dX8_close_111 : decode cX8_close 111 = .ok (.iload_n 1, 1) := by decide +kernel
theorem dX8_close_112 : decode cX8_close 112 = .ok (.ifCond .ge 29, 3) := by decide +kernel
theorem dX8_close_115 : decode cX8_close 115 = .ok (.aload_n 0, 1) := by decide +kernel
theorem dX8_close_116 : decode cX8_close 116 = .ok (.aload_n 0, 1) := by decide +kernel
theorem dX8_close_117 : decode cX8_close 117 = .ok (.getfield 7, 3) := by decide +kernel
theorem dX8_close_120 : decode cX8_close 120 = .ok (.bipush 13, 2) := by decide +kernel
theorem dX8_close_122 : decode cX8_close 122 = .ok (.iaload, 1) := by decide +kernel
theorem dX8_close_123 : decode cX8_close 123 = .ok (.invokevirtual 119, 3) := by decide +kernel
theorem dX8_close_126 : decode cX8_close 126 = .ok (.istore_n 1, 1) := by decide +kernel
theorem dX8_close_127 : decode cX8_close 127 = .ok (.aload_n 0, 1) := by decide +kernel
theorem dX8_close_128 : decode cX8_close 128 = .ok (.getfield 7, 3) := by decide +kernel
theorem dX8_close_131 : decode cX8_close 131 = .ok (.bipush 13, 2) := by decide +kernel
theorem dX8_close_133 : decode cX8_close 133 = .ok (.dup2, 1) := by decide +kernel
theorem dX8_close_134 : decode cX8_close 134 = .ok (.iaload, 1) := by decide +kernel
theorem dX8_close_135 : decode cX8_close 135 = .ok (.iconst 1, 1) := by decide +kernel
theorem dX8_close_136 : decode cX8_close 136 = .ok (.iadd, 1) := by decide +kernel
theorem dX8_close_137 : decode cX8_close 137 = .ok (.iastore, 1) := by decide +kernel
theorem dX8_close_138 : decode cX8_close 138 = .ok (.goto (-31), 3) := by decide +kernel
theorem dX8_close_141 : decode cX8_close 141 = .ok (.aload_n 0, 1) := by decide +kernel
theorem dX8_close_142 : decode cX8_close 142 = .ok (.getfield 7, 3) := by decide +kernel
theorem dX8_close_145 : decode cX8_close 145 = .ok (.bipush 11, 2) := by decide +kernel
theorem dX8_close_147 : decode cX8_close 147 = .ok (.iconst 0, 1) := by decide +kernel
theorem dX8_close_148 : decode cX8_close 148 = .ok (.iastore, 1) := by decide +kernel
theorem dX8_close_149 : decode cX8_close 149 = .ok (.iconst 0, 1) := by decide +kernel
theorem dX8_close_150 : decode cX8_close 150 = .ok (.istore_n 3, 1) := by decide +kernel
theorem dX8_close_151 : decode cX8_close 151 = .ok (.iload_n 3, 1) := by decide +kernel
theorem dX8_close_152 : decode cX8_close 152 = .ok (.bipush 10, 2) := by decide +kernel
theorem dX8_close_154 : decode cX8_close 154 = .ok (.if_icmp .ge 31, 3) := by decide +kernel
theorem dX8_close_157 : decode cX8_close 157 = .ok (.aload_n 0, 1) := by decide +kernel
theorem dX8_close_158 : decode cX8_close 158 = .ok (.getfield 7, 3) := by decide +kernel
theorem dX8_close_161 : decode cX8_close 161 = .ok (.iload_n 3, 1) := by decide +kernel
theorem dX8_close_162 : decode cX8_close 162 = .ok (.iconst 2, 1) := by decide +kernel
theorem dX8_close_163 : decode cX8_close 163 = .ok (.invokestatic 27, 3) := by decide +kernel
theorem dX8_close_166 : decode cX8_close 166 = .ok (.iconst 0, 1) := by decide +kernel
theorem dX8_close_167 : decode cX8_close 167 = .ok (.iastore, 1) := by decide +kernel
theorem dX8_close_168 : decode cX8_close 168 = .ok (.aload_n 0, 1) := by decide +kernel
theorem dX8_close_169 : decode cX8_close 169 = .ok (.getfield 7, 3) := by decide +kernel
theorem dX8_close_172 : decode cX8_close 172 = .ok (.iload_n 3, 1) := by decide +kernel
theorem dX8_close_173 : decode cX8_close 173 = .ok (.iconst 4, 1) := by decide +kernel
theorem dX8_close_174 : decode cX8_close 174 = .ok (.invokestatic 27, 3) := by decide +kernel
theorem dX8_close_177 : decode cX8_close 177 = .ok (.iconst 0, 1) := by decide +kernel
theorem dX8_close_178 : decode cX8_close 178 = .ok (.iastore, 1) := by decide +kernel
theorem dX8_close_179 : decode cX8_close 179 = .ok (.iinc 3 1, 3) := by decide +kernel
theorem dX8_close_182 : decode cX8_close 182 = .ok (.goto (-31), 3) := by decide +kernel
theorem dX8_close_185 : decode cX8_close 185 = .ok (.iload_n 1, 1) := by decide +kernel
theorem dX8_close_186 : decode cX8_close 186 = .ok (.ifCond .ge 14, 3) := by decide +kernel
theorem dX8_close_189 : decode cX8_close 189 = .ok (.aload_n 0, 1) := by decide +kernel
theorem dX8_close_190 : decode cX8_close 190 = .ok (.bipush 6, 2) := by decide +kernel
theorem dX8_close_192 : decode cX8_close 192 = .ok (.bipush (-9), 2) := by decide +kernel
theorem dX8_close_194 : decode cX8_close 194 = .ok (.invokevirtual 51, 3) := by decide +kernel
theorem dX8_close_197 : decode cX8_close 197 = .ok (.goto 8, 3) := by decide +kernel
theorem dX8_close_200 : decode cX8_close 200 = .ok (.aload_n 0, 1) := by decide +kernel
theorem dX8_close_201 : decode cX8_close 201 = .ok (.iload_n 1, 1) := by decide +kernel
theorem dX8_close_202 : decode cX8_close 202 = .ok (.invokevirtual 122, 3) := by decide +kernel
theorem dX8_close_205 : decode cX8_close 205 = .ok (.iload_n 1, 1) := by decide +kernel
theorem dX8_close_206 : decode cX8_close 206 = .ok (.ireturn, 1) := by decide +kernel
theorem dX8_rounds_0 : decode cX8_rounds 0 = .ok (.aload_n 0, 1) := by decide +kernel
theorem dX8_rounds_1 : decode cX8_rounds 1 = .ok (.getfield 7, 3) := by decide +kernel
theorem dX8_rounds_4 : decode cX8_rounds 4 = .ok (.bipush 13, 2) := by decide +kernel
theorem dX8_rounds_6 : decode cX8_rounds 6 = .ok (.iaload, 1) := by decide +kernel
theorem dX8_rounds_7 : decode cX8_rounds 7 = .ok (.ireturn, 1) := by decide +kernel
theorem dX8_tally_0 : decode cX8_tally 0 = .ok (.iload_n 1, 1) := by decide +kernel
theorem dX8_tally_1 : decode cX8_tally 1 = .ok (.iconst 0, 1) := by decide +kernel
theorem dX8_tally_2 : decode cX8_tally 2 = .ok (.aload_n 0, 1) := by decide +kernel
theorem dX8_tally_3 : decode cX8_tally 3 = .ok (.getfield 7, 3) := by decide +kernel
theorem dX8_tally_6 : decode cX8_tally 6 = .ok (.bipush 13, 2) := by decide +kernel
theorem dX8_tally_8 : decode cX8_tally 8 = .ok (.iaload, 1) := by decide +kernel
theorem dX8_tally_9 : decode cX8_tally 9 = .ok (.iconst 1, 1) := by decide +kernel
theorem dX8_tally_10 : decode cX8_tally 10 = .ok (.isub, 1) := by decide +kernel
theorem dX8_tally_11 : decode cX8_tally 11 = .ok (.invokestatic 23, 3) := by decide +kernel
theorem dX8_tally_14 : decode cX8_tally 14 = .ok (.ifCond .eq 25, 3) := by decide +kernel
theorem dX8_tally_17 : decode cX8_tally 17 = .ok (.aload_n 0, 1) := by decide +kernel
theorem dX8_tally_18 : decode cX8_tally 18 = .ok (.iload_n 2, 1) := by decide +kernel
theorem dX8_tally_19 : decode cX8_tally 19 = .ok (.invokevirtual 82, 3) := by decide +kernel
theorem dX8_tally_22 : decode cX8_tally 22 = .ok (.ifCond .eq 17, 3) := by decide +kernel
theorem dX8_tally_25 : decode cX8_tally 25 = .ok (.aload_n 0, 1) := by decide +kernel
theorem dX8_tally_26 : decode cX8_tally 26 = .ok (.getfield 7, 3) := by decide +kernel
theorem dX8_tally_29 : decode cX8_tally 29 = .ok (.aload_n 0, 1) := by decide +kernel
theorem dX8_tally_30 : decode cX8_tally 30 = .ok (.iload_n 1, 1) := by decide +kernel
theorem dX8_tally_31 : decode cX8_tally 31 = .ok (.iload_n 2, 1) := by decide +kernel
theorem dX8_tally_32 : decode cX8_tally 32 = .ok (.invokevirtual 107, 3) := by decide +kernel
theorem dX8_tally_35 : decode cX8_tally 35 = .ok (.iaload, 1) := by decide +kernel
theorem dX8_tally_36 : decode cX8_tally 36 = .ok (.goto 4, 3) := by decide +kernel
theorem dX8_tally_39 : decode cX8_tally 39 = .ok (.iconst (-1), 1) := by decide +kernel
theorem dX8_tally_40 : decode cX8_tally 40 = .ok (.ireturn, 1) := by decide +kernel
theorem dX8_ballot_0 : decode cX8_ballot 0 = .ok (.aload_n 0, 1) := by decide +kernel
theorem dX8_ballot_1 : decode cX8_ballot 1 = .ok (.iload_n 1, 1) := by decide +kernel
theorem dX8_ballot_2 : decode cX8_ballot 2 = .ok (.invokevirtual 82, 3) := by decide +kernel
theorem dX8_ballot_5 : decode cX8_ballot 5 = .ok (.ifCond .eq 7, 3) := by decide +kernel
theorem dX8_ballot_8 : decode cX8_ballot 8 = .ok (.iload_n 2, 1) := by decide +kernel
theorem dX8_ballot_9 : decode cX8_ballot 9 = .ok (.ifCond .ge 5, 3) := by decide +kernel
theorem dX8_ballot_12 : decode cX8_ballot 12 = .ok (.iconst (-1), 1) := by decide +kernel
theorem dX8_ballot_13 : decode cX8_ballot 13 = .ok (.ireturn, 1) := by decide +kernel
theorem dX8_ballot_14 : decode cX8_ballot 14 = .ok (.aload_n 0, 1) := by decide +kernel
theorem dX8_ballot_15 : decode cX8_ballot 15 = .ok (.getfield 7, 3) := by decide +kernel
theorem dX8_ballot_18 : decode cX8_ballot 18 = .ok (.bipush 11, 2) := by decide +kernel
theorem dX8_ballot_20 : decode cX8_ballot 20 = .ok (.iaload, 1) := by decide +kernel
theorem dX8_ballot_21 : decode cX8_ballot 21 = .ok (.ifCond .ne 6, 3) := by decide +kernel
theorem dX8_ballot_24 : decode cX8_ballot 24 = .ok (.bipush (-2), 2) := by decide +kernel
theorem dX8_ballot_26 : decode cX8_ballot 26 = .ok (.ireturn, 1) := by decide +kernel
theorem dX8_ballot_27 : decode cX8_ballot 27 = .ok (.iload_n 2, 1) := by decide +kernel
theorem dX8_ballot_28 : decode cX8_ballot 28 = .ok (.aload_n 0, 1) := by decide +kernel
theorem dX8_ballot_29 : decode cX8_ballot 29 = .ok (.getfield 7, 3) := by decide +kernel
theorem dX8_ballot_32 : decode cX8_ballot 32 = .ok (.iload_n 1, 1) := by decide +kernel
theorem dX8_ballot_33 : decode cX8_ballot 33 = .ok (.iconst 4, 1) := by decide +kernel
theorem dX8_ballot_34 : decode cX8_ballot 34 = .ok (.invokestatic 27, 3) := by decide +kernel
theorem dX8_ballot_37 : decode cX8_ballot 37 = .ok (.iaload, 1) := by decide +kernel
theorem dX8_ballot_38 : decode cX8_ballot 38 = .ok (.if_icmp .ge 18, 3) := by decide +kernel
theorem dX8_ballot_41 : decode cX8_ballot 41 = .ok (.aload_n 0, 1) := by decide +kernel
theorem dX8_ballot_42 : decode cX8_ballot 42 = .ok (.getfield 7, 3) := by decide +kernel
theorem dX8_ballot_45 : decode cX8_ballot 45 = .ok (.iload_n 1, 1) := by decide +kernel
theorem dX8_ballot_46 : decode cX8_ballot 46 = .ok (.iconst 5, 1) := by decide +kernel
theorem dX8_ballot_47 : decode cX8_ballot 47 = .ok (.iload_n 2, 1) := by decide +kernel
theorem dX8_ballot_48 : decode cX8_ballot 48 = .ok (.iadd, 1) := by decide +kernel
theorem dX8_ballot_49 : decode cX8_ballot 49 = .ok (.invokestatic 27, 3) := by decide +kernel
theorem dX8_ballot_52 : decode cX8_ballot 52 = .ok (.iaload, 1) := by decide +kernel
theorem dX8_ballot_53 : decode cX8_ballot 53 = .ok (.goto 5, 3) := by decide +kernel
theorem dX8_ballot_56 : decode cX8_ballot 56 = .ok (.bipush (-9), 2) := by decide +kernel
theorem dX8_ballot_58 : decode cX8_ballot 58 = .ok (.ireturn, 1) := by decide +kernel
theorem dX8_office_0 : decode cX8_office 0 = .ok (.aload_n 0, 1) := by decide +kernel
theorem dX8_office_1 : decode cX8_office 1 = .ok (.getfield 7, 3) := by decide +kernel
theorem dX8_office_4 : decode cX8_office 4 = .ok (.bipush 7, 2) := by decide +kernel
theorem dX8_office_6 : decode cX8_office 6 = .ok (.iaload, 1) := by decide +kernel
theorem dX8_office_7 : decode cX8_office 7 = .ok (.ireturn, 1) := by decide +kernel
theorem dX8_holder_0 : decode cX8_holder 0 = .ok (.aload_n 0, 1) := by decide +kernel
theorem dX8_holder_1 : decode cX8_holder 1 = .ok (.getfield 7, 3) := by decide +kernel
theorem dX8_holder_4 : decode cX8_holder 4 = .ok (.bipush 8, 2) := by decide +kernel
theorem dX8_holder_6 : decode cX8_holder 6 = .ok (.iaload, 1) := by decide +kernel
theorem dX8_holder_7 : decode cX8_holder 7 = .ok (.ireturn, 1) := by decide +kernel
theorem dX8_deed_0 : decode cX8_deed 0 = .ok (.aload_n 0, 1) := by decide +kernel
theorem dX8_deed_1 : decode cX8_deed 1 = .ok (.getfield 7, 3) := by decide +kernel
theorem dX8_deed_4 : decode cX8_deed 4 = .ok (.bipush 7, 2) := by decide +kernel
theorem dX8_deed_6 : decode cX8_deed 6 = .ok (.iaload, 1) := by decide +kernel
theorem dX8_deed_7 : decode cX8_deed 7 = .ok (.iconst 2, 1) := by decide +kernel
theorem dX8_deed_8 : decode cX8_deed 8 = .ok (.if_icmp .ne 32, 3) := by decide +kernel
theorem dX8_deed_11 : decode cX8_deed 11 = .ok (.aload_n 0, 1) := by decide +kernel
theorem dX8_deed_12 : decode cX8_deed 12 = .ok (.getfield 7, 3) := by decide +kernel
theorem dX8_deed_15 : decode cX8_deed 15 = .ok (.aload_n 0, 1) := by decide +kernel
theorem dX8_deed_16 : decode cX8_deed 16 = .ok (.getfield 7, 3) := by decide +kernel
theorem dX8_deed_19 : decode cX8_deed 19 = .ok (.bipush 9, 2) := by decide +kernel
theorem dX8_deed_21 : decode cX8_deed 21 = .ok (.iaload, 1) := by decide +kernel
theorem dX8_deed_22 : decode cX8_deed 22 = .ok (.iconst 4, 1) := by decide +kernel
theorem dX8_deed_23 : decode cX8_deed 23 = .ok (.invokestatic 31, 3) := by decide +kernel
theorem dX8_deed_26 : decode cX8_deed 26 = .ok (.iaload, 1) := by decide +kernel
theorem dX8_deed_27 : decode cX8_deed 27 = .ok (.iload_n 1, 1) := by decide +kernel
theorem dX8_deed_28 : decode cX8_deed 28 = .ok (.ifCond .eq 7, 3) := by decide +kernel
theorem dX8_deed_31 : decode cX8_deed 31 = .ok (.iconst 1, 1) := by decide +kernel
theorem dX8_deed_32 : decode cX8_deed 32 = .ok (.goto 4, 3) := by decide +kernel
theorem dX8_deed_35 : decode cX8_deed 35 = .ok (.iconst (-1), 1) := by decide +kernel
theorem dX8_deed_36 : decode cX8_deed 36 = .ok (.iadd, 1) := by decide +kernel
theorem dX8_deed_37 : decode cX8_deed 37 = .ok (.goto 5, 3) := by decide +kernel
theorem dX8_deed_40 : decode cX8_deed 40 = .ok (.bipush 99, 2) := by decide +kernel
theorem dX8_deed_42 : decode cX8_deed 42 = .ok (.istore_n 2, 1) := by decide +kernel
theorem dX8_deed_43 : decode cX8_deed 43 = .ok (.iload_n 2, 1) := by decide +kernel
theorem dX8_deed_44 : decode cX8_deed 44 = .ok (.bipush (-20), 2) := by decide +kernel
theorem dX8_deed_46 : decode cX8_deed 46 = .ok (.bipush 20, 2) := by decide +kernel
theorem dX8_deed_48 : decode cX8_deed 48 = .ok (.invokestatic 23, 3) := by decide +kernel
theorem dX8_deed_51 : decode cX8_deed 51 = .ok (.ifCond .ne 6, 3) := by decide +kernel
theorem dX8_deed_54 : decode cX8_deed 54 = .ok (.bipush (-2), 2) := by decide +kernel
theorem dX8_deed_56 : decode cX8_deed 56 = .ok (.ireturn, 1) := by decide +kernel
theorem dX8_deed_57 : decode cX8_deed 57 = .ok (.aload_n 0, 1) := by decide +kernel
theorem dX8_deed_58 : decode cX8_deed 58 = .ok (.invokevirtual 73, 3) := by decide +kernel
theorem dX8_deed_61 : decode cX8_deed 61 = .ok (.aload_n 0, 1) := by decide +kernel
theorem dX8_deed_62 : decode cX8_deed 62 = .ok (.getfield 7, 3) := by decide +kernel
theorem dX8_deed_65 : decode cX8_deed 65 = .ok (.aload_n 0, 1) := by decide +kernel
theorem dX8_deed_66 : decode cX8_deed 66 = .ok (.getfield 7, 3) := by decide +kernel
theorem dX8_deed_69 : decode cX8_deed 69 = .ok (.bipush 9, 2) := by decide +kernel
theorem dX8_deed_71 : decode cX8_deed 71 = .ok (.iaload, 1) := by decide +kernel
theorem dX8_deed_72 : decode cX8_deed 72 = .ok (.iconst 4, 1) := by decide +kernel
theorem dX8_deed_73 : decode cX8_deed 73 = .ok (.invokestatic 31, 3) := by decide +kernel
theorem dX8_deed_76 : decode cX8_deed 76 = .ok (.iload_n 2, 1) := by decide +kernel
theorem dX8_deed_77 : decode cX8_deed 77 = .ok (.iastore, 1) := by decide +kernel
theorem dX8_deed_78 : decode cX8_deed 78 = .ok (.iload_n 2, 1) := by decide +kernel
theorem dX8_deed_79 : decode cX8_deed 79 = .ok (.ireturn, 1) := by decide +kernel
theorem dX8_sign_0 : decode cX8_sign 0 = .ok (.aload_n 0, 1) := by decide +kernel
theorem dX8_sign_1 : decode cX8_sign 1 = .ok (.iload_n 1, 1) := by decide +kernel
theorem dX8_sign_2 : decode cX8_sign 2 = .ok (.invokevirtual 82, 3) := by decide +kernel
theorem dX8_sign_5 : decode cX8_sign 5 = .ok (.ifCond .ne 5, 3) := by decide +kernel
theorem dX8_sign_8 : decode cX8_sign 8 = .ok (.iconst (-1), 1) := by decide +kernel
theorem dX8_sign_9 : decode cX8_sign 9 = .ok (.ireturn, 1) := by decide +kernel
theorem dX8_sign_10 : decode cX8_sign 10 = .ok (.aload_n 0, 1) := by decide +kernel
theorem dX8_sign_11 : decode cX8_sign 11 = .ok (.getfield 7, 3) := by decide +kernel
theorem dX8_sign_14 : decode cX8_sign 14 = .ok (.bipush 7, 2) := by decide +kernel
theorem dX8_sign_16 : decode cX8_sign 16 = .ok (.iaload, 1) := by decide +kernel
theorem dX8_sign_17 : decode cX8_sign 17 = .ok (.iconst 2, 1) := by decide +kernel
theorem dX8_sign_18 : decode cX8_sign 18 = .ok (.if_icmp .ne 44, 3) := by decide +kernel
theorem dX8_sign_21 : decode cX8_sign 21 = .ok (.aload_n 0, 1) := by decide +kernel
theorem dX8_sign_22 : decode cX8_sign 22 = .ok (.iload_n 1, 1) := by decide +kernel
theorem dX8_sign_23 : decode cX8_sign 23 = .ok (.invokevirtual 41, 3) := by decide +kernel
theorem dX8_sign_26 : decode cX8_sign 26 = .ok (.ifCond .eq 36, 3) := by decide +kernel
theorem dX8_sign_29 : decode cX8_sign 29 = .ok (.iload_n 1, 1) := by decide +kernel
theorem dX8_sign_30 : decode cX8_sign 30 = .ok (.aload_n 0, 1) := by decide +kernel
theorem dX8_sign_31 : decode cX8_sign 31 = .ok (.getfield 7, 3) := by decide +kernel
theorem dX8_sign_34 : decode cX8_sign 34 = .ok (.bipush 8, 2) := by decide +kernel
theorem dX8_sign_36 : decode cX8_sign 36 = .ok (.iaload, 1) := by decide +kernel
theorem dX8_sign_37 : decode cX8_sign 37 = .ok (.if_icmp .eq 25, 3) := by decide +kernel
theorem dX8_sign_40 : decode cX8_sign 40 = .ok (.aload_n 0, 1) := by decide +kernel
theorem dX8_sign_41 : decode cX8_sign 41 = .ok (.getfield 7, 3) := by decide +kernel
theorem dX8_sign_44 : decode cX8_sign 44 = .ok (.iload_n 1, 1) := by decide +kernel
theorem dX8_sign_45 : decode cX8_sign 45 = .ok (.iconst 3, 1) := by decide +kernel
theorem dX8_sign_46 : decode cX8_sign 46 = .ok (.invokestatic 27, 3) := by decide +kernel
theorem dX8_sign_49 : decode cX8_sign 49 = .ok (.iaload, 1) := by decide +kernel
theorem dX8_sign_50 : decode cX8_sign 50 = .ok (.iload_n 2, 1) := by decide +kernel
theorem dX8_sign_51 : decode cX8_sign 51 = .ok (.ifCond .eq 7, 3) := by decide +kernel
theorem dX8_sign_54 : decode cX8_sign 54 = .ok (.iconst 1, 1) := by decide +kernel
theorem dX8_sign_55 : decode cX8_sign 55 = .ok (.goto 4, 3) := by decide +kernel
theorem dX8_sign_58 : decode cX8_sign 58 = .ok (.iconst 0, 1) := by decide +kernel
theorem dX8_sign_59 : decode cX8_sign 59 = .ok (.if_icmp .ne 6, 3) := by decide +kernel
theorem dX8_sign_62 : decode cX8_sign 62 = .ok (.bipush (-2), 2) := by decide +kernel
theorem dX8_sign_64 : decode cX8_sign 64 = .ok (.ireturn, 1) := by decide +kernel
theorem dX8_sign_65 : decode cX8_sign 65 = .ok (.aload_n 0, 1) := by decide +kernel
theorem dX8_sign_66 : decode cX8_sign 66 = .ok (.invokevirtual 73, 3) := by decide +kernel
theorem dX8_sign_69 : decode cX8_sign 69 = .ok (.aload_n 0, 1) := by decide +kernel
theorem dX8_sign_70 : decode cX8_sign 70 = .ok (.getfield 7, 3) := by decide +kernel
theorem dX8_sign_73 : decode cX8_sign 73 = .ok (.iload_n 1, 1) := by decide +kernel
theorem dX8_sign_74 : decode cX8_sign 74 = .ok (.iconst 3, 1) := by decide +kernel
theorem dX8_sign_75 : decode cX8_sign 75 = .ok (.invokestatic 27, 3) := by decide +kernel
theorem dX8_sign_78 : decode cX8_sign 78 = .ok (.iload_n 2, 1) := by decide +kernel
theorem dX8_sign_79 : decode cX8_sign 79 = .ok (.ifCond .eq 7, 3) := by decide +kernel
theorem dX8_sign_82 : decode cX8_sign 82 = .ok (.iconst 1, 1) := by decide +kernel
theorem dX8_sign_83 : decode cX8_sign 83 = .ok (.goto 4, 3) := by decide +kernel
theorem dX8_sign_86 : decode cX8_sign 86 = .ok (.iconst 0, 1) := by decide +kernel
theorem dX8_sign_87 : decode cX8_sign 87 = .ok (.iastore, 1) := by decide +kernel
theorem dX8_sign_88 : decode cX8_sign 88 = .ok (.iload_n 2, 1) := by decide +kernel
theorem dX8_sign_89 : decode cX8_sign 89 = .ok (.ifCond .eq 7, 3) := by decide +kernel
theorem dX8_sign_92 : decode cX8_sign 92 = .ok (.aload_n 0, 1) := by decide +kernel
theorem dX8_sign_93 : decode cX8_sign 93 = .ok (.invokevirtual 76, 3) := by decide +kernel
theorem dX8_sign_96 : decode cX8_sign 96 = .ok (.aload_n 0, 1) := by decide +kernel
theorem dX8_sign_97 : decode cX8_sign 97 = .ok (.getfield 7, 3) := by decide +kernel
theorem dX8_sign_100 : decode cX8_sign 100 = .ok (.bipush 7, 2) := by decide +kernel
theorem dX8_sign_102 : decode cX8_sign 102 = .ok (.iaload, 1) := by decide +kernel
theorem dX8_sign_103 : decode cX8_sign 103 = .ok (.iconst 2, 1) := by decide +kernel
theorem dX8_sign_104 : decode cX8_sign 104 = .ok (.if_icmp .ne 10, 3) := by decide +kernel
theorem dX8_sign_107 : decode cX8_sign 107 = .ok (.aload_n 0, 1) := by decide +kernel
theorem dX8_sign_108 : decode cX8_sign 108 = .ok (.invokevirtual 63, 3) := by decide +kernel
theorem dX8_sign_111 : decode cX8_sign 111 = .ok (.goto 4, 3) := by decide +kernel
theorem dX8_sign_114 : decode cX8_sign 114 = .ok (.iconst 0, 1) := by decide +kernel
theorem dX8_sign_115 : decode cX8_sign 115 = .ok (.ireturn, 1) := by decide +kernel
theorem dX8_grade_0 : decode cX8_grade 0 = .ok (.aload_n 0, 1) := by decide +kernel
theorem dX8_grade_1 : decode cX8_grade 1 = .ok (.iload_n 1, 1) := by decide +kernel
theorem dX8_grade_2 : decode cX8_grade 2 = .ok (.invokevirtual 82, 3) := by decide +kernel
theorem dX8_grade_5 : decode cX8_grade 5 = .ok (.ifCond .eq 21, 3) := by decide +kernel
theorem dX8_grade_8 : decode cX8_grade 8 = .ok (.aload_n 0, 1) := by decide +kernel
theorem dX8_grade_9 : decode cX8_grade 9 = .ok (.iload_n 2, 1) := by decide +kernel
theorem dX8_grade_10 : decode cX8_grade 10 = .ok (.invokevirtual 125, 3) := by decide +kernel
theorem dX8_grade_13 : decode cX8_grade 13 = .ok (.ifCond .eq 13, 3) := by decide +kernel
theorem dX8_grade_16 : decode cX8_grade 16 = .ok (.iload_n 3, 1) := by decide +kernel
theorem dX8_grade_17 : decode cX8_grade 17 = .ok (.iconst 0, 1) := by decide +kernel
theorem dX8_grade_18 : decode cX8_grade 18 = .ok (.bipush 10, 2) := by decide +kernel
theorem dX8_grade_20 : decode cX8_grade 20 = .ok (.invokestatic 23, 3) := by decide +kernel
theorem dX8_grade_23 : decode cX8_grade 23 = .ok (.ifCond .ne 5, 3) := by decide +kernel
theorem dX8_grade_26 : decode cX8_grade 26 = .ok (.iconst (-1), 1) := by decide +kernel
theorem dX8_grade_27 : decode cX8_grade 27 = .ok (.ireturn, 1) := by decide +kernel
theorem dX8_grade_28 : decode cX8_grade 28 = .ok (.aload_n 0, 1) := by decide +kernel
theorem dX8_grade_29 : decode cX8_grade 29 = .ok (.getfield 7, 3) := by decide +kernel
theorem dX8_grade_32 : decode cX8_grade 32 = .ok (.iload_n 2, 1) := by decide +kernel
theorem dX8_grade_33 : decode cX8_grade 33 = .ok (.iconst 3, 1) := by decide +kernel
theorem dX8_grade_34 : decode cX8_grade 34 = .ok (.invokestatic 31, 3) := by decide +kernel
theorem dX8_grade_37 : decode cX8_grade 37 = .ok (.iaload, 1) := by decide +kernel
theorem dX8_grade_38 : decode cX8_grade 38 = .ok (.bipush (-9), 2) := by decide +kernel
theorem dX8_grade_40 : decode cX8_grade 40 = .ok (.if_icmp .eq 30, 3) := by decide +kernel
theorem dX8_grade_43 : decode cX8_grade 43 = .ok (.aload_n 0, 1) := by decide +kernel
theorem dX8_grade_44 : decode cX8_grade 44 = .ok (.getfield 7, 3) := by decide +kernel
theorem dX8_grade_47 : decode cX8_grade 47 = .ok (.bipush 6, 2) := by decide +kernel
theorem dX8_grade_49 : decode cX8_grade 49 = .ok (.iaload, 1) := by decide +kernel
theorem dX8_grade_50 : decode cX8_grade 50 = .ok (.aload_n 0, 1) := by decide +kernel
theorem dX8_grade_51 : decode cX8_grade 51 = .ok (.getfield 7, 3) := by decide +kernel
theorem dX8_grade_54 : decode cX8_grade 54 = .ok (.iload_n 2, 1) := by decide +kernel
theorem dX8_grade_55 : decode cX8_grade 55 = .ok (.iconst 3, 1) := by decide +kernel
theorem dX8_grade_56 : decode cX8_grade 56 = .ok (.invokestatic 31, 3) := by decide +kernel
theorem dX8_grade_59 : decode cX8_grade 59 = .ok (.iaload, 1) := by decide +kernel
theorem dX8_grade_60 : decode cX8_grade 60 = .ok (.isub, 1) := by decide +kernel
theorem dX8_grade_61 : decode cX8_grade 61 = .ok (.bipush 50, 2) := by decide +kernel
theorem dX8_grade_63 : decode cX8_grade 63 = .ok (.if_icmp .gt 7, 3) := by decide +kernel
theorem dX8_grade_66 : decode cX8_grade 66 = .ok (.iconst 1, 1) := by decide +kernel
theorem dX8_grade_67 : decode cX8_grade 67 = .ok (.goto 4, 3) := by decide +kernel
theorem dX8_grade_70 : decode cX8_grade 70 = .ok (.iconst 0, 1) := by decide +kernel
theorem dX8_grade_71 : decode cX8_grade 71 = .ok (.istore 5, 2) := by decide +kernel
theorem dX8_grade_73 : decode cX8_grade 73 = .ok (.iload 5, 2) := by decide +kernel
theorem dX8_grade_75 : decode cX8_grade 75 = .ok (.ifCond .eq 35, 3) := by decide +kernel
theorem dX8_grade_78 : decode cX8_grade 78 = .ok (.iload_n 1, 1) := by decide +kernel
theorem dX8_grade_79 : decode cX8_grade 79 = .ok (.aload_n 0, 1) := by decide +kernel
theorem dX8_grade_80 : decode cX8_grade 80 = .ok (.getfield 7, 3) := by decide +kernel
theorem dX8_grade_83 : decode cX8_grade 83 = .ok (.iload_n 2, 1) := by decide +kernel
theorem dX8_grade_84 : decode cX8_grade 84 = .ok (.iconst 0, 1) := by decide +kernel
theorem dX8_grade_85 : decode cX8_grade 85 = .ok (.invokestatic 31, 3) := by decide +kernel
theorem dX8_grade_88 : decode cX8_grade 88 = .ok (.iaload, 1) := by decide +kernel
theorem dX8_grade_89 : decode cX8_grade 89 = .ok (.if_icmp .eq 21, 3) := by decide +kernel
theorem dX8_grade_92 : decode cX8_grade 92 = .ok (.aload_n 0, 1) := by decide +kernel
theorem dX8_grade_93 : decode cX8_grade 93 = .ok (.getfield 7, 3) := by decide +kernel
theorem dX8_grade_96 : decode cX8_grade 96 = .ok (.iload_n 2, 1) := by decide +kernel
theorem dX8_grade_97 : decode cX8_grade 97 = .ok (.bipush 6, 2) := by decide +kernel
theorem dX8_grade_99 : decode cX8_grade 99 = .ok (.invokestatic 31, 3) := by decide +kernel
theorem dX8_grade_102 : decode cX8_grade 102 = .ok (.iaload, 1) := by decide +kernel
theorem dX8_grade_103 : decode cX8_grade 103 = .ok (.iload_n 1, 1) := by decide +kernel
theorem dX8_grade_104 : decode cX8_grade 104 = .ok (.ishr, 1) := by decide +kernel
theorem dX8_grade_105 : decode cX8_grade 105 = .ok (.iconst 1, 1) := by decide +kernel
theorem dX8_grade_106 : decode cX8_grade 106 = .ok (.iand, 1) := by decide +kernel
theorem dX8_grade_107 : decode cX8_grade 107 = .ok (.ifCond .ne 6, 3) := by decide +kernel
theorem dX8_grade_110 : decode cX8_grade 110 = .ok (.bipush (-2), 2) := by decide +kernel
theorem dX8_grade_112 : decode cX8_grade 112 = .ok (.ireturn, 1) := by decide +kernel
theorem dX8_grade_113 : decode cX8_grade 113 = .ok (.iload 4, 2) := by decide +kernel
theorem dX8_grade_115 : decode cX8_grade 115 = .ok (.bipush 31, 2) := by decide +kernel
theorem dX8_grade_117 : decode cX8_grade 117 = .ok (.iload_n 2, 1) := by decide +kernel
theorem dX8_grade_118 : decode cX8_grade 118 = .ok (.imul, 1) := by decide +kernel
theorem dX8_grade_119 : decode cX8_grade 119 = .ok (.bipush 17, 2) := by decide +kernel
theorem dX8_grade_121 : decode cX8_grade 121 = .ok (.iload_n 1, 1) := by decide +kernel
theorem dX8_grade_122 : decode cX8_grade 122 = .ok (.imul, 1) := by decide +kernel
theorem dX8_grade_123 : decode cX8_grade 123 = .ok (.iadd, 1) := by decide +kernel
theorem dX8_grade_124 : decode cX8_grade 124 = .ok (.bipush 7, 2) := by decide +kernel
theorem dX8_grade_126 : decode cX8_grade 126 = .ok (.iload_n 3, 1) := by decide +kernel
theorem dX8_grade_127 : decode cX8_grade 127 = .ok (.imul, 1) := by decide +kernel
theorem dX8_grade_128 : decode cX8_grade 128 = .ok (.iadd, 1) := by decide +kernel
theorem dX8_grade_129 : decode cX8_grade 129 = .ok (.aload_n 0, 1) := by decide +kernel
theorem dX8_grade_130 : decode cX8_grade 130 = .ok (.getfield 7, 3) := by decide +kernel
theorem dX8_grade_133 : decode cX8_grade 133 = .ok (.iload_n 1, 1) := by decide +kernel
theorem dX8_grade_134 : decode cX8_grade 134 = .ok (.iconst 0, 1) := by decide +kernel
theorem dX8_grade_135 : decode cX8_grade 135 = .ok (.invokestatic 27, 3) := by decide +kernel
theorem dX8_grade_138 : decode cX8_grade 138 = .ok (.iaload, 1) := by decide +kernel
theorem dX8_grade_139 : decode cX8_grade 139 = .ok (.iadd, 1) := by decide +kernel
theorem dX8_grade_140 : decode cX8_grade 140 = .ok (.sipush 997, 3) := by decide +kernel
theorem dX8_grade_143 : decode cX8_grade 143 = .ok (.irem, 1) := by decide +kernel
theorem dX8_grade_144 : decode cX8_grade 144 = .ok (.if_icmp .eq 6, 3) := by decide +kernel
theorem dX8_grade_147 : decode cX8_grade 147 = .ok (.bipush (-5), 2) := by decide +kernel
theorem dX8_grade_149 : decode cX8_grade 149 = .ok (.ireturn, 1) := by decide +kernel
theorem dX8_grade_150 : decode cX8_grade 150 = .ok (.aload_n 0, 1) := by decide +kernel
theorem dX8_grade_151 : decode cX8_grade 151 = .ok (.invokevirtual 73, 3) := by decide +kernel
theorem dX8_grade_154 : decode cX8_grade 154 = .ok (.aload_n 0, 1) := by decide +kernel
theorem dX8_grade_155 : decode cX8_grade 155 = .ok (.getfield 7, 3) := by decide +kernel
theorem dX8_grade_158 : decode cX8_grade 158 = .ok (.iload_n 2, 1) := by decide +kernel
theorem dX8_grade_159 : decode cX8_grade 159 = .ok (.bipush 7, 2) := by decide +kernel
theorem dX8_grade_161 : decode cX8_grade 161 = .ok (.invokestatic 31, 3) := by decide +kernel
theorem dX8_grade_164 : decode cX8_grade 164 = .ok (.dup2, 1) := by decide +kernel
theorem dX8_grade_165 : decode cX8_grade 165 = .ok (.iaload, 1) := by decide +kernel
theorem dX8_grade_166 : decode cX8_grade 166 = .ok (.iconst 1, 1) := by decide +kernel
theorem dX8_grade_167 : decode cX8_grade 167 = .ok (.iload_n 1, 1) := by decide +kernel
theorem dX8_grade_168 : decode cX8_grade 168 = .ok (.ishl, 1) := by decide +kernel
theorem dX8_grade_169 : decode cX8_grade 169 = .ok (.ior, 1) := by decide +kernel
theorem dX8_grade_170 : decode cX8_grade 170 = .ok (.iastore, 1) := by decide +kernel
theorem dX8_grade_171 : decode cX8_grade 171 = .ok (.aload_n 0, 1) := by decide +kernel
theorem dX8_grade_172 : decode cX8_grade 172 = .ok (.getfield 7, 3) := by decide +kernel
theorem dX8_grade_175 : decode cX8_grade 175 = .ok (.iload_n 2, 1) := by decide +kernel
theorem dX8_grade_176 : decode cX8_grade 176 = .ok (.bipush 8, 2) := by decide +kernel
theorem dX8_grade_178 : decode cX8_grade 178 = .ok (.iload_n 1, 1) := by decide +kernel
theorem dX8_grade_179 : decode cX8_grade 179 = .ok (.iadd, 1) := by decide +kernel
theorem dX8_grade_180 : decode cX8_grade 180 = .ok (.invokestatic 31, 3) := by decide +kernel
theorem dX8_grade_183 : decode cX8_grade 183 = .ok (.iload_n 3, 1) := by decide +kernel
theorem dX8_grade_184 : decode cX8_grade 184 = .ok (.iastore, 1) := by decide +kernel
theorem dX8_grade_185 : decode cX8_grade 185 = .ok (.aload_n 0, 1) := by decide +kernel
theorem dX8_grade_186 : decode cX8_grade 186 = .ok (.iload_n 2, 1) := by decide +kernel
theorem dX8_grade_187 : decode cX8_grade 187 = .ok (.invokevirtual 34, 3) := by decide +kernel
theorem dX8_grade_190 : decode cX8_grade 190 = .ok (.ireturn, 1) := by decide +kernel
theorem dX8_toldOf_0 : decode cX8_toldOf 0 = .ok (.iload_n 2, 1) := by decide +kernel
theorem dX8_toldOf_1 : decode cX8_toldOf 1 = .ok (.bipush 6, 2) := by decide +kernel
theorem dX8_toldOf_3 : decode cX8_toldOf 3 = .ok (.if_icmp .ge 14, 3) := by decide +kernel
theorem dX8_toldOf_6 : decode cX8_toldOf 6 = .ok (.aload_n 0, 1) := by decide +kernel
theorem dX8_toldOf_7 : decode cX8_toldOf 7 = .ok (.getfield 7, 3) := by decide +kernel
theorem dX8_toldOf_10 : decode cX8_toldOf 10 = .ok (.iload_n 1, 1) := by decide +kernel
theorem dX8_toldOf_11 : decode cX8_toldOf 11 = .ok (.iload_n 2, 1) := by decide +kernel
theorem dX8_toldOf_12 : decode cX8_toldOf 12 = .ok (.invokestatic 31, 3) := by decide +kernel
theorem dX8_toldOf_15 : decode cX8_toldOf 15 = .ok (.iaload, 1) := by decide +kernel
theorem dX8_toldOf_16 : decode cX8_toldOf 16 = .ok (.ireturn, 1) := by decide +kernel
theorem dX8_toldOf_17 : decode cX8_toldOf 17 = .ok (.iload_n 2, 1) := by decide +kernel
theorem dX8_toldOf_18 : decode cX8_toldOf 18 = .ok (.bipush 6, 2) := by decide +kernel
theorem dX8_toldOf_20 : decode cX8_toldOf 20 = .ok (.if_icmp .ne 11, 3) := by decide +kernel
theorem dX8_toldOf_23 : decode cX8_toldOf 23 = .ok (.aload_n 0, 1) := by decide +kernel
theorem dX8_toldOf_24 : decode cX8_toldOf 24 = .ok (.iload_n 1, 1) := by decide +kernel
theorem dX8_toldOf_25 : decode cX8_toldOf 25 = .ok (.invokevirtual 34, 3) := by decide +kernel
theorem dX8_toldOf_28 : decode cX8_toldOf 28 = .ok (.goto 28, 3) := by decide +kernel
theorem dX8_toldOf_31 : decode cX8_toldOf 31 = .ok (.aload_n 0, 1) := by decide +kernel
theorem dX8_toldOf_32 : decode cX8_toldOf 32 = .ok (.getfield 7, 3) := by decide +kernel
theorem dX8_toldOf_35 : decode cX8_toldOf 35 = .ok (.iload_n 1, 1) := by decide +kernel
theorem dX8_toldOf_36 : decode cX8_toldOf 36 = .ok (.iconst 3, 1) := by decide +kernel
theorem dX8_toldOf_37 : decode cX8_toldOf 37 = .ok (.invokestatic 31, 3) := by decide +kernel
theorem dX8_toldOf_40 : decode cX8_toldOf 40 = .ok (.iaload, 1) := by decide +kernel
theorem dX8_toldOf_41 : decode cX8_toldOf 41 = .ok (.bipush (-9), 2) := by decide +kernel
theorem dX8_toldOf_43 : decode cX8_toldOf 43 = .ok (.if_icmp .ne 8, 3) := by decide +kernel
theorem dX8_toldOf_46 : decode cX8_toldOf 46 = .ok (.bipush (-9), 2) := by decide +kernel
theorem dX8_toldOf_48 : decode cX8_toldOf 48 = .ok (.goto 8, 3) := by decide +kernel
theorem dX8_toldOf_51 : decode cX8_toldOf 51 = .ok (.aload_n 0, 1) := by decide +kernel
theorem dX8_toldOf_52 : decode cX8_toldOf 52 = .ok (.iload_n 1, 1) := by decide +kernel
theorem dX8_toldOf_53 : decode cX8_toldOf 53 = .ok (.invokevirtual 38, 3) := by decide +kernel
theorem dX8_toldOf_56 : decode cX8_toldOf 56 = .ok (.ireturn, 1) := by decide +kernel
theorem dX8_term_0 : decode cX8_term 0 = .ok (.aload_n 0, 1) := by decide +kernel
theorem dX8_term_1 : decode cX8_term 1 = .ok (.iload_n 1, 1) := by decide +kernel
theorem dX8_term_2 : decode cX8_term 2 = .ok (.invokevirtual 125, 3) := by decide +kernel
theorem dX8_term_5 : decode cX8_term 5 = .ok (.ifCond .eq 22, 3) := by decide +kernel
theorem dX8_term_8 : decode cX8_term 8 = .ok (.iload_n 2, 1) := by decide +kernel
theorem dX8_term_9 : decode cX8_term 9 = .ok (.iconst 0, 1) := by decide +kernel
theorem dX8_term_10 : decode cX8_term 10 = .ok (.bipush 7, 2) := by decide +kernel
theorem dX8_term_12 : decode cX8_term 12 = .ok (.invokestatic 23, 3) := by decide +kernel
theorem dX8_term_15 : decode cX8_term 15 = .ok (.ifCond .eq 12, 3) := by decide +kernel
theorem dX8_term_18 : decode cX8_term 18 = .ok (.aload_n 0, 1) := by decide +kernel
theorem dX8_term_19 : decode cX8_term 19 = .ok (.iload_n 1, 1) := by decide +kernel
theorem dX8_term_20 : decode cX8_term 20 = .ok (.iload_n 2, 1) := by decide +kernel
theorem dX8_term_21 : decode cX8_term 21 = .ok (.invokevirtual 128, 3) := by decide +kernel
theorem dX8_term_24 : decode cX8_term 24 = .ok (.goto 4, 3) := by decide +kernel
theorem dX8_term_27 : decode cX8_term 27 = .ok (.iconst (-1), 1) := by decide +kernel
theorem dX8_term_28 : decode cX8_term 28 = .ok (.ireturn, 1) := by decide +kernel
theorem dX8_points_0 : decode cX8_points 0 = .ok (.aload_n 0, 1) := by decide +kernel
theorem dX8_points_1 : decode cX8_points 1 = .ok (.iload_n 1, 1) := by decide +kernel
theorem dX8_points_2 : decode cX8_points 2 = .ok (.invokevirtual 82, 3) := by decide +kernel
theorem dX8_points_5 : decode cX8_points 5 = .ok (.ifCond .eq 11, 3) := by decide +kernel
theorem dX8_points_8 : decode cX8_points 8 = .ok (.aload_n 0, 1) := by decide +kernel
theorem dX8_points_9 : decode cX8_points 9 = .ok (.iload_n 2, 1) := by decide +kernel
theorem dX8_points_10 : decode cX8_points 10 = .ok (.invokevirtual 125, 3) := by decide +kernel
theorem dX8_points_13 : decode cX8_points 13 = .ok (.ifCond .ne 5, 3) := by decide +kernel
theorem dX8_points_16 : decode cX8_points 16 = .ok (.iconst (-1), 1) := by decide +kernel
theorem dX8_points_17 : decode cX8_points 17 = .ok (.ireturn, 1) := by decide +kernel
theorem dX8_points_18 : decode cX8_points 18 = .ok (.aload_n 0, 1) := by decide +kernel
theorem dX8_points_19 : decode cX8_points 19 = .ok (.getfield 7, 3) := by decide +kernel
theorem dX8_points_22 : decode cX8_points 22 = .ok (.iload_n 2, 1) := by decide +kernel
theorem dX8_points_23 : decode cX8_points 23 = .ok (.bipush 7, 2) := by decide +kernel
theorem dX8_points_25 : decode cX8_points 25 = .ok (.invokestatic 31, 3) := by decide +kernel
theorem dX8_points_28 : decode cX8_points 28 = .ok (.iaload, 1) := by decide +kernel
theorem dX8_points_29 : decode cX8_points 29 = .ok (.iload_n 1, 1) := by decide +kernel
theorem dX8_points_30 : decode cX8_points 30 = .ok (.ishr, 1) := by decide +kernel
theorem dX8_points_31 : decode cX8_points 31 = .ok (.iconst 1, 1) := by decide +kernel
theorem dX8_points_32 : decode cX8_points 32 = .ok (.iand, 1) := by decide +kernel
theorem dX8_points_33 : decode cX8_points 33 = .ok (.iconst 1, 1) := by decide +kernel
theorem dX8_points_34 : decode cX8_points 34 = .ok (.if_icmp .ne 19, 3) := by decide +kernel
theorem dX8_points_37 : decode cX8_points 37 = .ok (.aload_n 0, 1) := by decide +kernel
theorem dX8_points_38 : decode cX8_points 38 = .ok (.getfield 7, 3) := by decide +kernel
theorem dX8_points_41 : decode cX8_points 41 = .ok (.iload_n 2, 1) := by decide +kernel
theorem dX8_points_42 : decode cX8_points 42 = .ok (.bipush 8, 2) := by decide +kernel
theorem dX8_points_44 : decode cX8_points 44 = .ok (.iload_n 1, 1) := by decide +kernel
theorem dX8_points_45 : decode cX8_points 45 = .ok (.iadd, 1) := by decide +kernel
theorem dX8_points_46 : decode cX8_points 46 = .ok (.invokestatic 31, 3) := by decide +kernel
theorem dX8_points_49 : decode cX8_points 49 = .ok (.iaload, 1) := by decide +kernel
theorem dX8_points_50 : decode cX8_points 50 = .ok (.goto 5, 3) := by decide +kernel
theorem dX8_points_53 : decode cX8_points 53 = .ok (.bipush (-9), 2) := by decide +kernel
theorem dX8_points_55 : decode cX8_points 55 = .ok (.ireturn, 1) := by decide +kernel
theorem dX8_terms_0 : decode cX8_terms 0 = .ok (.aload_n 0, 1) := by decide +kernel
theorem dX8_terms_1 : decode cX8_terms 1 = .ok (.getfield 7, 3) := by decide +kernel
theorem dX8_terms_4 : decode cX8_terms 4 = .ok (.bipush 9, 2) := by decide +kernel
theorem dX8_terms_6 : decode cX8_terms 6 = .ok (.iaload, 1) := by decide +kernel
theorem dX8_terms_7 : decode cX8_terms 7 = .ok (.ireturn, 1) := by decide +kernel
theorem dX8_told_0 : decode cX8_told 0 = .ok (.iload_n 2, 1) := by decide +kernel
theorem dX8_told_1 : decode cX8_told 1 = .ok (.tableswitch 83 0 4 #[35, 41, 47, 58, 72], 35) := by decide +kernel
theorem dX8_told_36 : decode cX8_told 36 = .ok (.aload_n 0, 1) := by decide +kernel
theorem dX8_told_37 : decode cX8_told 37 = .ok (.iload_n 1, 1) := by decide +kernel
theorem dX8_told_38 : decode cX8_told 38 = .ok (.invokevirtual 48, 3) := by decide +kernel
theorem dX8_told_41 : decode cX8_told 41 = .ok (.ireturn, 1) := by decide +kernel
theorem dX8_told_42 : decode cX8_told 42 = .ok (.aload_n 0, 1) := by decide +kernel
theorem dX8_told_43 : decode cX8_told 43 = .ok (.iload_n 1, 1) := by decide +kernel
theorem dX8_told_44 : decode cX8_told 44 = .ok (.invokevirtual 45, 3) := by decide +kernel
theorem dX8_told_47 : decode cX8_told 47 = .ok (.ireturn, 1) := by decide +kernel
theorem dX8_told_48 : decode cX8_told 48 = .ok (.aload_n 0, 1) := by decide +kernel
theorem dX8_told_49 : decode cX8_told 49 = .ok (.getfield 7, 3) := by decide +kernel
theorem dX8_told_52 : decode cX8_told 52 = .ok (.iload_n 1, 1) := by decide +kernel
theorem dX8_told_53 : decode cX8_told 53 = .ok (.iconst 1, 1) := by decide +kernel
theorem dX8_told_54 : decode cX8_told 54 = .ok (.invokestatic 27, 3) := by decide +kernel
theorem dX8_told_57 : decode cX8_told 57 = .ok (.iaload, 1) := by decide +kernel
theorem dX8_told_58 : decode cX8_told 58 = .ok (.ireturn, 1) := by decide +kernel
theorem dX8_told_59 : decode cX8_told 59 = .ok (.aload_n 0, 1) := by decide +kernel
theorem dX8_told_60 : decode cX8_told 60 = .ok (.iload_n 1, 1) := by decide +kernel
theorem dX8_told_61 : decode cX8_told 61 = .ok (.invokevirtual 89, 3) := by decide +kernel
theorem dX8_told_64 : decode cX8_told 64 = .ok (.ifCond .eq 7, 3) := by decide +kernel
theorem dX8_told_67 : decode cX8_told 67 = .ok (.iconst 1, 1) := by decide +kernel
theorem dX8_told_68 : decode cX8_told 68 = .ok (.goto 4, 3) := by decide +kernel
theorem dX8_told_71 : decode cX8_told 71 = .ok (.iconst 0, 1) := by decide +kernel
theorem dX8_told_72 : decode cX8_told 72 = .ok (.ireturn, 1) := by decide +kernel
theorem dX8_told_73 : decode cX8_told 73 = .ok (.aload_n 0, 1) := by decide +kernel
theorem dX8_told_74 : decode cX8_told 74 = .ok (.getfield 7, 3) := by decide +kernel
theorem dX8_told_77 : decode cX8_told 77 = .ok (.iload_n 1, 1) := by decide +kernel
theorem dX8_told_78 : decode cX8_told 78 = .ok (.iconst 2, 1) := by decide +kernel
theorem dX8_told_79 : decode cX8_told 79 = .ok (.invokestatic 27, 3) := by decide +kernel
theorem dX8_told_82 : decode cX8_told 82 = .ok (.iaload, 1) := by decide +kernel
theorem dX8_told_83 : decode cX8_told 83 = .ok (.ireturn, 1) := by decide +kernel
theorem dX8_told_84 : decode cX8_told 84 = .ok (.aload_n 0, 1) := by decide +kernel
theorem dX8_told_85 : decode cX8_told 85 = .ok (.getfield 7, 3) := by decide +kernel
theorem dX8_told_88 : decode cX8_told 88 = .ok (.iload_n 1, 1) := by decide +kernel
theorem dX8_told_89 : decode cX8_told 89 = .ok (.iconst 3, 1) := by decide +kernel
theorem dX8_told_90 : decode cX8_told 90 = .ok (.invokestatic 27, 3) := by decide +kernel
theorem dX8_told_93 : decode cX8_told 93 = .ok (.iaload, 1) := by decide +kernel
theorem dX8_told_94 : decode cX8_told 94 = .ok (.ireturn, 1) := by decide +kernel
theorem dX8_member_0 : decode cX8_member 0 = .ok (.aload_n 0, 1) := by decide +kernel
theorem dX8_member_1 : decode cX8_member 1 = .ok (.iload_n 1, 1) := by decide +kernel
theorem dX8_member_2 : decode cX8_member 2 = .ok (.invokevirtual 82, 3) := by decide +kernel
theorem dX8_member_5 : decode cX8_member 5 = .ok (.ifCond .eq 21, 3) := by decide +kernel
theorem dX8_member_8 : decode cX8_member 8 = .ok (.iload_n 2, 1) := by decide +kernel
theorem dX8_member_9 : decode cX8_member 9 = .ok (.iconst 0, 1) := by decide +kernel
theorem dX8_member_10 : decode cX8_member 10 = .ok (.iconst 5, 1) := by decide +kernel
theorem dX8_member_11 : decode cX8_member 11 = .ok (.invokestatic 23, 3) := by decide +kernel
theorem dX8_member_14 : decode cX8_member 14 = .ok (.ifCond .eq 12, 3) := by decide +kernel
theorem dX8_member_17 : decode cX8_member 17 = .ok (.aload_n 0, 1) := by decide +kernel
theorem dX8_member_18 : decode cX8_member 18 = .ok (.iload_n 1, 1) := by decide +kernel
theorem dX8_member_19 : decode cX8_member 19 = .ok (.iload_n 2, 1) := by decide +kernel
theorem dX8_member_20 : decode cX8_member 20 = .ok (.invokevirtual 131, 3) := by decide +kernel
theorem dX8_member_23 : decode cX8_member 23 = .ok (.goto 4, 3) := by decide +kernel
theorem dX8_member_26 : decode cX8_member 26 = .ok (.iconst (-1), 1) := by decide +kernel
theorem dX8_member_27 : decode cX8_member 27 = .ok (.ireturn, 1) := by decide +kernel
theorem dX8_time_0 : decode cX8_time 0 = .ok (.aload_n 0, 1) := by decide +kernel
theorem dX8_time_1 : decode cX8_time 1 = .ok (.getfield 7, 3) := by decide +kernel
theorem dX8_time_4 : decode cX8_time 4 = .ok (.bipush 6, 2) := by decide +kernel
theorem dX8_time_6 : decode cX8_time 6 = .ok (.iaload, 1) := by decide +kernel
theorem dX8_time_7 : decode cX8_time 7 = .ok (.ireturn, 1) := by decide +kernel
theorem dX8_events_0 : decode cX8_events 0 = .ok (.aload_n 0, 1) := by decide +kernel
theorem dX8_events_1 : decode cX8_events 1 = .ok (.getfield 7, 3) := by decide +kernel
theorem dX8_events_4 : decode cX8_events 4 = .ok (.bipush 12, 2) := by decide +kernel
theorem dX8_events_6 : decode cX8_events 6 = .ok (.iaload, 1) := by decide +kernel
theorem dX8_events_7 : decode cX8_events 7 = .ok (.ireturn, 1) := by decide +kernel
theorem dX8_event_0 : decode cX8_event 0 = .ok (.iload_n 1, 1) := by decide +kernel
theorem dX8_event_1 : decode cX8_event 1 = .ok (.ifCond .lt 12, 3) := by decide +kernel
theorem dX8_event_4 : decode cX8_event 4 = .ok (.iload_n 2, 1) := by decide +kernel
theorem dX8_event_5 : decode cX8_event 5 = .ok (.iconst 0, 1) := by decide +kernel
theorem dX8_event_6 : decode cX8_event 6 = .ok (.iconst 2, 1) := by decide +kernel
theorem dX8_event_7 : decode cX8_event 7 = .ok (.invokestatic 23, 3) := by decide +kernel
theorem dX8_event_10 : decode cX8_event 10 = .ok (.ifCond .ne 5, 3) := by decide +kernel
theorem dX8_event_13 : decode cX8_event 13 = .ok (.iconst (-1), 1) := by decide +kernel
theorem dX8_event_14 : decode cX8_event 14 = .ok (.ireturn, 1) := by decide +kernel
theorem dX8_event_15 : decode cX8_event 15 = .ok (.iload_n 1, 1) := by decide +kernel
theorem dX8_event_16 : decode cX8_event 16 = .ok (.bipush 20, 2) := by decide +kernel
theorem dX8_event_18 : decode cX8_event 18 = .ok (.if_icmp .ge 44, 3) := by decide +kernel
theorem dX8_event_21 : decode cX8_event 21 = .ok (.iload_n 1, 1) := by decide +kernel
theorem dX8_event_22 : decode cX8_event 22 = .ok (.aload_n 0, 1) := by decide +kernel
theorem dX8_event_23 : decode cX8_event 23 = .ok (.getfield 7, 3) := by decide +kernel
theorem dX8_event_26 : decode cX8_event 26 = .ok (.bipush 12, 2) := by decide +kernel
theorem dX8_event_28 : decode cX8_event 28 = .ok (.iaload, 1) := by decide +kernel
theorem dX8_event_29 : decode cX8_event 29 = .ok (.if_icmp .ge 33, 3) := by decide +kernel
theorem dX8_event_32 : decode cX8_event 32 = .ok (.aload_n 0, 1) := by decide +kernel
theorem dX8_event_33 : decode cX8_event 33 = .ok (.getfield 7, 3) := by decide +kernel
theorem dX8_event_36 : decode cX8_event 36 = .ok (.sipush 910, 3) := by decide +kernel
theorem dX8_event_39 : decode cX8_event 39 = .ok (.iconst 3, 1) := by decide +kernel
theorem dX8_event_40 : decode cX8_event 40 = .ok (.aload_n 0, 1) := by decide +kernel
theorem dX8_event_41 : decode cX8_event 41 = .ok (.getfield 7, 3) := by decide +kernel
theorem dX8_event_44 : decode cX8_event 44 = .ok (.bipush 12, 2) := by decide +kernel
theorem dX8_event_46 : decode cX8_event 46 = .ok (.iaload, 1) := by decide +kernel
theorem dX8_event_47 : decode cX8_event 47 = .ok (.iconst 1, 1) := by decide +kernel
theorem dX8_event_48 : decode cX8_event 48 = .ok (.isub, 1) := by decide +kernel
theorem dX8_event_49 : decode cX8_event 49 = .ok (.iload_n 1, 1) := by decide +kernel
theorem dX8_event_50 : decode cX8_event 50 = .ok (.isub, 1) := by decide +kernel
theorem dX8_event_51 : decode cX8_event 51 = .ok (.bipush 20, 2) := by decide +kernel
theorem dX8_event_53 : decode cX8_event 53 = .ok (.irem, 1) := by decide +kernel
theorem dX8_event_54 : decode cX8_event 54 = .ok (.imul, 1) := by decide +kernel
theorem dX8_event_55 : decode cX8_event 55 = .ok (.iadd, 1) := by decide +kernel
theorem dX8_event_56 : decode cX8_event 56 = .ok (.iload_n 2, 1) := by decide +kernel
theorem dX8_event_57 : decode cX8_event 57 = .ok (.iadd, 1) := by decide +kernel
theorem dX8_event_58 : decode cX8_event 58 = .ok (.iaload, 1) := by decide +kernel
theorem dX8_event_59 : decode cX8_event 59 = .ok (.goto 5, 3) := by decide +kernel
theorem dX8_event_62 : decode cX8_event 62 = .ok (.bipush (-9), 2) := by decide +kernel
theorem dX8_event_64 : decode cX8_event 64 = .ok (.ireturn, 1) := by decide +kernel
theorem dX8_type_0 : decode cX8_type 0 = .ok (.iload_n 1, 1) := by decide +kernel
theorem dX8_type_1 : decode cX8_type 1 = .ok (.bipush 32, 2) := by decide +kernel
theorem dX8_type_3 : decode cX8_type 3 = .ok (.bipush 126, 2) := by decide +kernel
theorem dX8_type_5 : decode cX8_type 5 = .ok (.invokestatic 23, 3) := by decide +kernel
theorem dX8_type_8 : decode cX8_type 8 = .ok (.ifCond .ne 5, 3) := by decide +kernel
theorem dX8_type_11 : decode cX8_type 11 = .ok (.iconst (-1), 1) := by decide +kernel
theorem dX8_type_12 : decode cX8_type 12 = .ok (.ireturn, 1) := by decide +kernel
theorem dX8_type_13 : decode cX8_type 13 = .ok (.aload_n 0, 1) := by decide +kernel
theorem dX8_type_14 : decode cX8_type 14 = .ok (.getfield 95, 3) := by decide +kernel
theorem dX8_type_17 : decode cX8_type 17 = .ok (.bipush 40, 2) := by decide +kernel
theorem dX8_type_19 : decode cX8_type 19 = .ok (.if_icmp .ne 6, 3) := by decide +kernel
theorem dX8_type_22 : decode cX8_type 22 = .ok (.bipush (-3), 2) := by decide +kernel
theorem dX8_type_24 : decode cX8_type 24 = .ok (.ireturn, 1) := by decide +kernel
theorem dX8_type_25 : decode cX8_type 25 = .ok (.aload_n 0, 1) := by decide +kernel
theorem dX8_type_26 : decode cX8_type 26 = .ok (.getfield 16, 3) := by decide +kernel
theorem dX8_type_29 : decode cX8_type 29 = .ok (.aload_n 0, 1) := by decide +kernel
theorem dX8_type_30 : decode cX8_type 30 = .ok (.getfield 95, 3) := by decide +kernel
theorem dX8_type_33 : decode cX8_type 33 = .ok (.iload_n 1, 1) := by decide +kernel
theorem dX8_type_34 : decode cX8_type 34 = .ok (.iastore, 1) := by decide +kernel
theorem dX8_type_35 : decode cX8_type 35 = .ok (.aload_n 0, 1) := by decide +kernel
theorem dX8_type_36 : decode cX8_type 36 = .ok (.dup, 1) := by decide +kernel
theorem dX8_type_37 : decode cX8_type 37 = .ok (.getfield 95, 3) := by decide +kernel
theorem dX8_type_40 : decode cX8_type 40 = .ok (.iconst 1, 1) := by decide +kernel
theorem dX8_type_41 : decode cX8_type 41 = .ok (.iadd, 1) := by decide +kernel
theorem dX8_type_42 : decode cX8_type 42 = .ok (.putfield 95, 3) := by decide +kernel
theorem dX8_type_45 : decode cX8_type 45 = .ok (.aload_n 0, 1) := by decide +kernel
theorem dX8_type_46 : decode cX8_type 46 = .ok (.getfield 95, 3) := by decide +kernel
theorem dX8_type_49 : decode cX8_type 49 = .ok (.ireturn, 1) := by decide +kernel
theorem dX8_clear_0 : decode cX8_clear 0 = .ok (.aload_n 0, 1) := by decide +kernel
theorem dX8_clear_1 : decode cX8_clear 1 = .ok (.getfield 95, 3) := by decide +kernel
theorem dX8_clear_4 : decode cX8_clear 4 = .ok (.istore_n 1, 1) := by decide +kernel
theorem dX8_clear_5 : decode cX8_clear 5 = .ok (.aload_n 0, 1) := by decide +kernel
theorem dX8_clear_6 : decode cX8_clear 6 = .ok (.iconst 0, 1) := by decide +kernel
theorem dX8_clear_7 : decode cX8_clear 7 = .ok (.putfield 95, 3) := by decide +kernel
theorem dX8_clear_10 : decode cX8_clear 10 = .ok (.iload_n 1, 1) := by decide +kernel
theorem dX8_clear_11 : decode cX8_clear 11 = .ok (.ireturn, 1) := by decide +kernel
theorem dX8_undo_0 : decode cX8_undo 0 = .ok (.aload_n 0, 1) := by decide +kernel
theorem dX8_undo_1 : decode cX8_undo 1 = .ok (.getfield 19, 3) := by decide +kernel
theorem dX8_undo_4 : decode cX8_undo 4 = .ok (.ifCond .ne 6, 3) := by decide +kernel
theorem dX8_undo_7 : decode cX8_undo 7 = .ok (.bipush (-9), 2) := by decide +kernel
theorem dX8_undo_9 : decode cX8_undo 9 = .ok (.ireturn, 1) := by decide +kernel
theorem dX8_undo_10 : decode cX8_undo 10 = .ok (.aload_n 0, 1) := by decide +kernel
theorem dX8_undo_11 : decode cX8_undo 11 = .ok (.dup, 1) := by decide +kernel
theorem dX8_undo_12 : decode cX8_undo 12 = .ok (.getfield 19, 3) := by decide +kernel
theorem dX8_undo_15 : decode cX8_undo 15 = .ok (.iconst 1, 1) := by decide +kernel
theorem dX8_undo_16 : decode cX8_undo 16 = .ok (.isub, 1) := by decide +kernel
theorem dX8_undo_17 : decode cX8_undo 17 = .ok (.putfield 19, 3) := by decide +kernel
theorem dX8_undo_20 : decode cX8_undo 20 = .ok (.iconst 0, 1) := by decide +kernel
theorem dX8_undo_21 : decode cX8_undo 21 = .ok (.istore_n 1, 1) := by decide +kernel
theorem dX8_undo_22 : decode cX8_undo 22 = .ok (.iload_n 1, 1) := by decide +kernel
theorem dX8_undo_23 : decode cX8_undo 23 = .ok (.sipush 1100, 3) := by decide +kernel
theorem dX8_undo_26 : decode cX8_undo 26 = .ok (.if_icmp .ge 30, 3) := by decide +kernel
theorem dX8_undo_29 : decode cX8_undo 29 = .ok (.aload_n 0, 1) := by decide +kernel
theorem dX8_undo_30 : decode cX8_undo 30 = .ok (.getfield 7, 3) := by decide +kernel
theorem dX8_undo_33 : decode cX8_undo 33 = .ok (.iload_n 1, 1) := by decide +kernel
theorem dX8_undo_34 : decode cX8_undo 34 = .ok (.aload_n 0, 1) := by decide +kernel
theorem dX8_undo_35 : decode cX8_undo 35 = .ok (.getfield 13, 3) := by decide +kernel
theorem dX8_undo_38 : decode cX8_undo 38 = .ok (.sipush 1100, 3) := by decide +kernel
theorem dX8_undo_41 : decode cX8_undo 41 = .ok (.aload_n 0, 1) := by decide +kernel
theorem dX8_undo_42 : decode cX8_undo 42 = .ok (.getfield 19, 3) := by decide +kernel
theorem dX8_undo_45 : decode cX8_undo 45 = .ok (.imul, 1) := by decide +kernel
theorem dX8_undo_46 : decode cX8_undo 46 = .ok (.iload_n 1, 1) := by decide +kernel
theorem dX8_undo_47 : decode cX8_undo 47 = .ok (.iadd, 1) := by decide +kernel
theorem dX8_undo_48 : decode cX8_undo 48 = .ok (.iaload, 1) := by decide +kernel
theorem dX8_undo_49 : decode cX8_undo 49 = .ok (.iastore, 1) := by decide +kernel
theorem dX8_undo_50 : decode cX8_undo 50 = .ok (.iinc 1 1, 3) := by decide +kernel
theorem dX8_undo_53 : decode cX8_undo 53 = .ok (.goto (-31), 3) := by decide +kernel
theorem dX8_undo_56 : decode cX8_undo 56 = .ok (.aload_n 0, 1) := by decide +kernel
theorem dX8_undo_57 : decode cX8_undo 57 = .ok (.getfield 19, 3) := by decide +kernel
theorem dX8_undo_60 : decode cX8_undo 60 = .ok (.ireturn, 1) := by decide +kernel
theorem dX8_fingerprint_0 : decode cX8_fingerprint 0 = .ok (.ldc2_w 134, 3) := by decide +kernel
theorem dX8_fingerprint_3 : decode cX8_fingerprint 3 = .ok (.ldc2_w 134, 3) := by decide +kernel
theorem dX8_fingerprint_6 : decode cX8_fingerprint 6 = .ok (.ldc2_w 136, 3) := by decide +kernel
theorem dX8_fingerprint_9 : decode cX8_fingerprint 9 = .ok (.aload_n 0, 1) := by decide +kernel
theorem dX8_fingerprint_10 : decode cX8_fingerprint 10 = .ok (.getfield 7, 3) := by decide +kernel
theorem dX8_fingerprint_13 : decode cX8_fingerprint 13 = .ok (.bipush 6, 2) := by decide +kernel
theorem dX8_fingerprint_15 : decode cX8_fingerprint 15 = .ok (.iaload, 1) := by decide +kernel
theorem dX8_fingerprint_16 : decode cX8_fingerprint 16 = .ok (.i2l, 1) := by decide +kernel
theorem dX8_fingerprint_17 : decode cX8_fingerprint 17 = .ok (.ladd, 1) := by decide +kernel
theorem dX8_fingerprint_18 : decode cX8_fingerprint 18 = .ok (.lmul, 1) := by decide +kernel
theorem dX8_fingerprint_19 : decode cX8_fingerprint 19 = .ok (.aload_n 0, 1) := by decide +kernel
theorem dX8_fingerprint_20 : decode cX8_fingerprint 20 = .ok (.getfield 7, 3) := by decide +kernel
theorem dX8_fingerprint_23 : decode cX8_fingerprint 23 = .ok (.bipush 7, 2) := by decide +kernel
theorem dX8_fingerprint_25 : decode cX8_fingerprint 25 = .ok (.iaload, 1) := by decide +kernel
theorem dX8_fingerprint_26 : decode cX8_fingerprint 26 = .ok (.i2l, 1) := by decide +kernel
theorem dX8_fingerprint_27 : decode cX8_fingerprint 27 = .ok (.ladd, 1) := by decide +kernel
theorem dX8_fingerprint_28 : decode cX8_fingerprint 28 = .ok (.lmul, 1) := by decide +kernel
theorem dX8_fingerprint_29 : decode cX8_fingerprint 29 = .ok (.aload_n 0, 1) := by decide +kernel
theorem dX8_fingerprint_30 : decode cX8_fingerprint 30 = .ok (.getfield 7, 3) := by decide +kernel
theorem dX8_fingerprint_33 : decode cX8_fingerprint 33 = .ok (.bipush 8, 2) := by decide +kernel
theorem dX8_fingerprint_35 : decode cX8_fingerprint 35 = .ok (.iaload, 1) := by decide +kernel
theorem dX8_fingerprint_36 : decode cX8_fingerprint 36 = .ok (.i2l, 1) := by decide +kernel
theorem dX8_fingerprint_37 : decode cX8_fingerprint 37 = .ok (.ladd, 1) := by decide +kernel
theorem dX8_fingerprint_38 : decode cX8_fingerprint 38 = .ok (.lstore_n 1, 1) := by decide +kernel
theorem dX8_fingerprint_39 : decode cX8_fingerprint 39 = .ok (.ldc2_w 134, 3) := by decide +kernel
theorem dX8_fingerprint_42 : decode cX8_fingerprint 42 = .ok (.ldc2_w 134, 3) := by decide +kernel
theorem dX8_fingerprint_45 : decode cX8_fingerprint 45 = .ok (.lload_n 1, 1) := by decide +kernel
theorem dX8_fingerprint_46 : decode cX8_fingerprint 46 = .ok (.lmul, 1) := by decide +kernel
theorem dX8_fingerprint_47 : decode cX8_fingerprint 47 = .ok (.aload_n 0, 1) := by decide +kernel
theorem dX8_fingerprint_48 : decode cX8_fingerprint 48 = .ok (.getfield 7, 3) := by decide +kernel
theorem dX8_fingerprint_51 : decode cX8_fingerprint 51 = .ok (.bipush 9, 2) := by decide +kernel
theorem dX8_fingerprint_53 : decode cX8_fingerprint 53 = .ok (.iaload, 1) := by decide +kernel
theorem dX8_fingerprint_54 : decode cX8_fingerprint 54 = .ok (.i2l, 1) := by decide +kernel
theorem dX8_fingerprint_55 : decode cX8_fingerprint 55 = .ok (.ladd, 1) := by decide +kernel
theorem dX8_fingerprint_56 : decode cX8_fingerprint 56 = .ok (.lmul, 1) := by decide +kernel
theorem dX8_fingerprint_57 : decode cX8_fingerprint 57 = .ok (.aload_n 0, 1) := by decide +kernel
theorem dX8_fingerprint_58 : decode cX8_fingerprint 58 = .ok (.getfield 7, 3) := by decide +kernel
theorem dX8_fingerprint_61 : decode cX8_fingerprint 61 = .ok (.bipush 12, 2) := by decide +kernel
theorem dX8_fingerprint_63 : decode cX8_fingerprint 63 = .ok (.iaload, 1) := by decide +kernel
theorem dX8_fingerprint_64 : decode cX8_fingerprint 64 = .ok (.i2l, 1) := by decide +kernel
theorem dX8_fingerprint_65 : decode cX8_fingerprint 65 = .ok (.ladd, 1) := by decide +kernel
theorem dX8_fingerprint_66 : decode cX8_fingerprint 66 = .ok (.lstore_n 1, 1) := by decide +kernel
theorem dX8_fingerprint_67 : decode cX8_fingerprint 67 = .ok (.iconst 1, 1) := by decide +kernel
theorem dX8_fingerprint_68 : decode cX8_fingerprint 68 = .ok (.istore_n 3, 1) := by decide +kernel
theorem dX8_fingerprint_69 : decode cX8_fingerprint 69 = .ok (.iload_n 3, 1) := by decide +kernel
theorem dX8_fingerprint_70 : decode cX8_fingerprint 70 = .ok (.aload_n 0, 1) := by decide +kernel
theorem dX8_fingerprint_71 : decode cX8_fingerprint 71 = .ok (.getfield 7, 3) := by decide +kernel
theorem dX8_fingerprint_74 : decode cX8_fingerprint 74 = .ok (.bipush 9, 2) := by decide +kernel
theorem dX8_fingerprint_76 : decode cX8_fingerprint 76 = .ok (.iaload, 1) := by decide +kernel
theorem dX8_fingerprint_77 : decode cX8_fingerprint 77 = .ok (.if_icmp .gt 40, 3) := by decide +kernel
theorem dX8_fingerprint_80 : decode cX8_fingerprint 80 = .ok (.iconst 0, 1) := by decide +kernel
theorem dX8_fingerprint_81 : decode cX8_fingerprint 81 = .ok (.istore 4, 2) := by decide +kernel
theorem dX8_fingerprint_83 : decode cX8_fingerprint 83 = .ok (.iload 4, 2) := by decide +kernel
theorem dX8_fingerprint_85 : decode cX8_fingerprint 85 = .ok (.bipush 8, 2) := by decide +kernel
theorem dX8_fingerprint_87 : decode cX8_fingerprint 87 = .ok (.if_icmp .ge 24, 3) := by decide +kernel
theorem dX8_fingerprint_90 : decode cX8_fingerprint 90 = .ok (.ldc2_w 134, 3) := by decide +kernel
theorem dX8_fingerprint_93 : decode cX8_fingerprint 93 = .ok (.lload_n 1, 1) := by decide +kernel
theorem dX8_fingerprint_94 : decode cX8_fingerprint 94 = .ok (.lmul, 1) := by decide +kernel
theorem dX8_fingerprint_95 : decode cX8_fingerprint 95 = .ok (.aload_n 0, 1) := by decide +kernel
theorem dX8_fingerprint_96 : decode cX8_fingerprint 96 = .ok (.iload_n 3, 1) := by decide +kernel
theorem dX8_fingerprint_97 : decode cX8_fingerprint 97 = .ok (.iload 4, 2) := by decide +kernel
theorem dX8_fingerprint_99 : decode cX8_fingerprint 99 = .ok (.invokevirtual 128, 3) := by decide +kernel
theorem dX8_fingerprint_102 : decode cX8_fingerprint 102 = .ok (.i2l, 1) := by decide +kernel
theorem dX8_fingerprint_103 : decode cX8_fingerprint 103 = .ok (.ladd, 1) := by decide +kernel
theorem dX8_fingerprint_104 : decode cX8_fingerprint 104 = .ok (.lstore_n 1, 1) := by decide +kernel
theorem dX8_fingerprint_105 : decode cX8_fingerprint 105 = .ok (.iinc 4 1, 3) := by decide +kernel
theorem dX8_fingerprint_108 : decode cX8_fingerprint 108 = .ok (.goto (-25), 3) := by decide +kernel
theorem dX8_fingerprint_111 : decode cX8_fingerprint 111 = .ok (.iinc 3 1, 3) := by decide +kernel
theorem dX8_fingerprint_114 : decode cX8_fingerprint 114 = .ok (.goto (-45), 3) := by decide +kernel
theorem dX8_fingerprint_117 : decode cX8_fingerprint 117 = .ok (.ldc2_w 134, 3) := by decide +kernel
theorem dX8_fingerprint_120 : decode cX8_fingerprint 120 = .ok (.lload_n 1, 1) := by decide +kernel
theorem dX8_fingerprint_121 : decode cX8_fingerprint 121 = .ok (.lmul, 1) := by decide +kernel
theorem dX8_fingerprint_122 : decode cX8_fingerprint 122 = .ok (.aload_n 0, 1) := by decide +kernel
theorem dX8_fingerprint_123 : decode cX8_fingerprint 123 = .ok (.getfield 7, 3) := by decide +kernel
theorem dX8_fingerprint_126 : decode cX8_fingerprint 126 = .ok (.bipush 10, 2) := by decide +kernel
theorem dX8_fingerprint_128 : decode cX8_fingerprint 128 = .ok (.iaload, 1) := by decide +kernel
theorem dX8_fingerprint_129 : decode cX8_fingerprint 129 = .ok (.i2l, 1) := by decide +kernel
theorem dX8_fingerprint_130 : decode cX8_fingerprint 130 = .ok (.ladd, 1) := by decide +kernel
theorem dX8_fingerprint_131 : decode cX8_fingerprint 131 = .ok (.lstore_n 1, 1) := by decide +kernel
theorem dX8_fingerprint_132 : decode cX8_fingerprint 132 = .ok (.iconst 0, 1) := by decide +kernel
theorem dX8_fingerprint_133 : decode cX8_fingerprint 133 = .ok (.istore_n 3, 1) := by decide +kernel
theorem dX8_fingerprint_134 : decode cX8_fingerprint 134 = .ok (.iload_n 3, 1) := by decide +kernel
theorem dX8_fingerprint_135 : decode cX8_fingerprint 135 = .ok (.aload_n 0, 1) := by decide +kernel
theorem dX8_fingerprint_136 : decode cX8_fingerprint 136 = .ok (.getfield 7, 3) := by decide +kernel
theorem dX8_fingerprint_139 : decode cX8_fingerprint 139 = .ok (.bipush 10, 2) := by decide +kernel
theorem dX8_fingerprint_141 : decode cX8_fingerprint 141 = .ok (.iaload, 1) := by decide +kernel
theorem dX8_fingerprint_142 : decode cX8_fingerprint 142 = .ok (.if_icmp .ge 40, 3) := by decide +kernel
theorem dX8_fingerprint_145 : decode cX8_fingerprint 145 = .ok (.iconst 0, 1) := by decide +kernel
theorem dX8_fingerprint_146 : decode cX8_fingerprint 146 = .ok (.istore 4, 2) := by decide +kernel
theorem dX8_fingerprint_148 : decode cX8_fingerprint 148 = .ok (.iload 4, 2) := by decide +kernel
theorem dX8_fingerprint_150 : decode cX8_fingerprint 150 = .ok (.bipush 6, 2) := by decide +kernel
theorem dX8_fingerprint_152 : decode cX8_fingerprint 152 = .ok (.if_icmp .ge 24, 3) := by decide +kernel
theorem dX8_fingerprint_155 : decode cX8_fingerprint 155 = .ok (.ldc2_w 134, 3) := by decide +kernel
theorem dX8_fingerprint_158 : decode cX8_fingerprint 158 = .ok (.lload_n 1, 1) := by decide +kernel
theorem dX8_fingerprint_159 : decode cX8_fingerprint 159 = .ok (.lmul, 1) := by decide +kernel
theorem dX8_fingerprint_160 : decode cX8_fingerprint 160 = .ok (.aload_n 0, 1) := by decide +kernel
theorem dX8_fingerprint_161 : decode cX8_fingerprint 161 = .ok (.iload_n 3, 1) := by decide +kernel
theorem dX8_fingerprint_162 : decode cX8_fingerprint 162 = .ok (.iload 4, 2) := by decide +kernel
theorem dX8_fingerprint_164 : decode cX8_fingerprint 164 = .ok (.invokevirtual 131, 3) := by decide +kernel
theorem dX8_fingerprint_167 : decode cX8_fingerprint 167 = .ok (.i2l, 1) := by decide +kernel
theorem dX8_fingerprint_168 : decode cX8_fingerprint 168 = .ok (.ladd, 1) := by decide +kernel
theorem dX8_fingerprint_169 : decode cX8_fingerprint 169 = .ok (.lstore_n 1, 1) := by decide +kernel
theorem dX8_fingerprint_170 : decode cX8_fingerprint 170 = .ok (.iinc 4 1, 3) := by decide +kernel
theorem dX8_fingerprint_173 : decode cX8_fingerprint 173 = .ok (.goto (-25), 3) := by decide +kernel
theorem dX8_fingerprint_176 : decode cX8_fingerprint 176 = .ok (.iinc 3 1, 3) := by decide +kernel
theorem dX8_fingerprint_179 : decode cX8_fingerprint 179 = .ok (.goto (-45), 3) := by decide +kernel
theorem dX8_fingerprint_182 : decode cX8_fingerprint 182 = .ok (.lload_n 1, 1) := by decide +kernel
theorem dX8_fingerprint_183 : decode cX8_fingerprint 183 = .ok (.lreturn, 1) := by decide +kernel
theorem dJ6_bitCount_0f7a4_0 : decode cJ6_bitCount_0f7a4 0 = .ok (.iload_n 0, 1) := by decide +kernel
theorem dJ6_bitCount_0f7a4_1 : decode cJ6_bitCount_0f7a4 1 = .ok (.iload_n 0, 1) := by decide +kernel
theorem dJ6_bitCount_0f7a4_2 : decode cJ6_bitCount_0f7a4 2 = .ok (.iconst 1, 1) := by decide +kernel
theorem dJ6_bitCount_0f7a4_3 : decode cJ6_bitCount_0f7a4 3 = .ok (.iushr, 1) := by decide +kernel
theorem dJ6_bitCount_0f7a4_4 : decode cJ6_bitCount_0f7a4 4 = .ok (.ldc_w 265, 3) := by decide +kernel
theorem dJ6_bitCount_0f7a4_7 : decode cJ6_bitCount_0f7a4 7 = .ok (.iand, 1) := by decide +kernel
theorem dJ6_bitCount_0f7a4_8 : decode cJ6_bitCount_0f7a4 8 = .ok (.isub, 1) := by decide +kernel
theorem dJ6_bitCount_0f7a4_9 : decode cJ6_bitCount_0f7a4 9 = .ok (.istore_n 0, 1) := by decide +kernel
theorem dJ6_bitCount_0f7a4_10 : decode cJ6_bitCount_0f7a4 10 = .ok (.iload_n 0, 1) := by decide +kernel
theorem dJ6_bitCount_0f7a4_11 : decode cJ6_bitCount_0f7a4 11 = .ok (.ldc_w 266, 3) := by decide +kernel
theorem dJ6_bitCount_0f7a4_14 : decode cJ6_bitCount_0f7a4 14 = .ok (.iand, 1) := by decide +kernel
theorem dJ6_bitCount_0f7a4_15 : decode cJ6_bitCount_0f7a4 15 = .ok (.iload_n 0, 1) := by decide +kernel
theorem dJ6_bitCount_0f7a4_16 : decode cJ6_bitCount_0f7a4 16 = .ok (.iconst 2, 1) := by decide +kernel
theorem dJ6_bitCount_0f7a4_17 : decode cJ6_bitCount_0f7a4 17 = .ok (.iushr, 1) := by decide +kernel
theorem dJ6_bitCount_0f7a4_18 : decode cJ6_bitCount_0f7a4 18 = .ok (.ldc_w 266, 3) := by decide +kernel
theorem dJ6_bitCount_0f7a4_21 : decode cJ6_bitCount_0f7a4 21 = .ok (.iand, 1) := by decide +kernel
theorem dJ6_bitCount_0f7a4_22 : decode cJ6_bitCount_0f7a4 22 = .ok (.iadd, 1) := by decide +kernel
theorem dJ6_bitCount_0f7a4_23 : decode cJ6_bitCount_0f7a4 23 = .ok (.istore_n 0, 1) := by decide +kernel
theorem dJ6_bitCount_0f7a4_24 : decode cJ6_bitCount_0f7a4 24 = .ok (.iload_n 0, 1) := by decide +kernel
theorem dJ6_bitCount_0f7a4_25 : decode cJ6_bitCount_0f7a4 25 = .ok (.iload_n 0, 1) := by decide +kernel
theorem dJ6_bitCount_0f7a4_26 : decode cJ6_bitCount_0f7a4 26 = .ok (.iconst 4, 1) := by decide +kernel
theorem dJ6_bitCount_0f7a4_27 : decode cJ6_bitCount_0f7a4 27 = .ok (.iushr, 1) := by decide +kernel
theorem dJ6_bitCount_0f7a4_28 : decode cJ6_bitCount_0f7a4 28 = .ok (.iadd, 1) := by decide +kernel
theorem dJ6_bitCount_0f7a4_29 : decode cJ6_bitCount_0f7a4 29 = .ok (.ldc_w 267, 3) := by decide +kernel
theorem dJ6_bitCount_0f7a4_32 : decode cJ6_bitCount_0f7a4 32 = .ok (.iand, 1) := by decide +kernel
theorem dJ6_bitCount_0f7a4_33 : decode cJ6_bitCount_0f7a4 33 = .ok (.istore_n 0, 1) := by decide +kernel
theorem dJ6_bitCount_0f7a4_34 : decode cJ6_bitCount_0f7a4 34 = .ok (.iload_n 0, 1) := by decide +kernel
theorem dJ6_bitCount_0f7a4_35 : decode cJ6_bitCount_0f7a4 35 = .ok (.iload_n 0, 1) := by decide +kernel
theorem dJ6_bitCount_0f7a4_36 : decode cJ6_bitCount_0f7a4 36 = .ok (.bipush 8, 2) := by decide +kernel
theorem dJ6_bitCount_0f7a4_38 : decode cJ6_bitCount_0f7a4 38 = .ok (.iushr, 1) := by decide +kernel
theorem dJ6_bitCount_0f7a4_39 : decode cJ6_bitCount_0f7a4 39 = .ok (.iadd, 1) := by decide +kernel
theorem dJ6_bitCount_0f7a4_40 : decode cJ6_bitCount_0f7a4 40 = .ok (.istore_n 0, 1) := by decide +kernel
theorem dJ6_bitCount_0f7a4_41 : decode cJ6_bitCount_0f7a4 41 = .ok (.iload_n 0, 1) := by decide +kernel
theorem dJ6_bitCount_0f7a4_42 : decode cJ6_bitCount_0f7a4 42 = .ok (.iload_n 0, 1) := by decide +kernel
theorem dJ6_bitCount_0f7a4_43 : decode cJ6_bitCount_0f7a4 43 = .ok (.bipush 16, 2) := by decide +kernel
theorem dJ6_bitCount_0f7a4_45 : decode cJ6_bitCount_0f7a4 45 = .ok (.iushr, 1) := by decide +kernel
theorem dJ6_bitCount_0f7a4_46 : decode cJ6_bitCount_0f7a4 46 = .ok (.iadd, 1) := by decide +kernel
theorem dJ6_bitCount_0f7a4_47 : decode cJ6_bitCount_0f7a4 47 = .ok (.istore_n 0, 1) := by decide +kernel
theorem dJ6_bitCount_0f7a4_48 : decode cJ6_bitCount_0f7a4 48 = .ok (.iload_n 0, 1) := by decide +kernel
theorem dJ6_bitCount_0f7a4_49 : decode cJ6_bitCount_0f7a4 49 = .ok (.bipush 63, 2) := by decide +kernel
theorem dJ6_bitCount_0f7a4_51 : decode cJ6_bitCount_0f7a4 51 = .ok (.iand, 1) := by decide +kernel
theorem dJ6_bitCount_0f7a4_52 : decode cJ6_bitCount_0f7a4 52 = .ok (.ireturn, 1) := by decide +kernel
theorem dJ9_min_7cf53_0 : decode cJ9_min_7cf53 0 = .ok (.iload_n 0, 1) := by decide +kernel
theorem dJ9_min_7cf53_1 : decode cJ9_min_7cf53 1 = .ok (.iload_n 1, 1) := by decide +kernel
theorem dJ9_min_7cf53_2 : decode cJ9_min_7cf53 2 = .ok (.if_icmp .gt 7, 3) := by decide +kernel
theorem dJ9_min_7cf53_5 : decode cJ9_min_7cf53 5 = .ok (.iload_n 0, 1) := by decide +kernel
theorem dJ9_min_7cf53_6 : decode cJ9_min_7cf53 6 = .ok (.goto 4, 3) := by decide +kernel
theorem dJ9_min_7cf53_9 : decode cJ9_min_7cf53 9 = .ok (.iload_n 1, 1) := by decide +kernel
theorem dJ9_min_7cf53_10 : decode cJ9_min_7cf53 10 = .ok (.ireturn, 1) := by decide +kernel
theorem dJ7_fill_53178_0 : decode cJ7_fill_53178 0 = .ok (.iconst 0, 1) := by decide +kernel
theorem dJ7_fill_53178_1 : decode cJ7_fill_53178 1 = .ok (.istore_n 2, 1) := by decide +kernel
theorem dJ7_fill_53178_2 : decode cJ7_fill_53178 2 = .ok (.aload_n 0, 1) := by decide +kernel
theorem dJ7_fill_53178_3 : decode cJ7_fill_53178 3 = .ok (.arraylength, 1) := by decide +kernel
theorem dJ7_fill_53178_4 : decode cJ7_fill_53178 4 = .ok (.istore_n 3, 1) := by decide +kernel
theorem dJ7_fill_53178_5 : decode cJ7_fill_53178 5 = .ok (.iload_n 2, 1) := by decide +kernel
theorem dJ7_fill_53178_6 : decode cJ7_fill_53178 6 = .ok (.iload_n 3, 1) := by decide +kernel
theorem dJ7_fill_53178_7 : decode cJ7_fill_53178 7 = .ok (.if_icmp .ge 13, 3) := by decide +kernel
theorem dJ7_fill_53178_10 : decode cJ7_fill_53178 10 = .ok (.aload_n 0, 1) := by decide +kernel
theorem dJ7_fill_53178_11 : decode cJ7_fill_53178 11 = .ok (.iload_n 2, 1) := by decide +kernel
theorem dJ7_fill_53178_12 : decode cJ7_fill_53178 12 = .ok (.iload_n 1, 1) := by decide +kernel
theorem dJ7_fill_53178_13 : decode cJ7_fill_53178 13 = .ok (.iastore, 1) := by decide +kernel
theorem dJ7_fill_53178_14 : decode cJ7_fill_53178 14 = .ok (.iinc 2 1, 3) := by decide +kernel
theorem dJ7_fill_53178_17 : decode cJ7_fill_53178 17 = .ok (.goto (-12), 3) := by decide +kernel
theorem dJ7_fill_53178_20 : decode cJ7_fill_53178 20 = .ok (.return_, 1) := by decide +kernel
theorem dL_law_0 : decode cL_law 0 = .ok (.new 7, 3) := by decide +kernel
theorem dL_law_3 : decode cL_law 3 = .ok (.dup, 1) := by decide +kernel
theorem dL_law_4 : decode cL_law 4 = .ok (.invokespecial 9, 3) := by decide +kernel
theorem dL_law_7 : decode cL_law 7 = .ok (.astore_n 1, 1) := by decide +kernel
theorem dL_law_8 : decode cL_law 8 = .ok (.new 10, 3) := by decide +kernel
theorem dL_law_11 : decode cL_law 11 = .ok (.dup, 1) := by decide +kernel
theorem dL_law_12 : decode cL_law 12 = .ok (.invokespecial 12, 3) := by decide +kernel
theorem dL_law_15 : decode cL_law 15 = .ok (.astore_n 2, 1) := by decide +kernel
theorem dL_law_16 : decode cL_law 16 = .ok (.iconst 0, 1) := by decide +kernel
theorem dL_law_17 : decode cL_law 17 = .ok (.istore_n 3, 1) := by decide +kernel
theorem dL_law_18 : decode cL_law 18 = .ok (.iload_n 3, 1) := by decide +kernel
theorem dL_law_19 : decode cL_law 19 = .ok (.aload_n 0, 1) := by decide +kernel
theorem dL_law_20 : decode cL_law 20 = .ok (.arraylength, 1) := by decide +kernel
theorem dL_law_21 : decode cL_law 21 = .ok (.iconst 5, 1) := by decide +kernel
theorem dL_law_22 : decode cL_law 22 = .ok (.isub, 1) := by decide +kernel
theorem dL_law_23 : decode cL_law 23 = .ok (.if_icmp .gt 819, 3) := by decide +kernel
theorem dL_law_26 : decode cL_law 26 = .ok (.aload_n 0, 1) := by decide +kernel
theorem dL_law_27 : decode cL_law 27 = .ok (.iload_n 3, 1) := by decide +kernel
theorem dL_law_28 : decode cL_law 28 = .ok (.iaload, 1) := by decide +kernel
theorem dL_law_29 : decode cL_law 29 = .ok (.bipush 31, 2) := by decide +kernel
theorem dL_law_31 : decode cL_law 31 = .ok (.iand, 1) := by decide +kernel
theorem dL_law_32 : decode cL_law 32 = .ok (.tableswitch 804 0 26 #[124, 157, 180, 229, 252, 265, 288, 311, 324, 337, 370, 403, 416, 429, 468, 517, 570, 603, 636, 649, 682, 695, 708, 741, 764, 777, 790], 124) := by decide +kernel
theorem dL_law_156 : decode cL_law 156 = .ok (.aload_n 1, 1) := by decide +kernel
theorem dL_law_157 : decode cL_law 157 = .ok (.aload_n 0, 1) := by decide +kernel
theorem dL_law_158 : decode cL_law 158 = .ok (.iload_n 3, 1) := by decide +kernel
theorem dL_law_159 : decode cL_law 159 = .ok (.iconst 1, 1) := by decide +kernel
theorem dL_law_160 : decode cL_law 160 = .ok (.iadd, 1) := by decide +kernel
theorem dL_law_161 : decode cL_law 161 = .ok (.iaload, 1) := by decide +kernel
theorem dL_law_162 : decode cL_law 162 = .ok (.aload_n 0, 1) := by decide +kernel
theorem dL_law_163 : decode cL_law 163 = .ok (.iload_n 3, 1) := by decide +kernel
theorem dL_law_164 : decode cL_law 164 = .ok (.iconst 2, 1) := by decide +kernel
theorem dL_law_165 : decode cL_law 165 = .ok (.iadd, 1) := by decide +kernel
theorem dL_law_166 : decode cL_law 166 = .ok (.iaload, 1) := by decide +kernel
theorem dL_law_167 : decode cL_law 167 = .ok (.invokevirtual 13, 3) := by decide +kernel
theorem dL_law_170 : decode cL_law 170 = .ok (.aload_n 2, 1) := by decide +kernel
theorem dL_law_171 : decode cL_law 171 = .ok (.aload_n 0, 1) := by decide +kernel
theorem dL_law_172 : decode cL_law 172 = .ok (.iload_n 3, 1) := by decide +kernel
theorem dL_law_173 : decode cL_law 173 = .ok (.iconst 1, 1) := by decide +kernel
theorem dL_law_174 : decode cL_law 174 = .ok (.iadd, 1) := by decide +kernel
theorem dL_law_175 : decode cL_law 175 = .ok (.iaload, 1) := by decide +kernel
theorem dL_law_176 : decode cL_law 176 = .ok (.aload_n 0, 1) := by decide +kernel
theorem dL_law_177 : decode cL_law 177 = .ok (.iload_n 3, 1) := by decide +kernel
theorem dL_law_178 : decode cL_law 178 = .ok (.iconst 2, 1) := by decide +kernel
theorem dL_law_179 : decode cL_law 179 = .ok (.iadd, 1) := by decide +kernel
theorem dL_law_180 : decode cL_law 180 = .ok (.iaload, 1) := by decide +kernel
theorem dL_law_181 : decode cL_law 181 = .ok (.invokevirtual 17, 3) := by decide +kernel
theorem dL_law_184 : decode cL_law 184 = .ok (.if_icmp .eq 652, 3) := by decide +kernel
theorem dL_law_187 : decode cL_law 187 = .ok (.iconst 0, 1) := by decide +kernel
theorem dL_law_188 : decode cL_law 188 = .ok (.ireturn, 1) := by decide +kernel
theorem dL_law_189 : decode cL_law 189 = .ok (.aload_n 1, 1) := by decide +kernel
theorem dL_law_190 : decode cL_law 190 = .ok (.aload_n 0, 1) := by decide +kernel
theorem dL_law_191 : decode cL_law 191 = .ok (.iload_n 3, 1) := by decide +kernel
theorem dL_law_192 : decode cL_law 192 = .ok (.iconst 1, 1) := by decide +kernel
theorem dL_law_193 : decode cL_law 193 = .ok (.iadd, 1) := by decide +kernel
theorem dL_law_194 : decode cL_law 194 = .ok (.iaload, 1) := by decide +kernel
theorem dL_law_195 : decode cL_law 195 = .ok (.invokevirtual 18, 3) := by decide +kernel
theorem dL_law_198 : decode cL_law 198 = .ok (.aload_n 2, 1) := by decide +kernel
theorem dL_law_199 : decode cL_law 199 = .ok (.aload_n 0, 1) := by decide +kernel
theorem dL_law_200 : decode cL_law 200 = .ok (.iload_n 3, 1) := by decide +kernel
theorem dL_law_201 : decode cL_law 201 = .ok (.iconst 1, 1) := by decide +kernel
theorem dL_law_202 : decode cL_law 202 = .ok (.iadd, 1) := by decide +kernel
theorem dL_law_203 : decode cL_law 203 = .ok (.iaload, 1) := by decide +kernel
theorem dL_law_204 : decode cL_law 204 = .ok (.invokevirtual 22, 3) := by decide +kernel
theorem dL_law_207 : decode cL_law 207 = .ok (.if_icmp .eq 629, 3) := by decide +kernel
theorem dL_law_210 : decode cL_law 210 = .ok (.iconst 0, 1) := by decide +kernel
theorem dL_law_211 : decode cL_law 211 = .ok (.ireturn, 1) := by decide +kernel
theorem dL_law_212 : decode cL_law 212 = .ok (.aload_n 1, 1) := by decide +kernel
theorem dL_law_213 : decode cL_law 213 = .ok (.aload_n 0, 1) := by decide +kernel
theorem dL_law_214 : decode cL_law 214 = .ok (.iload_n 3, 1) := by decide +kernel
theorem dL_law_215 : decode cL_law 215 = .ok (.iconst 1, 1) := by decide +kernel
theorem dL_law_216 : decode cL_law 216 = .ok (.iadd, 1) := by decide +kernel
theorem dL_law_217 : decode cL_law 217 = .ok (.iaload, 1) := by decide +kernel
theorem dL_law_218 : decode cL_law 218 = .ok (.aload_n 0, 1) := by decide +kernel
theorem dL_law_219 : decode cL_law 219 = .ok (.iload_n 3, 1) := by decide +kernel
theorem dL_law_220 : decode cL_law 220 = .ok (.iconst 2, 1) := by decide +kernel
theorem dL_law_221 : decode cL_law 221 = .ok (.iadd, 1) := by decide +kernel
theorem dL_law_222 : decode cL_law 222 = .ok (.iaload, 1) := by decide +kernel
theorem dL_law_223 : decode cL_law 223 = .ok (.ifCond .eq 7, 3) := by decide +kernel
theorem dL_law_226 : decode cL_law 226 = .ok (.iconst 1, 1) := by decide +kernel
theorem dL_law_227 : decode cL_law 227 = .ok (.goto 4, 3) := by decide +kernel
theorem dL_law_230 : decode cL_law 230 = .ok (.iconst 0, 1) := by decide +kernel
theorem dL_law_231 : decode cL_law 231 = .ok (.invokevirtual 23, 3) := by decide +kernel
theorem dL_law_234 : decode cL_law 234 = .ok (.aload_n 2, 1) := by decide +kernel
theorem dL_law_235 : decode cL_law 235 = .ok (.aload_n 0, 1) := by decide +kernel
theorem dL_law_236 : decode cL_law 236 = .ok (.iload_n 3, 1) := by decide +kernel
theorem dL_law_237 : decode cL_law 237 = .ok (.iconst 1, 1) := by decide +kernel
theorem dL_law_238 : decode cL_law 238 = .ok (.iadd, 1) := by decide +kernel
theorem dL_law_239 : decode cL_law 239 = .ok (.iaload, 1) := by decide +kernel
theorem dL_law_240 : decode cL_law 240 = .ok (.aload_n 0, 1) := by decide +kernel
theorem dL_law_241 : decode cL_law 241 = .ok (.iload_n 3, 1) := by decide +kernel
theorem dL_law_242 : decode cL_law 242 = .ok (.iconst 2, 1) := by decide +kernel
theorem dL_law_243 : decode cL_law 243 = .ok (.iadd, 1) := by decide +kernel
theorem dL_law_244 : decode cL_law 244 = .ok (.iaload, 1) := by decide +kernel
theorem dL_law_245 : decode cL_law 245 = .ok (.ifCond .eq 7, 3) := by decide +kernel
theorem dL_law_248 : decode cL_law 248 = .ok (.iconst 1, 1) := by decide +kernel
theorem dL_law_249 : decode cL_law 249 = .ok (.goto 4, 3) := by decide +kernel
theorem dL_law_252 : decode cL_law 252 = .ok (.iconst 0, 1) := by decide +kernel
theorem dL_law_253 : decode cL_law 253 = .ok (.invokevirtual 27, 3) := by decide +kernel
theorem dL_law_256 : decode cL_law 256 = .ok (.if_icmp .eq 580, 3) := by decide +kernel
theorem dL_law_259 : decode cL_law 259 = .ok (.iconst 0, 1) := by decide +kernel
theorem dL_law_260 : decode cL_law 260 = .ok (.ireturn, 1) := by decide +kernel
theorem dL_law_261 : decode cL_law 261 = .ok (.aload_n 1, 1) := by decide +kernel
theorem dL_law_262 : decode cL_law 262 = .ok (.aload_n 0, 1) := by decide +kernel
theorem dL_law_263 : decode cL_law 263 = .ok (.iload_n 3, 1) := by decide +kernel
theorem dL_law_264 : decode cL_law 264 = .ok (.iconst 1, 1) := by decide +kernel
theorem dL_law_265 : decode cL_law 265 = .ok (.iadd, 1) := by decide +kernel
theorem dL_law_266 : decode cL_law 266 = .ok (.iaload, 1) := by decide +kernel
theorem dL_law_267 : decode cL_law 267 = .ok (.invokevirtual 28, 3) := by decide +kernel
theorem dL_law_270 : decode cL_law 270 = .ok (.aload_n 2, 1) := by decide +kernel
theorem dL_law_271 : decode cL_law 271 = .ok (.aload_n 0, 1) := by decide +kernel
theorem dL_law_272 : decode cL_law 272 = .ok (.iload_n 3, 1) := by decide +kernel
theorem dL_law_273 : decode cL_law 273 = .ok (.iconst 1, 1) := by decide +kernel
theorem dL_law_274 : decode cL_law 274 = .ok (.iadd, 1) := by decide +kernel
theorem dL_law_275 : decode cL_law 275 = .ok (.iaload, 1) := by decide +kernel
theorem dL_law_276 : decode cL_law 276 = .ok (.invokevirtual 31, 3) := by decide +kernel
theorem dL_law_279 : decode cL_law 279 = .ok (.if_icmp .eq 557, 3) := by decide +kernel
theorem dL_law_282 : decode cL_law 282 = .ok (.iconst 0, 1) := by decide +kernel
theorem dL_law_283 : decode cL_law 283 = .ok (.ireturn, 1) := by decide +kernel
theorem dL_law_284 : decode cL_law 284 = .ok (.aload_n 1, 1) := by decide +kernel
theorem dL_law_285 : decode cL_law 285 = .ok (.invokevirtual 32, 3) := by decide +kernel
theorem dL_law_288 : decode cL_law 288 = .ok (.aload_n 2, 1) := by decide +kernel
theorem dL_law_289 : decode cL_law 289 = .ok (.invokevirtual 36, 3) := by decide +kernel
theorem dL_law_292 : decode cL_law 292 = .ok (.if_icmp .eq 544, 3) := by decide +kernel
theorem dL_law_295 : decode cL_law 295 = .ok (.iconst 0, 1) := by decide +kernel
theorem dL_law_296 : decode cL_law 296 = .ok (.ireturn, 1) := by decide +kernel
theorem dL_law_297 : decode cL_law 297 = .ok (.aload_n 1, 1) := by decide +kernel
theorem dL_law_298 : decode cL_law 298 = .ok (.aload_n 0, 1) := by decide +kernel
theorem dL_law_299 : decode cL_law 299 = .ok (.iload_n 3, 1) := by decide +kernel
theorem dL_law_300 : decode cL_law 300 = .ok (.iconst 1, 1) := by decide +kernel
theorem dL_law_301 : decode cL_law 301 = .ok (.iadd, 1) := by decide +kernel
theorem dL_law_302 : decode cL_law 302 = .ok (.iaload, 1) := by decide +kernel
theorem dL_law_303 : decode cL_law 303 = .ok (.invokevirtual 37, 3) := by decide +kernel
theorem dL_law_306 : decode cL_law 306 = .ok (.aload_n 2, 1) := by decide +kernel
theorem dL_law_307 : decode cL_law 307 = .ok (.aload_n 0, 1) := by decide +kernel
theorem dL_law_308 : decode cL_law 308 = .ok (.iload_n 3, 1) := by decide +kernel
theorem dL_law_309 : decode cL_law 309 = .ok (.iconst 1, 1) := by decide +kernel
theorem dL_law_310 : decode cL_law 310 = .ok (.iadd, 1) := by decide +kernel
theorem dL_law_311 : decode cL_law 311 = .ok (.iaload, 1) := by decide +kernel
theorem dL_law_312 : decode cL_law 312 = .ok (.invokevirtual 40, 3) := by decide +kernel
theorem dL_law_315 : decode cL_law 315 = .ok (.if_icmp .eq 521, 3) := by decide +kernel
theorem dL_law_318 : decode cL_law 318 = .ok (.iconst 0, 1) := by decide +kernel
theorem dL_law_319 : decode cL_law 319 = .ok (.ireturn, 1) := by decide +kernel
theorem dL_law_320 : decode cL_law 320 = .ok (.aload_n 1, 1) := by decide +kernel
theorem dL_law_321 : decode cL_law 321 = .ok (.aload_n 0, 1) := by decide +kernel
theorem dL_law_322 : decode cL_law 322 = .ok (.iload_n 3, 1) := by decide +kernel
theorem dL_law_323 : decode cL_law 323 = .ok (.iconst 1, 1) := by decide +kernel
theorem dL_law_324 : decode cL_law 324 = .ok (.iadd, 1) := by decide +kernel
theorem dL_law_325 : decode cL_law 325 = .ok (.iaload, 1) := by decide +kernel
theorem dL_law_326 : decode cL_law 326 = .ok (.invokevirtual 41, 3) := by decide +kernel
theorem dL_law_329 : decode cL_law 329 = .ok (.aload_n 2, 1) := by decide +kernel
theorem dL_law_330 : decode cL_law 330 = .ok (.aload_n 0, 1) := by decide +kernel
theorem dL_law_331 : decode cL_law 331 = .ok (.iload_n 3, 1) := by decide +kernel
theorem dL_law_332 : decode cL_law 332 = .ok (.iconst 1, 1) := by decide +kernel
theorem dL_law_333 : decode cL_law 333 = .ok (.iadd, 1) := by decide +kernel
theorem dL_law_334 : decode cL_law 334 = .ok (.iaload, 1) := by decide +kernel
theorem dL_law_335 : decode cL_law 335 = .ok (.invokevirtual 44, 3) := by decide +kernel
theorem dL_law_338 : decode cL_law 338 = .ok (.if_icmp .eq 498, 3) := by decide +kernel
theorem dL_law_341 : decode cL_law 341 = .ok (.iconst 0, 1) := by decide +kernel
theorem dL_law_342 : decode cL_law 342 = .ok (.ireturn, 1) := by decide +kernel
theorem dL_law_343 : decode cL_law 343 = .ok (.aload_n 1, 1) := by decide +kernel
theorem dL_law_344 : decode cL_law 344 = .ok (.invokevirtual 45, 3) := by decide +kernel
theorem dL_law_347 : decode cL_law 347 = .ok (.aload_n 2, 1) := by decide +kernel
theorem dL_law_348 : decode cL_law 348 = .ok (.invokevirtual 48, 3) := by decide +kernel
theorem dL_law_351 : decode cL_law 351 = .ok (.if_icmp .eq 485, 3) := by decide +kernel
theorem dL_law_354 : decode cL_law 354 = .ok (.iconst 0, 1) := by decide +kernel
theorem dL_law_355 : decode cL_law 355 = .ok (.ireturn, 1) := by decide +kernel
theorem dL_law_356 : decode cL_law 356 = .ok (.aload_n 1, 1) := by decide +kernel
theorem dL_law_357 : decode cL_law 357 = .ok (.invokevirtual 49, 3) := by decide +kernel
theorem dL_law_360 : decode cL_law 360 = .ok (.aload_n 2, 1) := by decide +kernel
theorem dL_law_361 : decode cL_law 361 = .ok (.invokevirtual 52, 3) := by decide +kernel
theorem dL_law_364 : decode cL_law 364 = .ok (.if_icmp .eq 472, 3) := by decide +kernel
theorem dL_law_367 : decode cL_law 367 = .ok (.iconst 0, 1) := by decide +kernel
theorem dL_law_368 : decode cL_law 368 = .ok (.ireturn, 1) := by decide +kernel
theorem dL_law_369 : decode cL_law 369 = .ok (.aload_n 1, 1) := by decide +kernel
theorem dL_law_370 : decode cL_law 370 = .ok (.aload_n 0, 1) := by decide +kernel
theorem dL_law_371 : decode cL_law 371 = .ok (.iload_n 3, 1) := by decide +kernel
theorem dL_law_372 : decode cL_law 372 = .ok (.iconst 1, 1) := by decide +kernel
theorem dL_law_373 : decode cL_law 373 = .ok (.iadd, 1) := by decide +kernel
theorem dL_law_374 : decode cL_law 374 = .ok (.iaload, 1) := by decide +kernel
theorem dL_law_375 : decode cL_law 375 = .ok (.aload_n 0, 1) := by decide +kernel
theorem dL_law_376 : decode cL_law 376 = .ok (.iload_n 3, 1) := by decide +kernel
theorem dL_law_377 : decode cL_law 377 = .ok (.iconst 2, 1) := by decide +kernel
theorem dL_law_378 : decode cL_law 378 = .ok (.iadd, 1) := by decide +kernel
theorem dL_law_379 : decode cL_law 379 = .ok (.iaload, 1) := by decide +kernel
theorem dL_law_380 : decode cL_law 380 = .ok (.invokevirtual 53, 3) := by decide +kernel
theorem dL_law_383 : decode cL_law 383 = .ok (.aload_n 2, 1) := by decide +kernel
theorem dL_law_384 : decode cL_law 384 = .ok (.aload_n 0, 1) := by decide +kernel
theorem dL_law_385 : decode cL_law 385 = .ok (.iload_n 3, 1) := by decide +kernel
theorem dL_law_386 : decode cL_law 386 = .ok (.iconst 1, 1) := by decide +kernel
theorem dL_law_387 : decode cL_law 387 = .ok (.iadd, 1) := by decide +kernel
theorem dL_law_388 : decode cL_law 388 = .ok (.iaload, 1) := by decide +kernel
theorem dL_law_389 : decode cL_law 389 = .ok (.aload_n 0, 1) := by decide +kernel
theorem dL_law_390 : decode cL_law 390 = .ok (.iload_n 3, 1) := by decide +kernel
theorem dL_law_391 : decode cL_law 391 = .ok (.iconst 2, 1) := by decide +kernel
theorem dL_law_392 : decode cL_law 392 = .ok (.iadd, 1) := by decide +kernel
theorem dL_law_393 : decode cL_law 393 = .ok (.iaload, 1) := by decide +kernel
theorem dL_law_394 : decode cL_law 394 = .ok (.invokevirtual 56, 3) := by decide +kernel
theorem dL_law_397 : decode cL_law 397 = .ok (.if_icmp .eq 439, 3) := by decide +kernel
theorem dL_law_400 : decode cL_law 400 = .ok (.iconst 0, 1) := by decide +kernel
theorem dL_law_401 : decode cL_law 401 = .ok (.ireturn, 1) := by decide +kernel
theorem dL_law_402 : decode cL_law 402 = .ok (.aload_n 1, 1) := by decide +kernel
theorem dL_law_403 : decode cL_law 403 = .ok (.aload_n 0, 1) := by decide +kernel
theorem dL_law_404 : decode cL_law 404 = .ok (.iload_n 3, 1) := by decide +kernel
theorem dL_law_405 : decode cL_law 405 = .ok (.iconst 1, 1) := by decide +kernel
theorem dL_law_406 : decode cL_law 406 = .ok (.iadd, 1) := by decide +kernel
theorem dL_law_407 : decode cL_law 407 = .ok (.iaload, 1) := by decide +kernel
theorem dL_law_408 : decode cL_law 408 = .ok (.aload_n 0, 1) := by decide +kernel
theorem dL_law_409 : decode cL_law 409 = .ok (.iload_n 3, 1) := by decide +kernel
theorem dL_law_410 : decode cL_law 410 = .ok (.iconst 2, 1) := by decide +kernel
theorem dL_law_411 : decode cL_law 411 = .ok (.iadd, 1) := by decide +kernel
theorem dL_law_412 : decode cL_law 412 = .ok (.iaload, 1) := by decide +kernel
theorem dL_law_413 : decode cL_law 413 = .ok (.invokevirtual 57, 3) := by decide +kernel
theorem dL_law_416 : decode cL_law 416 = .ok (.aload_n 2, 1) := by decide +kernel
theorem dL_law_417 : decode cL_law 417 = .ok (.aload_n 0, 1) := by decide +kernel
theorem dL_law_418 : decode cL_law 418 = .ok (.iload_n 3, 1) := by decide +kernel
theorem dL_law_419 : decode cL_law 419 = .ok (.iconst 1, 1) := by decide +kernel
theorem dL_law_420 : decode cL_law 420 = .ok (.iadd, 1) := by decide +kernel
theorem dL_law_421 : decode cL_law 421 = .ok (.iaload, 1) := by decide +kernel
theorem dL_law_422 : decode cL_law 422 = .ok (.aload_n 0, 1) := by decide +kernel
theorem dL_law_423 : decode cL_law 423 = .ok (.iload_n 3, 1) := by decide +kernel
theorem dL_law_424 : decode cL_law 424 = .ok (.iconst 2, 1) := by decide +kernel
theorem dL_law_425 : decode cL_law 425 = .ok (.iadd, 1) := by decide +kernel
theorem dL_law_426 : decode cL_law 426 = .ok (.iaload, 1) := by decide +kernel
theorem dL_law_427 : decode cL_law 427 = .ok (.invokevirtual 60, 3) := by decide +kernel
theorem dL_law_430 : decode cL_law 430 = .ok (.if_icmp .eq 406, 3) := by decide +kernel
theorem dL_law_433 : decode cL_law 433 = .ok (.iconst 0, 1) := by decide +kernel
theorem dL_law_434 : decode cL_law 434 = .ok (.ireturn, 1) := by decide +kernel
theorem dL_law_435 : decode cL_law 435 = .ok (.aload_n 1, 1) := by decide +kernel
theorem dL_law_436 : decode cL_law 436 = .ok (.invokevirtual 61, 3) := by decide +kernel
theorem dL_law_439 : decode cL_law 439 = .ok (.aload_n 2, 1) := by decide +kernel
theorem dL_law_440 : decode cL_law 440 = .ok (.invokevirtual 64, 3) := by decide +kernel
theorem dL_law_443 : decode cL_law 443 = .ok (.if_icmp .eq 393, 3) := by decide +kernel
theorem dL_law_446 : decode cL_law 446 = .ok (.iconst 0, 1) := by decide +kernel
theorem dL_law_447 : decode cL_law 447 = .ok (.ireturn, 1) := by decide +kernel
theorem dL_law_448 : decode cL_law 448 = .ok (.aload_n 1, 1) := by decide +kernel
theorem dL_law_449 : decode cL_law 449 = .ok (.invokevirtual 65, 3) := by decide +kernel
theorem dL_law_452 : decode cL_law 452 = .ok (.aload_n 2, 1) := by decide +kernel
theorem dL_law_453 : decode cL_law 453 = .ok (.invokevirtual 68, 3) := by decide +kernel
theorem dL_law_456 : decode cL_law 456 = .ok (.if_icmp .eq 380, 3) := by decide +kernel
theorem dL_law_459 : decode cL_law 459 = .ok (.iconst 0, 1) := by decide +kernel
theorem dL_law_460 : decode cL_law 460 = .ok (.ireturn, 1) := by decide +kernel
theorem dL_law_461 : decode cL_law 461 = .ok (.aload_n 1, 1) := by decide +kernel
theorem dL_law_462 : decode cL_law 462 = .ok (.aload_n 0, 1) := by decide +kernel
theorem dL_law_463 : decode cL_law 463 = .ok (.iload_n 3, 1) := by decide +kernel
theorem dL_law_464 : decode cL_law 464 = .ok (.iconst 1, 1) := by decide +kernel
theorem dL_law_465 : decode cL_law 465 = .ok (.iadd, 1) := by decide +kernel
theorem dL_law_466 : decode cL_law 466 = .ok (.iaload, 1) := by decide +kernel
theorem dL_law_467 : decode cL_law 467 = .ok (.ifCond .eq 7, 3) := by decide +kernel
theorem dL_law_470 : decode cL_law 470 = .ok (.iconst 1, 1) := by decide +kernel
theorem dL_law_471 : decode cL_law 471 = .ok (.goto 4, 3) := by decide +kernel
theorem dL_law_474 : decode cL_law 474 = .ok (.iconst 0, 1) := by decide +kernel
theorem dL_law_475 : decode cL_law 475 = .ok (.invokevirtual 69, 3) := by decide +kernel
theorem dL_law_478 : decode cL_law 478 = .ok (.aload_n 2, 1) := by decide +kernel
theorem dL_law_479 : decode cL_law 479 = .ok (.aload_n 0, 1) := by decide +kernel
theorem dL_law_480 : decode cL_law 480 = .ok (.iload_n 3, 1) := by decide +kernel
theorem dL_law_481 : decode cL_law 481 = .ok (.iconst 1, 1) := by decide +kernel
theorem dL_law_482 : decode cL_law 482 = .ok (.iadd, 1) := by decide +kernel
theorem dL_law_483 : decode cL_law 483 = .ok (.iaload, 1) := by decide +kernel
theorem dL_law_484 : decode cL_law 484 = .ok (.ifCond .eq 7, 3) := by decide +kernel
theorem dL_law_487 : decode cL_law 487 = .ok (.iconst 1, 1) := by decide +kernel
theorem dL_law_488 : decode cL_law 488 = .ok (.goto 4, 3) := by decide +kernel
theorem dL_law_491 : decode cL_law 491 = .ok (.iconst 0, 1) := by decide +kernel
theorem dL_law_492 : decode cL_law 492 = .ok (.invokevirtual 73, 3) := by decide +kernel
theorem dL_law_495 : decode cL_law 495 = .ok (.if_icmp .eq 341, 3) := by decide +kernel
theorem dL_law_498 : decode cL_law 498 = .ok (.iconst 0, 1) := by decide +kernel
theorem dL_law_499 : decode cL_law 499 = .ok (.ireturn, 1) := by decide +kernel
theorem dL_law_500 : decode cL_law 500 = .ok (.aload_n 1, 1) := by decide +kernel
theorem dL_law_501 : decode cL_law 501 = .ok (.aload_n 0, 1) := by decide +kernel
theorem dL_law_502 : decode cL_law 502 = .ok (.iload_n 3, 1) := by decide +kernel
theorem dL_law_503 : decode cL_law 503 = .ok (.iconst 1, 1) := by decide +kernel
theorem dL_law_504 : decode cL_law 504 = .ok (.iadd, 1) := by decide +kernel
theorem dL_law_505 : decode cL_law 505 = .ok (.iaload, 1) := by decide +kernel
theorem dL_law_506 : decode cL_law 506 = .ok (.aload_n 0, 1) := by decide +kernel
theorem dL_law_507 : decode cL_law 507 = .ok (.iload_n 3, 1) := by decide +kernel
theorem dL_law_508 : decode cL_law 508 = .ok (.iconst 2, 1) := by decide +kernel
theorem dL_law_509 : decode cL_law 509 = .ok (.iadd, 1) := by decide +kernel
theorem dL_law_510 : decode cL_law 510 = .ok (.iaload, 1) := by decide +kernel
theorem dL_law_511 : decode cL_law 511 = .ok (.ifCond .eq 7, 3) := by decide +kernel
theorem dL_law_514 : decode cL_law 514 = .ok (.iconst 1, 1) := by decide +kernel
theorem dL_law_515 : decode cL_law 515 = .ok (.goto 4, 3) := by decide +kernel
theorem dL_law_518 : decode cL_law 518 = .ok (.iconst 0, 1) := by decide +kernel
theorem dL_law_519 : decode cL_law 519 = .ok (.invokevirtual 74, 3) := by decide +kernel
theorem dL_law_522 : decode cL_law 522 = .ok (.aload_n 2, 1) := by decide +kernel
theorem dL_law_523 : decode cL_law 523 = .ok (.aload_n 0, 1) := by decide +kernel
theorem dL_law_524 : decode cL_law 524 = .ok (.iload_n 3, 1) := by decide +kernel
theorem dL_law_525 : decode cL_law 525 = .ok (.iconst 1, 1) := by decide +kernel
theorem dL_law_526 : decode cL_law 526 = .ok (.iadd, 1) := by decide +kernel
theorem dL_law_527 : decode cL_law 527 = .ok (.iaload, 1) := by decide +kernel
theorem dL_law_528 : decode cL_law 528 = .ok (.aload_n 0, 1) := by decide +kernel
theorem dL_law_529 : decode cL_law 529 = .ok (.iload_n 3, 1) := by decide +kernel
theorem dL_law_530 : decode cL_law 530 = .ok (.iconst 2, 1) := by decide +kernel
theorem dL_law_531 : decode cL_law 531 = .ok (.iadd, 1) := by decide +kernel
theorem dL_law_532 : decode cL_law 532 = .ok (.iaload, 1) := by decide +kernel
theorem dL_law_533 : decode cL_law 533 = .ok (.ifCond .eq 7, 3) := by decide +kernel
theorem dL_law_536 : decode cL_law 536 = .ok (.iconst 1, 1) := by decide +kernel
theorem dL_law_537 : decode cL_law 537 = .ok (.goto 4, 3) := by decide +kernel
theorem dL_law_540 : decode cL_law 540 = .ok (.iconst 0, 1) := by decide +kernel
theorem dL_law_541 : decode cL_law 541 = .ok (.invokevirtual 77, 3) := by decide +kernel
theorem dL_law_544 : decode cL_law 544 = .ok (.if_icmp .eq 292, 3) := by decide +kernel
theorem dL_law_547 : decode cL_law 547 = .ok (.iconst 0, 1) := by decide +kernel
theorem dL_law_548 : decode cL_law 548 = .ok (.ireturn, 1) := by decide +kernel
theorem dL_law_549 : decode cL_law 549 = .ok (.aload_n 1, 1) := by decide +kernel
theorem dL_law_550 : decode cL_law 550 = .ok (.aload_n 0, 1) := by decide +kernel
theorem dL_law_551 : decode cL_law 551 = .ok (.iload_n 3, 1) := by decide +kernel
theorem dL_law_552 : decode cL_law 552 = .ok (.iconst 1, 1) := by decide +kernel
theorem dL_law_553 : decode cL_law 553 = .ok (.iadd, 1) := by decide +kernel
theorem dL_law_554 : decode cL_law 554 = .ok (.iaload, 1) := by decide +kernel
theorem dL_law_555 : decode cL_law 555 = .ok (.aload_n 0, 1) := by decide +kernel
theorem dL_law_556 : decode cL_law 556 = .ok (.iload_n 3, 1) := by decide +kernel
theorem dL_law_557 : decode cL_law 557 = .ok (.iconst 2, 1) := by decide +kernel
theorem dL_law_558 : decode cL_law 558 = .ok (.iadd, 1) := by decide +kernel
theorem dL_law_559 : decode cL_law 559 = .ok (.iaload, 1) := by decide +kernel
theorem dL_law_560 : decode cL_law 560 = .ok (.aload_n 0, 1) := by decide +kernel
theorem dL_law_561 : decode cL_law 561 = .ok (.iload_n 3, 1) := by decide +kernel
theorem dL_law_562 : decode cL_law 562 = .ok (.iconst 3, 1) := by decide +kernel
theorem dL_law_563 : decode cL_law 563 = .ok (.iadd, 1) := by decide +kernel
theorem dL_law_564 : decode cL_law 564 = .ok (.iaload, 1) := by decide +kernel
theorem dL_law_565 : decode cL_law 565 = .ok (.aload_n 0, 1) := by decide +kernel
theorem dL_law_566 : decode cL_law 566 = .ok (.iload_n 3, 1) := by decide +kernel
theorem dL_law_567 : decode cL_law 567 = .ok (.iconst 4, 1) := by decide +kernel
theorem dL_law_568 : decode cL_law 568 = .ok (.iadd, 1) := by decide +kernel
theorem dL_law_569 : decode cL_law 569 = .ok (.iaload, 1) := by decide +kernel
theorem dL_law_570 : decode cL_law 570 = .ok (.invokevirtual 78, 3) := by decide +kernel
theorem dL_law_573 : decode cL_law 573 = .ok (.aload_n 2, 1) := by decide +kernel
theorem dL_law_574 : decode cL_law 574 = .ok (.aload_n 0, 1) := by decide +kernel
theorem dL_law_575 : decode cL_law 575 = .ok (.iload_n 3, 1) := by decide +kernel
theorem dL_law_576 : decode cL_law 576 = .ok (.iconst 1, 1) := by decide +kernel
theorem dL_law_577 : decode cL_law 577 = .ok (.iadd, 1) := by decide +kernel
theorem dL_law_578 : decode cL_law 578 = .ok (.iaload, 1) := by decide +kernel
theorem dL_law_579 : decode cL_law 579 = .ok (.aload_n 0, 1) := by decide +kernel
theorem dL_law_580 : decode cL_law 580 = .ok (.iload_n 3, 1) := by decide +kernel
theorem dL_law_581 : decode cL_law 581 = .ok (.iconst 2, 1) := by decide +kernel
theorem dL_law_582 : decode cL_law 582 = .ok (.iadd, 1) := by decide +kernel
theorem dL_law_583 : decode cL_law 583 = .ok (.iaload, 1) := by decide +kernel
theorem dL_law_584 : decode cL_law 584 = .ok (.aload_n 0, 1) := by decide +kernel
theorem dL_law_585 : decode cL_law 585 = .ok (.iload_n 3, 1) := by decide +kernel
theorem dL_law_586 : decode cL_law 586 = .ok (.iconst 3, 1) := by decide +kernel
theorem dL_law_587 : decode cL_law 587 = .ok (.iadd, 1) := by decide +kernel
theorem dL_law_588 : decode cL_law 588 = .ok (.iaload, 1) := by decide +kernel
theorem dL_law_589 : decode cL_law 589 = .ok (.aload_n 0, 1) := by decide +kernel
theorem dL_law_590 : decode cL_law 590 = .ok (.iload_n 3, 1) := by decide +kernel
theorem dL_law_591 : decode cL_law 591 = .ok (.iconst 4, 1) := by decide +kernel
theorem dL_law_592 : decode cL_law 592 = .ok (.iadd, 1) := by decide +kernel
theorem dL_law_593 : decode cL_law 593 = .ok (.iaload, 1) := by decide +kernel
theorem dL_law_594 : decode cL_law 594 = .ok (.invokevirtual 82, 3) := by decide +kernel
theorem dL_law_597 : decode cL_law 597 = .ok (.if_icmp .eq 239, 3) := by decide +kernel
theorem dL_law_600 : decode cL_law 600 = .ok (.iconst 0, 1) := by decide +kernel
theorem dL_law_601 : decode cL_law 601 = .ok (.ireturn, 1) := by decide +kernel
theorem dL_law_602 : decode cL_law 602 = .ok (.aload_n 1, 1) := by decide +kernel
theorem dL_law_603 : decode cL_law 603 = .ok (.aload_n 0, 1) := by decide +kernel
theorem dL_law_604 : decode cL_law 604 = .ok (.iload_n 3, 1) := by decide +kernel
theorem dL_law_605 : decode cL_law 605 = .ok (.iconst 1, 1) := by decide +kernel
theorem dL_law_606 : decode cL_law 606 = .ok (.iadd, 1) := by decide +kernel
theorem dL_law_607 : decode cL_law 607 = .ok (.iaload, 1) := by decide +kernel
theorem dL_law_608 : decode cL_law 608 = .ok (.aload_n 0, 1) := by decide +kernel
theorem dL_law_609 : decode cL_law 609 = .ok (.iload_n 3, 1) := by decide +kernel
theorem dL_law_610 : decode cL_law 610 = .ok (.iconst 2, 1) := by decide +kernel
theorem dL_law_611 : decode cL_law 611 = .ok (.iadd, 1) := by decide +kernel
theorem dL_law_612 : decode cL_law 612 = .ok (.iaload, 1) := by decide +kernel
theorem dL_law_613 : decode cL_law 613 = .ok (.invokevirtual 83, 3) := by decide +kernel
theorem dL_law_616 : decode cL_law 616 = .ok (.aload_n 2, 1) := by decide +kernel
theorem dL_law_617 : decode cL_law 617 = .ok (.aload_n 0, 1) := by decide +kernel
theorem dL_law_618 : decode cL_law 618 = .ok (.iload_n 3, 1) := by decide +kernel
theorem dL_law_619 : decode cL_law 619 = .ok (.iconst 1, 1) := by decide +kernel
theorem dL_law_620 : decode cL_law 620 = .ok (.iadd, 1) := by decide +kernel
theorem dL_law_621 : decode cL_law 621 = .ok (.iaload, 1) := by decide +kernel
theorem dL_law_622 : decode cL_law 622 = .ok (.aload_n 0, 1) := by decide +kernel
theorem dL_law_623 : decode cL_law 623 = .ok (.iload_n 3, 1) := by decide +kernel
theorem dL_law_624 : decode cL_law 624 = .ok (.iconst 2, 1) := by decide +kernel
theorem dL_law_625 : decode cL_law 625 = .ok (.iadd, 1) := by decide +kernel
theorem dL_law_626 : decode cL_law 626 = .ok (.iaload, 1) := by decide +kernel
theorem dL_law_627 : decode cL_law 627 = .ok (.invokevirtual 86, 3) := by decide +kernel
theorem dL_law_630 : decode cL_law 630 = .ok (.if_icmp .eq 206, 3) := by decide +kernel
theorem dL_law_633 : decode cL_law 633 = .ok (.iconst 0, 1) := by decide +kernel
theorem dL_law_634 : decode cL_law 634 = .ok (.ireturn, 1) := by decide +kernel
theorem dL_law_635 : decode cL_law 635 = .ok (.aload_n 1, 1) := by decide +kernel
theorem dL_law_636 : decode cL_law 636 = .ok (.aload_n 0, 1) := by decide +kernel
theorem dL_law_637 : decode cL_law 637 = .ok (.iload_n 3, 1) := by decide +kernel
theorem dL_law_638 : decode cL_law 638 = .ok (.iconst 1, 1) := by decide +kernel
theorem dL_law_639 : decode cL_law 639 = .ok (.iadd, 1) := by decide +kernel
theorem dL_law_640 : decode cL_law 640 = .ok (.iaload, 1) := by decide +kernel
theorem dL_law_641 : decode cL_law 641 = .ok (.aload_n 0, 1) := by decide +kernel
theorem dL_law_642 : decode cL_law 642 = .ok (.iload_n 3, 1) := by decide +kernel
theorem dL_law_643 : decode cL_law 643 = .ok (.iconst 2, 1) := by decide +kernel
theorem dL_law_644 : decode cL_law 644 = .ok (.iadd, 1) := by decide +kernel
theorem dL_law_645 : decode cL_law 645 = .ok (.iaload, 1) := by decide +kernel
theorem dL_law_646 : decode cL_law 646 = .ok (.invokevirtual 87, 3) := by decide +kernel
theorem dL_law_649 : decode cL_law 649 = .ok (.aload_n 2, 1) := by decide +kernel
theorem dL_law_650 : decode cL_law 650 = .ok (.aload_n 0, 1) := by decide +kernel
theorem dL_law_651 : decode cL_law 651 = .ok (.iload_n 3, 1) := by decide +kernel
theorem dL_law_652 : decode cL_law 652 = .ok (.iconst 1, 1) := by decide +kernel
theorem dL_law_653 : decode cL_law 653 = .ok (.iadd, 1) := by decide +kernel
theorem dL_law_654 : decode cL_law 654 = .ok (.iaload, 1) := by decide +kernel
theorem dL_law_655 : decode cL_law 655 = .ok (.aload_n 0, 1) := by decide +kernel
theorem dL_law_656 : decode cL_law 656 = .ok (.iload_n 3, 1) := by decide +kernel
theorem dL_law_657 : decode cL_law 657 = .ok (.iconst 2, 1) := by decide +kernel
theorem dL_law_658 : decode cL_law 658 = .ok (.iadd, 1) := by decide +kernel
theorem dL_law_659 : decode cL_law 659 = .ok (.iaload, 1) := by decide +kernel
theorem dL_law_660 : decode cL_law 660 = .ok (.invokevirtual 90, 3) := by decide +kernel
theorem dL_law_663 : decode cL_law 663 = .ok (.if_icmp .eq 173, 3) := by decide +kernel
theorem dL_law_666 : decode cL_law 666 = .ok (.iconst 0, 1) := by decide +kernel
theorem dL_law_667 : decode cL_law 667 = .ok (.ireturn, 1) := by decide +kernel
theorem dL_law_668 : decode cL_law 668 = .ok (.aload_n 1, 1) := by decide +kernel
theorem dL_law_669 : decode cL_law 669 = .ok (.invokevirtual 91, 3) := by decide +kernel
theorem dL_law_672 : decode cL_law 672 = .ok (.aload_n 2, 1) := by decide +kernel
theorem dL_law_673 : decode cL_law 673 = .ok (.invokevirtual 94, 3) := by decide +kernel
theorem dL_law_676 : decode cL_law 676 = .ok (.if_icmp .eq 160, 3) := by decide +kernel
theorem dL_law_679 : decode cL_law 679 = .ok (.iconst 0, 1) := by decide +kernel
theorem dL_law_680 : decode cL_law 680 = .ok (.ireturn, 1) := by decide +kernel
theorem dL_law_681 : decode cL_law 681 = .ok (.aload_n 1, 1) := by decide +kernel
theorem dL_law_682 : decode cL_law 682 = .ok (.aload_n 0, 1) := by decide +kernel
theorem dL_law_683 : decode cL_law 683 = .ok (.iload_n 3, 1) := by decide +kernel
theorem dL_law_684 : decode cL_law 684 = .ok (.iconst 1, 1) := by decide +kernel
theorem dL_law_685 : decode cL_law 685 = .ok (.iadd, 1) := by decide +kernel
theorem dL_law_686 : decode cL_law 686 = .ok (.iaload, 1) := by decide +kernel
theorem dL_law_687 : decode cL_law 687 = .ok (.aload_n 0, 1) := by decide +kernel
theorem dL_law_688 : decode cL_law 688 = .ok (.iload_n 3, 1) := by decide +kernel
theorem dL_law_689 : decode cL_law 689 = .ok (.iconst 2, 1) := by decide +kernel
theorem dL_law_690 : decode cL_law 690 = .ok (.iadd, 1) := by decide +kernel
theorem dL_law_691 : decode cL_law 691 = .ok (.iaload, 1) := by decide +kernel
theorem dL_law_692 : decode cL_law 692 = .ok (.invokevirtual 95, 3) := by decide +kernel
theorem dL_law_695 : decode cL_law 695 = .ok (.aload_n 2, 1) := by decide +kernel
theorem dL_law_696 : decode cL_law 696 = .ok (.aload_n 0, 1) := by decide +kernel
theorem dL_law_697 : decode cL_law 697 = .ok (.iload_n 3, 1) := by decide +kernel
theorem dL_law_698 : decode cL_law 698 = .ok (.iconst 1, 1) := by decide +kernel
theorem dL_law_699 : decode cL_law 699 = .ok (.iadd, 1) := by decide +kernel
theorem dL_law_700 : decode cL_law 700 = .ok (.iaload, 1) := by decide +kernel
theorem dL_law_701 : decode cL_law 701 = .ok (.aload_n 0, 1) := by decide +kernel
theorem dL_law_702 : decode cL_law 702 = .ok (.iload_n 3, 1) := by decide +kernel
theorem dL_law_703 : decode cL_law 703 = .ok (.iconst 2, 1) := by decide +kernel
theorem dL_law_704 : decode cL_law 704 = .ok (.iadd, 1) := by decide +kernel
theorem dL_law_705 : decode cL_law 705 = .ok (.iaload, 1) := by decide +kernel
theorem dL_law_706 : decode cL_law 706 = .ok (.invokevirtual 98, 3) := by decide +kernel
theorem dL_law_709 : decode cL_law 709 = .ok (.if_icmp .eq 127, 3) := by decide +kernel
theorem dL_law_712 : decode cL_law 712 = .ok (.iconst 0, 1) := by decide +kernel
theorem dL_law_713 : decode cL_law 713 = .ok (.ireturn, 1) := by decide +kernel
theorem dL_law_714 : decode cL_law 714 = .ok (.aload_n 1, 1) := by decide +kernel
theorem dL_law_715 : decode cL_law 715 = .ok (.invokevirtual 99, 3) := by decide +kernel
theorem dL_law_718 : decode cL_law 718 = .ok (.aload_n 2, 1) := by decide +kernel
theorem dL_law_719 : decode cL_law 719 = .ok (.invokevirtual 102, 3) := by decide +kernel
theorem dL_law_722 : decode cL_law 722 = .ok (.if_icmp .eq 114, 3) := by decide +kernel
theorem dL_law_725 : decode cL_law 725 = .ok (.iconst 0, 1) := by decide +kernel
theorem dL_law_726 : decode cL_law 726 = .ok (.ireturn, 1) := by decide +kernel
theorem dL_law_727 : decode cL_law 727 = .ok (.aload_n 1, 1) := by decide +kernel
theorem dL_law_728 : decode cL_law 728 = .ok (.invokevirtual 103, 3) := by decide +kernel
theorem dL_law_731 : decode cL_law 731 = .ok (.aload_n 2, 1) := by decide +kernel
theorem dL_law_732 : decode cL_law 732 = .ok (.invokevirtual 106, 3) := by decide +kernel
theorem dL_law_735 : decode cL_law 735 = .ok (.if_icmp .eq 101, 3) := by decide +kernel
theorem dL_law_738 : decode cL_law 738 = .ok (.iconst 0, 1) := by decide +kernel
theorem dL_law_739 : decode cL_law 739 = .ok (.ireturn, 1) := by decide +kernel
theorem dL_law_740 : decode cL_law 740 = .ok (.aload_n 1, 1) := by decide +kernel
theorem dL_law_741 : decode cL_law 741 = .ok (.aload_n 0, 1) := by decide +kernel
theorem dL_law_742 : decode cL_law 742 = .ok (.iload_n 3, 1) := by decide +kernel
theorem dL_law_743 : decode cL_law 743 = .ok (.iconst 1, 1) := by decide +kernel
theorem dL_law_744 : decode cL_law 744 = .ok (.iadd, 1) := by decide +kernel
theorem dL_law_745 : decode cL_law 745 = .ok (.iaload, 1) := by decide +kernel
theorem dL_law_746 : decode cL_law 746 = .ok (.aload_n 0, 1) := by decide +kernel
theorem dL_law_747 : decode cL_law 747 = .ok (.iload_n 3, 1) := by decide +kernel
theorem dL_law_748 : decode cL_law 748 = .ok (.iconst 2, 1) := by decide +kernel
theorem dL_law_749 : decode cL_law 749 = .ok (.iadd, 1) := by decide +kernel
theorem dL_law_750 : decode cL_law 750 = .ok (.iaload, 1) := by decide +kernel
theorem dL_law_751 : decode cL_law 751 = .ok (.invokevirtual 107, 3) := by decide +kernel
theorem dL_law_754 : decode cL_law 754 = .ok (.aload_n 2, 1) := by decide +kernel
theorem dL_law_755 : decode cL_law 755 = .ok (.aload_n 0, 1) := by decide +kernel
theorem dL_law_756 : decode cL_law 756 = .ok (.iload_n 3, 1) := by decide +kernel
theorem dL_law_757 : decode cL_law 757 = .ok (.iconst 1, 1) := by decide +kernel
theorem dL_law_758 : decode cL_law 758 = .ok (.iadd, 1) := by decide +kernel
theorem dL_law_759 : decode cL_law 759 = .ok (.iaload, 1) := by decide +kernel
theorem dL_law_760 : decode cL_law 760 = .ok (.aload_n 0, 1) := by decide +kernel
theorem dL_law_761 : decode cL_law 761 = .ok (.iload_n 3, 1) := by decide +kernel
theorem dL_law_762 : decode cL_law 762 = .ok (.iconst 2, 1) := by decide +kernel
theorem dL_law_763 : decode cL_law 763 = .ok (.iadd, 1) := by decide +kernel
theorem dL_law_764 : decode cL_law 764 = .ok (.iaload, 1) := by decide +kernel
theorem dL_law_765 : decode cL_law 765 = .ok (.invokevirtual 110, 3) := by decide +kernel
theorem dL_law_768 : decode cL_law 768 = .ok (.if_icmp .eq 68, 3) := by decide +kernel
theorem dL_law_771 : decode cL_law 771 = .ok (.iconst 0, 1) := by decide +kernel
theorem dL_law_772 : decode cL_law 772 = .ok (.ireturn, 1) := by decide +kernel
theorem dL_law_773 : decode cL_law 773 = .ok (.aload_n 1, 1) := by decide +kernel
theorem dL_law_774 : decode cL_law 774 = .ok (.aload_n 0, 1) := by decide +kernel
theorem dL_law_775 : decode cL_law 775 = .ok (.iload_n 3, 1) := by decide +kernel
theorem dL_law_776 : decode cL_law 776 = .ok (.iconst 1, 1) := by decide +kernel
theorem dL_law_777 : decode cL_law 777 = .ok (.iadd, 1) := by decide +kernel
theorem dL_law_778 : decode cL_law 778 = .ok (.iaload, 1) := by decide +kernel
theorem dL_law_779 : decode cL_law 779 = .ok (.invokevirtual 111, 3) := by decide +kernel
theorem dL_law_782 : decode cL_law 782 = .ok (.aload_n 2, 1) := by decide +kernel
theorem dL_law_783 : decode cL_law 783 = .ok (.aload_n 0, 1) := by decide +kernel
theorem dL_law_784 : decode cL_law 784 = .ok (.iload_n 3, 1) := by decide +kernel
theorem dL_law_785 : decode cL_law 785 = .ok (.iconst 1, 1) := by decide +kernel
theorem dL_law_786 : decode cL_law 786 = .ok (.iadd, 1) := by decide +kernel
theorem dL_law_787 : decode cL_law 787 = .ok (.iaload, 1) := by decide +kernel
theorem dL_law_788 : decode cL_law 788 = .ok (.invokevirtual 114, 3) := by decide +kernel
theorem dL_law_791 : decode cL_law 791 = .ok (.if_icmp .eq 45, 3) := by decide +kernel
theorem dL_law_794 : decode cL_law 794 = .ok (.iconst 0, 1) := by decide +kernel
theorem dL_law_795 : decode cL_law 795 = .ok (.ireturn, 1) := by decide +kernel
theorem dL_law_796 : decode cL_law 796 = .ok (.aload_n 1, 1) := by decide +kernel
theorem dL_law_797 : decode cL_law 797 = .ok (.invokevirtual 115, 3) := by decide +kernel
theorem dL_law_800 : decode cL_law 800 = .ok (.aload_n 2, 1) := by decide +kernel
theorem dL_law_801 : decode cL_law 801 = .ok (.invokevirtual 118, 3) := by decide +kernel
theorem dL_law_804 : decode cL_law 804 = .ok (.if_icmp .eq 32, 3) := by decide +kernel
theorem dL_law_807 : decode cL_law 807 = .ok (.iconst 0, 1) := by decide +kernel
theorem dL_law_808 : decode cL_law 808 = .ok (.ireturn, 1) := by decide +kernel
theorem dL_law_809 : decode cL_law 809 = .ok (.aload_n 1, 1) := by decide +kernel
theorem dL_law_810 : decode cL_law 810 = .ok (.invokevirtual 119, 3) := by decide +kernel
theorem dL_law_813 : decode cL_law 813 = .ok (.aload_n 2, 1) := by decide +kernel
theorem dL_law_814 : decode cL_law 814 = .ok (.invokevirtual 122, 3) := by decide +kernel
theorem dL_law_817 : decode cL_law 817 = .ok (.if_icmp .eq 19, 3) := by decide +kernel
theorem dL_law_820 : decode cL_law 820 = .ok (.iconst 0, 1) := by decide +kernel
theorem dL_law_821 : decode cL_law 821 = .ok (.ireturn, 1) := by decide +kernel
theorem dL_law_822 : decode cL_law 822 = .ok (.aload_n 1, 1) := by decide +kernel
theorem dL_law_823 : decode cL_law 823 = .ok (.invokevirtual 123, 3) := by decide +kernel
theorem dL_law_826 : decode cL_law 826 = .ok (.aload_n 2, 1) := by decide +kernel
theorem dL_law_827 : decode cL_law 827 = .ok (.invokevirtual 127, 3) := by decide +kernel
theorem dL_law_830 : decode cL_law 830 = .ok (.lcmp, 1) := by decide +kernel
theorem dL_law_831 : decode cL_law 831 = .ok (.ifCond .eq 5, 3) := by decide +kernel
theorem dL_law_834 : decode cL_law 834 = .ok (.iconst 0, 1) := by decide +kernel
theorem dL_law_835 : decode cL_law 835 = .ok (.ireturn, 1) := by decide +kernel
theorem dL_law_836 : decode cL_law 836 = .ok (.iinc 3 5, 3) := by decide +kernel
theorem dL_law_839 : decode cL_law 839 = .ok (.goto (-821), 3) := by decide +kernel
theorem dL_law_842 : decode cL_law 842 = .ok (.iconst 1, 1) := by decide +kernel
theorem dL_law_843 : decode cL_law 843 = .ok (.ireturn, 1) := by decide +kernel
abbrev vwCl : List vw_C := [(RX0, TX0, 2), (RX1, TX1, 4), (RX2, TX2, 3), (RX3, TX3, 3), (RX4, TX4, 2), (RX5, TX5, 12), (RX6, TX6, 9), (RX7, TX7, 3), (RX8, TX8, 6)]
end
section
/-! ===== THE ABSTRACT MACHINE: cells by their places, refs are places (from 1000 on: arrays that were there before) ===== -/
abbrev tv_TE : Type := (Nat × (Nat → Int32)) ⊕ ((Nat × (Nat → Option Nat)) ⊕ (Nat × List Value))
abbrev tv_Hp : Type := List tv_TE
abbrev tv_G : Type := va_G × ClassId × ClassId × Nat × (Nat → Nat) × (Nat → Nat) × (Nat → Nat → Int32)
abbrev tv_D (g : tv_G) : va_G := g.1
abbrev tv_cI (g : tv_G) : ClassId := g.2.1
abbrev tv_cS (g : tv_G) : ClassId := g.2.2.1
abbrev tv_N (g : tv_G) : Nat := g.2.2.2.1
abbrev tv_xa (g : tv_G) : Nat → Nat := g.2.2.2.2.1
abbrev tv_XL (g : tv_G) : Nat → Nat := g.2.2.2.2.2.1
abbrev tv_X (g : tv_G) : Nat → Nat → Int32 := g.2.2.2.2.2.2
def tv_A (g : tv_G) : Nat → Prop := fun q => tv_N g ≤ q
def tv_ad (g : tv_G) (i : Nat) : Nat := if i < 1000 then tv_N g + i else tv_xa g (i - 1000)
def tv_cv (g : tv_G) : Value → Value
  | .ref i => .ref (tv_ad g i)
  | v => v
theorem tv_adx (g : tv_G) (i : Nat) : tv_ad g (1000 + i) = tv_xa g i := by
  unfold tv_ad
  rw [if_neg (by omega), Nat.add_sub_cancel_left]
theorem tv_cat (g : tv_G) (v : Value) : (tv_cv g v).category = v.category := by cases v <;> rfl
theorem tv_cvnull {g : tv_G} {v : Value} (h : tv_cv g v = .null) : v = .null := by cases v <;> first | rfl | cases h
def tv_ce (g : tv_G) : tv_TE → va_E
  | .inl a => .inl (tv_cI g, a.1, .inl a.2)
  | .inr (.inl a) => .inl (tv_cS g, a.1, .inr (.inr (.inr (.inr (fun i => (a.2 i).map (tv_ad g))))))
  | .inr (.inr o) => .inr (o.1, o.2.map (tv_cv g))
def tv_cc (g : tv_G) (h : tv_Hp) : va_W := h.mapIdx (fun i e => (tv_N g + i, tv_ce g e))
theorem tv_cc_get {g : tv_G} {h : tv_Hp} {i : Nat} {e : tv_TE} (hi : h[i]? = some e) : (tv_cc g h)[i]? = some (tv_N g + i, tv_ce g e) := by
  unfold tv_cc
  rw [List.getElem?_mapIdx, hi]
  rfl
theorem tv_cc_inv {g : tv_G} {h : tv_Hp} {i : Nat} {q : Nat × va_E} (hi : (tv_cc g h)[i]? = some q) : q.1 = tv_N g + i := by
  unfold tv_cc at hi
  rw [List.getElem?_mapIdx] at hi
  cases he : h[i]? with
  | none => rw [he] at hi; cases hi
  | some e => rw [he] at hi; cases hi; rfl
theorem tv_cc_set {g : tv_G} {h : tv_Hp} {i : Nat} {e : tv_TE} : tv_cc g (h.set i e) = (tv_cc g h).set i (tv_N g + i, tv_ce g e) := by
  apply List.ext_getElem?
  intro j
  unfold tv_cc
  rw [List.getElem?_mapIdx, List.getElem?_set, List.getElem?_set, List.getElem?_mapIdx, List.length_mapIdx]
  by_cases hj : i = j
  · subst hj
    simp only [if_true]
    split <;> rfl
  · simp only [hj, if_false]
theorem tv_cc_app {g : tv_G} {h : tv_Hp} {e : tv_TE} : tv_cc g (h ++ [e]) = tv_cc g h ++ [(tv_N g + h.length, tv_ce g e)] := by
  unfold tv_cc
  rw [List.mapIdx_concat]
theorem tv_DD (g : tv_G) (h : tv_Hp) : va_D (tv_A g) (tv_cc g h) := by
  refine ⟨fun i j p q hi hj hpq => ?_, fun k q hk => ?_⟩
  · have h1 := tv_cc_inv hi
    have h2 := tv_cc_inv hj
    omega
  · have h1 := tv_cc_inv hk
    show tv_N g ≤ q.1
    omega
/-! the words -/
def tv_gw : Cond → Bool
  | .methodLinkNest .. => true
  | .fieldLinkNest .. => true
  | w => goodWord w
theorem tv_gw_move {w : Cond} (hw : tv_gw w = true) {s U : State} (hW : s.WarmedH U.vm) {a a' : Array Value} (h : w.before a s = true) : w.before a' U = true := by
  cases w with
  | methodLinkNest x i y z => exact va_Nw.use rfl (va_Nw.warmM hW (va_Nw.of rfl h))
  | fieldLinkNest x i y z w v => exact va_Nw.use rfl (va_Nw.warmF hW (va_Nw.of rfl h))
  | _ => exact word_at hW (good_of_word hw) h
def tv_sn (i : Nat) : String := match i with
  | 1 => "LEAST_VALUES"
  | 2 => "GREATEST_VALUES"
  | _ => "INITIAL_VALUES"
/-- what holds of the world outside our cells, at every state -/
def tv_Wd (g : tv_G) (U : State) : Prop :=
  (∀ w ∈ lw_tbl, tv_gw w = true → ∀ a, w.before a U = true) ∧ va_AO RX5 U ∧ va_K (tv_D g) vwCl [(tv_cI g, .int), (tv_cS g, .object RX5)] U ∧ tv_N g ≤ U.heap.size ∧
  (∀ i, i < 4 → va_X (tv_xa g i) (tv_XL g i) (tv_X g i) U U.heap ∧ tv_xa g i < tv_N g) ∧
  (∀ i, i < 4 → 1 ≤ i → va_Z RX7 (tv_sn i) "[I" (.ref (tv_xa g i)) (tv_A g) U U.heap)
theorem tv_Wd.move {g : tv_G} {s U : State} {H : Heap} {locs : List Loc} (h : tv_Wd g s) (hS : va_S (tv_A g) s.heap H locs) (hH : U.heap = H) (hW : s.WarmedH U.vm) : tv_Wd g U := by
  obtain ⟨h1, h2, h3, h4, h5, h6⟩ := h
  refine ⟨fun w hw hg a => tv_gw_move hg hW (h1 w hw hg #[]), h2.moved hW.alike, h3.moved hW.alike, by rw [hH]; exact Nat.le_trans h4 hS.1, fun i hi => ⟨?_, (h5 i hi).2⟩, fun i hi h0 => ?_⟩
  · refine ((h5 i hi).1.moved hW.alike).kept ?_
    rw [hH]
    exact hS.2.1 _ (Nat.lt_of_lt_of_le (h5 i hi).2 h4) (Nat.not_le.mpr (h5 i hi).2)
  · refine ((h6 i hi h0).moved hW.alike).kept (fun a ha hA => ?_)
    rw [hH]
    exact hS.2.1 a ha hA
theorem tv_Wd.blind {g : tv_G} {U : State} (h : tv_Wd g U) (f : JFrame) (mk : MethodId) (a : Array Value) : tv_Wd g (U.calling f mk a) :=
  h.move (locs := []) va_S.rf rfl (State.WarmedH.refl U)
/-! the locals: a list; null stands where nothing is known -/
def tv_L (g : tv_G) (nL : Nat) (L : List Value) (ls : Array Slot) : Prop := ls.size = nL ∧ lv_wf ls ∧ ∀ (i : Nat) (v : Value), L[i]? = some v → v ≠ .null → ls[i]? = some (.val (tv_cv g v))
def tv_lv (g : tv_G) (L : List Value) : List (Nat × Value) := (List.range L.length).filterMap (fun i => match L[i]? with
  | some Value.null => none
  | some v => some (i, tv_cv g v)
  | none => none)
theorem tv_lv_mem {g : tv_G} {L : List Value} {i : Nat} {v : Value} (h : L[i]? = some v) (hv : v ≠ .null) : (i, tv_cv g v) ∈ tv_lv g L := by
  unfold tv_lv
  refine List.mem_filterMap.mpr ⟨i, List.mem_range.mpr (List.getElem?_eq_some_iff.mp h).1, ?_⟩
  rw [h]
  cases v <;> first | rfl | exact absurd rfl hv
theorem tv_lv_inv {g : tv_G} {L : List Value} {q : Nat × Value} (h : q ∈ tv_lv g L) : ∃ v, L[q.1]? = some v ∧ v ≠ .null ∧ q.2 = tv_cv g v := by
  unfold tv_lv at h
  obtain ⟨i, -, hi⟩ := List.mem_filterMap.mp h
  cases hL : L[i]? with
  | none => rw [hL] at hi; cases hi
  | some v =>
    rw [hL] at hi
    cases v <;> first | (cases hi; exact ⟨_, hL, (fun z => by cases z), rfl⟩) | cases hi
theorem tv_L.has {g : tv_G} {nL : Nat} {L : List Value} {ls : Array Slot} (h : tv_L g nL L ls) : lv_has ls nL (tv_lv g L) := by
  refine ⟨h.1, h.2.1, fun q hq => ?_⟩
  obtain ⟨v, h1, h2, h3⟩ := tv_lv_inv hq
  rw [h3]
  exact h.2.2 q.1 v h1 h2
theorem tv_L.get {g : tv_G} {nL : Nat} {L : List Value} {ls : Array Slot} (h : tv_L g nL L ls) {i : Nat} {v : Value} (hi : L[i]? = some v) (hv : v ≠ .null) : ls[i]? = some (.val (tv_cv g v)) := h.2.2 i v hi hv
def tv_set : List Value → Nat → Value → List Value
  | [], _, _ => []
  | _ :: t, 0, v => v :: t
  | w :: t, 1, v => (if w.category = 2 then .null else w) :: tv_set t 0 v
  | w :: t, i + 2, v => w :: tv_set t (i + 1) v
def tv_set2 : List Value → Nat → Value → List Value
  | [], _, _ => []
  | _ :: [], 0, v => [v]
  | _ :: _ :: t, 0, v => v :: .null :: t
  | w :: t, 1, v => (if w.category = 2 then .null else w) :: tv_set2 t 0 v
  | w :: t, i + 2, v => w :: tv_set2 t (i + 1) v
theorem tv_set_get : ∀ (L : List Value) (i : Nat) (v : Value) (j : Nat) (w : Value), (tv_set L i v)[j]? = some w → w ≠ .null → (j = i ∧ w = v) ∨ (j ≠ i ∧ L[j]? = some w ∧ ¬ (j + 1 = i ∧ w.category = 2))
  | [], i, v, j, w, h, _ => by simp [tv_set] at h
  | x :: t, 0, v, j, w, h, hw => by
    cases j with
    | zero => simp [tv_set] at h; exact Or.inl ⟨rfl, h.symm⟩
    | succ j => simp [tv_set] at h; exact Or.inr ⟨by omega, by simpa using h, by omega⟩
  | x :: t, 1, v, j, w, h, hw => by
    cases j with
    | zero =>
      simp only [tv_set, List.getElem?_cons_zero, Option.some.injEq] at h
      split at h
      · exact absurd h.symm hw
      next hc => subst h; exact Or.inr ⟨by omega, rfl, fun z => hc z.2⟩
    | succ j =>
      simp only [tv_set, List.getElem?_cons_succ] at h
      rcases tv_set_get t 0 v j w h hw with ⟨h1, h2⟩ | ⟨h1, h2, h3⟩
      · exact Or.inl ⟨by omega, h2⟩
      · exact Or.inr ⟨by omega, by simpa using h2, by omega⟩
  | x :: t, i + 2, v, j, w, h, hw => by
    cases j with
    | zero =>
      simp only [tv_set, List.getElem?_cons_zero, Option.some.injEq] at h
      exact Or.inr ⟨by omega, by simpa using h, by omega⟩
    | succ j =>
      simp only [tv_set, List.getElem?_cons_succ] at h
      rcases tv_set_get t (i + 1) v j w h hw with ⟨h1, h2⟩ | ⟨h1, h2, h3⟩
      · exact Or.inl ⟨by omega, h2⟩
      · exact Or.inr ⟨by omega, by simpa using h2, fun z => h3 ⟨by omega, z.2⟩⟩
theorem tv_set2_get : ∀ (L : List Value) (i : Nat) (v : Value) (j : Nat) (w : Value), (tv_set2 L i v)[j]? = some w → w ≠ .null → (j = i ∧ w = v) ∨ (j ≠ i ∧ j ≠ i + 1 ∧ L[j]? = some w ∧ ¬ (j + 1 = i ∧ w.category = 2))
  | [], i, v, j, w, h, _ => by simp [tv_set2] at h
  | [x], 0, v, j, w, h, hw => by
    cases j with
    | zero => simp [tv_set2] at h; exact Or.inl ⟨rfl, h.symm⟩
    | succ j => simp [tv_set2] at h
  | x :: z :: t, 0, v, j, w, h, hw => by
    match j with
    | 0 => simp [tv_set2] at h; exact Or.inl ⟨rfl, h.symm⟩
    | 1 => simp [tv_set2] at h; exact absurd h.symm hw
    | j + 2 => simp [tv_set2] at h; exact Or.inr ⟨by omega, by omega, by simpa using h, by omega⟩
  | x :: t, 1, v, j, w, h, hw => by
    cases j with
    | zero =>
      simp only [tv_set2, List.getElem?_cons_zero, Option.some.injEq] at h
      split at h
      · exact absurd h.symm hw
      next hc => subst h; exact Or.inr ⟨by omega, by omega, rfl, fun z => hc z.2⟩
    | succ j =>
      simp only [tv_set2, List.getElem?_cons_succ] at h
      rcases tv_set2_get t 0 v j w h hw with ⟨h1, h2⟩ | ⟨h1, h2, h3, h4⟩
      · exact Or.inl ⟨by omega, h2⟩
      · exact Or.inr ⟨by omega, by omega, by simpa using h3, by omega⟩
  | x :: t, i + 2, v, j, w, h, hw => by
    cases j with
    | zero =>
      simp only [tv_set2, List.getElem?_cons_zero, Option.some.injEq] at h
      exact Or.inr ⟨by omega, by omega, by simpa using h, by omega⟩
    | succ j =>
      simp only [tv_set2, List.getElem?_cons_succ] at h
      rcases tv_set2_get t (i + 1) v j w h hw with ⟨h1, h2⟩ | ⟨h1, h2, h3, h4⟩
      · exact Or.inl ⟨by omega, h2⟩
      · exact Or.inr ⟨by omega, by omega, by simpa using h3, fun z => h4 ⟨by omega, z.2⟩⟩
theorem tv_L.set {g : tv_G} {nL : Nat} {L : List Value} {ls' : Array Slot} {i : Nat} {v : Value} (h : lv_has ls' nL ((i, tv_cv g v) :: (tv_lv g L).filter (fun q => !(q.1 == i) && !(q.1 + 1 == i && q.2.category == 2)))) : tv_L g nL (tv_set L i v) ls' := by
  refine ⟨h.1, h.2.1, fun j w hj hw => ?_⟩
  rcases tv_set_get L i v j w hj hw with ⟨h1, h2⟩ | ⟨h1, h2, h3⟩
  · subst h1; subst h2
    exact h.2.2 _ List.mem_cons_self
  · refine h.2.2 (j, tv_cv g w) (List.mem_cons_of_mem _ (List.mem_filter.mpr ⟨tv_lv_mem h2 hw, ?_⟩))
    simp only [tv_cat, Bool.and_eq_true, Bool.not_eq_true', beq_eq_false_iff_ne, ne_eq, Bool.and_eq_false_imp, beq_iff_eq]
    exact ⟨h1, fun z => fun z2 => h3 ⟨z, z2⟩⟩
theorem tv_L.set2 {g : tv_G} {nL : Nat} {L : List Value} {ls' : Array Slot} {i : Nat} {v : Value} (h : lv_has ls' nL ((i, tv_cv g v) :: (tv_lv g L).filter (fun q => !(q.1 == i) && (!(q.1 == i + 1) && !(q.1 + 1 == i && q.2.category == 2))))) : tv_L g nL (tv_set2 L i v) ls' := by
  refine ⟨h.1, h.2.1, fun j w hj hw => ?_⟩
  rcases tv_set2_get L i v j w hj hw with ⟨h1, h2⟩ | ⟨h1, h2, h3, h4⟩
  · subst h1; subst h2
    exact h.2.2 _ List.mem_cons_self
  · refine h.2.2 (j, tv_cv g w) (List.mem_cons_of_mem _ (List.mem_filter.mpr ⟨tv_lv_mem h3 hw, ?_⟩))
    simp only [tv_cat, Bool.and_eq_true, Bool.not_eq_true', beq_eq_false_iff_ne, ne_eq, Bool.and_eq_false_imp, beq_iff_eq]
    exact ⟨h1, h2, fun z => fun z2 => h4 ⟨z, z2⟩⟩
/-! the locals at a method's entry -/
def tv_ex : List Value → List Value
  | [] => []
  | v :: vs => if v.category = 2 then v :: .null :: tv_ex vs else v :: tv_ex vs
def tv_in (nL : Nat) (vs : List Value) : List Value := tv_ex vs ++ List.replicate (nL - (tv_ex vs).length) .null
theorem tv_ex_len (g : tv_G) : ∀ vs : List Value, (lg_sl (vs.map (tv_cv g))).length = (tv_ex vs).length
  | [] => rfl
  | v :: vs => by
    have ih := tv_ex_len g vs
    by_cases hc : v.category = 2
    · simp only [List.map_cons, lg_sl, List.flatMap_cons, tv_cat, hc, if_true, tv_ex, List.length_append, List.length_cons, List.length_nil] at ih ⊢
      omega
    · simp only [List.map_cons, lg_sl, List.flatMap_cons, tv_cat, hc, if_false, tv_ex, List.length_append, List.length_cons, List.length_nil] at ih ⊢
      omega
theorem tv_ex_args (g : tv_G) : ∀ (vs : List Value) (k i : Nat) (v : Value), (tv_ex vs)[i]? = some v → v ≠ .null → (k + i, tv_cv g v) ∈ lv_args k (vs.map (tv_cv g))
  | [], k, i, v, h, _ => by simp [tv_ex] at h
  | x :: vs, k, i, v, h, hv => by
    by_cases hc : x.category = 2
    · simp only [tv_ex, hc, if_true] at h
      simp only [List.map_cons, lv_args, tv_cat, hc, if_true]
      match i with
      | 0 => simp only [List.getElem?_cons_zero, Option.some.injEq] at h; subst h; exact List.mem_cons_self
      | 1 => simp only [List.getElem?_cons_succ, List.getElem?_cons_zero, Option.some.injEq] at h; exact absurd h.symm hv
      | i + 2 =>
        simp only [List.getElem?_cons_succ] at h
        have := tv_ex_args g vs (k + 2) i v h hv
        refine List.mem_cons_of_mem _ ?_
        rw [show k + (i + 2) = k + 2 + i by omega]
        exact this
    · simp only [tv_ex, hc, if_false] at h
      simp only [List.map_cons, lv_args, tv_cat, hc, if_false]
      match i with
      | 0 => simp only [List.getElem?_cons_zero, Option.some.injEq] at h; subst h; exact List.mem_cons_self
      | i + 1 =>
        simp only [List.getElem?_cons_succ] at h
        have := tv_ex_args g vs (k + 1) i v h hv
        refine List.mem_cons_of_mem _ ?_
        rw [show k + (i + 1) = k + 1 + i by omega]
        exact this
theorem tv_entry {g : tv_G} {nL : Nat} {vs : List Value} {ls : Array Slot} (h : lv_has ls nL (lv_args 0 (vs.map (tv_cv g)))) : tv_L g nL (tv_in nL vs) ls := by
  refine ⟨h.1, h.2.1, fun i v hi hv => ?_⟩
  unfold tv_in at hi
  by_cases hl : i < (tv_ex vs).length
  · rw [List.getElem?_append_left hl] at hi
    have := tv_ex_args g vs 0 i v hi hv
    rw [Nat.zero_add] at this
    exact h.2.2 _ this
  · rw [List.getElem?_append_right (by omega)] at hi
    have := List.mem_of_getElem? hi
    exact absurd (List.eq_of_mem_replicate this) hv
/-! ===== THE JUDGEMENT: from the frame at pc, with locals L, stack st and cells h, the method comes to a return with r and the cells h'; it makes kc cells of ks slots; it needs d frames ===== -/
def tv_Cx (g : tv_G) (y : MethodName) (cc : ByteArray) (nL d : Nat) (p : Program) (R : Room) (s : State) (m : MethodId) (meth : Method) (c : Code) : Prop :=
  p.tables.exec = Jvm.exec ∧ c.code = cc ∧ c.maxLocals = nL ∧ s.vm.findClass y.cls = some m.cls ∧ tv_Wd g s ∧ d ≤ R.frames ∧ 40 * d ≤ R.locals ∧ (y.name = "<init>" → meth.name = "<init>")
def tv_rp (cc : ByteArray) (ret : Option FieldType) (pc : Nat) (r : Option Value) : Prop := match r with
  | none => decode cc pc = .ok (.return_, 1) ∧ ret = none
  | some (.int v) => decode cc pc = .ok (.ireturn, 1) ∧ ∃ ty, ret = some ty ∧ narrow ty (.int v) = .int v
  | some (.long _) => decode cc pc = .ok (.lreturn, 1) ∧ ret = some .long
  | _ => False
def tv_E (g : tv_G) (l : Launch) (y : MethodName) (cc : ByteArray) (nL : Nat) (ret : Option FieldType) (d kc ks pc : Nat) (L st : List Value) (h : tv_Hp) (r : Option Value) (h' : tv_Hp) : Prop :=
  ∀ (p : Program) (e : Env) (R : Room) (s : State) (m : MethodId) (args : Array Value) (below : List Frame) (meth : Method) (c : Code) (Q : State → Prop) (H : Heap) (locs : List Loc) (cells slots : Nat) (ls : Array Slot),
    tv_Cx g y cc nL d p R s m meth c → va_P (tv_D g) vwCl (tv_cc g h) H → s.heap.size + cells = tv_N g + h.length → va_S (tv_A g) s.heap H locs → tv_L g nL L ls → cells + kc ≤ R.cells → slots + ks ≤ R.slots →
    (∀ (pc' : Nat) (ls' : Array Slot) (H' : Heap) (locs' : List Loc), tv_rp cc ret pc' r → va_P (tv_D g) vwCl (tv_cc g h') H' → s.heap.size + (cells + kc) = tv_N g + h'.length → va_S (tv_A g) s.heap H' locs' → W p l e R s m args below meth c H' locs' (cells + kc) (slots + ks) Q (F0 m pc' ls' r.toList)) →
    W p l e R s m args below meth c H locs cells slots Q (F0 m pc ls (st.map (tv_cv g)))
section TVR
variable {g : tv_G} {l : Launch} {y : MethodName} {cc : ByteArray} {nL : Nat} {ret : Option FieldType} {d kc ks pc : Nat} {L st : List Value} {h : tv_Hp} {r : Option Value} {h' : tv_Hp}
theorem tv_Wd.in {g : tv_G} {U : State} (h : tv_Wd g U) {w : Cond} (hw : w ∈ lw_tbl) (hg : tv_gw w = true) {a : Array Value} : w.before a U = true := h.1 w hw hg a
theorem ev_iconst {n : Int} {v : Int32} (q : Nat) (hd : decode cc pc = .ok (.iconst n, 1)) (hq : pc + 1 = q) (hv : Int32.ofInt n = v) (k : tv_E g l y cc nL ret d kc ks q L (.int v :: st) h r h') : tv_E g l y cc nL ret d kc ks pc L (st) h r h' := by
  subst hq
  intro p e R s m args below meth c Q H locs cells slots ls C hP hz hS hl h1 h2 K
  exact lv_iconst C.1 C.2.1 hd hv (k p e R s m args below meth c Q H locs cells slots ls C hP hz hS hl h1 h2 K)
theorem ev_bipush {n : Int} {v : Int32} (q : Nat) (hd : decode cc pc = .ok (.bipush n, 2)) (hq : pc + 2 = q) (hv : (Int8.ofInt n).toInt32 = v) (k : tv_E g l y cc nL ret d kc ks q L (.int v :: st) h r h') : tv_E g l y cc nL ret d kc ks pc L (st) h r h' := by
  subst hq
  intro p e R s m args below meth c Q H locs cells slots ls C hP hz hS hl h1 h2 K
  exact lv_bipush C.1 C.2.1 hd hv (k p e R s m args below meth c Q H locs cells slots ls C hP hz hS hl h1 h2 K)
theorem ev_sipush {n : Int} {v : Int32} (q : Nat) (hd : decode cc pc = .ok (.sipush n, 3)) (hq : pc + 3 = q) (hv : (Int16.ofInt n).toInt32 = v) (k : tv_E g l y cc nL ret d kc ks q L (.int v :: st) h r h') : tv_E g l y cc nL ret d kc ks pc L (st) h r h' := by
  subst hq
  intro p e R s m args below meth c Q H locs cells slots ls C hP hz hS hl h1 h2 K
  exact lv_sipush C.1 C.2.1 hd hv (k p e R s m args below meth c Q H locs cells slots ls C hP hz hS hl h1 h2 K)
theorem ev_ldc {i : Nat} {v : Int32} (q : Nat) (hd : decode cc pc = .ok (.ldc i, 2)) (hq : pc + 2 = q) (hw : Cond.constant y.cls i v ∈ lw_tbl) (k : tv_E g l y cc nL ret d kc ks q L (.int v :: st) h r h') : tv_E g l y cc nL ret d kc ks pc L (st) h r h' := by
  subst hq
  intro p e R s m args below meth c Q H locs cells slots ls C hP hz hS hl h1 h2 K
  exact lv_ldc C.1 C.2.1 C.2.2.2.1 (C.2.2.2.2.1.in hw rfl) hd (k p e R s m args below meth c Q H locs cells slots ls C hP hz hS hl h1 h2 K)
theorem ev_ldcw {i : Nat} {v : Int32} (q : Nat) (hd : decode cc pc = .ok (.ldc_w i, 3)) (hq : pc + 3 = q) (hw : Cond.constant y.cls i v ∈ lw_tbl) (k : tv_E g l y cc nL ret d kc ks q L (.int v :: st) h r h') : tv_E g l y cc nL ret d kc ks pc L (st) h r h' := by
  subst hq
  intro p e R s m args below meth c Q H locs cells slots ls C hP hz hS hl h1 h2 K
  exact lv_ldcw C.1 C.2.1 C.2.2.2.1 (C.2.2.2.2.1.in hw rfl) hd (k p e R s m args below meth c Q H locs cells slots ls C hP hz hS hl h1 h2 K)
theorem ev_ldc2 {i : Nat} {v : Int64} (q : Nat) (hd : decode cc pc = .ok (.ldc2_w i, 3)) (hq : pc + 3 = q) (hw : Cond.constantLong y.cls i v ∈ lw_tbl) (k : tv_E g l y cc nL ret d kc ks q L (.long v :: st) h r h') : tv_E g l y cc nL ret d kc ks pc L (st) h r h' := by
  subst hq
  intro p e R s m args below meth c Q H locs cells slots ls C hP hz hS hl h1 h2 K
  exact lv_ldc2 C.1 C.2.1 C.2.2.2.1 (C.2.2.2.2.1.in hw rfl) hd (k p e R s m args below meth c Q H locs cells slots ls C hP hz hS hl h1 h2 K)
theorem ev_iload_n {j : Fin 4} {i : Nat} {x : Int32} (q : Nat) (hd : decode cc pc = .ok (.iload_n j, 1)) (hq : pc + 1 = q) (hi : (j : Nat) = i) (hx : L[i]? = some (.int x)) (k : tv_E g l y cc nL ret d kc ks q L (.int x :: st) h r h') : tv_E g l y cc nL ret d kc ks pc L (st) h r h' := by
  subst hq
  intro p e R s m args below meth c Q H locs cells slots ls C hP hz hS hl h1 h2 K
  exact lv_iload_n C.1 C.2.1 hd hi (hl.get hx (fun z => by cases z)) (k p e R s m args below meth c Q H locs cells slots ls C hP hz hS hl h1 h2 K)
theorem ev_iload {i : Nat} {x : Int32} (q : Nat) (hd : decode cc pc = .ok (.iload i, 2)) (hq : pc + 2 = q) (hx : L[i]? = some (.int x)) (k : tv_E g l y cc nL ret d kc ks q L (.int x :: st) h r h') : tv_E g l y cc nL ret d kc ks pc L (st) h r h' := by
  subst hq
  intro p e R s m args below meth c Q H locs cells slots ls C hP hz hS hl h1 h2 K
  exact lv_iload C.1 C.2.1 hd (hl.get hx (fun z => by cases z)) (k p e R s m args below meth c Q H locs cells slots ls C hP hz hS hl h1 h2 K)
theorem ev_lload_n {j : Fin 4} {i : Nat} {x : Int64} (q : Nat) (hd : decode cc pc = .ok (.lload_n j, 1)) (hq : pc + 1 = q) (hi : (j : Nat) = i) (hx : L[i]? = some (.long x)) (k : tv_E g l y cc nL ret d kc ks q L (.long x :: st) h r h') : tv_E g l y cc nL ret d kc ks pc L (st) h r h' := by
  subst hq
  intro p e R s m args below meth c Q H locs cells slots ls C hP hz hS hl h1 h2 K
  exact lv_lload_n C.1 C.2.1 hd hi (hl.get hx (fun z => by cases z)) (k p e R s m args below meth c Q H locs cells slots ls C hP hz hS hl h1 h2 K)
theorem ev_aload_n {j : Fin 4} {i : Nat} {x : Nat} (q : Nat) (hd : decode cc pc = .ok (.aload_n j, 1)) (hq : pc + 1 = q) (hi : (j : Nat) = i) (hx : L[i]? = some (.ref x)) (k : tv_E g l y cc nL ret d kc ks q L (.ref x :: st) h r h') : tv_E g l y cc nL ret d kc ks pc L (st) h r h' := by
  subst hq
  intro p e R s m args below meth c Q H locs cells slots ls C hP hz hS hl h1 h2 K
  exact lv_aload_n C.1 C.2.1 hd hi (hl.get hx (fun z => by cases z)) (k p e R s m args below meth c Q H locs cells slots ls C hP hz hS hl h1 h2 K)
theorem ev_istore_n {j : Fin 4} {i : Nat} {x : Int32} {L2 : List Value} (q : Nat) (hd : decode cc pc = .ok (.istore_n j, 1)) (hq : pc + 1 = q) (hi : (j : Nat) = i) (hn : i < nL) (hL : tv_set L i (.int x) = L2) (k : tv_E g l y cc nL ret d kc ks q L2 (st) h r h') : tv_E g l y cc nL ret d kc ks pc L (.int x :: st) h r h' := by
  subst hq
  intro p e R s m args below meth c Q H locs cells slots ls C hP hz hS hl h1 h2 K
  exact lv_istore_n C.1 C.2.1 hd hi hl.has hn rfl (fun ls hl => k p e R s m args below meth c Q H locs cells slots ls C hP hz hS (by subst hL; exact tv_L.set hl) h1 h2 K)
theorem ev_istore {i : Nat} {x : Int32} {L2 : List Value} (q : Nat) (hd : decode cc pc = .ok (.istore i, 2)) (hq : pc + 2 = q) (hn : i < nL) (hL : tv_set L i (.int x) = L2) (k : tv_E g l y cc nL ret d kc ks q L2 (st) h r h') : tv_E g l y cc nL ret d kc ks pc L (.int x :: st) h r h' := by
  subst hq
  intro p e R s m args below meth c Q H locs cells slots ls C hP hz hS hl h1 h2 K
  exact lv_istore C.1 C.2.1 hd hl.has hn rfl (fun ls hl => k p e R s m args below meth c Q H locs cells slots ls C hP hz hS (by subst hL; exact tv_L.set hl) h1 h2 K)
theorem ev_lstore_n {j : Fin 4} {i : Nat} {x : Int64} {L2 : List Value} (q : Nat) (hd : decode cc pc = .ok (.lstore_n j, 1)) (hq : pc + 1 = q) (hi : (j : Nat) = i) (hn : i + 1 < nL) (hL : tv_set2 L i (.long x) = L2) (k : tv_E g l y cc nL ret d kc ks q L2 (st) h r h') : tv_E g l y cc nL ret d kc ks pc L (.long x :: st) h r h' := by
  subst hq
  intro p e R s m args below meth c Q H locs cells slots ls C hP hz hS hl h1 h2 K
  exact lv_lstore_n C.1 C.2.1 hd hi hl.has hn rfl (fun ls hl => k p e R s m args below meth c Q H locs cells slots ls C hP hz hS (by subst hL; exact tv_L.set2 hl) h1 h2 K)
theorem ev_astore_n {j : Fin 4} {i : Nat} {x : Nat} {L2 : List Value} (q : Nat) (hd : decode cc pc = .ok (.astore_n j, 1)) (hq : pc + 1 = q) (hi : (j : Nat) = i) (hn : i < nL) (hL : tv_set L i (.ref x) = L2) (k : tv_E g l y cc nL ret d kc ks q L2 (st) h r h') : tv_E g l y cc nL ret d kc ks pc L (.ref x :: st) h r h' := by
  subst hq
  intro p e R s m args below meth c Q H locs cells slots ls C hP hz hS hl h1 h2 K
  exact lv_astore_n C.1 C.2.1 hd hi hl.has hn rfl (fun ls hl => k p e R s m args below meth c Q H locs cells slots ls C hP hz hS (by subst hL; exact tv_L.set hl) h1 h2 K)
theorem ev_iinc {i : Nat} {n : Int} {x v : Int32} {L2 : List Value} (q : Nat) (hd : decode cc pc = .ok (.iinc i n, 3)) (hq : pc + 3 = q) (hx : L[i]? = some (.int x)) (hv : x + Int32.ofInt n = v) (hn : i < nL) (hL : tv_set L i (.int v) = L2) (k : tv_E g l y cc nL ret d kc ks q L2 st h r h') : tv_E g l y cc nL ret d kc ks pc L st h r h' := by
  subst hq
  intro p e R s m args below meth c Q H locs cells slots ls C hP hz hS hl h1 h2 K
  obtain ⟨j, hj⟩ := List.getElem?_of_mem (tv_lv_mem (g := g) hx (fun z => by cases z))
  exact lv_iinc C.1 C.2.1 hd hl.has (k := j) hj hv hn rfl (fun ls hl => k p e R s m args below meth c Q H locs cells slots ls C hP hz hS (by subst hL; exact tv_L.set hl) h1 h2 K)
theorem ev_iadd {a b : Int32} (q : Nat) (hd : decode cc pc = .ok (.iadd, 1)) (hq : pc + 1 = q) (k : tv_E g l y cc nL ret d kc ks q L (.int (a + b) :: st) h r h') : tv_E g l y cc nL ret d kc ks pc L (.int b :: .int a :: st) h r h' := by
  subst hq
  intro p e R s m args below meth c Q H locs cells slots ls C hP hz hS hl h1 h2 K
  exact lv_iadd C.1 C.2.1 hd (k p e R s m args below meth c Q H locs cells slots ls C hP hz hS hl h1 h2 K)
theorem ev_isub {a b : Int32} (q : Nat) (hd : decode cc pc = .ok (.isub, 1)) (hq : pc + 1 = q) (k : tv_E g l y cc nL ret d kc ks q L (.int (a - b) :: st) h r h') : tv_E g l y cc nL ret d kc ks pc L (.int b :: .int a :: st) h r h' := by
  subst hq
  intro p e R s m args below meth c Q H locs cells slots ls C hP hz hS hl h1 h2 K
  exact lv_isub C.1 C.2.1 hd (k p e R s m args below meth c Q H locs cells slots ls C hP hz hS hl h1 h2 K)
theorem ev_imul {a b : Int32} (q : Nat) (hd : decode cc pc = .ok (.imul, 1)) (hq : pc + 1 = q) (k : tv_E g l y cc nL ret d kc ks q L (.int (a * b) :: st) h r h') : tv_E g l y cc nL ret d kc ks pc L (.int b :: .int a :: st) h r h' := by
  subst hq
  intro p e R s m args below meth c Q H locs cells slots ls C hP hz hS hl h1 h2 K
  exact lv_imul C.1 C.2.1 hd (k p e R s m args below meth c Q H locs cells slots ls C hP hz hS hl h1 h2 K)
theorem ev_iand {a b : Int32} (q : Nat) (hd : decode cc pc = .ok (.iand, 1)) (hq : pc + 1 = q) (k : tv_E g l y cc nL ret d kc ks q L (.int (a &&& b) :: st) h r h') : tv_E g l y cc nL ret d kc ks pc L (.int b :: .int a :: st) h r h' := by
  subst hq
  intro p e R s m args below meth c Q H locs cells slots ls C hP hz hS hl h1 h2 K
  exact lv_iand C.1 C.2.1 hd (k p e R s m args below meth c Q H locs cells slots ls C hP hz hS hl h1 h2 K)
theorem ev_ior {a b : Int32} (q : Nat) (hd : decode cc pc = .ok (.ior, 1)) (hq : pc + 1 = q) (k : tv_E g l y cc nL ret d kc ks q L (.int (a ||| b) :: st) h r h') : tv_E g l y cc nL ret d kc ks pc L (.int b :: .int a :: st) h r h' := by
  subst hq
  intro p e R s m args below meth c Q H locs cells slots ls C hP hz hS hl h1 h2 K
  exact lv_ior C.1 C.2.1 hd (k p e R s m args below meth c Q H locs cells slots ls C hP hz hS hl h1 h2 K)
theorem ev_ixor {a b : Int32} (q : Nat) (hd : decode cc pc = .ok (.ixor, 1)) (hq : pc + 1 = q) (k : tv_E g l y cc nL ret d kc ks q L (.int (a ^^^ b) :: st) h r h') : tv_E g l y cc nL ret d kc ks pc L (.int b :: .int a :: st) h r h' := by
  subst hq
  intro p e R s m args below meth c Q H locs cells slots ls C hP hz hS hl h1 h2 K
  exact lv_ixor C.1 C.2.1 hd (k p e R s m args below meth c Q H locs cells slots ls C hP hz hS hl h1 h2 K)
theorem ev_ishl {a b : Int32} (q : Nat) (hd : decode cc pc = .ok (.ishl, 1)) (hq : pc + 1 = q) (k : tv_E g l y cc nL ret d kc ks q L (.int (a <<< (b &&& 31)) :: st) h r h') : tv_E g l y cc nL ret d kc ks pc L (.int b :: .int a :: st) h r h' := by
  subst hq
  intro p e R s m args below meth c Q H locs cells slots ls C hP hz hS hl h1 h2 K
  exact lv_ishl C.1 C.2.1 hd (k p e R s m args below meth c Q H locs cells slots ls C hP hz hS hl h1 h2 K)
theorem ev_ishr {a b : Int32} (q : Nat) (hd : decode cc pc = .ok (.ishr, 1)) (hq : pc + 1 = q) (k : tv_E g l y cc nL ret d kc ks q L (.int (a >>> (b &&& 31)) :: st) h r h') : tv_E g l y cc nL ret d kc ks pc L (.int b :: .int a :: st) h r h' := by
  subst hq
  intro p e R s m args below meth c Q H locs cells slots ls C hP hz hS hl h1 h2 K
  exact lv_ishr C.1 C.2.1 hd (k p e R s m args below meth c Q H locs cells slots ls C hP hz hS hl h1 h2 K)
theorem ev_iushr {a b : Int32} (q : Nat) (hd : decode cc pc = .ok (.iushr, 1)) (hq : pc + 1 = q) (k : tv_E g l y cc nL ret d kc ks q L (.int ((a.toUInt32 >>> (b.toUInt32 &&& Int32.toUInt32 31)).toInt32) :: st) h r h') : tv_E g l y cc nL ret d kc ks pc L (.int b :: .int a :: st) h r h' := by
  subst hq
  intro p e R s m args below meth c Q H locs cells slots ls C hP hz hS hl h1 h2 K
  exact lv_iushr C.1 C.2.1 hd rfl (k p e R s m args below meth c Q H locs cells slots ls C hP hz hS hl h1 h2 K)
theorem ev_idiv {a b : Int32} (q : Nat) (hd : decode cc pc = .ok (.idiv, 1)) (hq : pc + 1 = q) (hne : ¬ b = 0) (k : tv_E g l y cc nL ret d kc ks q L (.int (a / b) :: st) h r h') : tv_E g l y cc nL ret d kc ks pc L (.int b :: .int a :: st) h r h' := by
  subst hq
  intro p e R s m args below meth c Q H locs cells slots ls C hP hz hS hl h1 h2 K
  exact lv_idiv C.1 C.2.1 hd hne (k p e R s m args below meth c Q H locs cells slots ls C hP hz hS hl h1 h2 K)
theorem ev_irem {a b : Int32} (q : Nat) (hd : decode cc pc = .ok (.irem, 1)) (hq : pc + 1 = q) (hne : ¬ b = 0) (k : tv_E g l y cc nL ret d kc ks q L (.int (a - a / b * b) :: st) h r h') : tv_E g l y cc nL ret d kc ks pc L (.int b :: .int a :: st) h r h' := by
  subst hq
  intro p e R s m args below meth c Q H locs cells slots ls C hP hz hS hl h1 h2 K
  exact lv_irem C.1 C.2.1 hd hne (k p e R s m args below meth c Q H locs cells slots ls C hP hz hS hl h1 h2 K)
theorem ev_ladd {a b : Int64} (q : Nat) (hd : decode cc pc = .ok (.ladd, 1)) (hq : pc + 1 = q) (k : tv_E g l y cc nL ret d kc ks q L (.long (a + b) :: st) h r h') : tv_E g l y cc nL ret d kc ks pc L (.long b :: .long a :: st) h r h' := by
  subst hq
  intro p e R s m args below meth c Q H locs cells slots ls C hP hz hS hl h1 h2 K
  exact lv_ladd C.1 C.2.1 hd (k p e R s m args below meth c Q H locs cells slots ls C hP hz hS hl h1 h2 K)
theorem ev_lmul {a b : Int64} (q : Nat) (hd : decode cc pc = .ok (.lmul, 1)) (hq : pc + 1 = q) (k : tv_E g l y cc nL ret d kc ks q L (.long (a * b) :: st) h r h') : tv_E g l y cc nL ret d kc ks pc L (.long b :: .long a :: st) h r h' := by
  subst hq
  intro p e R s m args below meth c Q H locs cells slots ls C hP hz hS hl h1 h2 K
  exact lv_lmul C.1 C.2.1 hd (k p e R s m args below meth c Q H locs cells slots ls C hP hz hS hl h1 h2 K)
theorem ev_i2l {a : Int32} (q : Nat) (hd : decode cc pc = .ok (.i2l, 1)) (hq : pc + 1 = q) (k : tv_E g l y cc nL ret d kc ks q L (.long a.toInt64 :: st) h r h') : tv_E g l y cc nL ret d kc ks pc L (.int a :: st) h r h' := by
  subst hq
  intro p e R s m args below meth c Q H locs cells slots ls C hP hz hS hl h1 h2 K
  exact lv_i2l C.1 C.2.1 hd rfl (k p e R s m args below meth c Q H locs cells slots ls C hP hz hS hl h1 h2 K)
theorem ev_lcmp {a b : Int64} (q : Nat) (hd : decode cc pc = .ok (.lcmp, 1)) (hq : pc + 1 = q) (k : tv_E g l y cc nL ret d kc ks q L (.int (lg_cmp a b) :: st) h r h') : tv_E g l y cc nL ret d kc ks pc L (.long b :: .long a :: st) h r h' := by
  subst hq
  intro p e R s m args below meth c Q H locs cells slots ls C hP hz hS hl h1 h2 K
  exact W.lcmp C.1 C.2.1 hd (k p e R s m args below meth c Q H locs cells slots ls C hP hz hS hl h1 h2 K)
theorem ev_dup {v : Value} (q : Nat) (hd : decode cc pc = .ok (.dup, 1)) (hq : pc + 1 = q) (hc : v.category = 1) (k : tv_E g l y cc nL ret d kc ks q L (v :: v :: st) h r h') : tv_E g l y cc nL ret d kc ks pc L (v :: st) h r h' := by
  subst hq
  intro p e R s m args below meth c Q H locs cells slots ls C hP hz hS hl h1 h2 K
  exact lv_dup C.1 C.2.1 hd (by rw [tv_cat]; exact hc) (k p e R s m args below meth c Q H locs cells slots ls C hP hz hS hl h1 h2 K)
theorem ev_dup2 {v w : Value} (q : Nat) (hd : decode cc pc = .ok (.dup2, 1)) (hq : pc + 1 = q) (hc : v.category = 1) (hc2 : w.category = 1) (k : tv_E g l y cc nL ret d kc ks q L (v :: w :: v :: w :: st) h r h') : tv_E g l y cc nL ret d kc ks pc L (v :: w :: st) h r h' := by
  subst hq
  intro p e R s m args below meth c Q H locs cells slots ls C hP hz hS hl h1 h2 K
  exact lv_dup2_11 C.1 C.2.1 hd (by rw [tv_cat]; exact hc) (by rw [tv_cat]; exact hc2) (k p e R s m args below meth c Q H locs cells slots ls C hP hz hS hl h1 h2 K)
theorem ev_if_eq {x : Int32} {off : Int} (tgt q : Nat) (hd : decode cc pc = .ok (.ifCond .eq off, 3)) (ht : (pc : Int) + off = (tgt : Int)) (hq : pc + 3 = q) (kt : x = 0 → tv_E g l y cc nL ret d kc ks tgt L st h r h') (kf : ¬ x = 0 → tv_E g l y cc nL ret d kc ks q L st h r h') : tv_E g l y cc nL ret d kc ks pc L (.int x :: st) h r h' := by
  subst hq
  intro p e R s m args below meth c Q H locs cells slots ls C hP hz hS hl h1 h2 K
  exact lv_if_eq C.1 C.2.1 hd ht (fun hc => kt hc p e R s m args below meth c Q H locs cells slots ls C hP hz hS hl h1 h2 K) (fun hc => kf hc p e R s m args below meth c Q H locs cells slots ls C hP hz hS hl h1 h2 K)
theorem ev_if_ne {x : Int32} {off : Int} (tgt q : Nat) (hd : decode cc pc = .ok (.ifCond .ne off, 3)) (ht : (pc : Int) + off = (tgt : Int)) (hq : pc + 3 = q) (kt : ¬ x = 0 → tv_E g l y cc nL ret d kc ks tgt L st h r h') (kf : x = 0 → tv_E g l y cc nL ret d kc ks q L st h r h') : tv_E g l y cc nL ret d kc ks pc L (.int x :: st) h r h' := by
  subst hq
  intro p e R s m args below meth c Q H locs cells slots ls C hP hz hS hl h1 h2 K
  exact lv_if_ne C.1 C.2.1 hd ht (fun hc => kt hc p e R s m args below meth c Q H locs cells slots ls C hP hz hS hl h1 h2 K) (fun hc => kf hc p e R s m args below meth c Q H locs cells slots ls C hP hz hS hl h1 h2 K)
theorem ev_if_lt {x : Int32} {off : Int} (tgt q : Nat) (hd : decode cc pc = .ok (.ifCond .lt off, 3)) (ht : (pc : Int) + off = (tgt : Int)) (hq : pc + 3 = q) (kt : x < 0 → tv_E g l y cc nL ret d kc ks tgt L st h r h') (kf : ¬ x < 0 → tv_E g l y cc nL ret d kc ks q L st h r h') : tv_E g l y cc nL ret d kc ks pc L (.int x :: st) h r h' := by
  subst hq
  intro p e R s m args below meth c Q H locs cells slots ls C hP hz hS hl h1 h2 K
  exact lv_if_lt C.1 C.2.1 hd ht (fun hc => kt hc p e R s m args below meth c Q H locs cells slots ls C hP hz hS hl h1 h2 K) (fun hc => kf hc p e R s m args below meth c Q H locs cells slots ls C hP hz hS hl h1 h2 K)
theorem ev_if_ge {x : Int32} {off : Int} (tgt q : Nat) (hd : decode cc pc = .ok (.ifCond .ge off, 3)) (ht : (pc : Int) + off = (tgt : Int)) (hq : pc + 3 = q) (kt : 0 ≤ x → tv_E g l y cc nL ret d kc ks tgt L st h r h') (kf : ¬ 0 ≤ x → tv_E g l y cc nL ret d kc ks q L st h r h') : tv_E g l y cc nL ret d kc ks pc L (.int x :: st) h r h' := by
  subst hq
  intro p e R s m args below meth c Q H locs cells slots ls C hP hz hS hl h1 h2 K
  exact lv_if_ge C.1 C.2.1 hd ht (fun hc => kt hc p e R s m args below meth c Q H locs cells slots ls C hP hz hS hl h1 h2 K) (fun hc => kf hc p e R s m args below meth c Q H locs cells slots ls C hP hz hS hl h1 h2 K)
theorem ev_if_gt {x : Int32} {off : Int} (tgt q : Nat) (hd : decode cc pc = .ok (.ifCond .gt off, 3)) (ht : (pc : Int) + off = (tgt : Int)) (hq : pc + 3 = q) (kt : 0 < x → tv_E g l y cc nL ret d kc ks tgt L st h r h') (kf : ¬ 0 < x → tv_E g l y cc nL ret d kc ks q L st h r h') : tv_E g l y cc nL ret d kc ks pc L (.int x :: st) h r h' := by
  subst hq
  intro p e R s m args below meth c Q H locs cells slots ls C hP hz hS hl h1 h2 K
  exact lv_if_gt C.1 C.2.1 hd ht (fun hc => kt hc p e R s m args below meth c Q H locs cells slots ls C hP hz hS hl h1 h2 K) (fun hc => kf hc p e R s m args below meth c Q H locs cells slots ls C hP hz hS hl h1 h2 K)
theorem ev_if_le {x : Int32} {off : Int} (tgt q : Nat) (hd : decode cc pc = .ok (.ifCond .le off, 3)) (ht : (pc : Int) + off = (tgt : Int)) (hq : pc + 3 = q) (kt : x ≤ 0 → tv_E g l y cc nL ret d kc ks tgt L st h r h') (kf : ¬ x ≤ 0 → tv_E g l y cc nL ret d kc ks q L st h r h') : tv_E g l y cc nL ret d kc ks pc L (.int x :: st) h r h' := by
  subst hq
  intro p e R s m args below meth c Q H locs cells slots ls C hP hz hS hl h1 h2 K
  exact lv_if_le C.1 C.2.1 hd ht (fun hc => kt hc p e R s m args below meth c Q H locs cells slots ls C hP hz hS hl h1 h2 K) (fun hc => kf hc p e R s m args below meth c Q H locs cells slots ls C hP hz hS hl h1 h2 K)
theorem ev_icmp_eq {x z : Int32} {off : Int} (tgt q : Nat) (hd : decode cc pc = .ok (.if_icmp .eq off, 3)) (ht : (pc : Int) + off = (tgt : Int)) (hq : pc + 3 = q) (kt : x = z → tv_E g l y cc nL ret d kc ks tgt L st h r h') (kf : ¬ x = z → tv_E g l y cc nL ret d kc ks q L st h r h') : tv_E g l y cc nL ret d kc ks pc L (.int z :: .int x :: st) h r h' := by
  subst hq
  intro p e R s m args below meth c Q H locs cells slots ls C hP hz hS hl h1 h2 K
  exact lv_icmp_eq C.1 C.2.1 hd ht (fun hc => kt hc p e R s m args below meth c Q H locs cells slots ls C hP hz hS hl h1 h2 K) (fun hc => kf hc p e R s m args below meth c Q H locs cells slots ls C hP hz hS hl h1 h2 K)
theorem ev_icmp_ne {x z : Int32} {off : Int} (tgt q : Nat) (hd : decode cc pc = .ok (.if_icmp .ne off, 3)) (ht : (pc : Int) + off = (tgt : Int)) (hq : pc + 3 = q) (kt : ¬ x = z → tv_E g l y cc nL ret d kc ks tgt L st h r h') (kf : x = z → tv_E g l y cc nL ret d kc ks q L st h r h') : tv_E g l y cc nL ret d kc ks pc L (.int z :: .int x :: st) h r h' := by
  subst hq
  intro p e R s m args below meth c Q H locs cells slots ls C hP hz hS hl h1 h2 K
  exact lv_icmp_ne C.1 C.2.1 hd ht (fun hc => kt hc p e R s m args below meth c Q H locs cells slots ls C hP hz hS hl h1 h2 K) (fun hc => kf hc p e R s m args below meth c Q H locs cells slots ls C hP hz hS hl h1 h2 K)
theorem ev_icmp_lt {x z : Int32} {off : Int} (tgt q : Nat) (hd : decode cc pc = .ok (.if_icmp .lt off, 3)) (ht : (pc : Int) + off = (tgt : Int)) (hq : pc + 3 = q) (kt : x < z → tv_E g l y cc nL ret d kc ks tgt L st h r h') (kf : ¬ x < z → tv_E g l y cc nL ret d kc ks q L st h r h') : tv_E g l y cc nL ret d kc ks pc L (.int z :: .int x :: st) h r h' := by
  subst hq
  intro p e R s m args below meth c Q H locs cells slots ls C hP hz hS hl h1 h2 K
  exact lv_icmp_lt C.1 C.2.1 hd ht (fun hc => kt hc p e R s m args below meth c Q H locs cells slots ls C hP hz hS hl h1 h2 K) (fun hc => kf hc p e R s m args below meth c Q H locs cells slots ls C hP hz hS hl h1 h2 K)
theorem ev_icmp_ge {x z : Int32} {off : Int} (tgt q : Nat) (hd : decode cc pc = .ok (.if_icmp .ge off, 3)) (ht : (pc : Int) + off = (tgt : Int)) (hq : pc + 3 = q) (kt : z ≤ x → tv_E g l y cc nL ret d kc ks tgt L st h r h') (kf : ¬ z ≤ x → tv_E g l y cc nL ret d kc ks q L st h r h') : tv_E g l y cc nL ret d kc ks pc L (.int z :: .int x :: st) h r h' := by
  subst hq
  intro p e R s m args below meth c Q H locs cells slots ls C hP hz hS hl h1 h2 K
  exact lv_icmp_ge C.1 C.2.1 hd ht (fun hc => kt hc p e R s m args below meth c Q H locs cells slots ls C hP hz hS hl h1 h2 K) (fun hc => kf hc p e R s m args below meth c Q H locs cells slots ls C hP hz hS hl h1 h2 K)
theorem ev_icmp_gt {x z : Int32} {off : Int} (tgt q : Nat) (hd : decode cc pc = .ok (.if_icmp .gt off, 3)) (ht : (pc : Int) + off = (tgt : Int)) (hq : pc + 3 = q) (kt : z < x → tv_E g l y cc nL ret d kc ks tgt L st h r h') (kf : ¬ z < x → tv_E g l y cc nL ret d kc ks q L st h r h') : tv_E g l y cc nL ret d kc ks pc L (.int z :: .int x :: st) h r h' := by
  subst hq
  intro p e R s m args below meth c Q H locs cells slots ls C hP hz hS hl h1 h2 K
  exact lv_icmp_gt C.1 C.2.1 hd ht (fun hc => kt hc p e R s m args below meth c Q H locs cells slots ls C hP hz hS hl h1 h2 K) (fun hc => kf hc p e R s m args below meth c Q H locs cells slots ls C hP hz hS hl h1 h2 K)
theorem ev_icmp_le {x z : Int32} {off : Int} (tgt q : Nat) (hd : decode cc pc = .ok (.if_icmp .le off, 3)) (ht : (pc : Int) + off = (tgt : Int)) (hq : pc + 3 = q) (kt : x ≤ z → tv_E g l y cc nL ret d kc ks tgt L st h r h') (kf : ¬ x ≤ z → tv_E g l y cc nL ret d kc ks q L st h r h') : tv_E g l y cc nL ret d kc ks pc L (.int z :: .int x :: st) h r h' := by
  subst hq
  intro p e R s m args below meth c Q H locs cells slots ls C hP hz hS hl h1 h2 K
  exact lv_icmp_le C.1 C.2.1 hd ht (fun hc => kt hc p e R s m args below meth c Q H locs cells slots ls C hP hz hS hl h1 h2 K) (fun hc => kf hc p e R s m args below meth c Q H locs cells slots ls C hP hz hS hl h1 h2 K)
theorem ev_goto {off : Int} (tgt : Nat) (hd : decode cc pc = .ok (.goto off, 3)) (ht : (pc : Int) + off = (tgt : Int)) (k : tv_E g l y cc nL ret d kc ks tgt L st h r h') : tv_E g l y cc nL ret d kc ks pc L st h r h' := by
  intro p e R s m args below meth c Q H locs cells slots ls C hP hz hS hl h1 h2 K
  exact lv_goto C.1 C.2.1 hd ht (k p e R s m args below meth c Q H locs cells slots ls C hP hz hS hl h1 h2 K)
theorem ev_tableIn {dflt lo hi : Int} {offs : Array Int} {len : Nat} {x : Int32} {off : Int} (tgt : Nat) (hd : decode cc pc = .ok (.tableswitch dflt lo hi offs, len)) (n1 : ¬ x.toInt < lo) (n2 : ¬ hi < x.toInt) (ho : offs[(x.toInt - lo).toNat]? = some off) (ht : (pc : Int) + off = (tgt : Int)) (k : tv_E g l y cc nL ret d kc ks tgt L st h r h') : tv_E g l y cc nL ret d kc ks pc L (.int x :: st) h r h' := by
  intro p e R s m args below meth c Q H locs cells slots ls C hP hz hS hl h1 h2 K
  exact lv_tableIn C.1 C.2.1 hd n1 n2 ho ht (k p e R s m args below meth c Q H locs cells slots ls C hP hz hS hl h1 h2 K)
theorem ev_tableOut {dflt lo hi : Int} {offs : Array Int} {len : Nat} {x : Int32} (tgt : Nat) (hd : decode cc pc = .ok (.tableswitch dflt lo hi offs, len)) (n1 : x.toInt < lo ∨ hi < x.toInt) (ht : (pc : Int) + dflt = (tgt : Int)) (k : tv_E g l y cc nL ret d kc ks tgt L st h r h') : tv_E g l y cc nL ret d kc ks pc L (.int x :: st) h r h' := by
  intro p e R s m args below meth c Q H locs cells slots ls C hP hz hS hl h1 h2 K
  exact lv_tableOut C.1 C.2.1 hd n1 ht (k p e R s m args below meth c Q H locs cells slots ls C hP hz hS hl h1 h2 K)
theorem ev_lookup {dflt : Int} {ps : Array (Int × Int)} {len : Nat} {x : Int32} {off : Int} (tgt : Nat) (hd : decode cc pc = .ok (.lookupswitch dflt ps, len)) (hp : (ps.toList.zip (ps.toList.drop 1)).all (fun (a, next) => a.1 < next.1) = true) (ho : Op.lookupswitch.offset ps.toList dflt x.toInt = off) (ht : (pc : Int) + off = (tgt : Int)) (k : tv_E g l y cc nL ret d kc ks tgt L st h r h') : tv_E g l y cc nL ret d kc ks pc L (.int x :: st) h r h' := by
  intro p e R s m args below meth c Q H locs cells slots ls C hP hz hS hl h1 h2 K
  exact lv_lookup C.1 C.2.1 hd hp ho ht (k p e R s m args below meth c Q H locs cells slots ls C hP hz hS hl h1 h2 K)
/-! returns -/
theorem ev_return (hd : decode cc pc = .ok (.return_, 1)) (hr : ret = none) : tv_E g l y cc nL ret d 0 0 pc L [] h none h := by
  intro p e R s m args below meth c Q H locs cells slots ls C hP hz hS hl h1 h2 K
  exact K pc ls H locs ⟨hd, hr⟩ hP hz hS
theorem ev_ireturn {v : Int32} {ty : FieldType} (hd : decode cc pc = .ok (.ireturn, 1)) (hr : ret = some ty) (hn : narrow ty (.int v) = .int v) : tv_E g l y cc nL ret d 0 0 pc L [.int v] h (some (.int v)) h := by
  intro p e R s m args below meth c Q H locs cells slots ls C hP hz hS hl h1 h2 K
  exact K pc ls H locs ⟨hd, ty, hr, hn⟩ hP hz hS
theorem ev_lreturn {v : Int64} (hd : decode cc pc = .ok (.lreturn, 1)) (hr : ret = some .long) : tv_E g l y cc nL ret d 0 0 pc L [.long v] h (some (.long v)) h := by
  intro p e R s m args below meth c Q H locs cells slots ls C hP hz hS hl h1 h2 K
  exact K pc ls H locs ⟨hd, hr⟩ hP hz hS
/-! fields -/
theorem tv_lay_gw {C : String} {T : u_T} {N : Nat} {w : Cond} (hw : w ∈ u_ws C T N) : tv_gw w = true := by
  obtain ⟨k, -, rfl⟩ := List.mem_map.mp hw
  unfold u_lay
  split <;> rfl
def tv_okf (own : String) (idx ci k : Nat) (fin : Bool) (ty : FieldType) : Prop := ∃ (C : String) (T : u_T) (N : Nat) (ty0 : Nat → FieldType), vwCl[ci]? = some (C, T, N) ∧ k < N ∧ (∀ w ∈ u_ws C T N, w ∈ lw_tbl) ∧ Cond.fieldLink own idx C (T k).2.1 (T k).2.2.1 ∈ lw_tbl ∧ (T k).1 = C ∧ (∀ j, j < N → parseFieldDescriptor (T j).2.2.1 = some (ty0 j)) ∧ (∀ a, a < N → ∀ b, b < N → a ≠ b → (T a).2.1 ≠ (T b).2.1) ∧ ty0 k = ty ∧ (T k).2.2.2 = fin
theorem ev_getfield {idx ci k0 i : Nat} {fin : Bool} {ty : FieldType} {fs : List Value} {v : Value} (q : Nat) (hd : decode cc pc = .ok (.getfield idx, 3)) (hq : pc + 3 = q) (hf : tv_okf y.cls idx ci k0 fin ty) (hi : i < 1000) (hc : h[i]? = some (.inr (.inr (ci, fs)))) (hv : fs[k0]? = some v) (k : tv_E g l y cc nL ret d kc ks q L (v :: st) h r h') : tv_E g l y cc nL ret d kc ks pc L (.ref i :: st) h r h' := by
  subst hq
  intro p e R s m args below meth c Q H locs cells slots ls C hP hz hS hl h1 h2 K
  obtain ⟨C0, T, N, ty0, f1, f2, f3, f4, f5, f6, f7, f8, f9⟩ := hf
  have hts : ∀ w ∈ u_ws C0 T N, w.before args s = true := fun w hw => C.2.2.2.2.1.in (f3 w hw) (tv_lay_gw hw)
  have ha : tv_cv g (.ref i) = .ref (tv_N g + i) := by simp [tv_cv, tv_ad, hi]
  show W p l e R s m args below meth c H locs cells slots Q (F0 m pc ls (tv_cv g (.ref i) :: st.map (tv_cv g)))
  rw [ha]
  exact va_get C.1 C.2.1 hts (fun w hw => hw) C.2.2.2.1 C.2.2.2.2.1.2.2.1 hP i (tv_cc_get hc) f1 k0 f2 (C.2.2.2.2.1.in f4 rfl) (fun x hx => by rw [f5] at hx; exact hx) (v := tv_cv g v) (by rw [List.getElem?_map, hv]; rfl) hd (k p e R s m args below meth c Q H locs cells slots ls C hP hz hS hl h1 h2 K)
theorem ev_putfield {idx ci k0 i : Nat} {ty : FieldType} {fs : List Value} {v : Value} {hh : tv_Hp} (q : Nat) (hd : decode cc pc = .ok (.putfield idx, 3)) (hq : pc + 3 = q) (hf : tv_okf y.cls idx ci k0 false ty) (hi : i < 1000) (hc : h[i]? = some (.inr (.inr (ci, fs)))) (hlt : k0 < fs.length) (hn : narrow ty (tv_cv g v) = tv_cv g v) (hfit : fits ty (tv_cv g v) = true) (hs : h.set i (.inr (.inr (ci, fs.set k0 v))) = hh) (k : tv_E g l y cc nL ret d kc ks q L st hh r h') : tv_E g l y cc nL ret d kc ks pc L (v :: .ref i :: st) h r h' := by
  subst hq
  intro p e R s m args below meth c Q H locs cells slots ls C hP hz hS hl h1 h2 K
  obtain ⟨C0, T, N, ty0, f1, f2, f3, f4, f5, f6, f7, f8, f9⟩ := hf
  have hts : ∀ w ∈ u_ws C0 T N, w.before args s = true := fun w hw => C.2.2.2.2.1.in (f3 w hw) (tv_lay_gw hw)
  have ha : tv_cv g (.ref i) = .ref (tv_N g + i) := by simp [tv_cv, tv_ad, hi]
  show W p l e R s m args below meth c H locs cells slots Q (F0 m pc ls (tv_cv g v :: tv_cv g (.ref i) :: st.map (tv_cv g)))
  rw [ha]
  refine va_put C.1 C.2.1 hts (fun w hw => hw) ty0 f6 f7 C.2.2.2.1 C.2.2.2.2.1.2.2.1 hP (tv_DD g h) hS i (tv_cc_get hc) f1 k0 f2 (C.2.2.2.2.1.in f4 rfl) (fun x hx => by rw [f5] at hx; exact hx) f9 (ty := ty) (by rw [← f8]; exact f6 k0 f2) hn hfit (by rw [List.length_map]; exact hlt) hd (fun H1 locs1 hP1 hD1 hS1 => ?_)
  have e1 : tv_cc g hh = (tv_cc g h).set i (tv_N g + i, .inr (ci, (fs.map (tv_cv g)).set k0 (tv_cv g v))) := by
    rw [← hs, tv_cc_set]
    show (tv_cc g h).set i (tv_N g + i, .inr (ci, (fs.set k0 v).map (tv_cv g))) = _
    rw [List.map_set]
  rw [← e1] at hP1
  exact k p e R s m args below meth c Q H1 locs1 cells slots ls C hP1 (by rw [← hs, List.length_set]; exact hz) hS1 hl h1 h2 K
theorem ev_putfinal {idx ci k0 i : Nat} {ty : FieldType} {fs : List Value} {v : Value} {hh : tv_Hp} (q : Nat) (hd : decode cc pc = .ok (.putfield idx, 3)) (hq : pc + 3 = q) (hf : tv_okf y.cls idx ci k0 true ty) (hini : y.name = "<init>") (hown : ∃ T N, vwCl[ci]? = some (y.cls, T, N)) (hi : i < 1000) (hc : h[i]? = some (.inr (.inr (ci, fs)))) (hlt : k0 < fs.length) (hn : narrow ty (tv_cv g v) = tv_cv g v) (hfit : fits ty (tv_cv g v) = true) (hs : h.set i (.inr (.inr (ci, fs.set k0 v))) = hh) (k : tv_E g l y cc nL ret d kc ks q L st hh r h') : tv_E g l y cc nL ret d kc ks pc L (v :: .ref i :: st) h r h' := by
  subst hq
  intro p e R s m args below meth c Q H locs cells slots ls C hP hz hS hl h1 h2 K
  obtain ⟨C0, T, N, ty0, f1, f2, f3, f4, f5, f6, f7, f8, f9⟩ := hf
  have hts : ∀ w ∈ u_ws C0 T N, w.before args s = true := fun w hw => C.2.2.2.2.1.in (f3 w hw) (tv_lay_gw hw)
  have ha : tv_cv g (.ref i) = .ref (tv_N g + i) := by simp [tv_cv, tv_ad, hi]
  show W p l e R s m args below meth c H locs cells slots Q (F0 m pc ls (tv_cv g v :: tv_cv g (.ref i) :: st.map (tv_cv g)))
  rw [ha]
  refine va_putF C.1 C.2.1 hts (fun w hw => hw) ty0 f6 f7 C.2.2.2.1 C.2.2.2.2.1.2.2.1 hP (tv_DD g h) hS i (tv_cc_get hc) f1 k0 f2 (C.2.2.2.2.1.in f4 rfl) (fun x hx => by rw [f5] at hx; exact hx) f9 (C.2.2.2.2.2.2.2 hini) (by rw [f5]; obtain ⟨T2, N2, hT2⟩ := hown; exact (Prod.mk.inj (Option.some.inj (f1.symm.trans hT2))).1) (ty := ty) (by rw [← f8]; exact f6 k0 f2) hn hfit (by rw [List.length_map]; exact hlt) hd (fun H1 locs1 hP1 hD1 hS1 => ?_)
  have e1 : tv_cc g hh = (tv_cc g h).set i (tv_N g + i, .inr (ci, (fs.map (tv_cv g)).set k0 (tv_cv g v))) := by
    rw [← hs, tv_cc_set]
    show (tv_cc g h).set i (tv_N g + i, .inr (ci, (fs.set k0 v).map (tv_cv g))) = _
    rw [List.map_set]
  rw [← e1] at hP1
  exact k p e R s m args below meth c Q H1 locs1 cells slots ls C hP1 (by rw [← hs, List.length_set]; exact hz) hS1 hl h1 h2 K
/-! static arrays -/
theorem ev_getstatic {idx i : Nat} (q : Nat) (hd : decode cc pc = .ok (.getstatic idx, 3)) (hq : pc + 3 = q) (hw : Cond.fieldLink y.cls idx RX7 (tv_sn i) "[I" ∈ lw_tbl ∨ ∃ host, Cond.fieldLinkNest y.cls idx RX7 (tv_sn i) "[I" host ∈ lw_tbl) (hi : i < 4) (hi1 : 1 ≤ i) (k : tv_E g l y cc nL ret d kc ks q L (.ref (1000 + i) :: st) h r h') : tv_E g l y cc nL ret d kc ks pc L st h r h' := by
  subst hq
  intro p e R s m args below meth c Q H locs cells slots ls C hP hz hS hl h1 h2 K
  have hZ := C.2.2.2.2.1.2.2.2.2.2 i hi hi1
  have ha : tv_cv g (.ref (1000 + i)) = .ref (tv_xa g i) := by rw [← tv_adx g i]; rfl
  have k1 := k p e R s m args below meth c Q H locs cells slots ls C hP hz hS hl h1 h2 K
  rw [List.map_cons, ha] at k1
  rcases hw with hw | ⟨host, hw⟩
  · exact va_gets C.1 C.2.1 hZ hS C.2.2.2.1 (C.2.2.2.2.1.in hw rfl) (fun x hx => hx) hd k1
  · exact va_getsN C.1 C.2.1 hZ hS C.2.2.2.1 (C.2.2.2.2.1.in hw rfl) (fun x hx => hx) hd k1
/-! arrays of ints -/
def tv_rd (n : Nat) (f : Nat → Int32) (i : Int32) : Option Int32 := if i < 0 ∨ n ≤ i.toNatClampNeg then none else some (f i.toNatClampNeg)
def tv_wr (n : Nat) (f : Nat → Int32) (i x : Int32) : Option (Nat → Int32) := if i < 0 ∨ n ≤ i.toNatClampNeg then none else some (upd f i.toNatClampNeg x)
theorem tv_rd_some {n : Nat} {f : Nat → Int32} {i v : Int32} (h : tv_rd n f i = some v) : vp_in i n ∧ f i.toNatClampNeg = v := by
  unfold tv_rd at h
  split at h
  · cases h
  next hc => exact ⟨hc, Option.some.inj h⟩
theorem tv_wr_some {n : Nat} {f f2 : Nat → Int32} {i v : Int32} (h : tv_wr n f i v = some f2) : vp_in i n ∧ upd f i.toNatClampNeg v = f2 := by
  unfold tv_wr at h
  split at h
  · cases h
  next hc => exact ⟨hc, Option.some.inj h⟩
theorem ev_iaload {i n : Nat} {f : Nat → Int32} {x v : Int32} (q : Nat) (hd : decode cc pc = .ok (.iaload, 1)) (hq : pc + 1 = q) (hi : i < 1000) (hc : h[i]? = some (.inl (n, f))) (hr : tv_rd n f x = some v) (k : tv_E g l y cc nL ret d kc ks q L (.int v :: st) h r h') : tv_E g l y cc nL ret d kc ks pc L (.int x :: .ref i :: st) h r h' := by
  subst hq
  intro p e R s m args below meth c Q H locs cells slots ls C hP hz hS hl h1 h2 K
  obtain ⟨hin, hv⟩ := tv_rd_some hr
  subst hv
  have ha : tv_cv g (.ref i) = .ref (tv_N g + i) := by simp [tv_cv, tv_ad, hi]
  show W p l e R s m args below meth c H locs cells slots Q (F0 m pc ls (.int x :: tv_cv g (.ref i) :: st.map (tv_cv g)))
  rw [ha]
  exact va_iald C.1 C.2.1 C.2.2.2.2.1.2.2.1 hP i 0 (tv_cc_get hc) rfl hin hd (k p e R s m args below meth c Q H locs cells slots ls C hP hz hS hl h1 h2 K)
theorem ev_xaload {i : Nat} {x v : Int32} (q : Nat) (hd : decode cc pc = .ok (.iaload, 1)) (hq : pc + 1 = q) (hi : i < 4) (hr : tv_rd (tv_XL g i) (tv_X g i) x = some v) (k : tv_E g l y cc nL ret d kc ks q L (.int v :: st) h r h') : tv_E g l y cc nL ret d kc ks pc L (.int x :: .ref (1000 + i) :: st) h r h' := by
  subst hq
  intro p e R s m args below meth c Q H locs cells slots ls C hP hz hS hl h1 h2 K
  obtain ⟨hin, hv⟩ := tv_rd_some hr
  subst hv
  have ha : tv_cv g (.ref (1000 + i)) = .ref (tv_xa g i) := by rw [← tv_adx g i]; rfl
  show W p l e R s m args below meth c H locs cells slots Q (F0 m pc ls (.int x :: tv_cv g (.ref (1000 + i)) :: st.map (tv_cv g)))
  rw [ha]
  obtain ⟨hX, hlt⟩ := C.2.2.2.2.1.2.2.2.2.1 i hi
  exact va_sld C.1 C.2.1 hX (Nat.lt_of_lt_of_le hlt C.2.2.2.2.1.2.2.2.1) (A := tv_A g) (Nat.not_le.mpr hlt) hS hin hd (k p e R s m args below meth c Q H locs cells slots ls C hP hz hS hl h1 h2 K)
theorem ev_xlen {i : Nat} (q : Nat) (hd : decode cc pc = .ok (.arraylength, 1)) (hq : pc + 1 = q) (hi : i < 4) (k : tv_E g l y cc nL ret d kc ks q L (.int (Int32.ofNat (tv_XL g i)) :: st) h r h') : tv_E g l y cc nL ret d kc ks pc L (.ref (1000 + i) :: st) h r h' := by
  subst hq
  intro p e R s m args below meth c Q H locs cells slots ls C hP hz hS hl h1 h2 K
  have ha : tv_cv g (.ref (1000 + i)) = .ref (tv_xa g i) := by rw [← tv_adx g i]; rfl
  show W p l e R s m args below meth c H locs cells slots Q (F0 m pc ls (tv_cv g (.ref (1000 + i)) :: st.map (tv_cv g)))
  rw [ha]
  obtain ⟨hX, hlt⟩ := C.2.2.2.2.1.2.2.2.2.1 i hi
  exact va_slen C.1 C.2.1 hX (Nat.lt_of_lt_of_le hlt C.2.2.2.2.1.2.2.2.1) (A := tv_A g) (Nat.not_le.mpr hlt) hS hd (k p e R s m args below meth c Q H locs cells slots ls C hP hz hS hl h1 h2 K)
theorem ev_arraylength {i n : Nat} {f : Nat → Int32} {v : Int32} (q : Nat) (hd : decode cc pc = .ok (.arraylength, 1)) (hq : pc + 1 = q) (hi : i < 1000) (hc : h[i]? = some (.inl (n, f))) (hv : Int32.ofNat n = v) (k : tv_E g l y cc nL ret d kc ks q L (.int v :: st) h r h') : tv_E g l y cc nL ret d kc ks pc L (.ref i :: st) h r h' := by
  subst hq
  intro p e R s m args below meth c Q H locs cells slots ls C hP hz hS hl h1 h2 K
  have ha : tv_cv g (.ref i) = .ref (tv_N g + i) := by simp [tv_cv, tv_ad, hi]
  show W p l e R s m args below meth c H locs cells slots Q (F0 m pc ls (tv_cv g (.ref i) :: st.map (tv_cv g)))
  rw [ha]
  exact va_alen C.1 C.2.1 C.2.2.2.2.1.2.2.1 hP i 0 (tv_cc_get hc) (ty := .int) rfl hv hd (k p e R s m args below meth c Q H locs cells slots ls C hP hz hS hl h1 h2 K)
theorem ev_iastore {i n : Nat} {f f2 : Nat → Int32} {x v : Int32} {hh : tv_Hp} (q : Nat) (hd : decode cc pc = .ok (.iastore, 1)) (hq : pc + 1 = q) (hi : i < 1000) (hc : h[i]? = some (.inl (n, f))) (hr : tv_wr n f x v = some f2) (hs : h.set i (.inl (n, f2)) = hh) (k : tv_E g l y cc nL ret d kc ks q L st hh r h') : tv_E g l y cc nL ret d kc ks pc L (.int v :: .int x :: .ref i :: st) h r h' := by
  subst hq
  intro p e R s m args below meth c Q H locs cells slots ls C hP hz hS hl h1 h2 K
  obtain ⟨hin, hv⟩ := tv_wr_some hr
  subst hv
  have ha : tv_cv g (.ref i) = .ref (tv_N g + i) := by simp [tv_cv, tv_ad, hi]
  show W p l e R s m args below meth c H locs cells slots Q (F0 m pc ls (.int v :: .int x :: tv_cv g (.ref i) :: st.map (tv_cv g)))
  rw [ha]
  refine va_iast C.1 C.2.1 C.2.2.2.2.1.2.2.1 hP (tv_DD g h) hS i 0 (tv_cc_get hc) rfl hin hd (fun H1 locs1 hP1 hD1 hS1 => ?_)
  have e1 : tv_cc g hh = (tv_cc g h).set i (tv_N g + i, .inl (tv_cI g, n, .inl (upd f x.toNatClampNeg v))) := by
    rw [← hs, tv_cc_set]
    rfl
  rw [← e1] at hP1
  exact k p e R s m args below meth c Q H1 locs1 cells slots ls C hP1 (by rw [← hs, List.length_set]; exact hz) hS1 hl h1 h2 K
theorem ev_aaload {i n a : Nat} {f : Nat → Option Nat} {x : Int32} (q : Nat) (hd : decode cc pc = .ok (.aaload, 1)) (hq : pc + 1 = q) (hi : i < 1000) (hc : h[i]? = some (.inr (.inl (n, f)))) (hin : vp_in x n) (hv : f x.toNatClampNeg = some a) (k : tv_E g l y cc nL ret d kc ks q L (.ref a :: st) h r h') : tv_E g l y cc nL ret d kc ks pc L (.int x :: .ref i :: st) h r h' := by
  subst hq
  intro p e R s m args below meth c Q H locs cells slots ls C hP hz hS hl h1 h2 K
  have ha : tv_cv g (.ref i) = .ref (tv_N g + i) := by simp [tv_cv, tv_ad, hi]
  show W p l e R s m args below meth c H locs cells slots Q (F0 m pc ls (.int x :: tv_cv g (.ref i) :: st.map (tv_cv g)))
  rw [ha]
  refine va_aldq C.1 C.2.1 C.2.2.2.2.1.2.2.1 hP i 1 (tv_cc_get hc) rfl hin hd ?_
  show W p l e R s m args below meth c H locs cells slots Q (F0 m (pc + 1) ls (va_rf ((f x.toNatClampNeg).map (tv_ad g)) :: st.map (tv_cv g)))
  rw [hv]
  exact k p e R s m args below meth c Q H locs cells slots ls C hP hz hS hl h1 h2 K
theorem ev_aastore {i n a ci : Nat} {f : Nat → Option Nat} {x : Int32} {vs : List Value} {hh : tv_Hp} (q : Nat) (hd : decode cc pc = .ok (.aastore, 1)) (hq : pc + 1 = q) (hi : i < 1000) (hc : h[i]? = some (.inr (.inl (n, f)))) (hin : vp_in x n) (ha1 : a < 1000) (hca : h[a]? = some (.inr (.inr (5, vs)))) (hs : h.set i (.inr (.inl (n, va_up f x.toNatClampNeg (some a)))) = hh) (k : tv_E g l y cc nL ret d kc ks q L st hh r h') : tv_E g l y cc nL ret d kc ks pc L (.ref a :: .int x :: .ref i :: st) h r h' := by
  subst hq
  intro p e R s m args below meth c Q H locs cells slots ls C hP hz hS hl h1 h2 K
  have ha : tv_cv g (.ref i) = .ref (tv_N g + i) := by simp [tv_cv, tv_ad, hi]
  have haa : tv_cv g (.ref a) = .ref (tv_N g + a) := by simp [tv_cv, tv_ad, ha1]
  show W p l e R s m args below meth c H locs cells slots Q (F0 m pc ls (tv_cv g (.ref a) :: .int x :: tv_cv g (.ref i) :: st.map (tv_cv g)))
  rw [ha, haa]
  refine va_astq C.1 C.2.1 C.2.2.2.2.1.2.2.1 hP (tv_DD g h) hS i 1 a 5 (r := (RX5, TX5, 12)) (tv_cc_get hc) rfl (tv_cc_get hca) rfl hin hd (fun H1 locs1 hP1 hD1 hS1 => ?_)
  have e1 : tv_cc g hh = (tv_cc g h).set i (tv_N g + i, .inl (tv_cS g, n, .inr (.inr (.inr (.inr (va_up (fun i => (f i).map (tv_ad g)) x.toNatClampNeg (some (tv_N g + a)))))))) := by
    rw [← hs, tv_cc_set]
    congr 2
    show (Sum.inl (tv_cS g, n, .inr (.inr (.inr (.inr (fun i => (va_up f x.toNatClampNeg (some a) i).map (tv_ad g)))))) : va_E) = _
    congr 7
    funext j
    unfold va_up
    split
    · simp [tv_ad, ha1]
    · rfl
  rw [← e1] at hP1
  exact k p e R s m args below meth c Q H1 locs1 cells slots ls C hP1 (by rw [← hs, List.length_set]; exact hz) hS1 hl h1 h2 K
end TVR
end
section
/-! ===== calls ===== -/
def tv_lnk (own : String) (idx : Nat) (y : MethodName) : Prop := Cond.methodLink own idx y ∈ lw_tbl ∨ ∃ host, Cond.methodLinkNest own idx y host ∈ lw_tbl
def tv_okm (own : String) (idx : Nat) (y : MethodName) (cc : ByteArray) (nL : Nat) (ret : Option FieldType) (n : Nat) : Prop :=
  tv_lnk own idx y ∧ Cond.initialized y.cls ∈ lw_tbl ∧ Cond.code y cc nL ret ∈ lw_tbl ∧ plainName y.cls = true ∧ (y.cls ≠ "java/lang/invoke/MethodHandle" ∧ y.cls ≠ "java/lang/invoke/VarHandle" ∧ (parseMethodDescriptor y.desc).map (fun d => d.parameters.length) = some n) ∧ nL ≤ 21
abbrev tv_rm (d kc ks : Nat) : Room := { frames := d, cells := kc, slots := ks, locals := 40 * d }
def tv_Pc (g : tv_G) (h : tv_Hp) (vs : List Value) : Array Value → State → Prop := fun v U => v = (vs.map (tv_cv g)).toArray ∧ tv_Wd g U ∧ va_P (tv_D g) vwCl (tv_cc g h) U.heap ∧ U.heap.size = tv_N g + h.length
def tv_Qc (g : tv_G) (h' : tv_Hp) (r : Option Value) (kc : Nat) : Array Value → State → Outcome → State → Prop := fun _ st o t => o = .returned r ∧ va_P (tv_D g) vwCl (tv_cc g h') t.heap ∧ st.heap.size + kc = tv_N g + h'.length ∧ va_F (tv_A g) st t
theorem tv_Met {g : tv_G} {l : Launch} {y : MethodName} {cc : ByteArray} {nL : Nat} {ret : Option FieldType} {d kc ks : Nat} {vs : List Value} {h : tv_Hp} {r : Option Value} {h' : tv_Hp} (E : tv_E g l y cc nL ret d kc ks 0 (tv_in nL vs) [] h r h') (hp : plainName y.cls = true) (hlen : (tv_ex vs).length ≤ nL) :
    Met l y [Cond.code y cc nL ret] (tv_rm d kc ks) (tv_Pc g h vs) (tv_Qc g h' r kc) kc ks (tv_A g) := by
  refine Met.ofW (cc := cc) (maxL := nL) (ret := ret) hp rfl ?_
  intro p e s m args below meth c s₁ B hml hv
  obtain ⟨rfl, hW, hP, hz⟩ := hv
  have hown : s.vm.findClass y.cls = some m.cls := findClass_of_methodNamed B.named
  have hlocks := B.notSynchronized
  have hr := B.returns
  have hC : tv_Cx g y cc nL d p (tv_rm d kc ks) s m meth c := ⟨B.exec, B.bytes, hml, hown, hW, Nat.le_refl _, Nat.le_refl _, fun q => (name_of_methodNamed B.named B.method).1.trans q⟩
  have hl := lv_entry (vs.map (tv_cv g)) (n := nL) (by rw [tv_ex_len]; exact hlen)
  rw [lg_entry_eq]
  generalize (lg_sl (vs.map (tv_cv g)) ++ List.replicate (nL - (lg_sl (vs.map (tv_cv g))).length) Slot.unset).toArray = ls at hl ⊢
  have hfin : ∀ (locs : List Loc) (H : Heap), va_S (tv_A g) s.heap H locs → ∀ q ∈ locs, tv_A g q.base := fun locs H hS => hS.2.2
  refine E p e _ s m _ below meth c _ s.heap [] 0 0 ls hC hP (by rw [Nat.add_zero]; exact hz) va_S.rf (tv_entry hl) (by rw [Nat.zero_add]; exact Nat.le_refl _) (by rw [Nat.zero_add]; exact Nat.le_refl _) ?_
  intro pc' ls' H' locs' hrp hP' hz' hS'
  rw [Nat.zero_add, Nat.zero_add]
  rw [Nat.zero_add] at hz'
  match r, hrp with
  | none, hrp =>
    refine W.vret B.exec B.bytes (by rw [hr]; exact hrp.2) (fun t ht hw => ?_) (hfin locs' H' hS') hrp.1
    exact ⟨rfl, by rw [ht]; exact hP', hz', hS'.F ht⟩
  | some (.int v), ⟨h1, ty, h2, h3⟩ =>
    refine W.zret (ty := ty) B.exec B.bytes (by rw [hr]; exact h2) h3 (fun t ht hw => ?_) (hfin locs' H' hS') h1
    exact ⟨rfl, by rw [ht]; exact hP', hz', hS'.F ht⟩
  | some (.long v), hrp =>
    refine W.lret B.exec B.bytes (by rw [hr]; exact hrp.2) (fun t ht hw => ?_) (hfin locs' H' hS') hrp.1
    exact ⟨rfl, by rw [ht]; exact hP', hz', hS'.F ht⟩
theorem tv_sized {p : Program} {l : Launch} {e : Env} {R : Room} {s : State} {m : MethodId} {args : Array Value} {below : List Frame} {meth : Method} {c : Code} {H : Heap} {locs : List Loc} {cells slots : Nat} {Q : State → Prop} {f : JFrame} (k : H.size ≤ s.heap.size + cells → W p l e R s m args below meth c H locs cells slots Q f) : W p l e R s m args below meth c H locs cells slots Q f := by
  intro T hT X
  exact k (by rw [← hT]; exact X.heapSize) T hT X
theorem tv_size {g : tv_G} {h : tv_Hp} {H H0 : Heap} {locs : List Loc} {cells : Nat} (hP : va_P (tv_D g) vwCl (tv_cc g h) H) (hz : H0.size + cells = tv_N g + h.length) (hN : tv_N g ≤ H0.size) (hS : va_S (tv_A g) H0 H locs) (hu : H.size ≤ H0.size + cells) : H.size = tv_N g + h.length := by
  have h1 := hS.1
  cases hh : h.length with
  | zero => omega
  | succ n =>
    obtain ⟨e, he⟩ : ∃ e, h[n]? = some e := ⟨h[n]'(by omega), List.getElem?_eq_getElem (by omega)⟩
    have := (hP n _ (tv_cc_get he)).lt
    simp only at this
    omega
/-- behind a call -/
theorem tv_back {p : Program} {l : Launch} {e : Env} {R : Room} {s : State} {m : MethodId} {args : Array Value} {below : List Frame} {meth : Method} {c : Code} {H : Heap} {locs : List Loc} {cells slots : Nat} {Q : State → Prop} {pc : Nat} {ls : Array Slot} {st0 rest : List Value} {g : tv_G} {h1 : tv_Hp} {r1 : Option Value} {mc ms : Nat} {a : Array Value}
    (hr : va_Run p l e R s m args below meth c H locs cells slots mc ms (F0 m pc ls st0) rest (tv_Qc g h1 r1 mc a) (tv_A g)) (hS : va_S (tv_A g) s.heap H locs)
    (kk : ∀ (H1 : Heap) (locs1 : List Loc), va_P (tv_D g) vwCl (tv_cc g h1) H1 → H.size + mc = tv_N g + h1.length → va_S (tv_A g) s.heap H1 locs1 → W p l e R s m args below meth c H1 locs1 (cells + mc) (slots + ms) Q (F0 m (pc + 3) ls (r1.toList ++ rest))) : W p l e R s m args below meth c H locs cells slots Q (F0 m pc ls st0) := by
  intro T hT X
  obtain ⟨v, st₀, t, T', L, h0, X', hL, e1, e2, ⟨hv, hP, hz, hF1, hF2⟩, st⟩ := hr T hT X
  cases hv
  rw [h0] at hz hF1 hF2
  obtain ⟨t2, a1, b1⟩ := kk T'.heap (locs ++ L) (by rw [e1]; exact hP) hz
    ⟨Nat.le_trans hS.1 (by rw [e1]; exact hF1), fun q q1 q2 => by rw [e1, hF2 q (Nat.lt_of_lt_of_le q1 hS.1) q2]; exact hS.2.1 q q1 q2, fun q hq => by
      rcases List.mem_append.mp hq with z | z
      · exact hS.2.2 q z
      · exact hL q z⟩ T' rfl X'
  exact ⟨t2, st t2 a1, b1⟩
section TVC
variable {g : tv_G} {l : Launch} {y : MethodName} {cc : ByteArray} {nL : Nat} {ret : Option FieldType} {d kc ks pc : Nat} {L st : List Value} {h : tv_Hp} {r : Option Value} {h' : tv_Hp}
variable {y1 : MethodName} {cc1 : ByteArray} {nL1 : Nat} {ret1 : Option FieldType} {d1 kc1 ks1 idx n i : Nat} {L1 stk : List Value} {h1 : tv_Hp} {r1 : Option Value}
theorem tv_blind (g : tv_G) (h : tv_Hp) (vs : List Value) : FrameBlind (tv_Pc g h vs) := fun a U f mk q => ⟨q.1, q.2.1.blind f mk a, q.2.2⟩
theorem tv_goodc {w : Cond} {y : MethodName} {cc : ByteArray} {nL : Nat} {ret : Option FieldType} {ws : List Cond} (h : Cond.code y cc nL ret ∈ ws) : GoodIn ws [Cond.code y cc nL ret] := fun w hw => by
  rw [List.mem_singleton.mp hw]
  exact ⟨h, Or.inl rfl⟩
theorem ev_callVg (q : Nat) (As rest : List Value) (hd : decode cc pc = .ok (.invokevirtual idx, 3)) (hq : pc + 3 = q) (ho : tv_okm y.cls idx y1 cc1 nL1 ret1 n) (hv : Cond.instanceMethod y1 ∈ lw_tbl ∧ Cond.selects y1.cls y1 y1 ∈ lw_tbl) (hst : stk = As.reverse ++ .ref i :: rest) (hn : As.length = n) (hroom : (rest.map fun v => v.category).sum ≤ 8)
    (ci : Nat) (fs : List Value) (T : u_T) (N : Nat) (hci : vwCl[ci]? = some (y1.cls, T, N)) (hi : i < 1000) (hc : h[i]? = some (.inr (.inr (ci, fs)))) (hL1 : tv_in nL1 (.ref i :: As) = L1) (hlen : (tv_ex (.ref i :: As)).length ≤ nL1) (hdd : d1 + 1 ≤ d)
    (M : tv_E g l y1 cc1 nL1 ret1 d1 kc1 ks1 0 L1 [] h r1 h1) (k : tv_E g l y cc nL ret d kc ks q L (r1.toList ++ rest) h1 r h') (hr1 : ∀ v, r1 = some v → tv_cv g v = v) : tv_E g l y cc nL ret d (kc1 + kc) (ks1 + ks) pc L stk h r h' := by
  subst hq; subst hst; subst hL1
  intro p e R s m args below meth c Q H locs cells slots ls C hP hz hS hl g1 g2 K
  refine tv_sized (fun hu => ?_)
  have hsz := tv_size hP hz C.2.2.2.2.1.2.2.2.1 hS hu
  obtain ⟨o1, o2, o3, o4, o5, o6⟩ := ho
  have hts : ∀ w ∈ ([Cond.code y1 cc1 nL1 ret1] : List Cond), w.before args s = true := fun w hw => by rw [List.mem_singleton.mp hw]; exact C.2.2.2.2.1.in o3 rfl
  have hM := tv_Met M o4 hlen
  have ha : tv_cv g (.ref i) = .ref (tv_N g + i) := by simp [tv_cv, tv_ad, hi]
  have hst2 : (As.reverse ++ Value.ref i :: rest).map (tv_cv g) = (As.map (tv_cv g)).reverse ++ .ref (tv_N g + i) :: rest.map (tv_cv g) := by
    rw [List.map_append, List.map_reverse, List.map_cons, ha]
  rw [hst2]
  have hd1 := C.2.2.2.2.2.1
  have hd2 := C.2.2.2.2.2.2.1
  have hR : (tv_rm d1 kc1 ks1).frames + 1 ≤ R.frames ∧ 8 + (nL1 + 11) + (tv_rm d1 kc1 ks1).locals ≤ R.locals := by
    simp only [tv_rm]
    omega
  have hp : PreV s H y1.cls (tv_N g + i) (tv_Pc g h (.ref i :: As)) (As.map (tv_cv g)) := by
    refine ⟨tv_blind g h _, va_recv C.2.2.2.2.1.2.2.1 hP hci (tv_cc_get hc), fun U hU hW => ⟨?_, C.2.2.2.2.1.move hS hU hW, by rw [hU]; exact hP, by rw [hU]; exact hsz⟩⟩
    rw [List.map_cons, ha]
  have hin := C.2.2.2.2.1.in (a := args) hv.1 rfl
  have hse := C.2.2.2.2.1.in (a := args) hv.2 rfl
  have hini := C.2.2.2.2.1.in (a := args) o2 rfl
  have hrm : 2 * (F0 m pc ls ((As.map (tv_cv g)).reverse ++ .ref (tv_N g + i) :: rest.map (tv_cv g))).monitorRoom + ((rest.map (tv_cv g)).map fun v => v.category).sum ≤ 8 := by
    refine lv_room ?_
    rw [List.map_map]
    have : ((fun v : Value => v.category) ∘ tv_cv g) = fun v => v.category := funext (fun v => tv_cat g v)
    rw [this]
    exact hroom
  have hcells : cells + kc1 ≤ R.cells ∧ slots + ks1 ≤ R.slots := by omega
  have hrun : va_Run p l e R s m args below meth c H locs cells slots kc1 ks1 (F0 m pc ls ((As.map (tv_cv g)).reverse ++ .ref (tv_N g + i) :: rest.map (tv_cv g))) (rest.map (tv_cv g)) (tv_Qc g h1 r1 kc1 (Value.ref (tv_N g + i) :: As.map (tv_cv g)).toArray) (tv_A g) := by
    rcases o1 with o1 | ⟨host, o1⟩
    · exact va_runV ⟨C.1, C.2.1, C.2.2.1, C.2.2.2.1, hts⟩ hM ⟨callB_of (bytes := cc1) (maxL := nL1) (ret := ret1) n hts (tv_goodc (w := .tt) (List.mem_singleton.mpr rfl)) rfl rfl rfl hini (C.2.2.2.2.1.in o1 rfl) o5 hR, hin, hse⟩ hp rfl (by rw [List.length_map]; exact hn) hl.1 rfl hrm hd hcells
    · exact va_runVN ⟨C.1, C.2.1, C.2.2.1, C.2.2.2.1, hts⟩ hM ⟨va_cnB (host := host) (bytes := cc1) (maxL := nL1) (ret := ret1) n hts (tv_goodc (w := .tt) (List.mem_singleton.mpr rfl)) rfl rfl rfl (C.2.2.2.2.1.in o1 rfl) hini o5 hR, hin, hse⟩ hp rfl (by rw [List.length_map]; exact hn) hl.1 rfl hrm hd hcells
  refine tv_back hrun hS (fun H1 locs1 hP1 hz1 hS1 => ?_)
  have hst3 : r1.toList ++ rest.map (tv_cv g) = (r1.toList ++ rest).map (tv_cv g) := by
    rw [List.map_append]
    congr 1
    cases r1 with
    | none => rfl
    | some v => simp [hr1 v rfl]
  rw [hst3]
  refine k p e R s m args below meth c Q H1 locs1 (cells + kc1) (slots + ks1) ls C hP1 (by omega) hS1 hl (by omega) (by omega) ?_
  rw [Nat.add_assoc, Nat.add_assoc]
  exact K
theorem ev_callSg (q : Nat) (As rest : List Value) (hd : decode cc pc = .ok (.invokestatic idx, 3)) (hq : pc + 3 = q) (ho : tv_okm y.cls idx y1 cc1 nL1 ret1 n) (hv : Cond.static y1 ∈ lw_tbl) (hst : stk = As.reverse ++ rest) (hn : As.length = n) (hroom : (rest.map fun v => v.category).sum ≤ 8)
    (hL1 : tv_in nL1 As = L1) (hlen : (tv_ex As).length ≤ nL1) (hdd : d1 + 1 ≤ d)
    (M : tv_E g l y1 cc1 nL1 ret1 d1 kc1 ks1 0 L1 [] h r1 h1) (k : tv_E g l y cc nL ret d kc ks q L (r1.toList ++ rest) h1 r h') (hr1 : ∀ v, r1 = some v → tv_cv g v = v) : tv_E g l y cc nL ret d (kc1 + kc) (ks1 + ks) pc L stk h r h' := by
  subst hq; subst hst; subst hL1
  intro p e R s m args below meth c Q H locs cells slots ls C hP hz hS hl g1 g2 K
  refine tv_sized (fun hu => ?_)
  have hsz := tv_size hP hz C.2.2.2.2.1.2.2.2.1 hS hu
  obtain ⟨o1, o2, o3, o4, o5, o6⟩ := ho
  have hts : ∀ w ∈ ([Cond.code y1 cc1 nL1 ret1] : List Cond), w.before args s = true := fun w hw => by rw [List.mem_singleton.mp hw]; exact C.2.2.2.2.1.in o3 rfl
  have hM := tv_Met M o4 hlen
  have hst2 : (As.reverse ++ rest).map (tv_cv g) = (As.map (tv_cv g)).reverse ++ rest.map (tv_cv g) := by
    rw [List.map_append, List.map_reverse]
  rw [hst2]
  have hd1 := C.2.2.2.2.2.1
  have hd2 := C.2.2.2.2.2.2.1
  have hR : (tv_rm d1 kc1 ks1).frames + 1 ≤ R.frames ∧ 8 + (nL1 + 11) + (tv_rm d1 kc1 ks1).locals ≤ R.locals := by
    simp only [tv_rm]
    omega
  have hp : PreS s H (tv_Pc g h As) (As.map (tv_cv g)) :=
    ⟨tv_blind g h _, fun U hU hW => ⟨rfl, C.2.2.2.2.1.move hS hU hW, by rw [hU]; exact hP, by rw [hU]; exact hsz⟩⟩
  have hin := C.2.2.2.2.1.in (a := args) hv rfl
  have hini := C.2.2.2.2.1.in (a := args) o2 rfl
  have hrm : 2 * (F0 m pc ls ((As.map (tv_cv g)).reverse ++ rest.map (tv_cv g))).monitorRoom + ((rest.map (tv_cv g)).map fun v => v.category).sum ≤ 8 := by
    refine lv_room ?_
    rw [List.map_map]
    have : ((fun v : Value => v.category) ∘ tv_cv g) = fun v => v.category := funext (fun v => tv_cat g v)
    rw [this]
    exact hroom
  have hcells : cells + kc1 ≤ R.cells ∧ slots + ks1 ≤ R.slots := by omega
  have hrun : va_Run p l e R s m args below meth c H locs cells slots kc1 ks1 (F0 m pc ls ((As.map (tv_cv g)).reverse ++ rest.map (tv_cv g))) (rest.map (tv_cv g)) (tv_Qc g h1 r1 kc1 (As.map (tv_cv g)).toArray) (tv_A g) := by
    rcases o1 with o1 | ⟨host, o1⟩
    · exact va_runS ⟨C.1, C.2.1, C.2.2.1, C.2.2.2.1, hts⟩ hM ⟨callB_of (bytes := cc1) (maxL := nL1) (ret := ret1) n hts (tv_goodc (w := .tt) (List.mem_singleton.mpr rfl)) rfl rfl rfl hini (C.2.2.2.2.1.in o1 rfl) o5 hR, hin⟩ hp rfl (by rw [List.length_map]; exact hn) hl.1 rfl hrm hd hcells
    · exact va_runSN ⟨C.1, C.2.1, C.2.2.1, C.2.2.2.1, hts⟩ hM ⟨va_cnB (host := host) (bytes := cc1) (maxL := nL1) (ret := ret1) n hts (tv_goodc (w := .tt) (List.mem_singleton.mpr rfl)) rfl rfl rfl (C.2.2.2.2.1.in o1 rfl) hini o5 hR, hin, trivial⟩ hp rfl (by rw [List.length_map]; exact hn) hl.1 rfl hrm hd hcells
  refine tv_back hrun hS (fun H1 locs1 hP1 hz1 hS1 => ?_)
  have hst3 : r1.toList ++ rest.map (tv_cv g) = (r1.toList ++ rest).map (tv_cv g) := by
    rw [List.map_append]
    congr 1
    cases r1 with
    | none => rfl
    | some v => simp [hr1 v rfl]
  rw [hst3]
  refine k p e R s m args below meth c Q H1 locs1 (cells + kc1) (slots + ks1) ls C hP1 (by omega) hS1 hl (by omega) (by omega) ?_
  rw [Nat.add_assoc, Nat.add_assoc]
  exact K
theorem ev_callIg (q : Nat) (As rest : List Value) (hd : decode cc pc = .ok (.invokespecial idx, 3)) (hq : pc + 3 = q) (ho : tv_okm y.cls idx y1 cc1 nL1 none n) (hv : Cond.instanceMethod y1 ∈ lw_tbl ∧ y1.name = "<init>") (hst : stk = As.reverse ++ .ref i :: rest) (hn : As.length = n) (hroom : (rest.map fun v => v.category).sum ≤ 8)
    (hi : i < 1000) (hL1 : tv_in nL1 (.ref i :: As) = L1) (hlen : (tv_ex (.ref i :: As)).length ≤ nL1) (hdd : d1 + 1 ≤ d)
    (M : tv_E g l y1 cc1 nL1 none d1 kc1 ks1 0 L1 [] h none h1) (k : tv_E g l y cc nL ret d kc ks q L rest h1 r h') : tv_E g l y cc nL ret d (kc1 + kc) (ks1 + ks) pc L stk h r h' := by
  subst hq; subst hst; subst hL1
  intro p e R s m args below meth c Q H locs cells slots ls C hP hz hS hl g1 g2 K
  refine tv_sized (fun hu => ?_)
  have hsz := tv_size hP hz C.2.2.2.2.1.2.2.2.1 hS hu
  obtain ⟨o1, o2, o3, o4, o5, o6⟩ := ho
  have hts : ∀ w ∈ ([Cond.code y1 cc1 nL1 none] : List Cond), w.before args s = true := fun w hw => by rw [List.mem_singleton.mp hw]; exact C.2.2.2.2.1.in o3 rfl
  have hM := tv_Met M o4 hlen
  have ha : tv_cv g (.ref i) = .ref (tv_N g + i) := by simp [tv_cv, tv_ad, hi]
  have hst2 : (As.reverse ++ Value.ref i :: rest).map (tv_cv g) = (As.map (tv_cv g)).reverse ++ .ref (tv_N g + i) :: rest.map (tv_cv g) := by
    rw [List.map_append, List.map_reverse, List.map_cons, ha]
  rw [hst2]
  have hd1 := C.2.2.2.2.2.1
  have hd2 := C.2.2.2.2.2.2.1
  have hR : (tv_rm d1 kc1 ks1).frames + 1 ≤ R.frames ∧ 8 + (nL1 + 11) + (tv_rm d1 kc1 ks1).locals ≤ R.locals := by
    simp only [tv_rm]
    omega
  have hp : PreS s H (tv_Pc g h (.ref i :: As)) (.ref (tv_N g + i) :: As.map (tv_cv g)) := by
    refine ⟨tv_blind g h _, fun U hU hW => ⟨?_, C.2.2.2.2.1.move hS hU hW, by rw [hU]; exact hP, by rw [hU]; exact hsz⟩⟩
    rw [List.map_cons, ha]
  have hin := C.2.2.2.2.1.in (a := args) hv.1 rfl
  have hini := C.2.2.2.2.1.in (a := args) o2 rfl
  have hrm : 2 * (F0 m pc ls ((As.map (tv_cv g)).reverse ++ .ref (tv_N g + i) :: rest.map (tv_cv g))).monitorRoom + ((rest.map (tv_cv g)).map fun v => v.category).sum ≤ 8 := by
    refine lv_room ?_
    rw [List.map_map]
    have : ((fun v : Value => v.category) ∘ tv_cv g) = fun v => v.category := funext (fun v => tv_cat g v)
    rw [this]
    exact hroom
  have hcells : cells + kc1 ≤ R.cells ∧ slots + ks1 ≤ R.slots := by omega
  have hrun : va_Run p l e R s m args below meth c H locs cells slots kc1 ks1 (F0 m pc ls ((As.map (tv_cv g)).reverse ++ .ref (tv_N g + i) :: rest.map (tv_cv g))) (rest.map (tv_cv g)) (tv_Qc g h1 none kc1 (Value.ref (tv_N g + i) :: As.map (tv_cv g)).toArray) (tv_A g) := by
    rcases o1 with o1 | ⟨host, o1⟩
    · exact va_runI ⟨C.1, C.2.1, C.2.2.1, C.2.2.2.1, hts⟩ hM ⟨callB_of (bytes := cc1) (maxL := nL1) (ret := none) n hts (tv_goodc (w := .tt) (List.mem_singleton.mpr rfl)) rfl rfl rfl hini (C.2.2.2.2.1.in o1 rfl) o5 hR, hv.2, hin⟩ hp rfl (by rw [List.length_map]; exact hn) hl.1 rfl hrm hd hcells
    · exact va_runIN ⟨C.1, C.2.1, C.2.2.1, C.2.2.2.1, hts⟩ hM ⟨va_cnB (host := host) (bytes := cc1) (maxL := nL1) (ret := none) n hts (tv_goodc (w := .tt) (List.mem_singleton.mpr rfl)) rfl rfl rfl (C.2.2.2.2.1.in o1 rfl) hini o5 hR, hv.2, hin⟩ hp rfl (by rw [List.length_map]; exact hn) hl.1 rfl hrm hd hcells
  refine tv_back hrun hS (fun H1 locs1 hP1 hz1 hS1 => ?_)
  refine k p e R s m args below meth c Q H1 locs1 (cells + kc1) (slots + ks1) ls C hP1 (by omega) hS1 hl (by omega) (by omega) ?_
  rw [Nat.add_assoc, Nat.add_assoc]
  exact K
end TVC
end
section
/-! ===== what makes cells; the JDK's own ===== -/
section TVA
variable {g : tv_G} {l : Launch} {y : MethodName} {cc : ByteArray} {nL : Nat} {ret : Option FieldType} {d kc ks pc : Nat} {L st : List Value} {h : tv_Hp} {r : Option Value} {h' : tv_Hp}
theorem tv_roomc {g : tv_G} {st : List Value} (h : (st.map fun v => v.category).sum ≤ 8) : ((st.map (tv_cv g)).map fun v => v.category).sum ≤ 8 := by
  rw [List.map_map]
  have : ((fun v : Value => v.category) ∘ tv_cv g) = fun v => v.category := funext (fun v => tv_cat g v)
  rw [this]
  exact h
theorem ev_objInit {idx i : Nat} (q : Nat) (hd : decode cc pc = .ok (.invokespecial idx, 3)) (hq : pc + 3 = q) (hw : Cond.methodLink y.cls idx Lib.objectInit ∈ lw_tbl) (hw2 : Cond.instanceMethod Lib.objectInit ∈ lw_tbl) (hw3 : Cond.code Lib.objectInit ⟨#[0xb1]⟩ 1 none ∈ lw_tbl) (hdd : 1 ≤ d) (hroom : (st.map fun v => v.category).sum ≤ 8) (k : tv_E g l y cc nL ret d kc ks q L st h r h') : tv_E g l y cc nL ret d kc ks pc L (.ref i :: st) h r h' := by
  subst hq
  intro p e R s m args below meth c Q H locs cells slots ls C hP hz hS hl h1 h2 K
  have hd1 := C.2.2.2.2.2.1
  have hd2 := C.2.2.2.2.2.2.1
  have hr := tv_roomc (g := g) hroom
  refine W.objInit C.1 C.2.1 C.2.2.2.1 (C.2.2.2.2.1.in hw rfl) (C.2.2.2.2.1.in hw2 rfl) (C.2.2.2.2.1.in hw3 rfl) rfl (by rw [C.2.2.1]; exact hl.1) rfl hd (by omega) ?_ (k p e R s m args below meth c Q H locs cells slots ls C hP hz hS hl h1 h2 K)
  show 2 * 0 + _ + 12 ≤ _
  omega
def tv_okn (own : String) (idx ci N : Nat) (fs : List Value) : Prop := ∃ (C : String) (T : u_T) (ty0 : Nat → FieldType), vwCl[ci]? = some (C, T, N) ∧ (∀ w ∈ u_ws C T N, w ∈ lw_tbl) ∧ (∀ j, j < N → parseFieldDescriptor (T j).2.2.1 = some (ty0 j)) ∧ Cond.classLink own idx C ∈ lw_tbl ∧ Cond.instantiable C N ∈ lw_tbl ∧ Cond.initialized C ∈ lw_tbl ∧ (∀ j, j < N → defaultValue (ty0 j) = vp_V fs j)
theorem tv_new1 {D : va_G} {cl : List vw_C} {ws : va_W} {a : Nat} {e : va_E} {H H1 : Heap} (hP : va_P D cl ws H) (ho : ∀ q, q < H.size → H1[q]? = H[q]?) (he : va_at D cl (a, e) H1) : va_P D cl (ws ++ [(a, e)]) H1 := by
  refine (hP.kept (fun k x hx => ho x.1 ((hP k x hx).lt))).app (fun k x hx => ?_)
  have hz : k < 1 := (List.getElem?_eq_some_iff.mp hx).1
  rw [show k = 0 by omega] at hx
  cases hx
  exact he
theorem tv_newS {A : Nat → Prop} {H0 H H1 : Heap} {locs : List Loc} (hS : va_S A H0 H locs) (hz : H1.size = H.size + 1) (ho : ∀ q, q < H.size → H1[q]? = H[q]?) : va_S A H0 H1 locs :=
  ⟨Nat.le_trans hS.1 (by omega), fun x h1 h2 => (ho x (Nat.lt_of_lt_of_le h1 hS.1)).trans (hS.2.1 x h1 h2), hS.2.2⟩
theorem ev_new {idx ci N i : Nat} {fs : List Value} (q : Nat) (hd : decode cc pc = .ok (.new idx, 3)) (hq : pc + 3 = q) (ho : tv_okn y.cls idx ci N fs) (hfs : ∀ g : tv_G, fs.map (tv_cv g) = fs) (hlen : h.length = i) (hi : i < 1000) (k : tv_E g l y cc nL ret d kc ks q L (.ref i :: st) (h ++ [.inr (.inr (ci, fs))]) r h') : tv_E g l y cc nL ret d (1 + kc) (N + ks) pc L st h r h' := by
  subst hq; subst hlen
  intro p e R s m args below meth c Q H locs cells slots ls C hP hz hS hl h1 h2 K
  refine tv_sized (fun hu => ?_)
  have hsz := tv_size hP hz C.2.2.2.2.1.2.2.2.1 hS hu
  obtain ⟨C0, T, ty0, f1, f2, f3, f4, f5, f6, f7⟩ := ho
  have hts : ∀ w ∈ u_ws C0 T N, w.before args s = true := fun w hw => C.2.2.2.2.1.in (f2 w hw) (tv_lay_gw hw)
  have hKn := C.2.2.2.2.1.2.2.1.1 ci _ f1
  refine W.newcK C.1 C.2.1 C.2.2.2.1 (C.2.2.2.2.1.in f4 rfl) (C.2.2.2.2.1.in f5 rfl) (C.2.2.2.2.1.in f6 rfl) rfl hd (by omega) (by omega) hKn.2.1 hsz fun H1 kC hkC e1 z1 o1 => ?_
  have ha : tv_cv g (.ref h.length) = .ref (tv_N g + h.length) := by simp [tv_cv, tv_ad, hi]
  have hP1 : va_P (tv_D g) vwCl (tv_cc g (h ++ [.inr (.inr (ci, fs))])) H1 := by
    rw [tv_cc_app]
    refine tv_new1 hP (fun q hq => o1 q (by omega)) ⟨_, f1, ?_⟩
    refine (u_born ty0 hts (fun w hw => hw) hKn hkC e1 f3).to (fun j hj => ?_)
    show _ = vp_V (fs.map (tv_cv g)) j
    rw [hfs g]
    exact f7 j hj
  have k1 := k p e R s m args below meth c Q H1 locs (cells + 1) (slots + N) ls C hP1 (by rw [List.length_append]; simp only [List.length_cons, List.length_nil]; omega) (tv_newS hS (by omega) (fun q hq => o1 q (by omega))) hl (by omega) (by omega) (by rw [Nat.add_assoc, Nat.add_assoc]; exact K)
  rw [List.map_cons, ha] at k1
  exact k1
theorem ev_newarray {n : Int32} {N i : Nat} (q : Nat) (hd : decode cc pc = .ok (.newarray .int, 2)) (hq : pc + 2 = q) (hw : Cond.arrayClass .int ∈ lw_tbl) (hn : ¬ n < 0) (hN : n.toNatClampNeg = N) (hb : N ≤ 100000) (hlen : h.length = i) (hi : i < 1000) (k : tv_E g l y cc nL ret d kc ks q L (.ref i :: st) (h ++ [.inl (N, fun _ => 0)]) r h') : tv_E g l y cc nL ret d (1 + kc) (N + ks) pc L (.int n :: st) h r h' := by
  subst hq; subst hlen
  intro p e R s m args below meth c Q H locs cells slots ls C hP hz hS hl h1 h2 K
  refine tv_sized (fun hu => ?_)
  have hsz := tv_size hP hz C.2.2.2.2.1.2.2.2.1 hS hu
  refine va_newaK (atype := .int) C.1 C.2.1 (C.2.2.2.2.1.in hw rfl) rfl hd rfl hn hN (by show N * 4 ≤ 536870912; omega) (by omega) (by omega) hsz fun H1 cA e1 z1 o1 hAr hNm => ?_
  have hcI : cA = tv_cI g := by
    have := (C.2.2.2.2.1.2.2.1.2 0 _ rfl).2
    exact Option.some.inj (hNm.symm.trans this)
  subst hcI
  have ha : tv_cv g (.ref h.length) = .ref (tv_N g + h.length) := by simp [tv_cv, tv_ad, hi]
  have hP1 : va_P (tv_D g) vwCl (tv_cc g (h ++ [.inl (N, fun _ => 0)])) H1 := by
    rw [tv_cc_app]
    exact tv_new1 hP (fun q hq => o1 q (by omega)) e1
  have k1 := k p e R s m args below meth c Q H1 locs (cells + 1) (slots + N) ls C hP1 (by rw [List.length_append]; simp only [List.length_cons, List.length_nil]; omega) (tv_newS hS (by omega) (fun q hq => o1 q (by omega))) hl (by omega) (by omega) (by rw [Nat.add_assoc, Nat.add_assoc]; exact K)
  rw [List.map_cons, ha] at k1
  exact k1
theorem ev_anewarray {n : Int32} {N i idx : Nat} (q : Nat) (hd : decode cc pc = .ok (.anewarray idx, 3)) (hq : pc + 3 = q) (hw : Cond.classLink y.cls idx RX5 ∈ lw_tbl) (hn : ¬ n < 0) (hN : n.toNatClampNeg = N) (hb : N ≤ 100000) (hlen : h.length = i) (hi : i < 1000) (k : tv_E g l y cc nL ret d kc ks q L (.ref i :: st) (h ++ [.inr (.inl (N, fun _ => none))]) r h') : tv_E g l y cc nL ret d (1 + kc) (N + ks) pc L (.int n :: st) h r h' := by
  subst hq; subst hlen; subst hN
  intro p e R s m args below meth c Q H locs cells slots ls C hP hz hS hl h1 h2 K
  refine tv_sized (fun hu => ?_)
  have hsz := tv_size hP hz C.2.2.2.2.1.2.2.2.1 hS hu
  refine W.anew C.1 C.2.1 C.2.2.2.1 (C.2.2.2.2.1.in hw rfl) (va_AO.use C.2.2.2.2.1.2.1) rfl hd rfl hn (by omega) (by omega) (by omega) fun cA kA comp f1 f2 f3 f4 => ?_
  generalize hH1 : H.push ({ cls := cA, slots := Array.replicate n.toNatClampNeg .null, vm := .none } : Cell) = H1
  have z1 : H1.size = H.size + 1 := by rw [← hH1, Array.size_push]
  have e1 : H1[H.size]? = some (arrV cA n.toNatClampNeg (fun _ => .null)) := by rw [← hH1, Array.getElem?_push_size, ← arrV_new]
  have o1 : ∀ q : Nat, q < H.size → H1[q]? = H[q]? := fun q hq => by rw [← hH1, Array.getElem?_push, if_neg (Nat.ne_of_lt hq)]
  have hcS : cA = tv_cS g := by
    obtain ⟨k2, c2, u1, u2, u3, u4⟩ := (C.2.2.2.2.1.2.2.1.2 1 _ rfl).2
    exact Option.some.inj (f1.symm.trans u4)
  subst hcS
  rw [hsz] at e1
  have ha : tv_cv g (.ref h.length) = .ref H.size := by rw [hsz]; simp [tv_cv, tv_ad, hi]
  have hP1 : va_P (tv_D g) vwCl (tv_cc g (h ++ [.inr (.inl (n.toNatClampNeg, fun _ => none))])) H1 := by
    rw [tv_cc_app]
    exact tv_new1 hP o1 e1
  have k1 := k p e R s m args below meth c Q H1 locs (cells + 1) (slots + n.toNatClampNeg) ls C hP1 (by rw [List.length_append]; simp only [List.length_cons, List.length_nil]; omega) (tv_newS hS z1 o1) hl (by omega) (by omega) (by rw [Nat.add_assoc, Nat.add_assoc]; exact K)
  rw [List.map_cons, ha] at k1
  exact k1
/-! System.arraycopy of ints, Math.min -/
def tv_cp (n0 : Nat) (f : Nat → Int32) (n1 : Nat) (f1 : Nat → Int32) (sp dp n : Int32) : Option (Nat → Int32) := if sp < 0 ∨ dp < 0 ∨ n < 0 ∨ n0 < sp.toNatClampNeg + n.toNatClampNeg ∨ n1 < dp.toNatClampNeg + n.toNatClampNeg then none else some (va_cpy f f1 sp.toNatClampNeg dp.toNatClampNeg n.toNatClampNeg)
theorem tv_cp_some {n0 n1 : Nat} {f f1 f2 : Nat → Int32} {sp dp n : Int32} (h : tv_cp n0 f n1 f1 sp dp n = some f2) : ¬ sp < 0 ∧ ¬ dp < 0 ∧ ¬ n < 0 ∧ sp.toNatClampNeg + n.toNatClampNeg ≤ n0 ∧ dp.toNatClampNeg + n.toNatClampNeg ≤ n1 ∧ va_cpy f f1 sp.toNatClampNeg dp.toNatClampNeg n.toNatClampNeg = f2 := by
  unfold tv_cp at h
  split at h
  · cases h
  next hc =>
    refine ⟨fun z => hc (Or.inl z), fun z => hc (Or.inr (Or.inl z)), fun z => hc (Or.inr (Or.inr (Or.inl z))), ?_, ?_, Option.some.inj h⟩
    · exact Nat.not_lt.mp (fun z => hc (Or.inr (Or.inr (Or.inr (Or.inl z)))))
    · exact Nat.not_lt.mp (fun z => hc (Or.inr (Or.inr (Or.inr (Or.inr z)))))
theorem ev_arraycopy {idx i j n0 n1 : Nat} {f f1 f2 : Nat → Int32} {sp dp n : Int32} {hh : tv_Hp} (q : Nat) (hd : decode cc pc = .ok (.invokestatic idx, 3)) (hq : pc + 3 = q) (hw : Cond.methodLink y.cls idx arraycopyName ∈ lw_tbl) (hw1 : Cond.native arraycopyName ∈ lw_tbl) (hw2 : Cond.static arraycopyName ∈ lw_tbl) (hw3 : Cond.initialized "java/lang/System" ∈ lw_tbl) (hdd : 1 ≤ d) (hroom : (st.map fun v => v.category).sum ≤ 8) (hi : i < 1000) (hj : j < 1000) (hci : h[i]? = some (.inl (n0, f))) (hcj : h[j]? = some (.inl (n1, f1))) (hr : tv_cp n0 f n1 f1 sp dp n = some f2) (hs : h.set j (.inl (n1, f2)) = hh) (k : tv_E g l y cc nL ret d kc ks q L st hh r h') : tv_E g l y cc nL ret d kc ks pc L (.int n :: .int dp :: .ref j :: .int sp :: .ref i :: st) h r h' := by
  subst hq
  intro p e R s m args below meth c Q H locs cells slots ls C hP hz hS hl h1 h2 K
  obtain ⟨a1, a2, a3, a4, a5, a6⟩ := tv_cp_some hr
  subst a6
  have hd1 := C.2.2.2.2.2.1
  have hd2 := C.2.2.2.2.2.2.1
  have hrm := tv_roomc (g := g) hroom
  have ha : tv_cv g (.ref i) = .ref (tv_N g + i) := by simp [tv_cv, tv_ad, hi]
  have hb : tv_cv g (.ref j) = .ref (tv_N g + j) := by simp [tv_cv, tv_ad, hj]
  show W p l e R s m args below meth c H locs cells slots Q (F0 m pc ls (.int n :: .int dp :: tv_cv g (.ref j) :: .int sp :: tv_cv g (.ref i) :: st.map (tv_cv g)))
  rw [ha, hb]
  have hnw : nativeFrameWords "java/lang/System" "arraycopy" 5 = 7 := by decide +kernel
  refine va_copyi C.1 C.2.1 (by rw [C.2.2.1]; exact hl.1.symm) C.2.2.2.1 (C.2.2.2.2.1.in hw rfl) (C.2.2.2.2.1.in hw1 rfl) (C.2.2.2.2.1.in hw2 rfl) (C.2.2.2.2.1.in hw3 rfl) C.2.2.2.2.1.2.2.1 hP (tv_DD g h) hS i j 0 0 (ty := .int) (tv_cc_get hci) (tv_cc_get hcj) rfl rfl rfl a1 a2 a3 a4 a5 (fun _ _ => rfl) (by omega) (by rw [hnw]; omega) hd (fun H1 locs1 hP1 hD1 hS1 => ?_)
  have e1 : tv_cc g hh = (tv_cc g h).set j (tv_N g + j, .inl (tv_cI g, n1, .inl (va_cpy f f1 sp.toNatClampNeg dp.toNatClampNeg n.toNatClampNeg))) := by
    rw [← hs, tv_cc_set]
    rfl
  rw [← e1] at hP1
  exact k p e R s m args below meth c Q H1 locs1 cells slots ls C hP1 (by rw [← hs, List.length_set]; exact hz) hS1 hl h1 h2 K
theorem ev_min {idx : Nat} {a b : Int32} (q : Nat) (hd : decode cc pc = .ok (.invokestatic idx, 3)) (hq : pc + 3 = q) (hw : Cond.methodLink y.cls idx Lib.Math.min.name ∈ lw_tbl) (hw1 : Cond.static Lib.Math.min.name ∈ lw_tbl) (hw2 : Cond.initialized "java/lang/Math" ∈ lw_tbl) (hw3 : Cond.code Lib.Math.min.name Lib.Math.min.code 2 (some .int) ∈ lw_tbl) (hdd : 1 ≤ d) (hroom : (st.map fun v => v.category).sum ≤ 8) (k : tv_E g l y cc nL ret d kc ks q L (.int (if b < a then b else a) :: st) h r h') : tv_E g l y cc nL ret d kc ks pc L (.int b :: .int a :: st) h r h' := by
  subst hq
  intro p e R s m args below meth c Q H locs cells slots ls C hP hz hS hl h1 h2 K
  have hd1 := C.2.2.2.2.2.1
  have hd2 := C.2.2.2.2.2.2.1
  have hrm := tv_roomc (g := g) hroom
  exact va_mmin C.1 C.2.1 (by rw [C.2.2.1]; exact hl.1.symm) C.2.2.2.1 (C.2.2.2.2.1.in hw rfl) (C.2.2.2.2.1.in hw1 rfl) (C.2.2.2.2.1.in hw2 rfl) (C.2.2.2.2.1.in hw3 rfl) (by omega) (by omega) (by omega) (by omega) hd (k p e R s m args below meth c Q H locs cells slots ls C hP hz hS hl h1 h2 K)
theorem tv_copied {n : Int32} {sp dp : Int32} {scr : Cell} {cc1 c0 : ClassId} {L0 n1 : Nat} {xs f1 : Nat → Int32} (hsz : scr.slots.size = L0) (hv : ∀ j : Nat, j < L0 → scr.slots[j]? = some (.int (xs j))) (hs : sp.toNatClampNeg + n.toNatClampNeg ≤ L0) : copied scr (vp_cell cc1 (n1, .inl f1)) sp dp n = vp_cell cc1 (n1, .inl (va_cpy xs f1 sp.toNatClampNeg dp.toNatClampNeg n.toNatClampNeg)) := by
  have e : scr.stretch sp.toNatClampNeg n.toNatClampNeg = (arrV c0 L0 (fun j => Value.int (xs j))).stretch sp.toNatClampNeg n.toNatClampNeg := by
    unfold Cell.stretch
    apply List.map_congr_left
    intro i hi
    have hi' := List.mem_range.mp hi
    rw [Array.getD_eq_getD_getElem?, Array.getD_eq_getD_getElem?, arrV_read _ _ (by omega), hv _ (by omega)]
  have e2 := va_copied (fun z => Value.int z) c0 cc1 (n0 := L0) (n1 := n1) (sp := sp.toNatClampNeg) (dp := dp.toNatClampNeg) (n := n.toNatClampNeg) xs f1 hs
  rw [← e] at e2
  exact e2
theorem ev_arraycopyX {idx i j n1 : Nat} {f1 f2 : Nat → Int32} {sp dp n : Int32} {hh : tv_Hp} (q : Nat) (hd : decode cc pc = .ok (.invokestatic idx, 3)) (hq : pc + 3 = q) (hw : Cond.methodLink y.cls idx arraycopyName ∈ lw_tbl) (hw1 : Cond.native arraycopyName ∈ lw_tbl) (hw2 : Cond.static arraycopyName ∈ lw_tbl) (hw3 : Cond.initialized "java/lang/System" ∈ lw_tbl) (hdd : 1 ≤ d) (hroom : (st.map fun v => v.category).sum ≤ 8) (hi : i < 4) (hj : j < 1000) (hcj : h[j]? = some (.inl (n1, f1))) (hr : tv_cp (tv_XL g i) (tv_X g i) n1 f1 sp dp n = some f2) (hs : h.set j (.inl (n1, f2)) = hh) (k : tv_E g l y cc nL ret d kc ks q L st hh r h') : tv_E g l y cc nL ret d kc ks pc L (.int n :: .int dp :: .ref j :: .int sp :: .ref (1000 + i) :: st) h r h' := by
  subst hq
  intro p e R s m args below meth c Q H locs cells slots ls C hP hz hS hl h1 h2 K
  obtain ⟨a1, a2, a3, a4, a5, a6⟩ := tv_cp_some hr
  subst a6
  have hd1 := C.2.2.2.2.2.1
  have hd2 := C.2.2.2.2.2.2.1
  have hrm := tv_roomc (g := g) hroom
  have ha : tv_cv g (.ref (1000 + i)) = .ref (tv_xa g i) := by rw [← tv_adx g i]; rfl
  have hb : tv_cv g (.ref j) = .ref (tv_N g + j) := by simp [tv_cv, tv_ad, hj]
  show W p l e R s m args below meth c H locs cells slots Q (F0 m pc ls (.int n :: .int dp :: tv_cv g (.ref j) :: .int sp :: tv_cv g (.ref (1000 + i)) :: st.map (tv_cv g)))
  rw [ha, hb]
  have hnw : nativeFrameWords "java/lang/System" "arraycopy" 5 = 7 := by decide +kernel
  have nn : ∀ z : Int32, ¬ z < 0 → z.toInt = (z.toNatClampNeg : Int) := by
    intro z hz
    have hz0 : (0 : Int) ≤ z.toInt := by
      have := Int32.not_lt.mp hz
      simpa using Int32.le_iff_toInt_le.mp this
    show z.toInt = ((z.toInt.toNat : Nat) : Int)
    omega
  obtain ⟨hX, hxl⟩ := C.2.2.2.2.1.2.2.2.2.1 i hi
  have hN := C.2.2.2.2.1.2.2.2.1
  have hX := hX.kept (hS.2.1 _ (Nat.lt_of_lt_of_le hxl hN) (Nat.not_le.mpr hxl))
  obtain ⟨scr, x1, ⟨x2, k0, hk0, cm0, hkk0⟩, x3, x4, x5⟩ := hX
  have hc1 : H[tv_N g + j]? = some (vp_cell (tv_cI g) (n1, .inl f1)) := hP j _ (tv_cc_get hcj)
  obtain ⟨-, k1, hk1, cm1, hkk1⟩ := (C.2.2.2.2.1.2.2.1.2 0 _ rfl).1 n1 (fun j => .int (f1 j))
  have hD := tv_DD g h
  intro T hT X
  obtain ⟨vm', X', step⟩ := X.arraycopy C.1 C.2.2.2.1 (C.2.2.2.2.1.in hw rfl) (C.2.2.2.2.1.in hw1 rfl) (C.2.2.2.2.1.in hw2 rfl) (C.2.2.2.2.1.in hw3 rfl) (src := tv_xa g i) (dst := tv_N g + j) (cs := scr) (cd := vp_cell (tv_cI g) (n1, .inl f1)) (srcPos := sp) (destPos := dp) (n := n) (by rw [hT]; exact x1) (by rw [hT]; exact hc1)
    x2 (fun _ h => by cases h) x3 (fun h => by cases h) hk0 hk1 hkk0 hkk1 rfl a1 a2 a3
    (by rw [nn sp a1, nn n a3, x4]; omega)
    (by rw [nn dp a2, nn n a3]; show ¬ _ > ((arrV (tv_cI g) n1 (fun j => .int (f1 j))).slots.size : Int); rw [arrV_size]; omega)
    (fun vm₁ _ t ht => by
      have e : scr.slots.getD (sp.toNatClampNeg + t) .null = .int (tv_X g i (sp.toNatClampNeg + t)) := by
        rw [Array.getD_eq_getD_getElem?, x5 _ (by omega)]
        rfl
      rw [e]
      exact ⟨rfl, trivial⟩)
    (g := F0 m pc ls (.int n :: .int dp :: .ref (tv_N g + j) :: .int sp :: .ref (tv_xa g i) :: st.map (tv_cv g))) rfl (by rw [C.2.2.1]; exact hl.1) (rest := st.map (tv_cv g)) rfl (by rw [C.2.1]; exact hd) (by omega) (by show 2 * 0 + _ + _ ≤ _; rw [hnw]; omega)
  rw [tv_copied (c0 := 0) x4 x5 a4] at X' step
  have hlt : tv_N g + j < H.size := (Array.getElem?_eq_some_iff.mp hc1).1
  have e1 : tv_cc g hh = (tv_cc g h).set j (tv_N g + j, .inl (tv_cI g, n1, .inl (va_cpy (tv_X g i) f1 sp.toNatClampNeg dp.toNatClampNeg n.toNatClampNeg))) := by
    rw [← hs, tv_cc_set]
    rfl
  generalize hce : vp_cell (tv_cI g) (n1, .inl (va_cpy (tv_X g i) f1 sp.toNatClampNeg dp.toNatClampNeg n.toNatClampNeg)) = ce at X' step
  have hheap : ((T.setVm vm').setCell (tv_N g + j) ce).heap = H.setIfInBounds (tv_N g + j) ce := by rw [← hT]; rfl
  have oq : ∀ q : Nat, q ≠ tv_N g + j → (H.setIfInBounds (tv_N g + j) ce)[q]? = H[q]? := fun q hq => by simp [Array.getElem?_setIfInBounds, Ne.symm hq]
  have hP1 : va_P (tv_D g) vwCl (tv_cc g hh) (H.setIfInBounds (tv_N g + j) ce) := by
    rw [e1]
    refine hP.set hD (tv_cc_get hcj) (show (H.setIfInBounds _ _)[_]? = some _ from ?_) oq
    rw [hce]
    simp [Array.getElem?_setIfInBounds, hlt]
  obtain ⟨t, b1, b2⟩ := k p e R s m args below meth c Q _ _ cells slots ls C hP1 (by rw [← hs, List.length_set]; exact hz) ⟨by simp; exact hS.1, fun q q1 q2 => by
      rw [oq q (fun e => q2 (by rw [e]; exact hD.2 j _ (tv_cc_get hcj)))]
      exact hS.2.1 q q1 q2, fun q hq => by
      rcases List.mem_append.mp hq with z | z
      · exact hS.2.2 q z
      · obtain ⟨w, -, hw⟩ := List.mem_map.mp z
        rw [← hw]
        exact hD.2 j _ (tv_cc_get hcj)⟩ hl h1 h2 K _ hheap X'
  exact ⟨t, step t b1, b2⟩
end TVA
end
section
/-! ===== helpers for the refinements ===== -/
theorem tv_bind {α β : Type} {o : Option α} {f : α → Option β} {b : β} (h : o.bind f = some b) : ∃ a, o = some a ∧ f a = some b := by
  cases o with
  | none => cases h
  | some a => exact ⟨a, rfl, h⟩
def tv_fu : Nat := 6000
theorem tv_nz {x : Int32} (h : ¬ ¬ (x = 0 ∨ x = 1)) : narrow .boolean (.int x) = .int x := by
  rcases Decidable.not_not.mp h with h | h <;> subst h <;> rfl
def tv_le : List Value → List Value → Prop
  | [], _ => True
  | v :: t, w :: t' => (v = .null ∨ v = w) ∧ tv_le t t'
  | _ :: _, [] => False
theorem tv_le_get : ∀ (L2 L : List Value), tv_le L2 L → ∀ (i : Nat) (v : Value), L2[i]? = some v → v ≠ .null → L[i]? = some v
  | [], L, _, i, v, h, _ => by simp at h
  | a :: t, b :: t', hl, i, v, h, hv => by
    cases i with
    | zero =>
      simp only [List.getElem?_cons_zero, Option.some.injEq] at h ⊢
      rcases hl.1 with e | e
      · exact absurd (h.symm.trans e) hv
      · rw [← e]; exact h
    | succ i =>
      simp only [List.getElem?_cons_succ] at h ⊢
      exact tv_le_get t t' hl.2 i v h hv
  | _ :: _, [], hl, _, _, _, _ => hl.elim
section TVH
variable {g : tv_G} {l : Launch} {y : MethodName} {cc : ByteArray} {nL : Nat} {ret : Option FieldType} {d kc ks pc : Nat} {L st : List Value} {h : tv_Hp} {r : Option Value} {h' : tv_Hp}
variable {y1 : MethodName} {cc1 : ByteArray} {nL1 : Nat} {ret1 : Option FieldType} {d1 idx n i ci : Nat} {L1 stk fs : List Value} {h1 : tv_Hp} {x : Int32} {z : Int64}
theorem ev_weak (L2 : List Value) (hw : tv_le L2 L) (k : tv_E g l y cc nL ret d kc ks pc L2 st h r h') : tv_E g l y cc nL ret d kc ks pc L st h r h' := by
  intro p e R s m args below meth c Q H locs cells slots ls C hP hz hS hl h1 h2 K
  exact k p e R s m args below meth c Q H locs cells slots ls C hP hz hS ⟨hl.1, hl.2.1, fun i v q1 q2 => hl.2.2 i v (tv_le_get L2 L hw i v q1 q2) q2⟩ h1 h2 K
theorem ev_heq {h2 : tv_Hp} (hh : h = h2) (k : tv_E g l y cc nL ret d kc ks pc L st h2 r h') : tv_E g l y cc nL ret d kc ks pc L st h r h' := by
  subst hh
  exact k
def tv_okV (own : String) (idx : Nat) (y1 : MethodName) (cc1 : ByteArray) (nL1 : Nat) (ret1 : Option FieldType) (n ci : Nat) : Prop := tv_okm own idx y1 cc1 nL1 ret1 n ∧ (Cond.instanceMethod y1 ∈ lw_tbl ∧ Cond.selects y1.cls y1 y1 ∈ lw_tbl) ∧ ∃ (T : u_T) (N : Nat), vwCl[ci]? = some (y1.cls, T, N)
def tv_okS (own : String) (idx : Nat) (y1 : MethodName) (cc1 : ByteArray) (nL1 : Nat) (ret1 : Option FieldType) (n : Nat) : Prop := tv_okm own idx y1 cc1 nL1 ret1 n ∧ Cond.static y1 ∈ lw_tbl
theorem tv_z2 {E : Nat → Nat → Prop} (h : E (0 + kc) (0 + ks)) : E kc ks := by
  rw [Nat.zero_add, Nat.zero_add] at h
  exact h
theorem ev_callVi (q : Nat) (As rest : List Value) (hd : decode cc pc = .ok (.invokevirtual idx, 3)) (hq : pc + 3 = q) (ho : tv_okV y.cls idx y1 cc1 nL1 ret1 n ci) (hst : stk = As.reverse ++ .ref i :: rest) (hn : As.length = n) (hroom : (rest.map fun v => v.category).sum ≤ 8) (hi : i < 1000) (hc : h[i]? = some (.inr (.inr (ci, fs)))) (hL1 : tv_in nL1 (.ref i :: As) = L1) (hlen : (tv_ex (.ref i :: As)).length ≤ nL1) (hdd : d1 + 1 ≤ d)
    (M : tv_E g l y1 cc1 nL1 ret1 d1 0 0 0 L1 [] h (some (.int x)) h1) (k : tv_E g l y cc nL ret d kc ks q L (.int x :: rest) h1 r h') : tv_E g l y cc nL ret d kc ks pc L stk h r h' := by
  obtain ⟨o1, o2, T, N, o3⟩ := ho
  exact tv_z2 (E := fun a b => tv_E g l y cc nL ret d a b pc L stk h r h') (ev_callVg q As rest hd hq o1 o2 hst hn hroom ci fs T N o3 hi hc hL1 hlen hdd M k (fun v hv => by cases hv; rfl))
theorem ev_callSi (q : Nat) (As rest : List Value) (hd : decode cc pc = .ok (.invokestatic idx, 3)) (hq : pc + 3 = q) (ho : tv_okS y.cls idx y1 cc1 nL1 ret1 n) (hst : stk = As.reverse ++ rest) (hn : As.length = n) (hroom : (rest.map fun v => v.category).sum ≤ 8) (hL1 : tv_in nL1 As = L1) (hlen : (tv_ex As).length ≤ nL1) (hdd : d1 + 1 ≤ d)
    (M : tv_E g l y1 cc1 nL1 ret1 d1 0 0 0 L1 [] h (some (.int x)) h1) (k : tv_E g l y cc nL ret d kc ks q L (.int x :: rest) h1 r h') : tv_E g l y cc nL ret d kc ks pc L stk h r h' :=
  tv_z2 (E := fun a b => tv_E g l y cc nL ret d a b pc L stk h r h') (ev_callSg q As rest hd hq ho.1 ho.2 hst hn hroom hL1 hlen hdd M k (fun v hv => by cases hv; rfl))
theorem ev_callVl (q : Nat) (As rest : List Value) (hd : decode cc pc = .ok (.invokevirtual idx, 3)) (hq : pc + 3 = q) (ho : tv_okV y.cls idx y1 cc1 nL1 ret1 n ci) (hst : stk = As.reverse ++ .ref i :: rest) (hn : As.length = n) (hroom : (rest.map fun v => v.category).sum ≤ 8) (hi : i < 1000) (hc : h[i]? = some (.inr (.inr (ci, fs)))) (hL1 : tv_in nL1 (.ref i :: As) = L1) (hlen : (tv_ex (.ref i :: As)).length ≤ nL1) (hdd : d1 + 1 ≤ d)
    (M : tv_E g l y1 cc1 nL1 ret1 d1 0 0 0 L1 [] h (some (.long z)) h1) (k : tv_E g l y cc nL ret d kc ks q L (.long z :: rest) h1 r h') : tv_E g l y cc nL ret d kc ks pc L stk h r h' := by
  obtain ⟨o1, o2, T, N, o3⟩ := ho
  exact tv_z2 (E := fun a b => tv_E g l y cc nL ret d a b pc L stk h r h') (ev_callVg q As rest hd hq o1 o2 hst hn hroom ci fs T N o3 hi hc hL1 hlen hdd M k (fun v hv => by cases hv; rfl))
theorem ev_callSl (q : Nat) (As rest : List Value) (hd : decode cc pc = .ok (.invokestatic idx, 3)) (hq : pc + 3 = q) (ho : tv_okS y.cls idx y1 cc1 nL1 ret1 n) (hst : stk = As.reverse ++ rest) (hn : As.length = n) (hroom : (rest.map fun v => v.category).sum ≤ 8) (hL1 : tv_in nL1 As = L1) (hlen : (tv_ex As).length ≤ nL1) (hdd : d1 + 1 ≤ d)
    (M : tv_E g l y1 cc1 nL1 ret1 d1 0 0 0 L1 [] h (some (.long z)) h1) (k : tv_E g l y cc nL ret d kc ks q L (.long z :: rest) h1 r h') : tv_E g l y cc nL ret d kc ks pc L stk h r h' :=
  tv_z2 (E := fun a b => tv_E g l y cc nL ret d a b pc L stk h r h') (ev_callSg q As rest hd hq ho.1 ho.2 hst hn hroom hL1 hlen hdd M k (fun v hv => by cases hv; rfl))
theorem ev_callVv (q : Nat) (As rest : List Value) (hd : decode cc pc = .ok (.invokevirtual idx, 3)) (hq : pc + 3 = q) (ho : tv_okV y.cls idx y1 cc1 nL1 ret1 n ci) (hst : stk = As.reverse ++ .ref i :: rest) (hn : As.length = n) (hroom : (rest.map fun v => v.category).sum ≤ 8) (hi : i < 1000) (hc : h[i]? = some (.inr (.inr (ci, fs)))) (hL1 : tv_in nL1 (.ref i :: As) = L1) (hlen : (tv_ex (.ref i :: As)).length ≤ nL1) (hdd : d1 + 1 ≤ d)
    (M : tv_E g l y1 cc1 nL1 ret1 d1 0 0 0 L1 [] h none h1) (k : tv_E g l y cc nL ret d kc ks q L (rest) h1 r h') : tv_E g l y cc nL ret d kc ks pc L stk h r h' := by
  obtain ⟨o1, o2, T, N, o3⟩ := ho
  exact tv_z2 (E := fun a b => tv_E g l y cc nL ret d a b pc L stk h r h') (ev_callVg q As rest hd hq o1 o2 hst hn hroom ci fs T N o3 hi hc hL1 hlen hdd M k (fun v hv => by cases hv))
theorem ev_callSv (q : Nat) (As rest : List Value) (hd : decode cc pc = .ok (.invokestatic idx, 3)) (hq : pc + 3 = q) (ho : tv_okS y.cls idx y1 cc1 nL1 ret1 n) (hst : stk = As.reverse ++ rest) (hn : As.length = n) (hroom : (rest.map fun v => v.category).sum ≤ 8) (hL1 : tv_in nL1 As = L1) (hlen : (tv_ex As).length ≤ nL1) (hdd : d1 + 1 ≤ d)
    (M : tv_E g l y1 cc1 nL1 ret1 d1 0 0 0 L1 [] h none h1) (k : tv_E g l y cc nL ret d kc ks q L (rest) h1 r h') : tv_E g l y cc nL ret d kc ks pc L stk h r h' :=
  tv_z2 (E := fun a b => tv_E g l y cc nL ret d a b pc L stk h r h') (ev_callSg q As rest hd hq ho.1 ho.2 hst hn hroom hL1 hlen hdd M k (fun v hv => by cases hv))
end TVH
theorem kI_m1 : Int32.ofInt (-1) = (-1) := by decide
theorem kI_0 : Int32.ofInt 0 = 0 := by decide
theorem kI_1 : Int32.ofInt 1 = 1 := by decide
theorem kI_2 : Int32.ofInt 2 = 2 := by decide
theorem kI_3 : Int32.ofInt 3 = 3 := by decide
theorem kI_4 : Int32.ofInt 4 = 4 := by decide
theorem kI_5 : Int32.ofInt 5 = 5 := by decide
theorem kB_m100 : (Int8.ofInt (-100)).toInt32 = (-100) := by decide
theorem kB_m20 : (Int8.ofInt (-20)).toInt32 = (-20) := by decide
theorem kB_m9 : (Int8.ofInt (-9)).toInt32 = (-9) := by decide
theorem kB_m5 : (Int8.ofInt (-5)).toInt32 = (-5) := by decide
theorem kB_m4 : (Int8.ofInt (-4)).toInt32 = (-4) := by decide
theorem kB_m3 : (Int8.ofInt (-3)).toInt32 = (-3) := by decide
theorem kB_m2 : (Int8.ofInt (-2)).toInt32 = (-2) := by decide
theorem kB_6 : (Int8.ofInt 6).toInt32 = 6 := by decide
theorem kB_7 : (Int8.ofInt 7).toInt32 = 7 := by decide
theorem kB_8 : (Int8.ofInt 8).toInt32 = 8 := by decide
theorem kB_9 : (Int8.ofInt 9).toInt32 = 9 := by decide
theorem kB_10 : (Int8.ofInt 10).toInt32 = 10 := by decide
theorem kB_11 : (Int8.ofInt 11).toInt32 = 11 := by decide
theorem kB_12 : (Int8.ofInt 12).toInt32 = 12 := by decide
theorem kB_13 : (Int8.ofInt 13).toInt32 = 13 := by decide
theorem kB_15 : (Int8.ofInt 15).toInt32 = 15 := by decide
theorem kB_17 : (Int8.ofInt 17).toInt32 = 17 := by decide
theorem kB_18 : (Int8.ofInt 18).toInt32 = 18 := by decide
theorem kB_20 : (Int8.ofInt 20).toInt32 = 20 := by decide
theorem kB_25 : (Int8.ofInt 25).toInt32 = 25 := by decide
theorem kB_31 : (Int8.ofInt 31).toInt32 = 31 := by decide
theorem kB_32 : (Int8.ofInt 32).toInt32 = 32 := by decide
theorem kB_40 : (Int8.ofInt 40).toInt32 = 40 := by decide
theorem kB_48 : (Int8.ofInt 48).toInt32 = 48 := by decide
theorem kB_50 : (Int8.ofInt 50).toInt32 = 50 := by decide
theorem kB_62 : (Int8.ofInt 62).toInt32 = 62 := by decide
theorem kB_99 : (Int8.ofInt 99).toInt32 = 99 := by decide
theorem kB_100 : (Int8.ofInt 100).toInt32 = 100 := by decide
theorem kB_126 : (Int8.ofInt 126).toInt32 = 126 := by decide
theorem kS_170 : (Int16.ofInt 170).toInt32 = 170 := by decide
theorem kS_910 : (Int16.ofInt 910).toInt32 = 910 := by decide
theorem kS_980 : (Int16.ofInt 980).toInt32 = 980 := by decide
theorem kS_996 : (Int16.ofInt 996).toInt32 = 996 := by decide
theorem kS_997 : (Int16.ofInt 997).toInt32 = 997 := by decide
theorem kS_1000 : (Int16.ofInt 1000).toInt32 = 1000 := by decide
theorem kS_1100 : (Int16.ofInt 1100).toInt32 = 1100 := by decide
theorem kS_4400 : (Int16.ofInt 4400).toInt32 = 4400 := by decide
theorem kA_m1 (x : Int32) : x + Int32.ofInt (-1) = x + (-1) := by rw [show Int32.ofInt (-1) = (-1) from by decide]
theorem kA_1 (x : Int32) : x + Int32.ofInt 1 = x + 1 := by rw [show Int32.ofInt 1 = 1 from by decide]
theorem kA_5 (x : Int32) : x + Int32.ofInt 5 = x + 5 := by rw [show Int32.ofInt 5 = 5 from by decide]
theorem kN_20 : Int32.ofNat 20 = 20 := by decide
theorem kN_100 : Int32.ofNat 100 = 100 := by decide
theorem tv_out5 {x : Int32} (h0 : ¬ x = 0) (h1 : ¬ x = 1) (h2 : ¬ x = 2) (h3 : ¬ x = 3) (h4 : ¬ x = 4) : x.toInt < 0 ∨ 4 < x.toInt := by
  have key : ∀ (c : Int32), ¬ x = c → x.toInt ≠ c.toInt := fun c hc z => hc (Int32.toInt_inj.mp z)
  have k0 := key 0 h0
  rw [show (((0 : Int32)).toInt) = 0 from by decide] at k0
  have k1 := key 1 h1
  rw [show (((1 : Int32)).toInt) = 1 from by decide] at k1
  have k2 := key 2 h2
  rw [show (((2 : Int32)).toInt) = 2 from by decide] at k2
  have k3 := key 3 h3
  rw [show (((3 : Int32)).toInt) = 3 from by decide] at k3
  have k4 := key 4 h4
  rw [show (((4 : Int32)).toInt) = 4 from by decide] at k4
  omega
theorem tv_out7 {x : Int32} (h0 : ¬ x = 0) (h1 : ¬ x = 1) (h2 : ¬ x = 2) (h3 : ¬ x = 3) (h4 : ¬ x = 4) (h5 : ¬ x = 5) (h6 : ¬ x = 6) : x.toInt < 0 ∨ 6 < x.toInt := by
  have key : ∀ (c : Int32), ¬ x = c → x.toInt ≠ c.toInt := fun c hc z => hc (Int32.toInt_inj.mp z)
  have k0 := key 0 h0
  rw [show (((0 : Int32)).toInt) = 0 from by decide] at k0
  have k1 := key 1 h1
  rw [show (((1 : Int32)).toInt) = 1 from by decide] at k1
  have k2 := key 2 h2
  rw [show (((2 : Int32)).toInt) = 2 from by decide] at k2
  have k3 := key 3 h3
  rw [show (((3 : Int32)).toInt) = 3 from by decide] at k3
  have k4 := key 4 h4
  rw [show (((4 : Int32)).toInt) = 4 from by decide] at k4
  have k5 := key 5 h5
  rw [show (((5 : Int32)).toInt) = 5 from by decide] at k5
  have k6 := key 6 h6
  rw [show (((6 : Int32)).toInt) = 6 from by decide] at k6
  omega
theorem tv_out27 {x : Int32} (h0 : ¬ x = 0) (h1 : ¬ x = 1) (h2 : ¬ x = 2) (h3 : ¬ x = 3) (h4 : ¬ x = 4) (h5 : ¬ x = 5) (h6 : ¬ x = 6) (h7 : ¬ x = 7) (h8 : ¬ x = 8) (h9 : ¬ x = 9) (h10 : ¬ x = 10) (h11 : ¬ x = 11) (h12 : ¬ x = 12) (h13 : ¬ x = 13) (h14 : ¬ x = 14) (h15 : ¬ x = 15) (h16 : ¬ x = 16) (h17 : ¬ x = 17) (h18 : ¬ x = 18) (h19 : ¬ x = 19) (h20 : ¬ x = 20) (h21 : ¬ x = 21) (h22 : ¬ x = 22) (h23 : ¬ x = 23) (h24 : ¬ x = 24) (h25 : ¬ x = 25) (h26 : ¬ x = 26) : x.toInt < 0 ∨ 26 < x.toInt := by
  have key : ∀ (c : Int32), ¬ x = c → x.toInt ≠ c.toInt := fun c hc z => hc (Int32.toInt_inj.mp z)
  have k0 := key 0 h0
  rw [show (((0 : Int32)).toInt) = 0 from by decide] at k0
  have k1 := key 1 h1
  rw [show (((1 : Int32)).toInt) = 1 from by decide] at k1
  have k2 := key 2 h2
  rw [show (((2 : Int32)).toInt) = 2 from by decide] at k2
  have k3 := key 3 h3
  rw [show (((3 : Int32)).toInt) = 3 from by decide] at k3
  have k4 := key 4 h4
  rw [show (((4 : Int32)).toInt) = 4 from by decide] at k4
  have k5 := key 5 h5
  rw [show (((5 : Int32)).toInt) = 5 from by decide] at k5
  have k6 := key 6 h6
  rw [show (((6 : Int32)).toInt) = 6 from by decide] at k6
  have k7 := key 7 h7
  rw [show (((7 : Int32)).toInt) = 7 from by decide] at k7
  have k8 := key 8 h8
  rw [show (((8 : Int32)).toInt) = 8 from by decide] at k8
  have k9 := key 9 h9
  rw [show (((9 : Int32)).toInt) = 9 from by decide] at k9
  have k10 := key 10 h10
  rw [show (((10 : Int32)).toInt) = 10 from by decide] at k10
  have k11 := key 11 h11
  rw [show (((11 : Int32)).toInt) = 11 from by decide] at k11
  have k12 := key 12 h12
  rw [show (((12 : Int32)).toInt) = 12 from by decide] at k12
  have k13 := key 13 h13
  rw [show (((13 : Int32)).toInt) = 13 from by decide] at k13
  have k14 := key 14 h14
  rw [show (((14 : Int32)).toInt) = 14 from by decide] at k14
  have k15 := key 15 h15
  rw [show (((15 : Int32)).toInt) = 15 from by decide] at k15
  have k16 := key 16 h16
  rw [show (((16 : Int32)).toInt) = 16 from by decide] at k16
  have k17 := key 17 h17
  rw [show (((17 : Int32)).toInt) = 17 from by decide] at k17
  have k18 := key 18 h18
  rw [show (((18 : Int32)).toInt) = 18 from by decide] at k18
  have k19 := key 19 h19
  rw [show (((19 : Int32)).toInt) = 19 from by decide] at k19
  have k20 := key 20 h20
  rw [show (((20 : Int32)).toInt) = 20 from by decide] at k20
  have k21 := key 21 h21
  rw [show (((21 : Int32)).toInt) = 21 from by decide] at k21
  have k22 := key 22 h22
  rw [show (((22 : Int32)).toInt) = 22 from by decide] at k22
  have k23 := key 23 h23
  rw [show (((23 : Int32)).toInt) = 23 from by decide] at k23
  have k24 := key 24 h24
  rw [show (((24 : Int32)).toInt) = 24 from by decide] at k24
  have k25 := key 25 h25
  rw [show (((25 : Int32)).toInt) = 25 from by decide] at k25
  have k26 := key 26 h26
  rw [show (((26 : Int32)).toInt) = 26 from by decide] at k26
  omega
theorem tv_lk2 {x : Int32} (h0 : ¬ x = 0) (h1 : ¬ x = 1) : Op.lookupswitch.offset (#[((0 : Int), (26 : Int)), (1, 33)] : Array (Int × Int)).toList 40 x.toInt = 40 := by
  have key : ∀ (c : Int32), ¬ x = c → x.toInt ≠ c.toInt := fun c hc z => hc (Int32.toInt_inj.mp z)
  have k0 := key 0 h0
  have k1 := key 1 h1
  rw [show ((0 : Int32).toInt) = 0 from by decide] at k0
  rw [show ((1 : Int32).toInt) = 1 from by decide] at k1
  simp [Op.lookupswitch.offset]
  omega
theorem in_X0 : ∀ w ∈ u_ws RX0 TX0 2, w ∈ lw_tbl := by decide +kernel
theorem in_X1 : ∀ w ∈ u_ws RX1 TX1 4, w ∈ lw_tbl := by decide +kernel
theorem in_X2 : ∀ w ∈ u_ws RX2 TX2 3, w ∈ lw_tbl := by decide +kernel
theorem in_X3 : ∀ w ∈ u_ws RX3 TX3 3, w ∈ lw_tbl := by decide +kernel
theorem in_X4 : ∀ w ∈ u_ws RX4 TX4 2, w ∈ lw_tbl := by decide +kernel
theorem in_X5 : ∀ w ∈ u_ws RX5 TX5 12, w ∈ lw_tbl := by decide +kernel
theorem in_X6 : ∀ w ∈ u_ws RX6 TX6 9, w ∈ lw_tbl := by decide +kernel
theorem in_X7 : ∀ w ∈ u_ws RX7 TX7 3, w ∈ lw_tbl := by decide +kernel
theorem in_X8 : ∀ w ∈ u_ws RX8 TX8 6, w ∈ lw_tbl := by decide +kernel
theorem okf_X0_15 : tv_okf RX0 15 0 1 false (.int) := ⟨RX0, TX0, 2, tyX0, rfl, (Nat.le_of_ble_eq_true rfl), in_X0, (List.mem_of_getElem? (i := 67) (by decide +kernel)), rfl, tyX0_ok, nmX0, rfl, rfl⟩
theorem okf_X0_9 : tv_okf RX0 9 0 0 true (.array .int) := ⟨RX0, TX0, 2, tyX0, rfl, (Nat.le_of_ble_eq_true rfl), in_X0, (List.mem_of_getElem? (i := 66) (by decide +kernel)), rfl, tyX0_ok, nmX0, rfl, rfl⟩
theorem okf_X1_15 : tv_okf RX1 15 1 2 true (.array .int) := ⟨RX1, TX1, 4, tyX1, rfl, (Nat.le_of_ble_eq_true rfl), in_X1, (List.mem_of_getElem? (i := 162) (by decide +kernel)), rfl, tyX1_ok, nmX1, rfl, rfl⟩
theorem okf_X1_18 : tv_okf RX1 18 1 3 true (.array .int) := ⟨RX1, TX1, 4, tyX1, rfl, (Nat.le_of_ble_eq_true rfl), in_X1, (List.mem_of_getElem? (i := 163) (by decide +kernel)), rfl, tyX1_ok, nmX1, rfl, rfl⟩
theorem okf_X1_21 : tv_okf RX1 21 1 0 false (.int) := ⟨RX1, TX1, 4, tyX1, rfl, (Nat.le_of_ble_eq_true rfl), in_X1, (List.mem_of_getElem? (i := 159) (by decide +kernel)), rfl, tyX1_ok, nmX1, rfl, rfl⟩
theorem okf_X1_9 : tv_okf RX1 9 1 1 true (.array .int) := ⟨RX1, TX1, 4, tyX1, rfl, (Nat.le_of_ble_eq_true rfl), in_X1, (List.mem_of_getElem? (i := 161) (by decide +kernel)), rfl, tyX1_ok, nmX1, rfl, rfl⟩
theorem okf_X2_21 : tv_okf RX2 21 2 0 false (.boolean) := ⟨RX2, TX2, 3, tyX2, rfl, (Nat.le_of_ble_eq_true rfl), in_X2, (List.mem_of_getElem? (i := 90) (by decide +kernel)), rfl, tyX2_ok, nmX2, rfl, rfl⟩
theorem okf_X2_25 : tv_okf RX2 25 2 1 false (.int) := ⟨RX2, TX2, 3, tyX2, rfl, (Nat.le_of_ble_eq_true rfl), in_X2, (List.mem_of_getElem? (i := 92) (by decide +kernel)), rfl, tyX2_ok, nmX2, rfl, rfl⟩
theorem okf_X2_9 : tv_okf RX2 9 2 2 true (.array .int) := ⟨RX2, TX2, 3, tyX2, rfl, (Nat.le_of_ble_eq_true rfl), in_X2, (List.mem_of_getElem? (i := 95) (by decide +kernel)), rfl, tyX2_ok, nmX2, rfl, rfl⟩
theorem okf_X3_11 : tv_okf RX3 11 3 0 true (.array (.object "TermOffice$State")) := ⟨RX3, TX3, 3, tyX3, rfl, (Nat.le_of_ble_eq_true rfl), in_X3, (List.mem_of_getElem? (i := 236) (by decide +kernel)), rfl, tyX3_ok, nmX3, rfl, rfl⟩
theorem okf_X3_18 : tv_okf RX3 18 3 2 false (.int) := ⟨RX3, TX3, 3, tyX3, rfl, (Nat.le_of_ble_eq_true rfl), in_X3, (List.mem_of_getElem? (i := 239) (by decide +kernel)), rfl, tyX3_ok, nmX3, rfl, rfl⟩
theorem okf_X3_26 : tv_okf RX3 26 3 1 false (.int) := ⟨RX3, TX3, 3, tyX3, rfl, (Nat.le_of_ble_eq_true rfl), in_X3, (List.mem_of_getElem? (i := 237) (by decide +kernel)), rfl, tyX3_ok, nmX3, rfl, rfl⟩
theorem okf_X4_15 : tv_okf RX4 15 4 0 false (.int) := ⟨RX4, TX4, 2, tyX4, rfl, (Nat.le_of_ble_eq_true rfl), in_X4, (List.mem_of_getElem? (i := 109) (by decide +kernel)), rfl, tyX4_ok, nmX4, rfl, rfl⟩
theorem okf_X4_9 : tv_okf RX4 9 4 1 true (.array .int) := ⟨RX4, TX4, 2, tyX4, rfl, (Nat.le_of_ble_eq_true rfl), in_X4, (List.mem_of_getElem? (i := 112) (by decide +kernel)), rfl, tyX4_ok, nmX4, rfl, rfl⟩
theorem okf_X5_139 : tv_okf RX5 139 4 0 false (.int) := ⟨RX4, TX4, 2, tyX4, rfl, (Nat.le_of_ble_eq_true rfl), in_X4, (List.mem_of_getElem? (i := 111) (by decide +kernel)), rfl, tyX4_ok, nmX4, rfl, rfl⟩
theorem okf_X5_15 : tv_okf RX5 15 5 3 true (.array .int) := ⟨RX5, TX5, 12, tyX5, rfl, (Nat.le_of_ble_eq_true rfl), in_X5, (List.mem_of_getElem? (i := 184) (by decide +kernel)), rfl, tyX5_ok, nmX5, rfl, rfl⟩
theorem okf_X5_158 : tv_okf RX5 158 2 1 false (.int) := ⟨RX2, TX2, 3, tyX2, rfl, (Nat.le_of_ble_eq_true rfl), in_X2, (List.mem_of_getElem? (i := 94) (by decide +kernel)), rfl, tyX2_ok, nmX2, rfl, rfl⟩
theorem okf_X5_18 : tv_okf RX5 18 5 6 false (.int) := ⟨RX5, TX5, 12, tyX5, rfl, (Nat.le_of_ble_eq_true rfl), in_X5, (List.mem_of_getElem? (i := 190) (by decide +kernel)), rfl, tyX5_ok, nmX5, rfl, rfl⟩
theorem okf_X5_22 : tv_okf RX5 22 5 7 false (.int) := ⟨RX5, TX5, 12, tyX5, rfl, (Nat.le_of_ble_eq_true rfl), in_X5, (List.mem_of_getElem? (i := 192) (by decide +kernel)), rfl, tyX5_ok, nmX5, rfl, rfl⟩
theorem okf_X5_28 : tv_okf RX5 28 5 8 true (.object "TermOffice$Election") := ⟨RX5, TX5, 12, tyX5, rfl, (Nat.le_of_ble_eq_true rfl), in_X5, (List.mem_of_getElem? (i := 194) (by decide +kernel)), rfl, tyX5_ok, nmX5, rfl, rfl⟩
theorem okf_X5_35 : tv_okf RX5 35 5 9 true (.object "TermOffice$Race") := ⟨RX5, TX5, 12, tyX5, rfl, (Nat.le_of_ble_eq_true rfl), in_X5, (List.mem_of_getElem? (i := 196) (by decide +kernel)), rfl, tyX5_ok, nmX5, rfl, rfl⟩
theorem okf_X5_42 : tv_okf RX5 42 5 10 true (.object "TermOffice$TermBook") := ⟨RX5, TX5, 12, tyX5, rfl, (Nat.le_of_ble_eq_true rfl), in_X5, (List.mem_of_getElem? (i := 198) (by decide +kernel)), rfl, tyX5_ok, nmX5, rfl, rfl⟩
theorem okf_X5_49 : tv_okf RX5 49 5 11 true (.object "TermOffice$Chronicle") := ⟨RX5, TX5, 12, tyX5, rfl, (Nat.le_of_ble_eq_true rfl), in_X5, (List.mem_of_getElem? (i := 200) (by decide +kernel)), rfl, tyX5_ok, nmX5, rfl, rfl⟩
theorem okf_X5_62 : tv_okf RX5 62 5 1 false (.int) := ⟨RX5, TX5, 12, tyX5, rfl, (Nat.le_of_ble_eq_true rfl), in_X5, (List.mem_of_getElem? (i := 180) (by decide +kernel)), rfl, tyX5_ok, nmX5, rfl, rfl⟩
theorem okf_X5_65 : tv_okf RX5 65 5 2 false (.int) := ⟨RX5, TX5, 12, tyX5, rfl, (Nat.le_of_ble_eq_true rfl), in_X5, (List.mem_of_getElem? (i := 182) (by decide +kernel)), rfl, tyX5_ok, nmX5, rfl, rfl⟩
theorem okf_X5_68 : tv_okf RX5 68 5 4 false (.int) := ⟨RX5, TX5, 12, tyX5, rfl, (Nat.le_of_ble_eq_true rfl), in_X5, (List.mem_of_getElem? (i := 186) (by decide +kernel)), rfl, tyX5_ok, nmX5, rfl, rfl⟩
theorem okf_X5_71 : tv_okf RX5 71 5 5 false (.int) := ⟨RX5, TX5, 12, tyX5, rfl, (Nat.le_of_ble_eq_true rfl), in_X5, (List.mem_of_getElem? (i := 188) (by decide +kernel)), rfl, tyX5_ok, nmX5, rfl, rfl⟩
theorem okf_X5_9 : tv_okf RX5 9 5 0 true (.array .int) := ⟨RX5, TX5, 12, tyX5, rfl, (Nat.le_of_ble_eq_true rfl), in_X5, (List.mem_of_getElem? (i := 178) (by decide +kernel)), rfl, tyX5_ok, nmX5, rfl, rfl⟩
theorem okf_X6_15 : tv_okf RX6 15 6 2 true (.array .int) := ⟨RX6, TX6, 9, tyX6, rfl, (Nat.le_of_ble_eq_true rfl), in_X6, (List.mem_of_getElem? (i := 127) (by decide +kernel)), rfl, tyX6_ok, nmX6, rfl, rfl⟩
theorem okf_X6_18 : tv_okf RX6 18 6 3 true (.array .int) := ⟨RX6, TX6, 9, tyX6, rfl, (Nat.le_of_ble_eq_true rfl), in_X6, (List.mem_of_getElem? (i := 128) (by decide +kernel)), rfl, tyX6_ok, nmX6, rfl, rfl⟩
theorem okf_X6_21 : tv_okf RX6 21 6 4 true (.array .int) := ⟨RX6, TX6, 9, tyX6, rfl, (Nat.le_of_ble_eq_true rfl), in_X6, (List.mem_of_getElem? (i := 129) (by decide +kernel)), rfl, tyX6_ok, nmX6, rfl, rfl⟩
theorem okf_X6_24 : tv_okf RX6 24 6 5 true (.array .int) := ⟨RX6, TX6, 9, tyX6, rfl, (Nat.le_of_ble_eq_true rfl), in_X6, (List.mem_of_getElem? (i := 130) (by decide +kernel)), rfl, tyX6_ok, nmX6, rfl, rfl⟩
theorem okf_X6_27 : tv_okf RX6 27 6 6 true (.array .int) := ⟨RX6, TX6, 9, tyX6, rfl, (Nat.le_of_ble_eq_true rfl), in_X6, (List.mem_of_getElem? (i := 131) (by decide +kernel)), rfl, tyX6_ok, nmX6, rfl, rfl⟩
theorem okf_X6_30 : tv_okf RX6 30 6 7 true (.array .int) := ⟨RX6, TX6, 9, tyX6, rfl, (Nat.le_of_ble_eq_true rfl), in_X6, (List.mem_of_getElem? (i := 132) (by decide +kernel)), rfl, tyX6_ok, nmX6, rfl, rfl⟩
theorem okf_X6_33 : tv_okf RX6 33 6 8 true (.array .int) := ⟨RX6, TX6, 9, tyX6, rfl, (Nat.le_of_ble_eq_true rfl), in_X6, (List.mem_of_getElem? (i := 133) (by decide +kernel)), rfl, tyX6_ok, nmX6, rfl, rfl⟩
theorem okf_X6_36 : tv_okf RX6 36 6 0 false (.int) := ⟨RX6, TX6, 9, tyX6, rfl, (Nat.le_of_ble_eq_true rfl), in_X6, (List.mem_of_getElem? (i := 124) (by decide +kernel)), rfl, tyX6_ok, nmX6, rfl, rfl⟩
theorem okf_X6_9 : tv_okf RX6 9 6 1 true (.array .int) := ⟨RX6, TX6, 9, tyX6, rfl, (Nat.le_of_ble_eq_true rfl), in_X6, (List.mem_of_getElem? (i := 126) (by decide +kernel)), rfl, tyX6_ok, nmX6, rfl, rfl⟩
theorem okf_X7_10 : tv_okf RX7 10 7 0 true (.object "TermOffice$BallotText") := ⟨RX7, TX7, 3, tyX7, rfl, (Nat.le_of_ble_eq_true rfl), in_X7, (List.mem_of_getElem? (i := 247) (by decide +kernel)), rfl, tyX7_ok, nmX7, rfl, rfl⟩
theorem okf_X7_100 : tv_okf RX7 100 6 0 false (.int) := ⟨RX6, TX6, 9, tyX6, rfl, (Nat.le_of_ble_eq_true rfl), in_X6, (List.mem_of_getElem? (i := 125) (by decide +kernel)), rfl, tyX6_ok, nmX6, rfl, rfl⟩
theorem okf_X7_105 : tv_okf RX7 105 2 1 false (.int) := ⟨RX2, TX2, 3, tyX2, rfl, (Nat.le_of_ble_eq_true rfl), in_X2, (List.mem_of_getElem? (i := 93) (by decide +kernel)), rfl, tyX2_ok, nmX2, rfl, rfl⟩
theorem okf_X7_127 : tv_okf RX7 127 0 1 false (.int) := ⟨RX0, TX0, 2, tyX0, rfl, (Nat.le_of_ble_eq_true rfl), in_X0, (List.mem_of_getElem? (i := 68) (by decide +kernel)), rfl, tyX0_ok, nmX0, rfl, rfl⟩
theorem okf_X7_137 : tv_okf RX7 137 5 9 true (.object "TermOffice$Race") := ⟨RX5, TX5, 12, tyX5, rfl, (Nat.le_of_ble_eq_true rfl), in_X5, (List.mem_of_getElem? (i := 197) (by decide +kernel)), rfl, tyX5_ok, nmX5, rfl, rfl⟩
theorem okf_X7_141 : tv_okf RX7 141 4 0 false (.int) := ⟨RX4, TX4, 2, tyX4, rfl, (Nat.le_of_ble_eq_true rfl), in_X4, (List.mem_of_getElem? (i := 110) (by decide +kernel)), rfl, tyX4_ok, nmX4, rfl, rfl⟩
theorem okf_X7_153 : tv_okf RX7 153 5 7 false (.int) := ⟨RX5, TX5, 12, tyX5, rfl, (Nat.le_of_ble_eq_true rfl), in_X5, (List.mem_of_getElem? (i := 193) (by decide +kernel)), rfl, tyX5_ok, nmX5, rfl, rfl⟩
theorem okf_X7_162 : tv_okf RX7 162 5 5 false (.int) := ⟨RX5, TX5, 12, tyX5, rfl, (Nat.le_of_ble_eq_true rfl), in_X5, (List.mem_of_getElem? (i := 189) (by decide +kernel)), rfl, tyX5_ok, nmX5, rfl, rfl⟩
theorem okf_X7_175 : tv_okf RX7 175 5 3 true (.array .int) := ⟨RX5, TX5, 12, tyX5, rfl, (Nat.le_of_ble_eq_true rfl), in_X5, (List.mem_of_getElem? (i := 185) (by decide +kernel)), rfl, tyX5_ok, nmX5, rfl, rfl⟩
theorem okf_X7_19 : tv_okf RX7 19 7 1 true (.object "TermOffice$State") := ⟨RX7, TX7, 3, tyX7, rfl, (Nat.le_of_ble_eq_true rfl), in_X7, (List.mem_of_getElem? (i := 248) (by decide +kernel)), rfl, tyX7_ok, nmX7, rfl, rfl⟩
theorem okf_X7_194 : tv_okf RX7 194 5 11 true (.object "TermOffice$Chronicle") := ⟨RX5, TX5, 12, tyX5, rfl, (Nat.le_of_ble_eq_true rfl), in_X5, (List.mem_of_getElem? (i := 201) (by decide +kernel)), rfl, tyX5_ok, nmX5, rfl, rfl⟩
theorem okf_X7_198 : tv_okf RX7 198 1 0 false (.int) := ⟨RX1, TX1, 4, tyX1, rfl, (Nat.le_of_ble_eq_true rfl), in_X1, (List.mem_of_getElem? (i := 160) (by decide +kernel)), rfl, tyX1_ok, nmX1, rfl, rfl⟩
theorem okf_X7_205 : tv_okf RX7 205 3 1 false (.int) := ⟨RX3, TX3, 3, tyX3, rfl, (Nat.le_of_ble_eq_true rfl), in_X3, (List.mem_of_getElem? (i := 238) (by decide +kernel)), rfl, tyX3_ok, nmX3, rfl, rfl⟩
theorem okf_X7_26 : tv_okf RX7 26 7 2 true (.object "TermOffice$History") := ⟨RX7, TX7, 3, tyX7, rfl, (Nat.le_of_ble_eq_true rfl), in_X7, (List.mem_of_getElem? (i := 249) (by decide +kernel)), rfl, tyX7_ok, nmX7, rfl, rfl⟩
theorem okf_X7_41 : tv_okf RX7 41 5 0 true (.array .int) := ⟨RX5, TX5, 12, tyX5, rfl, (Nat.le_of_ble_eq_true rfl), in_X5, (List.mem_of_getElem? (i := 179) (by decide +kernel)), rfl, tyX5_ok, nmX5, rfl, rfl⟩
theorem okf_X7_47 : tv_okf RX7 47 5 2 false (.int) := ⟨RX5, TX5, 12, tyX5, rfl, (Nat.le_of_ble_eq_true rfl), in_X5, (List.mem_of_getElem? (i := 183) (by decide +kernel)), rfl, tyX5_ok, nmX5, rfl, rfl⟩
theorem okf_X7_66 : tv_okf RX7 66 5 4 false (.int) := ⟨RX5, TX5, 12, tyX5, rfl, (Nat.le_of_ble_eq_true rfl), in_X5, (List.mem_of_getElem? (i := 187) (by decide +kernel)), rfl, tyX5_ok, nmX5, rfl, rfl⟩
theorem okf_X7_76 : tv_okf RX7 76 5 1 false (.int) := ⟨RX5, TX5, 12, tyX5, rfl, (Nat.le_of_ble_eq_true rfl), in_X5, (List.mem_of_getElem? (i := 181) (by decide +kernel)), rfl, tyX5_ok, nmX5, rfl, rfl⟩
theorem okf_X7_83 : tv_okf RX7 83 5 8 true (.object "TermOffice$Election") := ⟨RX5, TX5, 12, tyX5, rfl, (Nat.le_of_ble_eq_true rfl), in_X5, (List.mem_of_getElem? (i := 195) (by decide +kernel)), rfl, tyX5_ok, nmX5, rfl, rfl⟩
theorem okf_X7_87 : tv_okf RX7 87 2 0 false (.boolean) := ⟨RX2, TX2, 3, tyX2, rfl, (Nat.le_of_ble_eq_true rfl), in_X2, (List.mem_of_getElem? (i := 91) (by decide +kernel)), rfl, tyX2_ok, nmX2, rfl, rfl⟩
theorem okf_X7_93 : tv_okf RX7 93 5 6 false (.int) := ⟨RX5, TX5, 12, tyX5, rfl, (Nat.le_of_ble_eq_true rfl), in_X5, (List.mem_of_getElem? (i := 191) (by decide +kernel)), rfl, tyX5_ok, nmX5, rfl, rfl⟩
theorem okf_X7_96 : tv_okf RX7 96 5 10 true (.object "TermOffice$TermBook") := ⟨RX5, TX5, 12, tyX5, rfl, (Nat.le_of_ble_eq_true rfl), in_X5, (List.mem_of_getElem? (i := 199) (by decide +kernel)), rfl, tyX5_ok, nmX5, rfl, rfl⟩
theorem okf_X8_104 : tv_okf RX8 104 8 5 false (.int) := ⟨RX8, TX8, 6, tyX8, rfl, (Nat.le_of_ble_eq_true rfl), in_X8, (List.mem_of_getElem? (i := 660) (by decide +kernel)), rfl, tyX8_ok, nmX8, rfl, rfl⟩
theorem okf_X8_13 : tv_okf RX8 13 8 1 true (.array .int) := ⟨RX8, TX8, 6, tyX8, rfl, (Nat.le_of_ble_eq_true rfl), in_X8, (List.mem_of_getElem? (i := 656) (by decide +kernel)), rfl, tyX8_ok, nmX8, rfl, rfl⟩
theorem okf_X8_16 : tv_okf RX8 16 8 3 true (.array .int) := ⟨RX8, TX8, 6, tyX8, rfl, (Nat.le_of_ble_eq_true rfl), in_X8, (List.mem_of_getElem? (i := 658) (by decide +kernel)), rfl, tyX8_ok, nmX8, rfl, rfl⟩
theorem okf_X8_19 : tv_okf RX8 19 8 2 false (.int) := ⟨RX8, TX8, 6, tyX8, rfl, (Nat.le_of_ble_eq_true rfl), in_X8, (List.mem_of_getElem? (i := 657) (by decide +kernel)), rfl, tyX8_ok, nmX8, rfl, rfl⟩
theorem okf_X8_7 : tv_okf RX8 7 8 0 true (.array .int) := ⟨RX8, TX8, 6, tyX8, rfl, (Nat.le_of_ble_eq_true rfl), in_X8, (List.mem_of_getElem? (i := 655) (by decide +kernel)), rfl, tyX8_ok, nmX8, rfl, rfl⟩
theorem okf_X8_95 : tv_okf RX8 95 8 4 false (.int) := ⟨RX8, TX8, 6, tyX8, rfl, (Nat.le_of_ble_eq_true rfl), in_X8, (List.mem_of_getElem? (i := 659) (by decide +kernel)), rfl, tyX8_ok, nmX8, rfl, rfl⟩
theorem okV_L_102 : tv_okV RL 102 yX8_time cX8_time 1 (some .int) 0 8 := ⟨⟨Or.inl (List.mem_of_getElem? (i := 879) (by decide +kernel)), (List.mem_of_getElem? (i := 49) (by decide +kernel)), (List.mem_of_getElem? (i := 882) (by decide +kernel)), by decide +kernel, ⟨by decide +kernel, by decide +kernel, by decide +kernel⟩, (Nat.le_of_ble_eq_true rfl)⟩, ⟨(List.mem_of_getElem? (i := 880) (by decide +kernel)), (List.mem_of_getElem? (i := 881) (by decide +kernel))⟩, TX8, 6, rfl⟩
theorem okV_L_103 : tv_okV RL 103 yX7_events cX7_events 1 (some .int) 0 7 := ⟨⟨Or.inl (List.mem_of_getElem? (i := 608) (by decide +kernel)), (List.mem_of_getElem? (i := 39) (by decide +kernel)), (List.mem_of_getElem? (i := 611) (by decide +kernel)), by decide +kernel, ⟨by decide +kernel, by decide +kernel, by decide +kernel⟩, (Nat.le_of_ble_eq_true rfl)⟩, ⟨(List.mem_of_getElem? (i := 609) (by decide +kernel)), (List.mem_of_getElem? (i := 610) (by decide +kernel))⟩, TX7, 3, rfl⟩
theorem okV_L_106 : tv_okV RL 106 yX8_events cX8_events 1 (some .int) 0 8 := ⟨⟨Or.inl (List.mem_of_getElem? (i := 883) (by decide +kernel)), (List.mem_of_getElem? (i := 49) (by decide +kernel)), (List.mem_of_getElem? (i := 886) (by decide +kernel)), by decide +kernel, ⟨by decide +kernel, by decide +kernel, by decide +kernel⟩, (Nat.le_of_ble_eq_true rfl)⟩, ⟨(List.mem_of_getElem? (i := 884) (by decide +kernel)), (List.mem_of_getElem? (i := 885) (by decide +kernel))⟩, TX8, 6, rfl⟩
theorem okV_L_107 : tv_okV RL 107 yX7_event cX7_event 3 (some .int) 2 7 := ⟨⟨Or.inl (List.mem_of_getElem? (i := 612) (by decide +kernel)), (List.mem_of_getElem? (i := 39) (by decide +kernel)), (List.mem_of_getElem? (i := 615) (by decide +kernel)), by decide +kernel, ⟨by decide +kernel, by decide +kernel, by decide +kernel⟩, (Nat.le_of_ble_eq_true rfl)⟩, ⟨(List.mem_of_getElem? (i := 613) (by decide +kernel)), (List.mem_of_getElem? (i := 614) (by decide +kernel))⟩, TX7, 3, rfl⟩
theorem okV_L_110 : tv_okV RL 110 yX8_event cX8_event 3 (some .int) 2 8 := ⟨⟨Or.inl (List.mem_of_getElem? (i := 887) (by decide +kernel)), (List.mem_of_getElem? (i := 49) (by decide +kernel)), (List.mem_of_getElem? (i := 890) (by decide +kernel)), by decide +kernel, ⟨by decide +kernel, by decide +kernel, by decide +kernel⟩, (Nat.le_of_ble_eq_true rfl)⟩, ⟨(List.mem_of_getElem? (i := 888) (by decide +kernel)), (List.mem_of_getElem? (i := 889) (by decide +kernel))⟩, TX8, 6, rfl⟩
theorem okV_L_111 : tv_okV RL 111 yX7_type cX7_type 2 (some .int) 1 7 := ⟨⟨Or.inl (List.mem_of_getElem? (i := 620) (by decide +kernel)), (List.mem_of_getElem? (i := 39) (by decide +kernel)), (List.mem_of_getElem? (i := 623) (by decide +kernel)), by decide +kernel, ⟨by decide +kernel, by decide +kernel, by decide +kernel⟩, (Nat.le_of_ble_eq_true rfl)⟩, ⟨(List.mem_of_getElem? (i := 621) (by decide +kernel)), (List.mem_of_getElem? (i := 622) (by decide +kernel))⟩, TX7, 3, rfl⟩
theorem okV_L_114 : tv_okV RL 114 yX8_type cX8_type 2 (some .int) 1 8 := ⟨⟨Or.inl (List.mem_of_getElem? (i := 891) (by decide +kernel)), (List.mem_of_getElem? (i := 49) (by decide +kernel)), (List.mem_of_getElem? (i := 894) (by decide +kernel)), by decide +kernel, ⟨by decide +kernel, by decide +kernel, by decide +kernel⟩, (Nat.le_of_ble_eq_true rfl)⟩, ⟨(List.mem_of_getElem? (i := 892) (by decide +kernel)), (List.mem_of_getElem? (i := 893) (by decide +kernel))⟩, TX8, 6, rfl⟩
theorem okV_L_115 : tv_okV RL 115 yX7_clear cX7_clear 2 (some .int) 0 7 := ⟨⟨Or.inl (List.mem_of_getElem? (i := 628) (by decide +kernel)), (List.mem_of_getElem? (i := 39) (by decide +kernel)), (List.mem_of_getElem? (i := 631) (by decide +kernel)), by decide +kernel, ⟨by decide +kernel, by decide +kernel, by decide +kernel⟩, (Nat.le_of_ble_eq_true rfl)⟩, ⟨(List.mem_of_getElem? (i := 629) (by decide +kernel)), (List.mem_of_getElem? (i := 630) (by decide +kernel))⟩, TX7, 3, rfl⟩
theorem okV_L_118 : tv_okV RL 118 yX8_clear cX8_clear 2 (some .int) 0 8 := ⟨⟨Or.inl (List.mem_of_getElem? (i := 895) (by decide +kernel)), (List.mem_of_getElem? (i := 49) (by decide +kernel)), (List.mem_of_getElem? (i := 898) (by decide +kernel)), by decide +kernel, ⟨by decide +kernel, by decide +kernel, by decide +kernel⟩, (Nat.le_of_ble_eq_true rfl)⟩, ⟨(List.mem_of_getElem? (i := 896) (by decide +kernel)), (List.mem_of_getElem? (i := 897) (by decide +kernel))⟩, TX8, 6, rfl⟩
theorem okV_L_119 : tv_okV RL 119 yX7_undo cX7_undo 1 (some .int) 0 7 := ⟨⟨Or.inl (List.mem_of_getElem? (i := 632) (by decide +kernel)), (List.mem_of_getElem? (i := 39) (by decide +kernel)), (List.mem_of_getElem? (i := 635) (by decide +kernel)), by decide +kernel, ⟨by decide +kernel, by decide +kernel, by decide +kernel⟩, (Nat.le_of_ble_eq_true rfl)⟩, ⟨(List.mem_of_getElem? (i := 633) (by decide +kernel)), (List.mem_of_getElem? (i := 634) (by decide +kernel))⟩, TX7, 3, rfl⟩
theorem okV_L_122 : tv_okV RL 122 yX8_undo cX8_undo 2 (some .int) 0 8 := ⟨⟨Or.inl (List.mem_of_getElem? (i := 899) (by decide +kernel)), (List.mem_of_getElem? (i := 49) (by decide +kernel)), (List.mem_of_getElem? (i := 902) (by decide +kernel)), by decide +kernel, ⟨by decide +kernel, by decide +kernel, by decide +kernel⟩, (Nat.le_of_ble_eq_true rfl)⟩, ⟨(List.mem_of_getElem? (i := 900) (by decide +kernel)), (List.mem_of_getElem? (i := 901) (by decide +kernel))⟩, TX8, 6, rfl⟩
theorem okV_L_123 : tv_okV RL 123 yX7_fingerprint cX7_fingerprint 5 (some .long) 0 7 := ⟨⟨Or.inl (List.mem_of_getElem? (i := 640) (by decide +kernel)), (List.mem_of_getElem? (i := 39) (by decide +kernel)), (List.mem_of_getElem? (i := 643) (by decide +kernel)), by decide +kernel, ⟨by decide +kernel, by decide +kernel, by decide +kernel⟩, (Nat.le_of_ble_eq_true rfl)⟩, ⟨(List.mem_of_getElem? (i := 641) (by decide +kernel)), (List.mem_of_getElem? (i := 642) (by decide +kernel))⟩, TX7, 3, rfl⟩
theorem okV_L_127 : tv_okV RL 127 yX8_fingerprint cX8_fingerprint 5 (some .long) 0 8 := ⟨⟨Or.inl (List.mem_of_getElem? (i := 903) (by decide +kernel)), (List.mem_of_getElem? (i := 49) (by decide +kernel)), (List.mem_of_getElem? (i := 906) (by decide +kernel)), by decide +kernel, ⟨by decide +kernel, by decide +kernel, by decide +kernel⟩, (Nat.le_of_ble_eq_true rfl)⟩, ⟨(List.mem_of_getElem? (i := 904) (by decide +kernel)), (List.mem_of_getElem? (i := 905) (by decide +kernel))⟩, TX8, 6, rfl⟩
theorem okV_L_13 : tv_okV RL 13 yX7_set cX7_set 4 (some .int) 2 7 := ⟨⟨Or.inl (List.mem_of_getElem? (i := 257) (by decide +kernel)), (List.mem_of_getElem? (i := 39) (by decide +kernel)), (List.mem_of_getElem? (i := 260) (by decide +kernel)), by decide +kernel, ⟨by decide +kernel, by decide +kernel, by decide +kernel⟩, (Nat.le_of_ble_eq_true rfl)⟩, ⟨(List.mem_of_getElem? (i := 258) (by decide +kernel)), (List.mem_of_getElem? (i := 259) (by decide +kernel))⟩, TX7, 3, rfl⟩
theorem okV_L_17 : tv_okV RL 17 yX8_set cX8_set 4 (some .int) 2 8 := ⟨⟨Or.inl (List.mem_of_getElem? (i := 674) (by decide +kernel)), (List.mem_of_getElem? (i := 49) (by decide +kernel)), (List.mem_of_getElem? (i := 677) (by decide +kernel)), by decide +kernel, ⟨by decide +kernel, by decide +kernel, by decide +kernel⟩, (Nat.le_of_ble_eq_true rfl)⟩, ⟨(List.mem_of_getElem? (i := 675) (by decide +kernel)), (List.mem_of_getElem? (i := 676) (by decide +kernel))⟩, TX8, 6, rfl⟩
theorem okV_L_18 : tv_okV RL 18 yX7_join cX7_join 3 (some .int) 1 7 := ⟨⟨Or.inl (List.mem_of_getElem? (i := 354) (by decide +kernel)), (List.mem_of_getElem? (i := 39) (by decide +kernel)), (List.mem_of_getElem? (i := 357) (by decide +kernel)), by decide +kernel, ⟨by decide +kernel, by decide +kernel, by decide +kernel⟩, (Nat.le_of_ble_eq_true rfl)⟩, ⟨(List.mem_of_getElem? (i := 355) (by decide +kernel)), (List.mem_of_getElem? (i := 356) (by decide +kernel))⟩, TX7, 3, rfl⟩
theorem okV_L_22 : tv_okV RL 22 yX8_join cX8_join 4 (some .int) 1 8 := ⟨⟨Or.inl (List.mem_of_getElem? (i := 738) (by decide +kernel)), (List.mem_of_getElem? (i := 49) (by decide +kernel)), (List.mem_of_getElem? (i := 741) (by decide +kernel)), by decide +kernel, ⟨by decide +kernel, by decide +kernel, by decide +kernel⟩, (Nat.le_of_ble_eq_true rfl)⟩, ⟨(List.mem_of_getElem? (i := 739) (by decide +kernel)), (List.mem_of_getElem? (i := 740) (by decide +kernel))⟩, TX8, 6, rfl⟩
theorem okV_L_23 : tv_okV RL 23 yX7_setPresent cX7_setPresent 4 (some .int) 2 7 := ⟨⟨Or.inl (List.mem_of_getElem? (i := 362) (by decide +kernel)), (List.mem_of_getElem? (i := 39) (by decide +kernel)), (List.mem_of_getElem? (i := 365) (by decide +kernel)), by decide +kernel, ⟨by decide +kernel, by decide +kernel, by decide +kernel⟩, (Nat.le_of_ble_eq_true rfl)⟩, ⟨(List.mem_of_getElem? (i := 363) (by decide +kernel)), (List.mem_of_getElem? (i := 364) (by decide +kernel))⟩, TX7, 3, rfl⟩
theorem okV_L_27 : tv_okV RL 27 yX8_setPresent cX8_setPresent 4 (some .int) 2 8 := ⟨⟨Or.inl (List.mem_of_getElem? (i := 742) (by decide +kernel)), (List.mem_of_getElem? (i := 49) (by decide +kernel)), (List.mem_of_getElem? (i := 745) (by decide +kernel)), by decide +kernel, ⟨by decide +kernel, by decide +kernel, by decide +kernel⟩, (Nat.le_of_ble_eq_true rfl)⟩, ⟨(List.mem_of_getElem? (i := 743) (by decide +kernel)), (List.mem_of_getElem? (i := 744) (by decide +kernel))⟩, TX8, 6, rfl⟩
theorem okV_L_28 : tv_okV RL 28 yX7_pass cX7_pass 2 (some .int) 1 7 := ⟨⟨Or.inl (List.mem_of_getElem? (i := 389) (by decide +kernel)), (List.mem_of_getElem? (i := 39) (by decide +kernel)), (List.mem_of_getElem? (i := 392) (by decide +kernel)), by decide +kernel, ⟨by decide +kernel, by decide +kernel, by decide +kernel⟩, (Nat.le_of_ble_eq_true rfl)⟩, ⟨(List.mem_of_getElem? (i := 390) (by decide +kernel)), (List.mem_of_getElem? (i := 391) (by decide +kernel))⟩, TX7, 3, rfl⟩
theorem okV_L_31 : tv_okV RL 31 yX8_pass cX8_pass 3 (some .int) 1 8 := ⟨⟨Or.inl (List.mem_of_getElem? (i := 758) (by decide +kernel)), (List.mem_of_getElem? (i := 49) (by decide +kernel)), (List.mem_of_getElem? (i := 761) (by decide +kernel)), by decide +kernel, ⟨by decide +kernel, by decide +kernel, by decide +kernel⟩, (Nat.le_of_ble_eq_true rfl)⟩, ⟨(List.mem_of_getElem? (i := 759) (by decide +kernel)), (List.mem_of_getElem? (i := 760) (by decide +kernel))⟩, TX8, 6, rfl⟩
theorem okV_L_32 : tv_okV RL 32 yX7_open cX7_open 1 (some .int) 0 7 := ⟨⟨Or.inl (List.mem_of_getElem? (i := 402) (by decide +kernel)), (List.mem_of_getElem? (i := 39) (by decide +kernel)), (List.mem_of_getElem? (i := 405) (by decide +kernel)), by decide +kernel, ⟨by decide +kernel, by decide +kernel, by decide +kernel⟩, (Nat.le_of_ble_eq_true rfl)⟩, ⟨(List.mem_of_getElem? (i := 403) (by decide +kernel)), (List.mem_of_getElem? (i := 404) (by decide +kernel))⟩, TX7, 3, rfl⟩
theorem okV_L_36 : tv_okV RL 36 yX8_open cX8_open 1 (some .int) 0 8 := ⟨⟨Or.inl (List.mem_of_getElem? (i := 763) (by decide +kernel)), (List.mem_of_getElem? (i := 49) (by decide +kernel)), (List.mem_of_getElem? (i := 766) (by decide +kernel)), by decide +kernel, ⟨by decide +kernel, by decide +kernel, by decide +kernel⟩, (Nat.le_of_ble_eq_true rfl)⟩, ⟨(List.mem_of_getElem? (i := 764) (by decide +kernel)), (List.mem_of_getElem? (i := 765) (by decide +kernel))⟩, TX8, 6, rfl⟩
theorem okV_L_37 : tv_okV RL 37 yX7_nominate cX7_nominate 2 (some .int) 1 7 := ⟨⟨Or.inl (List.mem_of_getElem? (i := 406) (by decide +kernel)), (List.mem_of_getElem? (i := 39) (by decide +kernel)), (List.mem_of_getElem? (i := 409) (by decide +kernel)), by decide +kernel, ⟨by decide +kernel, by decide +kernel, by decide +kernel⟩, (Nat.le_of_ble_eq_true rfl)⟩, ⟨(List.mem_of_getElem? (i := 407) (by decide +kernel)), (List.mem_of_getElem? (i := 408) (by decide +kernel))⟩, TX7, 3, rfl⟩
theorem okV_L_40 : tv_okV RL 40 yX8_nominate cX8_nominate 2 (some .int) 1 8 := ⟨⟨Or.inl (List.mem_of_getElem? (i := 767) (by decide +kernel)), (List.mem_of_getElem? (i := 49) (by decide +kernel)), (List.mem_of_getElem? (i := 770) (by decide +kernel)), by decide +kernel, ⟨by decide +kernel, by decide +kernel, by decide +kernel⟩, (Nat.le_of_ble_eq_true rfl)⟩, ⟨(List.mem_of_getElem? (i := 768) (by decide +kernel)), (List.mem_of_getElem? (i := 769) (by decide +kernel))⟩, TX8, 6, rfl⟩
theorem okV_L_41 : tv_okV RL 41 yX7_cast cX7_cast 3 (some .int) 1 7 := ⟨⟨Or.inl (List.mem_of_getElem? (i := 421) (by decide +kernel)), (List.mem_of_getElem? (i := 39) (by decide +kernel)), (List.mem_of_getElem? (i := 424) (by decide +kernel)), by decide +kernel, ⟨by decide +kernel, by decide +kernel, by decide +kernel⟩, (Nat.le_of_ble_eq_true rfl)⟩, ⟨(List.mem_of_getElem? (i := 422) (by decide +kernel)), (List.mem_of_getElem? (i := 423) (by decide +kernel))⟩, TX7, 3, rfl⟩
theorem okV_L_44 : tv_okV RL 44 yX8_cast cX8_cast 4 (some .int) 1 8 := ⟨⟨Or.inl (List.mem_of_getElem? (i := 779) (by decide +kernel)), (List.mem_of_getElem? (i := 49) (by decide +kernel)), (List.mem_of_getElem? (i := 782) (by decide +kernel)), by decide +kernel, ⟨by decide +kernel, by decide +kernel, by decide +kernel⟩, (Nat.le_of_ble_eq_true rfl)⟩, ⟨(List.mem_of_getElem? (i := 780) (by decide +kernel)), (List.mem_of_getElem? (i := 781) (by decide +kernel))⟩, TX8, 6, rfl⟩
theorem okV_L_45 : tv_okV RL 45 yX7_close cX7_close 1 (some .int) 0 7 := ⟨⟨Or.inl (List.mem_of_getElem? (i := 447) (by decide +kernel)), (List.mem_of_getElem? (i := 39) (by decide +kernel)), (List.mem_of_getElem? (i := 450) (by decide +kernel)), by decide +kernel, ⟨by decide +kernel, by decide +kernel, by decide +kernel⟩, (Nat.le_of_ble_eq_true rfl)⟩, ⟨(List.mem_of_getElem? (i := 448) (by decide +kernel)), (List.mem_of_getElem? (i := 449) (by decide +kernel))⟩, TX7, 3, rfl⟩
theorem okV_L_48 : tv_okV RL 48 yX8_close cX8_close 4 (some .int) 0 8 := ⟨⟨Or.inl (List.mem_of_getElem? (i := 791) (by decide +kernel)), (List.mem_of_getElem? (i := 49) (by decide +kernel)), (List.mem_of_getElem? (i := 794) (by decide +kernel)), by decide +kernel, ⟨by decide +kernel, by decide +kernel, by decide +kernel⟩, (Nat.le_of_ble_eq_true rfl)⟩, ⟨(List.mem_of_getElem? (i := 792) (by decide +kernel)), (List.mem_of_getElem? (i := 793) (by decide +kernel))⟩, TX8, 6, rfl⟩
theorem okV_L_49 : tv_okV RL 49 yX7_rounds cX7_rounds 1 (some .int) 0 7 := ⟨⟨Or.inl (List.mem_of_getElem? (i := 508) (by decide +kernel)), (List.mem_of_getElem? (i := 39) (by decide +kernel)), (List.mem_of_getElem? (i := 511) (by decide +kernel)), by decide +kernel, ⟨by decide +kernel, by decide +kernel, by decide +kernel⟩, (Nat.le_of_ble_eq_true rfl)⟩, ⟨(List.mem_of_getElem? (i := 509) (by decide +kernel)), (List.mem_of_getElem? (i := 510) (by decide +kernel))⟩, TX7, 3, rfl⟩
theorem okV_L_52 : tv_okV RL 52 yX8_rounds cX8_rounds 1 (some .int) 0 8 := ⟨⟨Or.inl (List.mem_of_getElem? (i := 819) (by decide +kernel)), (List.mem_of_getElem? (i := 49) (by decide +kernel)), (List.mem_of_getElem? (i := 822) (by decide +kernel)), by decide +kernel, ⟨by decide +kernel, by decide +kernel, by decide +kernel⟩, (Nat.le_of_ble_eq_true rfl)⟩, ⟨(List.mem_of_getElem? (i := 820) (by decide +kernel)), (List.mem_of_getElem? (i := 821) (by decide +kernel))⟩, TX8, 6, rfl⟩
theorem okV_L_53 : tv_okV RL 53 yX7_tally cX7_tally 3 (some .int) 2 7 := ⟨⟨Or.inl (List.mem_of_getElem? (i := 512) (by decide +kernel)), (List.mem_of_getElem? (i := 39) (by decide +kernel)), (List.mem_of_getElem? (i := 515) (by decide +kernel)), by decide +kernel, ⟨by decide +kernel, by decide +kernel, by decide +kernel⟩, (Nat.le_of_ble_eq_true rfl)⟩, ⟨(List.mem_of_getElem? (i := 513) (by decide +kernel)), (List.mem_of_getElem? (i := 514) (by decide +kernel))⟩, TX7, 3, rfl⟩
theorem okV_L_56 : tv_okV RL 56 yX8_tally cX8_tally 3 (some .int) 2 8 := ⟨⟨Or.inl (List.mem_of_getElem? (i := 823) (by decide +kernel)), (List.mem_of_getElem? (i := 49) (by decide +kernel)), (List.mem_of_getElem? (i := 826) (by decide +kernel)), by decide +kernel, ⟨by decide +kernel, by decide +kernel, by decide +kernel⟩, (Nat.le_of_ble_eq_true rfl)⟩, ⟨(List.mem_of_getElem? (i := 824) (by decide +kernel)), (List.mem_of_getElem? (i := 825) (by decide +kernel))⟩, TX8, 6, rfl⟩
theorem okV_L_57 : tv_okV RL 57 yX7_ballot cX7_ballot 3 (some .int) 2 7 := ⟨⟨Or.inl (List.mem_of_getElem? (i := 517) (by decide +kernel)), (List.mem_of_getElem? (i := 39) (by decide +kernel)), (List.mem_of_getElem? (i := 520) (by decide +kernel)), by decide +kernel, ⟨by decide +kernel, by decide +kernel, by decide +kernel⟩, (Nat.le_of_ble_eq_true rfl)⟩, ⟨(List.mem_of_getElem? (i := 518) (by decide +kernel)), (List.mem_of_getElem? (i := 519) (by decide +kernel))⟩, TX7, 3, rfl⟩
theorem okV_L_60 : tv_okV RL 60 yX8_ballot cX8_ballot 3 (some .int) 2 8 := ⟨⟨Or.inl (List.mem_of_getElem? (i := 827) (by decide +kernel)), (List.mem_of_getElem? (i := 49) (by decide +kernel)), (List.mem_of_getElem? (i := 830) (by decide +kernel)), by decide +kernel, ⟨by decide +kernel, by decide +kernel, by decide +kernel⟩, (Nat.le_of_ble_eq_true rfl)⟩, ⟨(List.mem_of_getElem? (i := 828) (by decide +kernel)), (List.mem_of_getElem? (i := 829) (by decide +kernel))⟩, TX8, 6, rfl⟩
theorem okV_L_61 : tv_okV RL 61 yX7_office cX7_office 1 (some .int) 0 7 := ⟨⟨Or.inl (List.mem_of_getElem? (i := 522) (by decide +kernel)), (List.mem_of_getElem? (i := 39) (by decide +kernel)), (List.mem_of_getElem? (i := 525) (by decide +kernel)), by decide +kernel, ⟨by decide +kernel, by decide +kernel, by decide +kernel⟩, (Nat.le_of_ble_eq_true rfl)⟩, ⟨(List.mem_of_getElem? (i := 523) (by decide +kernel)), (List.mem_of_getElem? (i := 524) (by decide +kernel))⟩, TX7, 3, rfl⟩
theorem okV_L_64 : tv_okV RL 64 yX8_office cX8_office 1 (some .int) 0 8 := ⟨⟨Or.inl (List.mem_of_getElem? (i := 831) (by decide +kernel)), (List.mem_of_getElem? (i := 49) (by decide +kernel)), (List.mem_of_getElem? (i := 834) (by decide +kernel)), by decide +kernel, ⟨by decide +kernel, by decide +kernel, by decide +kernel⟩, (Nat.le_of_ble_eq_true rfl)⟩, ⟨(List.mem_of_getElem? (i := 832) (by decide +kernel)), (List.mem_of_getElem? (i := 833) (by decide +kernel))⟩, TX8, 6, rfl⟩
theorem okV_L_65 : tv_okV RL 65 yX7_holder cX7_holder 1 (some .int) 0 7 := ⟨⟨Or.inl (List.mem_of_getElem? (i := 526) (by decide +kernel)), (List.mem_of_getElem? (i := 39) (by decide +kernel)), (List.mem_of_getElem? (i := 529) (by decide +kernel)), by decide +kernel, ⟨by decide +kernel, by decide +kernel, by decide +kernel⟩, (Nat.le_of_ble_eq_true rfl)⟩, ⟨(List.mem_of_getElem? (i := 527) (by decide +kernel)), (List.mem_of_getElem? (i := 528) (by decide +kernel))⟩, TX7, 3, rfl⟩
theorem okV_L_68 : tv_okV RL 68 yX8_holder cX8_holder 1 (some .int) 0 8 := ⟨⟨Or.inl (List.mem_of_getElem? (i := 835) (by decide +kernel)), (List.mem_of_getElem? (i := 49) (by decide +kernel)), (List.mem_of_getElem? (i := 838) (by decide +kernel)), by decide +kernel, ⟨by decide +kernel, by decide +kernel, by decide +kernel⟩, (Nat.le_of_ble_eq_true rfl)⟩, ⟨(List.mem_of_getElem? (i := 836) (by decide +kernel)), (List.mem_of_getElem? (i := 837) (by decide +kernel))⟩, TX8, 6, rfl⟩
theorem okV_L_69 : tv_okV RL 69 yX7_deed cX7_deed 3 (some .int) 1 7 := ⟨⟨Or.inl (List.mem_of_getElem? (i := 530) (by decide +kernel)), (List.mem_of_getElem? (i := 39) (by decide +kernel)), (List.mem_of_getElem? (i := 533) (by decide +kernel)), by decide +kernel, ⟨by decide +kernel, by decide +kernel, by decide +kernel⟩, (Nat.le_of_ble_eq_true rfl)⟩, ⟨(List.mem_of_getElem? (i := 531) (by decide +kernel)), (List.mem_of_getElem? (i := 532) (by decide +kernel))⟩, TX7, 3, rfl⟩
theorem okV_L_73 : tv_okV RL 73 yX8_deed cX8_deed 3 (some .int) 1 8 := ⟨⟨Or.inl (List.mem_of_getElem? (i := 839) (by decide +kernel)), (List.mem_of_getElem? (i := 49) (by decide +kernel)), (List.mem_of_getElem? (i := 842) (by decide +kernel)), by decide +kernel, ⟨by decide +kernel, by decide +kernel, by decide +kernel⟩, (Nat.le_of_ble_eq_true rfl)⟩, ⟨(List.mem_of_getElem? (i := 840) (by decide +kernel)), (List.mem_of_getElem? (i := 841) (by decide +kernel))⟩, TX8, 6, rfl⟩
theorem okV_L_74 : tv_okV RL 74 yX7_sign cX7_sign 3 (some .int) 2 7 := ⟨⟨Or.inl (List.mem_of_getElem? (i := 542) (by decide +kernel)), (List.mem_of_getElem? (i := 39) (by decide +kernel)), (List.mem_of_getElem? (i := 545) (by decide +kernel)), by decide +kernel, ⟨by decide +kernel, by decide +kernel, by decide +kernel⟩, (Nat.le_of_ble_eq_true rfl)⟩, ⟨(List.mem_of_getElem? (i := 543) (by decide +kernel)), (List.mem_of_getElem? (i := 544) (by decide +kernel))⟩, TX7, 3, rfl⟩
theorem okV_L_77 : tv_okV RL 77 yX8_sign cX8_sign 3 (some .int) 2 8 := ⟨⟨Or.inl (List.mem_of_getElem? (i := 843) (by decide +kernel)), (List.mem_of_getElem? (i := 49) (by decide +kernel)), (List.mem_of_getElem? (i := 846) (by decide +kernel)), by decide +kernel, ⟨by decide +kernel, by decide +kernel, by decide +kernel⟩, (Nat.le_of_ble_eq_true rfl)⟩, ⟨(List.mem_of_getElem? (i := 844) (by decide +kernel)), (List.mem_of_getElem? (i := 845) (by decide +kernel))⟩, TX8, 6, rfl⟩
theorem okV_L_78 : tv_okV RL 78 yX7_grade cX7_grade 5 (some .int) 4 7 := ⟨⟨Or.inl (List.mem_of_getElem? (i := 547) (by decide +kernel)), (List.mem_of_getElem? (i := 39) (by decide +kernel)), (List.mem_of_getElem? (i := 550) (by decide +kernel)), by decide +kernel, ⟨by decide +kernel, by decide +kernel, by decide +kernel⟩, (Nat.le_of_ble_eq_true rfl)⟩, ⟨(List.mem_of_getElem? (i := 548) (by decide +kernel)), (List.mem_of_getElem? (i := 549) (by decide +kernel))⟩, TX7, 3, rfl⟩
theorem okV_L_82 : tv_okV RL 82 yX8_grade cX8_grade 6 (some .int) 4 8 := ⟨⟨Or.inl (List.mem_of_getElem? (i := 847) (by decide +kernel)), (List.mem_of_getElem? (i := 49) (by decide +kernel)), (List.mem_of_getElem? (i := 850) (by decide +kernel)), by decide +kernel, ⟨by decide +kernel, by decide +kernel, by decide +kernel⟩, (Nat.le_of_ble_eq_true rfl)⟩, ⟨(List.mem_of_getElem? (i := 848) (by decide +kernel)), (List.mem_of_getElem? (i := 849) (by decide +kernel))⟩, TX8, 6, rfl⟩
theorem okV_L_83 : tv_okV RL 83 yX7_term cX7_term 3 (some .int) 2 7 := ⟨⟨Or.inl (List.mem_of_getElem? (i := 576) (by decide +kernel)), (List.mem_of_getElem? (i := 39) (by decide +kernel)), (List.mem_of_getElem? (i := 579) (by decide +kernel)), by decide +kernel, ⟨by decide +kernel, by decide +kernel, by decide +kernel⟩, (Nat.le_of_ble_eq_true rfl)⟩, ⟨(List.mem_of_getElem? (i := 577) (by decide +kernel)), (List.mem_of_getElem? (i := 578) (by decide +kernel))⟩, TX7, 3, rfl⟩
theorem okV_L_86 : tv_okV RL 86 yX8_term cX8_term 3 (some .int) 2 8 := ⟨⟨Or.inl (List.mem_of_getElem? (i := 855) (by decide +kernel)), (List.mem_of_getElem? (i := 49) (by decide +kernel)), (List.mem_of_getElem? (i := 858) (by decide +kernel)), by decide +kernel, ⟨by decide +kernel, by decide +kernel, by decide +kernel⟩, (Nat.le_of_ble_eq_true rfl)⟩, ⟨(List.mem_of_getElem? (i := 856) (by decide +kernel)), (List.mem_of_getElem? (i := 857) (by decide +kernel))⟩, TX8, 6, rfl⟩
theorem okV_L_87 : tv_okV RL 87 yX7_points cX7_points 3 (some .int) 2 7 := ⟨⟨Or.inl (List.mem_of_getElem? (i := 585) (by decide +kernel)), (List.mem_of_getElem? (i := 39) (by decide +kernel)), (List.mem_of_getElem? (i := 588) (by decide +kernel)), by decide +kernel, ⟨by decide +kernel, by decide +kernel, by decide +kernel⟩, (Nat.le_of_ble_eq_true rfl)⟩, ⟨(List.mem_of_getElem? (i := 586) (by decide +kernel)), (List.mem_of_getElem? (i := 587) (by decide +kernel))⟩, TX7, 3, rfl⟩
theorem okV_L_90 : tv_okV RL 90 yX8_points cX8_points 3 (some .int) 2 8 := ⟨⟨Or.inl (List.mem_of_getElem? (i := 863) (by decide +kernel)), (List.mem_of_getElem? (i := 49) (by decide +kernel)), (List.mem_of_getElem? (i := 866) (by decide +kernel)), by decide +kernel, ⟨by decide +kernel, by decide +kernel, by decide +kernel⟩, (Nat.le_of_ble_eq_true rfl)⟩, ⟨(List.mem_of_getElem? (i := 864) (by decide +kernel)), (List.mem_of_getElem? (i := 865) (by decide +kernel))⟩, TX8, 6, rfl⟩
theorem okV_L_91 : tv_okV RL 91 yX7_terms cX7_terms 1 (some .int) 0 7 := ⟨⟨Or.inl (List.mem_of_getElem? (i := 590) (by decide +kernel)), (List.mem_of_getElem? (i := 39) (by decide +kernel)), (List.mem_of_getElem? (i := 593) (by decide +kernel)), by decide +kernel, ⟨by decide +kernel, by decide +kernel, by decide +kernel⟩, (Nat.le_of_ble_eq_true rfl)⟩, ⟨(List.mem_of_getElem? (i := 591) (by decide +kernel)), (List.mem_of_getElem? (i := 592) (by decide +kernel))⟩, TX7, 3, rfl⟩
theorem okV_L_94 : tv_okV RL 94 yX8_terms cX8_terms 1 (some .int) 0 8 := ⟨⟨Or.inl (List.mem_of_getElem? (i := 867) (by decide +kernel)), (List.mem_of_getElem? (i := 49) (by decide +kernel)), (List.mem_of_getElem? (i := 870) (by decide +kernel)), by decide +kernel, ⟨by decide +kernel, by decide +kernel, by decide +kernel⟩, (Nat.le_of_ble_eq_true rfl)⟩, ⟨(List.mem_of_getElem? (i := 868) (by decide +kernel)), (List.mem_of_getElem? (i := 869) (by decide +kernel))⟩, TX8, 6, rfl⟩
theorem okV_L_95 : tv_okV RL 95 yX7_member cX7_member 3 (some .int) 2 7 := ⟨⟨Or.inl (List.mem_of_getElem? (i := 594) (by decide +kernel)), (List.mem_of_getElem? (i := 39) (by decide +kernel)), (List.mem_of_getElem? (i := 597) (by decide +kernel)), by decide +kernel, ⟨by decide +kernel, by decide +kernel, by decide +kernel⟩, (Nat.le_of_ble_eq_true rfl)⟩, ⟨(List.mem_of_getElem? (i := 595) (by decide +kernel)), (List.mem_of_getElem? (i := 596) (by decide +kernel))⟩, TX7, 3, rfl⟩
theorem okV_L_98 : tv_okV RL 98 yX8_member cX8_member 3 (some .int) 2 8 := ⟨⟨Or.inl (List.mem_of_getElem? (i := 871) (by decide +kernel)), (List.mem_of_getElem? (i := 49) (by decide +kernel)), (List.mem_of_getElem? (i := 874) (by decide +kernel)), by decide +kernel, ⟨by decide +kernel, by decide +kernel, by decide +kernel⟩, (Nat.le_of_ble_eq_true rfl)⟩, ⟨(List.mem_of_getElem? (i := 872) (by decide +kernel)), (List.mem_of_getElem? (i := 873) (by decide +kernel))⟩, TX8, 6, rfl⟩
theorem okV_L_99 : tv_okV RL 99 yX7_time cX7_time 1 (some .int) 0 7 := ⟨⟨Or.inl (List.mem_of_getElem? (i := 604) (by decide +kernel)), (List.mem_of_getElem? (i := 39) (by decide +kernel)), (List.mem_of_getElem? (i := 607) (by decide +kernel)), by decide +kernel, ⟨by decide +kernel, by decide +kernel, by decide +kernel⟩, (Nat.le_of_ble_eq_true rfl)⟩, ⟨(List.mem_of_getElem? (i := 605) (by decide +kernel)), (List.mem_of_getElem? (i := 606) (by decide +kernel))⟩, TX7, 3, rfl⟩
theorem okV_X2_35 : tv_okV RX2 35 yX0_choice cX0_choice 3 (some .int) 1 0 := ⟨⟨Or.inl (List.mem_of_getElem? (i := 435) (by decide +kernel)), (List.mem_of_getElem? (i := 40) (by decide +kernel)), (List.mem_of_getElem? (i := 438) (by decide +kernel)), by decide +kernel, ⟨by decide +kernel, by decide +kernel, by decide +kernel⟩, (Nat.le_of_ble_eq_true rfl)⟩, ⟨(List.mem_of_getElem? (i := 436) (by decide +kernel)), (List.mem_of_getElem? (i := 437) (by decide +kernel))⟩, TX0, 2, rfl⟩
theorem okV_X2_41 : tv_okV RX2 41 yX2_choice cX2_choice 3 (some .int) 2 2 := ⟨⟨Or.inl (List.mem_of_getElem? (i := 443) (by decide +kernel)), (List.mem_of_getElem? (i := 42) (by decide +kernel)), (List.mem_of_getElem? (i := 446) (by decide +kernel)), by decide +kernel, ⟨by decide +kernel, by decide +kernel, by decide +kernel⟩, (Nat.le_of_ble_eq_true rfl)⟩, ⟨(List.mem_of_getElem? (i := 444) (by decide +kernel)), (List.mem_of_getElem? (i := 445) (by decide +kernel))⟩, TX2, 3, rfl⟩
theorem okV_X2_47 : tv_okV RX2 47 yX2_strike cX2_strike 7 none 2 2 := ⟨⟨Or.inl (List.mem_of_getElem? (i := 385) (by decide +kernel)), (List.mem_of_getElem? (i := 42) (by decide +kernel)), (List.mem_of_getElem? (i := 388) (by decide +kernel)), by decide +kernel, ⟨by decide +kernel, by decide +kernel, by decide +kernel⟩, (Nat.le_of_ble_eq_true rfl)⟩, ⟨(List.mem_of_getElem? (i := 387) (by decide +kernel)), (List.mem_of_getElem? (i := 3) (by decide +kernel))⟩, TX2, 3, rfl⟩
theorem okV_X3_22 : tv_okV RX3 22 yX5_copy cX5_copy 2 none 1 5 := ⟨⟨Or.inl (List.mem_of_getElem? (i := 269) (by decide +kernel)), (List.mem_of_getElem? (i := 41) (by decide +kernel)), (List.mem_of_getElem? (i := 272) (by decide +kernel)), by decide +kernel, ⟨by decide +kernel, by decide +kernel, by decide +kernel⟩, (Nat.le_of_ble_eq_true rfl)⟩, ⟨(List.mem_of_getElem? (i := 270) (by decide +kernel)), (List.mem_of_getElem? (i := 271) (by decide +kernel))⟩, TX5, 12, rfl⟩
theorem okV_X4_29 : tv_okV RX4 29 yX2_firstAmong cX2_firstAmong 5 (some .int) 2 2 := ⟨⟨Or.inl (List.mem_of_getElem? (i := 469) (by decide +kernel)), (List.mem_of_getElem? (i := 42) (by decide +kernel)), (List.mem_of_getElem? (i := 472) (by decide +kernel)), by decide +kernel, ⟨by decide +kernel, by decide +kernel, by decide +kernel⟩, (Nat.le_of_ble_eq_true rfl)⟩, ⟨(List.mem_of_getElem? (i := 470) (by decide +kernel)), (List.mem_of_getElem? (i := 471) (by decide +kernel))⟩, TX2, 3, rfl⟩
theorem okV_X4_41 : tv_okV RX4 41 yX4_countAll cX4_countAll 5 (some .int) 2 4 := ⟨⟨Or.inl (List.mem_of_getElem? (i := 479) (by decide +kernel)), (List.mem_of_getElem? (i := 44) (by decide +kernel)), (List.mem_of_getElem? (i := 482) (by decide +kernel)), by decide +kernel, ⟨by decide +kernel, by decide +kernel, by decide +kernel⟩, (Nat.le_of_ble_eq_true rfl)⟩, ⟨(List.mem_of_getElem? (i := 481) (by decide +kernel)), (List.mem_of_getElem? (i := 6) (by decide +kernel))⟩, TX4, 2, rfl⟩
theorem okV_X4_44 : tv_okV RX4 44 yX4_votesFor cX4_votesFor 3 (some .int) 2 4 := ⟨⟨Or.inl (List.mem_of_getElem? (i := 483) (by decide +kernel)), (List.mem_of_getElem? (i := 44) (by decide +kernel)), (List.mem_of_getElem? (i := 486) (by decide +kernel)), by decide +kernel, ⟨by decide +kernel, by decide +kernel, by decide +kernel⟩, (Nat.le_of_ble_eq_true rfl)⟩, ⟨(List.mem_of_getElem? (i := 484) (by decide +kernel)), (List.mem_of_getElem? (i := 485) (by decide +kernel))⟩, TX4, 2, rfl⟩
theorem okV_X5_102 : tv_okV RX5 102 yX5_appointCaretaker cX5_appointCaretaker 2 none 1 5 := ⟨⟨Or.inl (List.mem_of_getElem? (i := 331) (by decide +kernel)), (List.mem_of_getElem? (i := 41) (by decide +kernel)), (List.mem_of_getElem? (i := 334) (by decide +kernel)), by decide +kernel, ⟨by decide +kernel, by decide +kernel, by decide +kernel⟩, (Nat.le_of_ble_eq_true rfl)⟩, ⟨(List.mem_of_getElem? (i := 333) (by decide +kernel)), (List.mem_of_getElem? (i := 1) (by decide +kernel))⟩, TX5, 12, rfl⟩
theorem okV_X5_105 : tv_okV RX5 105 yX6_latestPlannedEnd cX6_latestPlannedEnd 1 (some .int) 0 6 := ⟨⟨Or.inl (List.mem_of_getElem? (i := 398) (by decide +kernel)), (List.mem_of_getElem? (i := 45) (by decide +kernel)), (List.mem_of_getElem? (i := 401) (by decide +kernel)), by decide +kernel, ⟨by decide +kernel, by decide +kernel, by decide +kernel⟩, (Nat.le_of_ble_eq_true rfl)⟩, ⟨(List.mem_of_getElem? (i := 399) (by decide +kernel)), (List.mem_of_getElem? (i := 400) (by decide +kernel))⟩, TX6, 9, rfl⟩
theorem okV_X5_114 : tv_okV RX5 114 yX5_countSignatures cX5_countSignatures 1 (some .int) 0 5 := ⟨⟨Or.inl (List.mem_of_getElem? (i := 303) (by decide +kernel)), (List.mem_of_getElem? (i := 41) (by decide +kernel)), (List.mem_of_getElem? (i := 306) (by decide +kernel)), by decide +kernel, ⟨by decide +kernel, by decide +kernel, by decide +kernel⟩, (Nat.le_of_ble_eq_true rfl)⟩, ⟨(List.mem_of_getElem? (i := 304) (by decide +kernel)), (List.mem_of_getElem? (i := 305) (by decide +kernel))⟩, TX5, 12, rfl⟩
theorem okV_X5_117 : tv_okV RX5 117 yX6_begin cX6_begin 6 none 4 6 := ⟨⟨Or.inl (List.mem_of_getElem? (i := 504) (by decide +kernel)), (List.mem_of_getElem? (i := 45) (by decide +kernel)), (List.mem_of_getElem? (i := 507) (by decide +kernel)), by decide +kernel, ⟨by decide +kernel, by decide +kernel, by decide +kernel⟩, (Nat.le_of_ble_eq_true rfl)⟩, ⟨(List.mem_of_getElem? (i := 505) (by decide +kernel)), (List.mem_of_getElem? (i := 506) (by decide +kernel))⟩, TX6, 9, rfl⟩
theorem okV_X5_121 : tv_okV RX5 121 yX1_tell cX1_tell 5 none 3 1 := ⟨⟨Or.inl (List.mem_of_getElem? (i := 327) (by decide +kernel)), (List.mem_of_getElem? (i := 46) (by decide +kernel)), (List.mem_of_getElem? (i := 330) (by decide +kernel)), by decide +kernel, ⟨by decide +kernel, by decide +kernel, by decide +kernel⟩, (Nat.le_of_ble_eq_true rfl)⟩, ⟨(List.mem_of_getElem? (i := 328) (by decide +kernel)), (List.mem_of_getElem? (i := 329) (by decide +kernel))⟩, TX1, 4, rfl⟩
theorem okV_X5_125 : tv_okV RX5 125 yX6_finishLatest cX6_finishLatest 3 none 2 6 := ⟨⟨Or.inl (List.mem_of_getElem? (i := 320) (by decide +kernel)), (List.mem_of_getElem? (i := 45) (by decide +kernel)), (List.mem_of_getElem? (i := 323) (by decide +kernel)), by decide +kernel, ⟨by decide +kernel, by decide +kernel, by decide +kernel⟩, (Nat.le_of_ble_eq_true rfl)⟩, ⟨(List.mem_of_getElem? (i := 321) (by decide +kernel)), (List.mem_of_getElem? (i := 322) (by decide +kernel))⟩, TX6, 9, rfl⟩
theorem okV_X5_129 : tv_okV RX5 129 yX5_bestCaretaker cX5_bestCaretaker 8 (some .int) 1 5 := ⟨⟨Or.inl (List.mem_of_getElem? (i := 335) (by decide +kernel)), (List.mem_of_getElem? (i := 41) (by decide +kernel)), (List.mem_of_getElem? (i := 338) (by decide +kernel)), by decide +kernel, ⟨by decide +kernel, by decide +kernel, by decide +kernel⟩, (Nat.le_of_ble_eq_true rfl)⟩, ⟨(List.mem_of_getElem? (i := 337) (by decide +kernel)), (List.mem_of_getElem? (i := 2) (by decide +kernel))⟩, TX5, 12, rfl⟩
theorem okV_X5_132 : tv_okV RX5 132 yX6_reputation cX6_reputation 6 (some .int) 2 6 := ⟨⟨Or.inl (List.mem_of_getElem? (i := 342) (by decide +kernel)), (List.mem_of_getElem? (i := 45) (by decide +kernel)), (List.mem_of_getElem? (i := 345) (by decide +kernel)), by decide +kernel, ⟨by decide +kernel, by decide +kernel, by decide +kernel⟩, (Nat.le_of_ble_eq_true rfl)⟩, ⟨(List.mem_of_getElem? (i := 343) (by decide +kernel)), (List.mem_of_getElem? (i := 344) (by decide +kernel))⟩, TX6, 9, rfl⟩
theorem okV_X5_136 : tv_okV RX5 136 yX6_countLed cX6_countLed 4 (some .int) 1 6 := ⟨⟨Or.inl (List.mem_of_getElem? (i := 350) (by decide +kernel)), (List.mem_of_getElem? (i := 45) (by decide +kernel)), (List.mem_of_getElem? (i := 353) (by decide +kernel)), by decide +kernel, ⟨by decide +kernel, by decide +kernel, by decide +kernel⟩, (Nat.le_of_ble_eq_true rfl)⟩, ⟨(List.mem_of_getElem? (i := 351) (by decide +kernel)), (List.mem_of_getElem? (i := 352) (by decide +kernel))⟩, TX6, 9, rfl⟩
theorem okV_X5_142 : tv_okV RX5 142 yX5_hasQuorum cX5_hasQuorum 1 (some .boolean) 0 5 := ⟨⟨Or.inl (List.mem_of_getElem? (i := 455) (by decide +kernel)), (List.mem_of_getElem? (i := 41) (by decide +kernel)), (List.mem_of_getElem? (i := 458) (by decide +kernel)), by decide +kernel, ⟨by decide +kernel, by decide +kernel, by decide +kernel⟩, (Nat.le_of_ble_eq_true rfl)⟩, ⟨(List.mem_of_getElem? (i := 457) (by decide +kernel)), (List.mem_of_getElem? (i := 4) (by decide +kernel))⟩, TX5, 12, rfl⟩
theorem okV_X5_146 : tv_okV RX5 146 yX5_holdRounds cX5_holdRounds 4 (some .int) 0 5 := ⟨⟨Or.inl (List.mem_of_getElem? (i := 460) (by decide +kernel)), (List.mem_of_getElem? (i := 41) (by decide +kernel)), (List.mem_of_getElem? (i := 463) (by decide +kernel)), by decide +kernel, ⟨by decide +kernel, by decide +kernel, by decide +kernel⟩, (Nat.le_of_ble_eq_true rfl)⟩, ⟨(List.mem_of_getElem? (i := 462) (by decide +kernel)), (List.mem_of_getElem? (i := 5) (by decide +kernel))⟩, TX5, 12, rfl⟩
theorem okV_X5_149 : tv_okV RX5 149 yX2_finish cX2_finish 1 none 0 2 := ⟨⟨Or.inl (List.mem_of_getElem? (i := 496) (by decide +kernel)), (List.mem_of_getElem? (i := 42) (by decide +kernel)), (List.mem_of_getElem? (i := 499) (by decide +kernel)), by decide +kernel, ⟨by decide +kernel, by decide +kernel, by decide +kernel⟩, (Nat.le_of_ble_eq_true rfl)⟩, ⟨(List.mem_of_getElem? (i := 497) (by decide +kernel)), (List.mem_of_getElem? (i := 498) (by decide +kernel))⟩, TX2, 3, rfl⟩
theorem okV_X5_152 : tv_okV RX5 152 yX5_beginTerm cX5_beginTerm 2 none 1 5 := ⟨⟨Or.inl (List.mem_of_getElem? (i := 500) (by decide +kernel)), (List.mem_of_getElem? (i := 41) (by decide +kernel)), (List.mem_of_getElem? (i := 503) (by decide +kernel)), by decide +kernel, ⟨by decide +kernel, by decide +kernel, by decide +kernel⟩, (Nat.le_of_ble_eq_true rfl)⟩, ⟨(List.mem_of_getElem? (i := 502) (by decide +kernel)), (List.mem_of_getElem? (i := 9) (by decide +kernel))⟩, TX5, 12, rfl⟩
theorem okV_X5_155 : tv_okV RX5 155 yX2_countBallots cX2_countBallots 3 (some .int) 0 2 := ⟨⟨Or.inl (List.mem_of_getElem? (i := 459) (by decide +kernel)), (List.mem_of_getElem? (i := 42) (by decide +kernel)), (List.mem_of_getElem? (i := 442) (by decide +kernel)), by decide +kernel, ⟨by decide +kernel, by decide +kernel, by decide +kernel⟩, (Nat.le_of_ble_eq_true rfl)⟩, ⟨(List.mem_of_getElem? (i := 440) (by decide +kernel)), (List.mem_of_getElem? (i := 441) (by decide +kernel))⟩, TX2, 3, rfl⟩
theorem okV_X5_161 : tv_okV RX5 161 yX4_count cX4_count 7 none 3 4 := ⟨⟨Or.inl (List.mem_of_getElem? (i := 464) (by decide +kernel)), (List.mem_of_getElem? (i := 44) (by decide +kernel)), (List.mem_of_getElem? (i := 467) (by decide +kernel)), by decide +kernel, ⟨by decide +kernel, by decide +kernel, by decide +kernel⟩, (Nat.le_of_ble_eq_true rfl)⟩, ⟨(List.mem_of_getElem? (i := 465) (by decide +kernel)), (List.mem_of_getElem? (i := 466) (by decide +kernel))⟩, TX4, 2, rfl⟩
theorem okV_X5_165 : tv_okV RX5 165 yX4_winner cX4_winner 6 (some .int) 2 4 := ⟨⟨Or.inl (List.mem_of_getElem? (i := 474) (by decide +kernel)), (List.mem_of_getElem? (i := 44) (by decide +kernel)), (List.mem_of_getElem? (i := 477) (by decide +kernel)), by decide +kernel, ⟨by decide +kernel, by decide +kernel, by decide +kernel⟩, (Nat.le_of_ble_eq_true rfl)⟩, ⟨(List.mem_of_getElem? (i := 475) (by decide +kernel)), (List.mem_of_getElem? (i := 476) (by decide +kernel))⟩, TX4, 2, rfl⟩
theorem okV_X5_168 : tv_okV RX5 168 yX5_weakest cX5_weakest 5 (some .int) 2 5 := ⟨⟨Or.inl (List.mem_of_getElem? (i := 487) (by decide +kernel)), (List.mem_of_getElem? (i := 41) (by decide +kernel)), (List.mem_of_getElem? (i := 490) (by decide +kernel)), by decide +kernel, ⟨by decide +kernel, by decide +kernel, by decide +kernel⟩, (Nat.le_of_ble_eq_true rfl)⟩, ⟨(List.mem_of_getElem? (i := 489) (by decide +kernel)), (List.mem_of_getElem? (i := 7) (by decide +kernel))⟩, TX5, 12, rfl⟩
theorem okV_X5_171 : tv_okV RX5 171 yX5_leavesRather cX5_leavesRather 6 (some .boolean) 3 5 := ⟨⟨Or.inl (List.mem_of_getElem? (i := 491) (by decide +kernel)), (List.mem_of_getElem? (i := 41) (by decide +kernel)), (List.mem_of_getElem? (i := 494) (by decide +kernel)), by decide +kernel, ⟨by decide +kernel, by decide +kernel, by decide +kernel⟩, (Nat.le_of_ble_eq_true rfl)⟩, ⟨(List.mem_of_getElem? (i := 493) (by decide +kernel)), (List.mem_of_getElem? (i := 8) (by decide +kernel))⟩, TX5, 12, rfl⟩
theorem okV_X5_175 : tv_okV RX5 175 yX4_votesFor cX4_votesFor 3 (some .int) 2 4 := ⟨⟨Or.inl (List.mem_of_getElem? (i := 495) (by decide +kernel)), (List.mem_of_getElem? (i := 44) (by decide +kernel)), (List.mem_of_getElem? (i := 486) (by decide +kernel)), by decide +kernel, ⟨by decide +kernel, by decide +kernel, by decide +kernel⟩, (Nat.le_of_ble_eq_true rfl)⟩, ⟨(List.mem_of_getElem? (i := 484) (by decide +kernel)), (List.mem_of_getElem? (i := 485) (by decide +kernel))⟩, TX4, 2, rfl⟩
theorem okV_X5_178 : tv_okV RX5 178 yX5_isPresent cX5_isPresent 2 (some .boolean) 1 5 := ⟨⟨Or.inl (List.mem_of_getElem? (i := 415) (by decide +kernel)), (List.mem_of_getElem? (i := 41) (by decide +kernel)), (List.mem_of_getElem? (i := 373) (by decide +kernel)), by decide +kernel, ⟨by decide +kernel, by decide +kernel, by decide +kernel⟩, (Nat.le_of_ble_eq_true rfl)⟩, ⟨(List.mem_of_getElem? (i := 371) (by decide +kernel)), (List.mem_of_getElem? (i := 372) (by decide +kernel))⟩, TX5, 12, rfl⟩
theorem okV_X5_182 : tv_okV RX5 182 yX6_countLedInARow cX6_countLedInARow 4 (some .int) 1 6 := ⟨⟨Or.inl (List.mem_of_getElem? (i := 416) (by decide +kernel)), (List.mem_of_getElem? (i := 45) (by decide +kernel)), (List.mem_of_getElem? (i := 419) (by decide +kernel)), by decide +kernel, ⟨by decide +kernel, by decide +kernel, by decide +kernel⟩, (Nat.le_of_ble_eq_true rfl)⟩, ⟨(List.mem_of_getElem? (i := 417) (by decide +kernel)), (List.mem_of_getElem? (i := 418) (by decide +kernel))⟩, TX6, 9, rfl⟩
theorem okV_X5_189 : tv_okV RX5 189 yX5_canLead cX5_canLead 2 (some .boolean) 1 5 := ⟨⟨Or.inl (List.mem_of_getElem? (i := 603) (by decide +kernel)), (List.mem_of_getElem? (i := 41) (by decide +kernel)), (List.mem_of_getElem? (i := 414) (by decide +kernel)), by decide +kernel, ⟨by decide +kernel, by decide +kernel, by decide +kernel⟩, (Nat.le_of_ble_eq_true rfl)⟩, ⟨(List.mem_of_getElem? (i := 412) (by decide +kernel)), (List.mem_of_getElem? (i := 413) (by decide +kernel))⟩, TX5, 12, rfl⟩
theorem okV_X5_74 : tv_okV RX5 74 yX2_copy cX2_copy 2 none 1 2 := ⟨⟨Or.inl (List.mem_of_getElem? (i := 273) (by decide +kernel)), (List.mem_of_getElem? (i := 42) (by decide +kernel)), (List.mem_of_getElem? (i := 276) (by decide +kernel)), by decide +kernel, ⟨by decide +kernel, by decide +kernel, by decide +kernel⟩, (Nat.le_of_ble_eq_true rfl)⟩, ⟨(List.mem_of_getElem? (i := 274) (by decide +kernel)), (List.mem_of_getElem? (i := 275) (by decide +kernel))⟩, TX2, 3, rfl⟩
theorem okV_X5_78 : tv_okV RX5 78 yX4_copy cX4_copy 2 none 1 4 := ⟨⟨Or.inl (List.mem_of_getElem? (i := 278) (by decide +kernel)), (List.mem_of_getElem? (i := 44) (by decide +kernel)), (List.mem_of_getElem? (i := 281) (by decide +kernel)), by decide +kernel, ⟨by decide +kernel, by decide +kernel, by decide +kernel⟩, (Nat.le_of_ble_eq_true rfl)⟩, ⟨(List.mem_of_getElem? (i := 279) (by decide +kernel)), (List.mem_of_getElem? (i := 280) (by decide +kernel))⟩, TX4, 2, rfl⟩
theorem okV_X5_81 : tv_okV RX5 81 yX6_copy cX6_copy 2 none 1 6 := ⟨⟨Or.inl (List.mem_of_getElem? (i := 283) (by decide +kernel)), (List.mem_of_getElem? (i := 45) (by decide +kernel)), (List.mem_of_getElem? (i := 286) (by decide +kernel)), by decide +kernel, ⟨by decide +kernel, by decide +kernel, by decide +kernel⟩, (Nat.le_of_ble_eq_true rfl)⟩, ⟨(List.mem_of_getElem? (i := 284) (by decide +kernel)), (List.mem_of_getElem? (i := 285) (by decide +kernel))⟩, TX6, 9, rfl⟩
theorem okV_X5_84 : tv_okV RX5 84 yX1_copy cX1_copy 2 none 1 1 := ⟨⟨Or.inl (List.mem_of_getElem? (i := 291) (by decide +kernel)), (List.mem_of_getElem? (i := 46) (by decide +kernel)), (List.mem_of_getElem? (i := 294) (by decide +kernel)), by decide +kernel, ⟨by decide +kernel, by decide +kernel, by decide +kernel⟩, (Nat.le_of_ble_eq_true rfl)⟩, ⟨(List.mem_of_getElem? (i := 292) (by decide +kernel)), (List.mem_of_getElem? (i := 293) (by decide +kernel))⟩, TX1, 4, rfl⟩
theorem okV_X5_95 : tv_okV RX5 95 yX2_forget cX2_forget 3 none 1 2 := ⟨⟨Or.inl (List.mem_of_getElem? (i := 380) (by decide +kernel)), (List.mem_of_getElem? (i := 42) (by decide +kernel)), (List.mem_of_getElem? (i := 383) (by decide +kernel)), by decide +kernel, ⟨by decide +kernel, by decide +kernel, by decide +kernel⟩, (Nat.le_of_ble_eq_true rfl)⟩, ⟨(List.mem_of_getElem? (i := 381) (by decide +kernel)), (List.mem_of_getElem? (i := 382) (by decide +kernel))⟩, TX2, 3, rfl⟩
theorem okV_X5_99 : tv_okV RX5 99 yX5_endTerm cX5_endTerm 3 none 1 5 := ⟨⟨Or.inl (List.mem_of_getElem? (i := 316) (by decide +kernel)), (List.mem_of_getElem? (i := 41) (by decide +kernel)), (List.mem_of_getElem? (i := 319) (by decide +kernel)), by decide +kernel, ⟨by decide +kernel, by decide +kernel, by decide +kernel⟩, (Nat.le_of_ble_eq_true rfl)⟩, ⟨(List.mem_of_getElem? (i := 318) (by decide +kernel)), (List.mem_of_getElem? (i := 0) (by decide +kernel))⟩, TX5, 12, rfl⟩
theorem okV_X6_54 : tv_okV RX6 54 yX6_isOver cX6_isOver 2 (some .boolean) 1 6 := ⟨⟨Or.inl (List.mem_of_getElem? (i := 559) (by decide +kernel)), (List.mem_of_getElem? (i := 45) (by decide +kernel)), (List.mem_of_getElem? (i := 562) (by decide +kernel)), by decide +kernel, ⟨by decide +kernel, by decide +kernel, by decide +kernel⟩, (Nat.le_of_ble_eq_true rfl)⟩, ⟨(List.mem_of_getElem? (i := 560) (by decide +kernel)), (List.mem_of_getElem? (i := 561) (by decide +kernel))⟩, TX6, 9, rfl⟩
theorem okV_X6_62 : tv_okV RX6 62 yX6_givenPoints cX6_givenPoints 3 (some .int) 2 6 := ⟨⟨Or.inl (List.mem_of_getElem? (i := 572) (by decide +kernel)), (List.mem_of_getElem? (i := 45) (by decide +kernel)), (List.mem_of_getElem? (i := 575) (by decide +kernel)), by decide +kernel, ⟨by decide +kernel, by decide +kernel, by decide +kernel⟩, (Nat.le_of_ble_eq_true rfl)⟩, ⟨(List.mem_of_getElem? (i := 573) (by decide +kernel)), (List.mem_of_getElem? (i := 574) (by decide +kernel))⟩, TX6, 9, rfl⟩
theorem okV_X6_66 : tv_okV RX6 66 yX6_countGrades cX6_countGrades 4 (some .int) 1 6 := ⟨⟨Or.inl (List.mem_of_getElem? (i := 584) (by decide +kernel)), (List.mem_of_getElem? (i := 45) (by decide +kernel)), (List.mem_of_getElem? (i := 571) (by decide +kernel)), by decide +kernel, ⟨by decide +kernel, by decide +kernel, by decide +kernel⟩, (Nat.le_of_ble_eq_true rfl)⟩, ⟨(List.mem_of_getElem? (i := 569) (by decide +kernel)), (List.mem_of_getElem? (i := 570) (by decide +kernel))⟩, TX6, 9, rfl⟩
theorem okV_X6_70 : tv_okV RX6 70 yX6_score cX6_score 6 (some .int) 1 6 := ⟨⟨Or.inl (List.mem_of_getElem? (i := 346) (by decide +kernel)), (List.mem_of_getElem? (i := 45) (by decide +kernel)), (List.mem_of_getElem? (i := 349) (by decide +kernel)), by decide +kernel, ⟨by decide +kernel, by decide +kernel, by decide +kernel⟩, (Nat.le_of_ble_eq_true rfl)⟩, ⟨(List.mem_of_getElem? (i := 347) (by decide +kernel)), (List.mem_of_getElem? (i := 348) (by decide +kernel))⟩, TX6, 9, rfl⟩
theorem okV_X7_112 : tv_okV RX7 112 yX5_canLead cX5_canLead 2 (some .boolean) 1 5 := ⟨⟨Or.inl (List.mem_of_getElem? (i := 411) (by decide +kernel)), (List.mem_of_getElem? (i := 41) (by decide +kernel)), (List.mem_of_getElem? (i := 414) (by decide +kernel)), by decide +kernel, ⟨by decide +kernel, by decide +kernel, by decide +kernel⟩, (Nat.le_of_ble_eq_true rfl)⟩, ⟨(List.mem_of_getElem? (i := 412) (by decide +kernel)), (List.mem_of_getElem? (i := 413) (by decide +kernel))⟩, TX5, 12, rfl⟩
theorem okV_X7_120 : tv_okV RX7 120 yX0_errorPlace cX0_errorPlace 5 (some .int) 1 0 := ⟨⟨Or.inl (List.mem_of_getElem? (i := 425) (by decide +kernel)), (List.mem_of_getElem? (i := 40) (by decide +kernel)), (List.mem_of_getElem? (i := 428) (by decide +kernel)), by decide +kernel, ⟨by decide +kernel, by decide +kernel, by decide +kernel⟩, (Nat.le_of_ble_eq_true rfl)⟩, ⟨(List.mem_of_getElem? (i := 426) (by decide +kernel)), (List.mem_of_getElem? (i := 427) (by decide +kernel))⟩, TX0, 2, rfl⟩
theorem okV_X7_123 : tv_okV RX7 123 yX2_take cX2_take 4 none 2 2 := ⟨⟨Or.inl (List.mem_of_getElem? (i := 431) (by decide +kernel)), (List.mem_of_getElem? (i := 42) (by decide +kernel)), (List.mem_of_getElem? (i := 434) (by decide +kernel)), by decide +kernel, ⟨by decide +kernel, by decide +kernel, by decide +kernel⟩, (Nat.le_of_ble_eq_true rfl)⟩, ⟨(List.mem_of_getElem? (i := 432) (by decide +kernel)), (List.mem_of_getElem? (i := 433) (by decide +kernel))⟩, TX2, 3, rfl⟩
theorem okV_X7_130 : tv_okV RX7 130 yX2_countBallots cX2_countBallots 3 (some .int) 0 2 := ⟨⟨Or.inl (List.mem_of_getElem? (i := 439) (by decide +kernel)), (List.mem_of_getElem? (i := 42) (by decide +kernel)), (List.mem_of_getElem? (i := 442) (by decide +kernel)), by decide +kernel, ⟨by decide +kernel, by decide +kernel, by decide +kernel⟩, (Nat.le_of_ble_eq_true rfl)⟩, ⟨(List.mem_of_getElem? (i := 440) (by decide +kernel)), (List.mem_of_getElem? (i := 441) (by decide +kernel))⟩, TX2, 3, rfl⟩
theorem okV_X7_134 : tv_okV RX7 134 yX5_elect cX5_elect 2 (some .int) 0 5 := ⟨⟨Or.inl (List.mem_of_getElem? (i := 451) (by decide +kernel)), (List.mem_of_getElem? (i := 41) (by decide +kernel)), (List.mem_of_getElem? (i := 454) (by decide +kernel)), by decide +kernel, ⟨by decide +kernel, by decide +kernel, by decide +kernel⟩, (Nat.le_of_ble_eq_true rfl)⟩, ⟨(List.mem_of_getElem? (i := 452) (by decide +kernel)), (List.mem_of_getElem? (i := 453) (by decide +kernel))⟩, TX5, 12, rfl⟩
theorem okV_X7_146 : tv_okV RX7 146 yX4_votesFor cX4_votesFor 3 (some .int) 2 4 := ⟨⟨Or.inl (List.mem_of_getElem? (i := 516) (by decide +kernel)), (List.mem_of_getElem? (i := 44) (by decide +kernel)), (List.mem_of_getElem? (i := 486) (by decide +kernel)), by decide +kernel, ⟨by decide +kernel, by decide +kernel, by decide +kernel⟩, (Nat.le_of_ble_eq_true rfl)⟩, ⟨(List.mem_of_getElem? (i := 484) (by decide +kernel)), (List.mem_of_getElem? (i := 485) (by decide +kernel))⟩, TX4, 2, rfl⟩
theorem okV_X7_150 : tv_okV RX7 150 yX2_choice cX2_choice 3 (some .int) 2 2 := ⟨⟨Or.inl (List.mem_of_getElem? (i := 521) (by decide +kernel)), (List.mem_of_getElem? (i := 42) (by decide +kernel)), (List.mem_of_getElem? (i := 446) (by decide +kernel)), by decide +kernel, ⟨by decide +kernel, by decide +kernel, by decide +kernel⟩, (Nat.le_of_ble_eq_true rfl)⟩, ⟨(List.mem_of_getElem? (i := 444) (by decide +kernel)), (List.mem_of_getElem? (i := 445) (by decide +kernel))⟩, TX2, 3, rfl⟩
theorem okV_X7_156 : tv_okV RX7 156 yX6_latestDeeds cX6_latestDeeds 1 (some .int) 0 6 := ⟨⟨Or.inl (List.mem_of_getElem? (i := 534) (by decide +kernel)), (List.mem_of_getElem? (i := 45) (by decide +kernel)), (List.mem_of_getElem? (i := 537) (by decide +kernel)), by decide +kernel, ⟨by decide +kernel, by decide +kernel, by decide +kernel⟩, (Nat.le_of_ble_eq_true rfl)⟩, ⟨(List.mem_of_getElem? (i := 535) (by decide +kernel)), (List.mem_of_getElem? (i := 536) (by decide +kernel))⟩, TX6, 9, rfl⟩
theorem okV_X7_159 : tv_okV RX7 159 yX6_setLatestDeeds cX6_setLatestDeeds 2 none 1 6 := ⟨⟨Or.inl (List.mem_of_getElem? (i := 538) (by decide +kernel)), (List.mem_of_getElem? (i := 45) (by decide +kernel)), (List.mem_of_getElem? (i := 541) (by decide +kernel)), by decide +kernel, ⟨by decide +kernel, by decide +kernel, by decide +kernel⟩, (Nat.le_of_ble_eq_true rfl)⟩, ⟨(List.mem_of_getElem? (i := 539) (by decide +kernel)), (List.mem_of_getElem? (i := 540) (by decide +kernel))⟩, TX6, 9, rfl⟩
theorem okV_X7_165 : tv_okV RX7 165 yX5_countSignatures cX5_countSignatures 1 (some .int) 0 5 := ⟨⟨Or.inl (List.mem_of_getElem? (i := 546) (by decide +kernel)), (List.mem_of_getElem? (i := 41) (by decide +kernel)), (List.mem_of_getElem? (i := 306) (by decide +kernel)), by decide +kernel, ⟨by decide +kernel, by decide +kernel, by decide +kernel⟩, (Nat.le_of_ble_eq_true rfl)⟩, ⟨(List.mem_of_getElem? (i := 304) (by decide +kernel)), (List.mem_of_getElem? (i := 305) (by decide +kernel))⟩, TX5, 12, rfl⟩
theorem okV_X7_168 : tv_okV RX7 168 yX6_isTerm cX6_isTerm 2 (some .boolean) 1 6 := ⟨⟨Or.inl (List.mem_of_getElem? (i := 551) (by decide +kernel)), (List.mem_of_getElem? (i := 45) (by decide +kernel)), (List.mem_of_getElem? (i := 554) (by decide +kernel)), by decide +kernel, ⟨by decide +kernel, by decide +kernel, by decide +kernel⟩, (Nat.le_of_ble_eq_true rfl)⟩, ⟨(List.mem_of_getElem? (i := 552) (by decide +kernel)), (List.mem_of_getElem? (i := 553) (by decide +kernel))⟩, TX6, 9, rfl⟩
theorem okV_X7_171 : tv_okV RX7 171 yX6_mayGrade cX6_mayGrade 4 (some .boolean) 3 6 := ⟨⟨Or.inl (List.mem_of_getElem? (i := 555) (by decide +kernel)), (List.mem_of_getElem? (i := 45) (by decide +kernel)), (List.mem_of_getElem? (i := 558) (by decide +kernel)), by decide +kernel, ⟨by decide +kernel, by decide +kernel, by decide +kernel⟩, (Nat.le_of_ble_eq_true rfl)⟩, ⟨(List.mem_of_getElem? (i := 556) (by decide +kernel)), (List.mem_of_getElem? (i := 557) (by decide +kernel))⟩, TX6, 9, rfl⟩
theorem okV_X7_178 : tv_okV RX7 178 yX6_putGrade cX6_putGrade 4 none 3 6 := ⟨⟨Or.inl (List.mem_of_getElem? (i := 564) (by decide +kernel)), (List.mem_of_getElem? (i := 45) (by decide +kernel)), (List.mem_of_getElem? (i := 567) (by decide +kernel)), by decide +kernel, ⟨by decide +kernel, by decide +kernel, by decide +kernel⟩, (Nat.le_of_ble_eq_true rfl)⟩, ⟨(List.mem_of_getElem? (i := 565) (by decide +kernel)), (List.mem_of_getElem? (i := 566) (by decide +kernel))⟩, TX6, 9, rfl⟩
theorem okV_X7_182 : tv_okV RX7 182 yX6_countGrades cX6_countGrades 4 (some .int) 1 6 := ⟨⟨Or.inl (List.mem_of_getElem? (i := 568) (by decide +kernel)), (List.mem_of_getElem? (i := 45) (by decide +kernel)), (List.mem_of_getElem? (i := 571) (by decide +kernel)), by decide +kernel, ⟨by decide +kernel, by decide +kernel, by decide +kernel⟩, (Nat.le_of_ble_eq_true rfl)⟩, ⟨(List.mem_of_getElem? (i := 569) (by decide +kernel)), (List.mem_of_getElem? (i := 570) (by decide +kernel))⟩, TX6, 9, rfl⟩
theorem okV_X7_185 : tv_okV RX7 185 yX6_number cX6_number 3 (some .int) 2 6 := ⟨⟨Or.inl (List.mem_of_getElem? (i := 580) (by decide +kernel)), (List.mem_of_getElem? (i := 45) (by decide +kernel)), (List.mem_of_getElem? (i := 583) (by decide +kernel)), by decide +kernel, ⟨by decide +kernel, by decide +kernel, by decide +kernel⟩, (Nat.le_of_ble_eq_true rfl)⟩, ⟨(List.mem_of_getElem? (i := 581) (by decide +kernel)), (List.mem_of_getElem? (i := 582) (by decide +kernel))⟩, TX6, 9, rfl⟩
theorem okV_X7_188 : tv_okV RX7 188 yX6_givenPoints cX6_givenPoints 3 (some .int) 2 6 := ⟨⟨Or.inl (List.mem_of_getElem? (i := 589) (by decide +kernel)), (List.mem_of_getElem? (i := 45) (by decide +kernel)), (List.mem_of_getElem? (i := 575) (by decide +kernel)), by decide +kernel, ⟨by decide +kernel, by decide +kernel, by decide +kernel⟩, (Nat.le_of_ble_eq_true rfl)⟩, ⟨(List.mem_of_getElem? (i := 573) (by decide +kernel)), (List.mem_of_getElem? (i := 574) (by decide +kernel))⟩, TX6, 9, rfl⟩
theorem okV_X7_191 : tv_okV RX7 191 yX5_numberOf cX5_numberOf 3 (some .int) 2 5 := ⟨⟨Or.inl (List.mem_of_getElem? (i := 598) (by decide +kernel)), (List.mem_of_getElem? (i := 41) (by decide +kernel)), (List.mem_of_getElem? (i := 601) (by decide +kernel)), by decide +kernel, ⟨by decide +kernel, by decide +kernel, by decide +kernel⟩, (Nat.le_of_ble_eq_true rfl)⟩, ⟨(List.mem_of_getElem? (i := 599) (by decide +kernel)), (List.mem_of_getElem? (i := 600) (by decide +kernel))⟩, TX5, 12, rfl⟩
theorem okV_X7_201 : tv_okV RX7 201 yX1_number cX1_number 4 (some .int) 2 1 := ⟨⟨Or.inl (List.mem_of_getElem? (i := 616) (by decide +kernel)), (List.mem_of_getElem? (i := 46) (by decide +kernel)), (List.mem_of_getElem? (i := 619) (by decide +kernel)), by decide +kernel, ⟨by decide +kernel, by decide +kernel, by decide +kernel⟩, (Nat.le_of_ble_eq_true rfl)⟩, ⟨(List.mem_of_getElem? (i := 617) (by decide +kernel)), (List.mem_of_getElem? (i := 618) (by decide +kernel))⟩, TX1, 4, rfl⟩
theorem okV_X7_202 : tv_okV RX7 202 yX0_append cX0_append 2 (some .int) 1 0 := ⟨⟨Or.inl (List.mem_of_getElem? (i := 624) (by decide +kernel)), (List.mem_of_getElem? (i := 40) (by decide +kernel)), (List.mem_of_getElem? (i := 627) (by decide +kernel)), by decide +kernel, ⟨by decide +kernel, by decide +kernel, by decide +kernel⟩, (Nat.le_of_ble_eq_true rfl)⟩, ⟨(List.mem_of_getElem? (i := 625) (by decide +kernel)), (List.mem_of_getElem? (i := 626) (by decide +kernel))⟩, TX0, 2, rfl⟩
theorem okV_X7_206 : tv_okV RX7 206 yX3_restore cX3_restore 2 none 1 3 := ⟨⟨Or.inl (List.mem_of_getElem? (i := 636) (by decide +kernel)), (List.mem_of_getElem? (i := 48) (by decide +kernel)), (List.mem_of_getElem? (i := 639) (by decide +kernel)), by decide +kernel, ⟨by decide +kernel, by decide +kernel, by decide +kernel⟩, (Nat.le_of_ble_eq_true rfl)⟩, ⟨(List.mem_of_getElem? (i := 637) (by decide +kernel)), (List.mem_of_getElem? (i := 638) (by decide +kernel))⟩, TX3, 3, rfl⟩
theorem okV_X7_37 : tv_okV RX7 37 yX3_keep cX3_keep 2 none 1 3 := ⟨⟨Or.inl (List.mem_of_getElem? (i := 265) (by decide +kernel)), (List.mem_of_getElem? (i := 48) (by decide +kernel)), (List.mem_of_getElem? (i := 268) (by decide +kernel)), by decide +kernel, ⟨by decide +kernel, by decide +kernel, by decide +kernel⟩, (Nat.le_of_ble_eq_true rfl)⟩, ⟨(List.mem_of_getElem? (i := 266) (by decide +kernel)), (List.mem_of_getElem? (i := 267) (by decide +kernel))⟩, TX3, 3, rfl⟩
theorem okV_X7_44 : tv_okV RX7 44 yX5_lookAtPetition cX5_lookAtPetition 3 none 0 5 := ⟨⟨Or.inl (List.mem_of_getElem? (i := 299) (by decide +kernel)), (List.mem_of_getElem? (i := 41) (by decide +kernel)), (List.mem_of_getElem? (i := 302) (by decide +kernel)), by decide +kernel, ⟨by decide +kernel, by decide +kernel, by decide +kernel⟩, (Nat.le_of_ble_eq_true rfl)⟩, ⟨(List.mem_of_getElem? (i := 300) (by decide +kernel)), (List.mem_of_getElem? (i := 301) (by decide +kernel))⟩, TX5, 12, rfl⟩
theorem okV_X7_51 : tv_okV RX7 51 yX5_admit cX5_admit 3 (some .int) 1 5 := ⟨⟨Or.inl (List.mem_of_getElem? (i := 358) (by decide +kernel)), (List.mem_of_getElem? (i := 41) (by decide +kernel)), (List.mem_of_getElem? (i := 361) (by decide +kernel)), by decide +kernel, ⟨by decide +kernel, by decide +kernel, by decide +kernel⟩, (Nat.le_of_ble_eq_true rfl)⟩, ⟨(List.mem_of_getElem? (i := 359) (by decide +kernel)), (List.mem_of_getElem? (i := 360) (by decide +kernel))⟩, TX5, 12, rfl⟩
theorem okV_X7_55 : tv_okV RX7 55 yX5_isMember cX5_isMember 2 (some .boolean) 1 5 := ⟨⟨Or.inl (List.mem_of_getElem? (i := 366) (by decide +kernel)), (List.mem_of_getElem? (i := 41) (by decide +kernel)), (List.mem_of_getElem? (i := 369) (by decide +kernel)), by decide +kernel, ⟨by decide +kernel, by decide +kernel, by decide +kernel⟩, (Nat.le_of_ble_eq_true rfl)⟩, ⟨(List.mem_of_getElem? (i := 367) (by decide +kernel)), (List.mem_of_getElem? (i := 368) (by decide +kernel))⟩, TX5, 12, rfl⟩
theorem okV_X7_59 : tv_okV RX7 59 yX5_isPresent cX5_isPresent 2 (some .boolean) 1 5 := ⟨⟨Or.inl (List.mem_of_getElem? (i := 370) (by decide +kernel)), (List.mem_of_getElem? (i := 41) (by decide +kernel)), (List.mem_of_getElem? (i := 373) (by decide +kernel)), by decide +kernel, ⟨by decide +kernel, by decide +kernel, by decide +kernel⟩, (Nat.le_of_ble_eq_true rfl)⟩, ⟨(List.mem_of_getElem? (i := 371) (by decide +kernel)), (List.mem_of_getElem? (i := 372) (by decide +kernel))⟩, TX5, 12, rfl⟩
theorem okV_X7_72 : tv_okV RX7 72 yX5_leave cX5_leave 2 none 1 5 := ⟨⟨Or.inl (List.mem_of_getElem? (i := 376) (by decide +kernel)), (List.mem_of_getElem? (i := 41) (by decide +kernel)), (List.mem_of_getElem? (i := 379) (by decide +kernel)), by decide +kernel, ⟨by decide +kernel, by decide +kernel, by decide +kernel⟩, (Nat.le_of_ble_eq_true rfl)⟩, ⟨(List.mem_of_getElem? (i := 377) (by decide +kernel)), (List.mem_of_getElem? (i := 378) (by decide +kernel))⟩, TX5, 12, rfl⟩
theorem okV_X7_80 : tv_okV RX7 80 yX5_advance cX5_advance 3 none 1 5 := ⟨⟨Or.inl (List.mem_of_getElem? (i := 394) (by decide +kernel)), (List.mem_of_getElem? (i := 41) (by decide +kernel)), (List.mem_of_getElem? (i := 397) (by decide +kernel)), by decide +kernel, ⟨by decide +kernel, by decide +kernel, by decide +kernel⟩, (Nat.le_of_ble_eq_true rfl)⟩, ⟨(List.mem_of_getElem? (i := 395) (by decide +kernel)), (List.mem_of_getElem? (i := 396) (by decide +kernel))⟩, TX5, 12, rfl⟩
theorem okV_X8_101 : tv_okV RX8 101 yX8_ballots cX8_ballots 3 (some .int) 0 8 := ⟨⟨Or.inl (List.mem_of_getElem? (i := 787) (by decide +kernel)), (List.mem_of_getElem? (i := 49) (by decide +kernel)), (List.mem_of_getElem? (i := 790) (by decide +kernel)), by decide +kernel, ⟨by decide +kernel, by decide +kernel, by decide +kernel⟩, (Nat.le_of_ble_eq_true rfl)⟩, ⟨(List.mem_of_getElem? (i := 789) (by decide +kernel)), (List.mem_of_getElem? (i := 28) (by decide +kernel))⟩, TX8, 6, rfl⟩
theorem okV_X8_107 : tv_okV RX8 107 yX8_tallyAt cX8_tallyAt 3 (some .int) 2 8 := ⟨⟨Or.inl (List.mem_of_getElem? (i := 799) (by decide +kernel)), (List.mem_of_getElem? (i := 49) (by decide +kernel)), (List.mem_of_getElem? (i := 802) (by decide +kernel)), by decide +kernel, ⟨by decide +kernel, by decide +kernel, by decide +kernel⟩, (Nat.le_of_ble_eq_true rfl)⟩, ⟨(List.mem_of_getElem? (i := 801) (by decide +kernel)), (List.mem_of_getElem? (i := 30) (by decide +kernel))⟩, TX8, 6, rfl⟩
theorem okV_X8_110 : tv_okV RX8 110 yX8_firstOf cX8_firstOf 4 (some .int) 1 8 := ⟨⟨Or.inl (List.mem_of_getElem? (i := 803) (by decide +kernel)), (List.mem_of_getElem? (i := 49) (by decide +kernel)), (List.mem_of_getElem? (i := 806) (by decide +kernel)), by decide +kernel, ⟨by decide +kernel, by decide +kernel, by decide +kernel⟩, (Nat.le_of_ble_eq_true rfl)⟩, ⟨(List.mem_of_getElem? (i := 805) (by decide +kernel)), (List.mem_of_getElem? (i := 31) (by decide +kernel))⟩, TX8, 6, rfl⟩
theorem okV_X8_113 : tv_okV RX8 113 yX8_raceMany cX8_raceMany 3 (some .int) 0 8 := ⟨⟨Or.inl (List.mem_of_getElem? (i := 807) (by decide +kernel)), (List.mem_of_getElem? (i := 49) (by decide +kernel)), (List.mem_of_getElem? (i := 810) (by decide +kernel)), by decide +kernel, ⟨by decide +kernel, by decide +kernel, by decide +kernel⟩, (Nat.le_of_ble_eq_true rfl)⟩, ⟨(List.mem_of_getElem? (i := 809) (by decide +kernel)), (List.mem_of_getElem? (i := 32) (by decide +kernel))⟩, TX8, 6, rfl⟩
theorem okV_X8_116 : tv_okV RX8 116 yX8_isWeaker cX8_isWeaker 5 (some .boolean) 3 8 := ⟨⟨Or.inl (List.mem_of_getElem? (i := 811) (by decide +kernel)), (List.mem_of_getElem? (i := 49) (by decide +kernel)), (List.mem_of_getElem? (i := 814) (by decide +kernel)), by decide +kernel, ⟨by decide +kernel, by decide +kernel, by decide +kernel⟩, (Nat.le_of_ble_eq_true rfl)⟩, ⟨(List.mem_of_getElem? (i := 813) (by decide +kernel)), (List.mem_of_getElem? (i := 33) (by decide +kernel))⟩, TX8, 6, rfl⟩
theorem okV_X8_119 : tv_okV RX8 119 yX8_holdsRound cX8_holdsRound 5 (some .int) 1 8 := ⟨⟨Or.inl (List.mem_of_getElem? (i := 795) (by decide +kernel)), (List.mem_of_getElem? (i := 49) (by decide +kernel)), (List.mem_of_getElem? (i := 798) (by decide +kernel)), by decide +kernel, ⟨by decide +kernel, by decide +kernel, by decide +kernel⟩, (Nat.le_of_ble_eq_true rfl)⟩, ⟨(List.mem_of_getElem? (i := 797) (by decide +kernel)), (List.mem_of_getElem? (i := 29) (by decide +kernel))⟩, TX8, 6, rfl⟩
theorem okV_X8_122 : tv_okV RX8 122 yX8_begins cX8_begins 4 none 1 8 := ⟨⟨Or.inl (List.mem_of_getElem? (i := 815) (by decide +kernel)), (List.mem_of_getElem? (i := 49) (by decide +kernel)), (List.mem_of_getElem? (i := 818) (by decide +kernel)), by decide +kernel, ⟨by decide +kernel, by decide +kernel, by decide +kernel⟩, (Nat.le_of_ble_eq_true rfl)⟩, ⟨(List.mem_of_getElem? (i := 817) (by decide +kernel)), (List.mem_of_getElem? (i := 34) (by decide +kernel))⟩, TX8, 6, rfl⟩
theorem okV_X8_125 : tv_okV RX8 125 yX8_isTerm cX8_isTerm 2 (some .boolean) 1 8 := ⟨⟨Or.inl (List.mem_of_getElem? (i := 851) (by decide +kernel)), (List.mem_of_getElem? (i := 49) (by decide +kernel)), (List.mem_of_getElem? (i := 854) (by decide +kernel)), by decide +kernel, ⟨by decide +kernel, by decide +kernel, by decide +kernel⟩, (Nat.le_of_ble_eq_true rfl)⟩, ⟨(List.mem_of_getElem? (i := 853) (by decide +kernel)), (List.mem_of_getElem? (i := 35) (by decide +kernel))⟩, TX8, 6, rfl⟩
theorem okV_X8_128 : tv_okV RX8 128 yX8_toldOf cX8_toldOf 3 (some .int) 2 8 := ⟨⟨Or.inl (List.mem_of_getElem? (i := 859) (by decide +kernel)), (List.mem_of_getElem? (i := 49) (by decide +kernel)), (List.mem_of_getElem? (i := 862) (by decide +kernel)), by decide +kernel, ⟨by decide +kernel, by decide +kernel, by decide +kernel⟩, (Nat.le_of_ble_eq_true rfl)⟩, ⟨(List.mem_of_getElem? (i := 861) (by decide +kernel)), (List.mem_of_getElem? (i := 36) (by decide +kernel))⟩, TX8, 6, rfl⟩
theorem okV_X8_131 : tv_okV RX8 131 yX8_told cX8_told 3 (some .int) 2 8 := ⟨⟨Or.inl (List.mem_of_getElem? (i := 875) (by decide +kernel)), (List.mem_of_getElem? (i := 49) (by decide +kernel)), (List.mem_of_getElem? (i := 878) (by decide +kernel)), by decide +kernel, ⟨by decide +kernel, by decide +kernel, by decide +kernel⟩, (Nat.le_of_ble_eq_true rfl)⟩, ⟨(List.mem_of_getElem? (i := 877) (by decide +kernel)), (List.mem_of_getElem? (i := 37) (by decide +kernel))⟩, TX8, 6, rfl⟩
theorem okV_X8_34 : tv_okV RX8 34 yX8_grades cX8_grades 4 (some .int) 1 8 := ⟨⟨Or.inl (List.mem_of_getElem? (i := 730) (by decide +kernel)), (List.mem_of_getElem? (i := 49) (by decide +kernel)), (List.mem_of_getElem? (i := 733) (by decide +kernel)), by decide +kernel, ⟨by decide +kernel, by decide +kernel, by decide +kernel⟩, (Nat.le_of_ble_eq_true rfl)⟩, ⟨(List.mem_of_getElem? (i := 732) (by decide +kernel)), (List.mem_of_getElem? (i := 20) (by decide +kernel))⟩, TX8, 6, rfl⟩
theorem okV_X8_38 : tv_okV RX8 38 yX8_scoreOf cX8_scoreOf 5 (some .int) 1 8 := ⟨⟨Or.inl (List.mem_of_getElem? (i := 726) (by decide +kernel)), (List.mem_of_getElem? (i := 49) (by decide +kernel)), (List.mem_of_getElem? (i := 729) (by decide +kernel)), by decide +kernel, ⟨by decide +kernel, by decide +kernel, by decide +kernel⟩, (Nat.le_of_ble_eq_true rfl)⟩, ⟨(List.mem_of_getElem? (i := 728) (by decide +kernel)), (List.mem_of_getElem? (i := 19) (by decide +kernel))⟩, TX8, 6, rfl⟩
theorem okV_X8_41 : tv_okV RX8 41 yX8_isPresent cX8_isPresent 2 (some .boolean) 1 8 := ⟨⟨Or.inl (List.mem_of_getElem? (i := 703) (by decide +kernel)), (List.mem_of_getElem? (i := 49) (by decide +kernel)), (List.mem_of_getElem? (i := 706) (by decide +kernel)), by decide +kernel, ⟨by decide +kernel, by decide +kernel, by decide +kernel⟩, (Nat.le_of_ble_eq_true rfl)⟩, ⟨(List.mem_of_getElem? (i := 705) (by decide +kernel)), (List.mem_of_getElem? (i := 14) (by decide +kernel))⟩, TX8, 6, rfl⟩
theorem okV_X8_45 : tv_okV RX8 45 yX8_led cX8_led 4 (some .int) 1 8 := ⟨⟨Or.inl (List.mem_of_getElem? (i := 734) (by decide +kernel)), (List.mem_of_getElem? (i := 49) (by decide +kernel)), (List.mem_of_getElem? (i := 737) (by decide +kernel)), by decide +kernel, ⟨by decide +kernel, by decide +kernel, by decide +kernel⟩, (Nat.le_of_ble_eq_true rfl)⟩, ⟨(List.mem_of_getElem? (i := 736) (by decide +kernel)), (List.mem_of_getElem? (i := 21) (by decide +kernel))⟩, TX8, 6, rfl⟩
theorem okV_X8_48 : tv_okV RX8 48 yX8_reputation cX8_reputation 5 (some .int) 1 8 := ⟨⟨Or.inl (List.mem_of_getElem? (i := 722) (by decide +kernel)), (List.mem_of_getElem? (i := 49) (by decide +kernel)), (List.mem_of_getElem? (i := 725) (by decide +kernel)), by decide +kernel, ⟨by decide +kernel, by decide +kernel, by decide +kernel⟩, (Nat.le_of_ble_eq_true rfl)⟩, ⟨(List.mem_of_getElem? (i := 724) (by decide +kernel)), (List.mem_of_getElem? (i := 18) (by decide +kernel))⟩, TX8, 6, rfl⟩
theorem okV_X8_51 : tv_okV RX8 51 yX8_tells cX8_tells 4 none 2 8 := ⟨⟨Or.inl (List.mem_of_getElem? (i := 714) (by decide +kernel)), (List.mem_of_getElem? (i := 49) (by decide +kernel)), (List.mem_of_getElem? (i := 717) (by decide +kernel)), by decide +kernel, ⟨by decide +kernel, by decide +kernel, by decide +kernel⟩, (Nat.le_of_ble_eq_true rfl)⟩, ⟨(List.mem_of_getElem? (i := 716) (by decide +kernel)), (List.mem_of_getElem? (i := 16) (by decide +kernel))⟩, TX8, 6, rfl⟩
theorem okV_X8_55 : tv_okV RX8 55 yX8_appoints cX8_appoints 5 none 1 8 := ⟨⟨Or.inl (List.mem_of_getElem? (i := 718) (by decide +kernel)), (List.mem_of_getElem? (i := 49) (by decide +kernel)), (List.mem_of_getElem? (i := 721) (by decide +kernel)), by decide +kernel, ⟨by decide +kernel, by decide +kernel, by decide +kernel⟩, (Nat.le_of_ble_eq_true rfl)⟩, ⟨(List.mem_of_getElem? (i := 720) (by decide +kernel)), (List.mem_of_getElem? (i := 17) (by decide +kernel))⟩, TX8, 6, rfl⟩
theorem okV_X8_59 : tv_okV RX8 59 yX8_presentMany cX8_presentMany 3 (some .int) 0 8 := ⟨⟨Or.inl (List.mem_of_getElem? (i := 692) (by decide +kernel)), (List.mem_of_getElem? (i := 49) (by decide +kernel)), (List.mem_of_getElem? (i := 695) (by decide +kernel)), by decide +kernel, ⟨by decide +kernel, by decide +kernel, by decide +kernel⟩, (Nat.le_of_ble_eq_true rfl)⟩, ⟨(List.mem_of_getElem? (i := 694) (by decide +kernel)), (List.mem_of_getElem? (i := 12) (by decide +kernel))⟩, TX8, 6, rfl⟩
theorem okV_X8_63 : tv_okV RX8 63 yX8_signatures cX8_signatures 3 (some .int) 0 8 := ⟨⟨Or.inl (List.mem_of_getElem? (i := 699) (by decide +kernel)), (List.mem_of_getElem? (i := 49) (by decide +kernel)), (List.mem_of_getElem? (i := 702) (by decide +kernel)), by decide +kernel, ⟨by decide +kernel, by decide +kernel, by decide +kernel⟩, (Nat.le_of_ble_eq_true rfl)⟩, ⟨(List.mem_of_getElem? (i := 701) (by decide +kernel)), (List.mem_of_getElem? (i := 13) (by decide +kernel))⟩, TX8, 6, rfl⟩
theorem okV_X8_66 : tv_okV RX8 66 yX8_ends cX8_ends 5 none 1 8 := ⟨⟨Or.inl (List.mem_of_getElem? (i := 707) (by decide +kernel)), (List.mem_of_getElem? (i := 49) (by decide +kernel)), (List.mem_of_getElem? (i := 710) (by decide +kernel)), by decide +kernel, ⟨by decide +kernel, by decide +kernel, by decide +kernel⟩, (Nat.le_of_ble_eq_true rfl)⟩, ⟨(List.mem_of_getElem? (i := 709) (by decide +kernel)), (List.mem_of_getElem? (i := 15) (by decide +kernel))⟩, TX8, 6, rfl⟩
theorem okV_X8_73 : tv_okV RX8 73 yX8_act cX8_act 2 none 0 8 := ⟨⟨Or.inl (List.mem_of_getElem? (i := 684) (by decide +kernel)), (List.mem_of_getElem? (i := 49) (by decide +kernel)), (List.mem_of_getElem? (i := 687) (by decide +kernel)), by decide +kernel, ⟨by decide +kernel, by decide +kernel, by decide +kernel⟩, (Nat.le_of_ble_eq_true rfl)⟩, ⟨(List.mem_of_getElem? (i := 686) (by decide +kernel)), (List.mem_of_getElem? (i := 10) (by decide +kernel))⟩, TX8, 6, rfl⟩
theorem okV_X8_76 : tv_okV RX8 76 yX8_looks cX8_looks 3 none 0 8 := ⟨⟨Or.inl (List.mem_of_getElem? (i := 688) (by decide +kernel)), (List.mem_of_getElem? (i := 49) (by decide +kernel)), (List.mem_of_getElem? (i := 691) (by decide +kernel)), by decide +kernel, ⟨by decide +kernel, by decide +kernel, by decide +kernel⟩, (Nat.le_of_ble_eq_true rfl)⟩, ⟨(List.mem_of_getElem? (i := 690) (by decide +kernel)), (List.mem_of_getElem? (i := 11) (by decide +kernel))⟩, TX8, 6, rfl⟩
theorem okV_X8_79 : tv_okV RX8 79 yX8_strikes cX8_strikes 6 none 2 8 := ⟨⟨Or.inl (List.mem_of_getElem? (i := 754) (by decide +kernel)), (List.mem_of_getElem? (i := 49) (by decide +kernel)), (List.mem_of_getElem? (i := 757) (by decide +kernel)), by decide +kernel, ⟨by decide +kernel, by decide +kernel, by decide +kernel⟩, (Nat.le_of_ble_eq_true rfl)⟩, ⟨(List.mem_of_getElem? (i := 756) (by decide +kernel)), (List.mem_of_getElem? (i := 24) (by decide +kernel))⟩, TX8, 6, rfl⟩
theorem okV_X8_82 : tv_okV RX8 82 yX8_isMember cX8_isMember 2 (some .boolean) 1 8 := ⟨⟨Or.inl (List.mem_of_getElem? (i := 746) (by decide +kernel)), (List.mem_of_getElem? (i := 49) (by decide +kernel)), (List.mem_of_getElem? (i := 749) (by decide +kernel)), by decide +kernel, ⟨by decide +kernel, by decide +kernel, by decide +kernel⟩, (Nat.le_of_ble_eq_true rfl)⟩, ⟨(List.mem_of_getElem? (i := 748) (by decide +kernel)), (List.mem_of_getElem? (i := 22) (by decide +kernel))⟩, TX8, 6, rfl⟩
theorem okV_X8_85 : tv_okV RX8 85 yX8_leaves cX8_leaves 3 none 1 8 := ⟨⟨Or.inl (List.mem_of_getElem? (i := 750) (by decide +kernel)), (List.mem_of_getElem? (i := 49) (by decide +kernel)), (List.mem_of_getElem? (i := 753) (by decide +kernel)), by decide +kernel, ⟨by decide +kernel, by decide +kernel, by decide +kernel⟩, (Nat.le_of_ble_eq_true rfl)⟩, ⟨(List.mem_of_getElem? (i := 752) (by decide +kernel)), (List.mem_of_getElem? (i := 23) (by decide +kernel))⟩, TX8, 6, rfl⟩
theorem okV_X8_89 : tv_okV RX8 89 yX8_canLead cX8_canLead 4 (some .boolean) 1 8 := ⟨⟨Or.inl (List.mem_of_getElem? (i := 771) (by decide +kernel)), (List.mem_of_getElem? (i := 49) (by decide +kernel)), (List.mem_of_getElem? (i := 774) (by decide +kernel)), by decide +kernel, ⟨by decide +kernel, by decide +kernel, by decide +kernel⟩, (Nat.le_of_ble_eq_true rfl)⟩, ⟨(List.mem_of_getElem? (i := 773) (by decide +kernel)), (List.mem_of_getElem? (i := 25) (by decide +kernel))⟩, TX8, 6, rfl⟩
theorem okV_X8_92 : tv_okV RX8 92 yX8_candidates cX8_candidates 3 (some .int) 0 8 := ⟨⟨Or.inl (List.mem_of_getElem? (i := 775) (by decide +kernel)), (List.mem_of_getElem? (i := 49) (by decide +kernel)), (List.mem_of_getElem? (i := 778) (by decide +kernel)), by decide +kernel, ⟨by decide +kernel, by decide +kernel, by decide +kernel⟩, (Nat.le_of_ble_eq_true rfl)⟩, ⟨(List.mem_of_getElem? (i := 777) (by decide +kernel)), (List.mem_of_getElem? (i := 26) (by decide +kernel))⟩, TX8, 6, rfl⟩
theorem okV_X8_98 : tv_okV RX8 98 yX8_wrongAt cX8_wrongAt 4 (some .int) 0 8 := ⟨⟨Or.inl (List.mem_of_getElem? (i := 783) (by decide +kernel)), (List.mem_of_getElem? (i := 49) (by decide +kernel)), (List.mem_of_getElem? (i := 786) (by decide +kernel)), by decide +kernel, ⟨by decide +kernel, by decide +kernel, by decide +kernel⟩, (Nat.le_of_ble_eq_true rfl)⟩, ⟨(List.mem_of_getElem? (i := 785) (by decide +kernel)), (List.mem_of_getElem? (i := 27) (by decide +kernel))⟩, TX8, 6, rfl⟩
theorem okS_X0_19 : tv_okS RX0 19 yX7_has cX7_has 2 (some .boolean) 2 := ⟨⟨Or.inr ⟨"TermOffice", (List.mem_of_getElem? (i := 429) (by decide +kernel))⟩, (List.mem_of_getElem? (i := 39) (by decide +kernel)), (List.mem_of_getElem? (i := 341) (by decide +kernel)), by decide +kernel, ⟨by decide +kernel, by decide +kernel, by decide +kernel⟩, (Nat.le_of_ble_eq_true rfl)⟩, (List.mem_of_getElem? (i := 340) (by decide +kernel))⟩
theorem okS_X0_23 : tv_okS RX0 23 yX7_only cX7_only 1 (some .int) 1 := ⟨⟨Or.inr ⟨"TermOffice", (List.mem_of_getElem? (i := 430) (by decide +kernel))⟩, (List.mem_of_getElem? (i := 39) (by decide +kernel)), (List.mem_of_getElem? (i := 315) (by decide +kernel)), by decide +kernel, ⟨by decide +kernel, by decide +kernel, by decide +kernel⟩, (Nat.le_of_ble_eq_true rfl)⟩, (List.mem_of_getElem? (i := 314) (by decide +kernel))⟩
theorem okS_X2_15 : tv_okS RX2 15 yJ7_fill_53178 cJ7_fill_53178 4 none 2 := ⟨⟨Or.inl (List.mem_of_getElem? (i := 87) (by decide +kernel)), (List.mem_of_getElem? (i := 43) (by decide +kernel)), (List.mem_of_getElem? (i := 89) (by decide +kernel)), by decide +kernel, ⟨by decide +kernel, by decide +kernel, by decide +kernel⟩, (Nat.le_of_ble_eq_true rfl)⟩, (List.mem_of_getElem? (i := 88) (by decide +kernel))⟩
theorem okS_X2_44 : tv_okS RX2 44 yX7_only cX7_only 1 (some .int) 1 := ⟨⟨Or.inr ⟨"TermOffice", (List.mem_of_getElem? (i := 384) (by decide +kernel))⟩, (List.mem_of_getElem? (i := 39) (by decide +kernel)), (List.mem_of_getElem? (i := 315) (by decide +kernel)), by decide +kernel, ⟨by decide +kernel, by decide +kernel, by decide +kernel⟩, (Nat.le_of_ble_eq_true rfl)⟩, (List.mem_of_getElem? (i := 314) (by decide +kernel))⟩
theorem okS_X2_51 : tv_okS RX2 51 yX7_has cX7_has 2 (some .boolean) 2 := ⟨⟨Or.inr ⟨"TermOffice", (List.mem_of_getElem? (i := 473) (by decide +kernel))⟩, (List.mem_of_getElem? (i := 39) (by decide +kernel)), (List.mem_of_getElem? (i := 341) (by decide +kernel)), by decide +kernel, ⟨by decide +kernel, by decide +kernel, by decide +kernel⟩, (Nat.le_of_ble_eq_true rfl)⟩, (List.mem_of_getElem? (i := 340) (by decide +kernel))⟩
theorem okS_X4_25 : tv_okS RX4 25 yX7_has cX7_has 2 (some .boolean) 2 := ⟨⟨Or.inr ⟨"TermOffice", (List.mem_of_getElem? (i := 468) (by decide +kernel))⟩, (List.mem_of_getElem? (i := 39) (by decide +kernel)), (List.mem_of_getElem? (i := 341) (by decide +kernel)), by decide +kernel, ⟨by decide +kernel, by decide +kernel, by decide +kernel⟩, (Nat.le_of_ble_eq_true rfl)⟩, (List.mem_of_getElem? (i := 340) (by decide +kernel))⟩
theorem okS_X4_35 : tv_okS RX4 35 yJ6_bitCount_0f7a4 cJ6_bitCount_0f7a4 1 (some .int) 1 := ⟨⟨Or.inl (List.mem_of_getElem? (i := 478) (by decide +kernel)), (List.mem_of_getElem? (i := 51) (by decide +kernel)), (List.mem_of_getElem? (i := 309) (by decide +kernel)), by decide +kernel, ⟨by decide +kernel, by decide +kernel, by decide +kernel⟩, (Nat.le_of_ble_eq_true rfl)⟩, (List.mem_of_getElem? (i := 308) (by decide +kernel))⟩
theorem okS_X5_109 : tv_okS RX5 109 yJ6_bitCount_0f7a4 cJ6_bitCount_0f7a4 1 (some .int) 1 := ⟨⟨Or.inl (List.mem_of_getElem? (i := 307) (by decide +kernel)), (List.mem_of_getElem? (i := 51) (by decide +kernel)), (List.mem_of_getElem? (i := 309) (by decide +kernel)), by decide +kernel, ⟨by decide +kernel, by decide +kernel, by decide +kernel⟩, (Nat.le_of_ble_eq_true rfl)⟩, (List.mem_of_getElem? (i := 308) (by decide +kernel))⟩
theorem okS_X5_185 : tv_okS RX5 185 yX7_asNumber cX7_asNumber 1 (some .int) 1 := ⟨⟨Or.inr ⟨"TermOffice", (List.mem_of_getElem? (i := 602) (by decide +kernel))⟩, (List.mem_of_getElem? (i := 39) (by decide +kernel)), (List.mem_of_getElem? (i := 326) (by decide +kernel)), by decide +kernel, ⟨by decide +kernel, by decide +kernel, by decide +kernel⟩, (Nat.le_of_ble_eq_true rfl)⟩, (List.mem_of_getElem? (i := 325) (by decide +kernel))⟩
theorem okS_X5_87 : tv_okS RX5 87 yX7_has cX7_has 2 (some .boolean) 2 := ⟨⟨Or.inr ⟨"TermOffice", (List.mem_of_getElem? (i := 339) (by decide +kernel))⟩, (List.mem_of_getElem? (i := 39) (by decide +kernel)), (List.mem_of_getElem? (i := 341) (by decide +kernel)), by decide +kernel, ⟨by decide +kernel, by decide +kernel, by decide +kernel⟩, (Nat.le_of_ble_eq_true rfl)⟩, (List.mem_of_getElem? (i := 340) (by decide +kernel))⟩
theorem okS_X5_91 : tv_okS RX5 91 yX7_only cX7_only 1 (some .int) 1 := ⟨⟨Or.inr ⟨"TermOffice", (List.mem_of_getElem? (i := 313) (by decide +kernel))⟩, (List.mem_of_getElem? (i := 39) (by decide +kernel)), (List.mem_of_getElem? (i := 315) (by decide +kernel)), by decide +kernel, ⟨by decide +kernel, by decide +kernel, by decide +kernel⟩, (Nat.le_of_ble_eq_true rfl)⟩, (List.mem_of_getElem? (i := 314) (by decide +kernel))⟩
theorem okS_X6_40 : tv_okS RX6 40 yX6_copyRow cX6_copyRow 2 none 2 := ⟨⟨Or.inl (List.mem_of_getElem? (i := 287) (by decide +kernel)), (List.mem_of_getElem? (i := 45) (by decide +kernel)), (List.mem_of_getElem? (i := 289) (by decide +kernel)), by decide +kernel, ⟨by decide +kernel, by decide +kernel, by decide +kernel⟩, (Nat.le_of_ble_eq_true rfl)⟩, (List.mem_of_getElem? (i := 288) (by decide +kernel))⟩
theorem okS_X6_50 : tv_okS RX6 50 yX7_asNumber cX7_asNumber 1 (some .int) 1 := ⟨⟨Or.inr ⟨"TermOffice", (List.mem_of_getElem? (i := 324) (by decide +kernel))⟩, (List.mem_of_getElem? (i := 39) (by decide +kernel)), (List.mem_of_getElem? (i := 326) (by decide +kernel)), by decide +kernel, ⟨by decide +kernel, by decide +kernel, by decide +kernel⟩, (Nat.le_of_ble_eq_true rfl)⟩, (List.mem_of_getElem? (i := 325) (by decide +kernel))⟩
theorem okS_X6_58 : tv_okS RX6 58 yX7_has cX7_has 2 (some .boolean) 2 := ⟨⟨Or.inr ⟨"TermOffice", (List.mem_of_getElem? (i := 563) (by decide +kernel))⟩, (List.mem_of_getElem? (i := 39) (by decide +kernel)), (List.mem_of_getElem? (i := 341) (by decide +kernel)), by decide +kernel, ⟨by decide +kernel, by decide +kernel, by decide +kernel⟩, (Nat.le_of_ble_eq_true rfl)⟩, (List.mem_of_getElem? (i := 340) (by decide +kernel))⟩
theorem okS_X7_108 : tv_okS RX7 108 yX7_has cX7_has 2 (some .boolean) 2 := ⟨⟨Or.inl (List.mem_of_getElem? (i := 410) (by decide +kernel)), (List.mem_of_getElem? (i := 39) (by decide +kernel)), (List.mem_of_getElem? (i := 341) (by decide +kernel)), by decide +kernel, ⟨by decide +kernel, by decide +kernel, by decide +kernel⟩, (Nat.le_of_ble_eq_true rfl)⟩, (List.mem_of_getElem? (i := 340) (by decide +kernel))⟩
theorem okS_X7_115 : tv_okS RX7 115 yJ6_bitCount_0f7a4 cJ6_bitCount_0f7a4 1 (some .int) 1 := ⟨⟨Or.inl (List.mem_of_getElem? (i := 420) (by decide +kernel)), (List.mem_of_getElem? (i := 51) (by decide +kernel)), (List.mem_of_getElem? (i := 309) (by decide +kernel)), by decide +kernel, ⟨by decide +kernel, by decide +kernel, by decide +kernel⟩, (Nat.le_of_ble_eq_true rfl)⟩, (List.mem_of_getElem? (i := 308) (by decide +kernel))⟩
theorem okS_X7_211 : tv_okS RX7 211 yX7_mixed cX7_mixed 3 (some .long) 2 := ⟨⟨Or.inl (List.mem_of_getElem? (i := 645) (by decide +kernel)), (List.mem_of_getElem? (i := 39) (by decide +kernel)), (List.mem_of_getElem? (i := 647) (by decide +kernel)), by decide +kernel, ⟨by decide +kernel, by decide +kernel, by decide +kernel⟩, (Nat.le_of_ble_eq_true rfl)⟩, (List.mem_of_getElem? (i := 646) (by decide +kernel))⟩
theorem okS_X7_62 : tv_okS RX7 62 yX7_asNumber cX7_asNumber 1 (some .int) 1 := ⟨⟨Or.inl (List.mem_of_getElem? (i := 374) (by decide +kernel)), (List.mem_of_getElem? (i := 39) (by decide +kernel)), (List.mem_of_getElem? (i := 326) (by decide +kernel)), by decide +kernel, ⟨by decide +kernel, by decide +kernel, by decide +kernel⟩, (Nat.le_of_ble_eq_true rfl)⟩, (List.mem_of_getElem? (i := 325) (by decide +kernel))⟩
theorem okS_X7_69 : tv_okS RX7 69 yX7_only cX7_only 1 (some .int) 1 := ⟨⟨Or.inl (List.mem_of_getElem? (i := 375) (by decide +kernel)), (List.mem_of_getElem? (i := 39) (by decide +kernel)), (List.mem_of_getElem? (i := 315) (by decide +kernel)), by decide +kernel, ⟨by decide +kernel, by decide +kernel, by decide +kernel⟩, (Nat.le_of_ble_eq_true rfl)⟩, (List.mem_of_getElem? (i := 314) (by decide +kernel))⟩
theorem okS_X8_23 : tv_okS RX8 23 yX8_in cX8_in 3 (some .boolean) 3 := ⟨⟨Or.inl (List.mem_of_getElem? (i := 681) (by decide +kernel)), (List.mem_of_getElem? (i := 49) (by decide +kernel)), (List.mem_of_getElem? (i := 683) (by decide +kernel)), by decide +kernel, ⟨by decide +kernel, by decide +kernel, by decide +kernel⟩, (Nat.le_of_ble_eq_true rfl)⟩, (List.mem_of_getElem? (i := 682) (by decide +kernel))⟩
theorem okS_X8_27 : tv_okS RX8 27 yX8_at cX8_at 2 (some .int) 2 := ⟨⟨Or.inl (List.mem_of_getElem? (i := 696) (by decide +kernel)), (List.mem_of_getElem? (i := 49) (by decide +kernel)), (List.mem_of_getElem? (i := 698) (by decide +kernel)), by decide +kernel, ⟨by decide +kernel, by decide +kernel, by decide +kernel⟩, (Nat.le_of_ble_eq_true rfl)⟩, (List.mem_of_getElem? (i := 697) (by decide +kernel))⟩
theorem okS_X8_31 : tv_okS RX8 31 yX8_of cX8_of 2 (some .int) 2 := ⟨⟨Or.inl (List.mem_of_getElem? (i := 711) (by decide +kernel)), (List.mem_of_getElem? (i := 49) (by decide +kernel)), (List.mem_of_getElem? (i := 713) (by decide +kernel)), by decide +kernel, ⟨by decide +kernel, by decide +kernel, by decide +kernel⟩, (Nat.le_of_ble_eq_true rfl)⟩, (List.mem_of_getElem? (i := 712) (by decide +kernel))⟩
theorem okS_X8_69 : tv_okS RX8 69 yX8_isIn cX8_isIn 2 (some .boolean) 2 := ⟨⟨Or.inl (List.mem_of_getElem? (i := 678) (by decide +kernel)), (List.mem_of_getElem? (i := 49) (by decide +kernel)), (List.mem_of_getElem? (i := 680) (by decide +kernel)), by decide +kernel, ⟨by decide +kernel, by decide +kernel, by decide +kernel⟩, (Nat.le_of_ble_eq_true rfl)⟩, (List.mem_of_getElem? (i := 679) (by decide +kernel))⟩
theorem kc_X7_209 : Cond.constantLong RX7 209 83 ∈ lw_tbl := (List.mem_of_getElem? (i := 644) (by decide +kernel))
theorem kc_X7_215 : Cond.constantLong RX7 215 31 ∈ lw_tbl := (List.mem_of_getElem? (i := 648) (by decide +kernel))
theorem kc_X7_79 : Cond.constant RX7 79 1000000 ∈ lw_tbl := (List.mem_of_getElem? (i := 393) (by decide +kernel))
theorem kc_X8_134 : Cond.constantLong RX8 134 31 ∈ lw_tbl := (List.mem_of_getElem? (i := 907) (by decide +kernel))
theorem kc_X8_136 : Cond.constantLong RX8 136 2573 ∈ lw_tbl := (List.mem_of_getElem? (i := 908) (by decide +kernel))
theorem kc_X8_88 : Cond.constant RX8 88 1000000 ∈ lw_tbl := (List.mem_of_getElem? (i := 762) (by decide +kernel))
theorem wc_X1_25 : Cond.methodLink RX1 25 arraycopyName ∈ lw_tbl := (List.mem_of_getElem? (i := 295) (by decide +kernel))
theorem wc_X2_29 : Cond.methodLink RX2 29 arraycopyName ∈ lw_tbl := (List.mem_of_getElem? (i := 277) (by decide +kernel))
theorem wc_X3_29 : Cond.methodLink RX3 29 Lib.Math.min.name ∈ lw_tbl := (List.mem_of_getElem? (i := 296) (by decide +kernel))
theorem wc_X4_19 : Cond.methodLink RX4 19 arraycopyName ∈ lw_tbl := (List.mem_of_getElem? (i := 282) (by decide +kernel))
theorem wc_X5_56 : Cond.methodLink RX5 56 arraycopyName ∈ lw_tbl := (List.mem_of_getElem? (i := 175) (by decide +kernel))
theorem wc_X6_44 : Cond.methodLink RX6 44 arraycopyName ∈ lw_tbl := (List.mem_of_getElem? (i := 290) (by decide +kernel))
theorem wc_native : Cond.native arraycopyName ∈ lw_tbl := (List.mem_of_getElem? (i := 177) (by decide +kernel))
theorem wc_static : Cond.static arraycopyName ∈ lw_tbl := (List.mem_of_getElem? (i := 176) (by decide +kernel))
theorem wc_init : Cond.initialized "java/lang/System" ∈ lw_tbl := (List.mem_of_getElem? (i := 47) (by decide +kernel))
theorem wm_static : Cond.static Lib.Math.min.name ∈ lw_tbl := (List.mem_of_getElem? (i := 297) (by decide +kernel))
theorem wm_init : Cond.initialized "java/lang/Math" ∈ lw_tbl := (List.mem_of_getElem? (i := 50) (by decide +kernel))
theorem wm_code : Cond.code Lib.Math.min.name Lib.Math.min.code 2 (some .int) ∈ lw_tbl := (List.mem_of_getElem? (i := 298) (by decide +kernel))
/-! ===== the cells of both sides ===== -/
def tv_St (b : Nat) (si : Nat → Int32) (sa : Nat → Nat → Int32) : tv_Hp := [
  .inr (.inr (5, [.ref (b + 1), .int (si 0), .int (si 1), .ref (b + 2), .int (si 2), .int (si 3), .int (si 4), .int (si 5), .ref (b + 3), .ref (b + 5), .ref (b + 7), .ref (b + 16)])),
  .inl (6, sa 0), .inl (10, sa 1),
  .inr (.inr (2, [.int (si 6), .int (si 7), .ref (b + 4)])), .inl (100, sa 2),
  .inr (.inr (4, [.int (si 8), .ref (b + 6)])), .inl (100, sa 3),
  .inr (.inr (6, [.int (si 9), .ref (b + 8), .ref (b + 9), .ref (b + 10), .ref (b + 11), .ref (b + 12), .ref (b + 13), .ref (b + 14), .ref (b + 15)])),
  .inl (41, sa 4), .inl (41, sa 5), .inl (41, sa 6), .inl (41, sa 7), .inl (41, sa 8), .inl (41, sa 9), .inl (41, sa 10), .inl (410, sa 11),
  .inr (.inr (1, [.int (si 10), .ref (b + 17), .ref (b + 18), .ref (b + 19)])),
  .inl (20, sa 12), .inl (20, sa 13), .inl (20, sa 14)]
def tv_hst : Nat → Option Nat := fun i => if i < 5 then some (25 + 20 * i) else none
def HP (si : Nat → Int32) (sa : Nat → Nat → Int32) (hs : Nat → (Nat → Int32) × (Nat → Nat → Int32)) (tx : Nat → Int32) (tl hc hn : Int32) (v pa mt : Nat → Int32) (pm ty ra : Int32) : tv_Hp :=
  [.inr (.inr (7, [.ref 1, .ref 3, .ref 23])), .inr (.inr (0, [.ref 2, .int tl])), .inl (40, tx)] ++ (tv_St 3 si sa ++ ([.inr (.inr (3, [.ref 24, .int hc, .int hn])), .inr (.inl (5, tv_hst))] ++ (tv_St 25 (hs 0).1 (hs 0).2 ++ (tv_St 45 (hs 1).1 (hs 1).2 ++ (tv_St 65 (hs 2).1 (hs 2).2 ++ (tv_St 85 (hs 3).1 (hs 3).2 ++ (tv_St 105 (hs 4).1 (hs 4).2 ++
  [.inr (.inr (8, [.ref 126, .ref 127, .int pm, .ref 128, .int ty, .int ra])), .inl (1100, v), .inl (5500, pa), .inl (40, mt)])))))))
section TVHP
variable {si : Nat → Int32} {sa : Nat → Nat → Int32} {hs : Nat → (Nat → Int32) × (Nat → Nat → Int32)} {tx : Nat → Int32} {tl hc hn : Int32} {v pa mt : Nat → Int32} {pm ty ra : Int32} {dI : Nat → Int32} {dA : Nat → Nat → Int32}
set_option maxRecDepth 100000 in
theorem HPg_0 : (HP si sa hs tx tl hc hn v pa mt pm ty ra)[0]? = some (.inr (.inr (7, [.ref 1, .ref 3, .ref 23]))) := rfl
set_option maxRecDepth 100000 in
theorem HPg_1 : (HP si sa hs tx tl hc hn v pa mt pm ty ra)[1]? = some (.inr (.inr (0, [.ref 2, .int tl]))) := rfl
set_option maxRecDepth 100000 in
theorem HPg_10 : (HP si sa hs tx tl hc hn v pa mt pm ty ra)[10]? = some (.inr (.inr (6, [.int (si 9), .ref 11, .ref 12, .ref 13, .ref 14, .ref 15, .ref 16, .ref 17, .ref 18]))) := rfl
set_option maxRecDepth 100000 in
theorem HPg_11 : (HP si sa hs tx tl hc hn v pa mt pm ty ra)[11]? = some (.inl (41, (sa 4))) := rfl
set_option maxRecDepth 100000 in
theorem HPg_12 : (HP si sa hs tx tl hc hn v pa mt pm ty ra)[12]? = some (.inl (41, (sa 5))) := rfl
set_option maxRecDepth 100000 in
theorem HPg_125 : (HP si sa hs tx tl hc hn v pa mt pm ty ra)[125]? = some (.inr (.inr (8, [.ref 126, .ref 127, .int pm, .ref 128, .int ty, .int ra]))) := rfl
set_option maxRecDepth 100000 in
theorem HPg_126 : (HP si sa hs tx tl hc hn v pa mt pm ty ra)[126]? = some (.inl (1100, v)) := rfl
set_option maxRecDepth 100000 in
theorem HPg_127 : (HP si sa hs tx tl hc hn v pa mt pm ty ra)[127]? = some (.inl (5500, pa)) := rfl
set_option maxRecDepth 100000 in
theorem HPg_128 : (HP si sa hs tx tl hc hn v pa mt pm ty ra)[128]? = some (.inl (40, mt)) := rfl
set_option maxRecDepth 100000 in
theorem HPg_13 : (HP si sa hs tx tl hc hn v pa mt pm ty ra)[13]? = some (.inl (41, (sa 6))) := rfl
set_option maxRecDepth 100000 in
theorem HPg_14 : (HP si sa hs tx tl hc hn v pa mt pm ty ra)[14]? = some (.inl (41, (sa 7))) := rfl
set_option maxRecDepth 100000 in
theorem HPg_15 : (HP si sa hs tx tl hc hn v pa mt pm ty ra)[15]? = some (.inl (41, (sa 8))) := rfl
set_option maxRecDepth 100000 in
theorem HPg_16 : (HP si sa hs tx tl hc hn v pa mt pm ty ra)[16]? = some (.inl (41, (sa 9))) := rfl
set_option maxRecDepth 100000 in
theorem HPg_17 : (HP si sa hs tx tl hc hn v pa mt pm ty ra)[17]? = some (.inl (41, (sa 10))) := rfl
set_option maxRecDepth 100000 in
theorem HPg_18 : (HP si sa hs tx tl hc hn v pa mt pm ty ra)[18]? = some (.inl (410, (sa 11))) := rfl
set_option maxRecDepth 100000 in
theorem HPg_19 : (HP si sa hs tx tl hc hn v pa mt pm ty ra)[19]? = some (.inr (.inr (1, [.int (si 10), .ref 20, .ref 21, .ref 22]))) := rfl
set_option maxRecDepth 100000 in
theorem HPg_2 : (HP si sa hs tx tl hc hn v pa mt pm ty ra)[2]? = some (.inl (40, tx)) := rfl
set_option maxRecDepth 100000 in
theorem HPg_20 : (HP si sa hs tx tl hc hn v pa mt pm ty ra)[20]? = some (.inl (20, (sa 12))) := rfl
set_option maxRecDepth 100000 in
theorem HPg_21 : (HP si sa hs tx tl hc hn v pa mt pm ty ra)[21]? = some (.inl (20, (sa 13))) := rfl
set_option maxRecDepth 100000 in
theorem HPg_22 : (HP si sa hs tx tl hc hn v pa mt pm ty ra)[22]? = some (.inl (20, (sa 14))) := rfl
set_option maxRecDepth 100000 in
theorem HPg_23 : (HP si sa hs tx tl hc hn v pa mt pm ty ra)[23]? = some (.inr (.inr (3, [.ref 24, .int hc, .int hn]))) := rfl
set_option maxRecDepth 100000 in
theorem HPg_24 : (HP si sa hs tx tl hc hn v pa mt pm ty ra)[24]? = some (.inr (.inl (5, tv_hst))) := rfl
set_option maxRecDepth 100000 in
theorem HPg_3 : (HP si sa hs tx tl hc hn v pa mt pm ty ra)[3]? = some (.inr (.inr (5, [.ref 4, .int (si 0), .int (si 1), .ref 5, .int (si 2), .int (si 3), .int (si 4), .int (si 5), .ref 6, .ref 8, .ref 10, .ref 19]))) := rfl
set_option maxRecDepth 100000 in
theorem HPg_4 : (HP si sa hs tx tl hc hn v pa mt pm ty ra)[4]? = some (.inl (6, (sa 0))) := rfl
set_option maxRecDepth 100000 in
theorem HPg_5 : (HP si sa hs tx tl hc hn v pa mt pm ty ra)[5]? = some (.inl (10, (sa 1))) := rfl
set_option maxRecDepth 100000 in
theorem HPg_6 : (HP si sa hs tx tl hc hn v pa mt pm ty ra)[6]? = some (.inr (.inr (2, [.int (si 6), .int (si 7), .ref 7]))) := rfl
set_option maxRecDepth 100000 in
theorem HPg_7 : (HP si sa hs tx tl hc hn v pa mt pm ty ra)[7]? = some (.inl (100, (sa 2))) := rfl
set_option maxRecDepth 100000 in
theorem HPg_8 : (HP si sa hs tx tl hc hn v pa mt pm ty ra)[8]? = some (.inr (.inr (4, [.int (si 8), .ref 9]))) := rfl
set_option maxRecDepth 100000 in
theorem HPg_9 : (HP si sa hs tx tl hc hn v pa mt pm ty ra)[9]? = some (.inl (100, (sa 3))) := rfl
set_option maxRecDepth 100000 in
theorem HPf_0_0 : (HP si sa hs tx tl hc hn v pa mt pm ty ra)[25]? = some (.inr (.inr (5, [.ref 26, .int ((hs 0).1 0), .int ((hs 0).1 1), .ref 27, .int ((hs 0).1 2), .int ((hs 0).1 3), .int ((hs 0).1 4), .int ((hs 0).1 5), .ref 28, .ref 30, .ref 32, .ref 41]))) := rfl
set_option maxRecDepth 100000 in
theorem HPf_0_1 : (HP si sa hs tx tl hc hn v pa mt pm ty ra)[26]? = some (.inl (6, ((hs 0).2 0))) := rfl
set_option maxRecDepth 100000 in
theorem HPf_0_2 : (HP si sa hs tx tl hc hn v pa mt pm ty ra)[27]? = some (.inl (10, ((hs 0).2 1))) := rfl
set_option maxRecDepth 100000 in
theorem HPf_0_3 : (HP si sa hs tx tl hc hn v pa mt pm ty ra)[28]? = some (.inr (.inr (2, [.int ((hs 0).1 6), .int ((hs 0).1 7), .ref 29]))) := rfl
set_option maxRecDepth 100000 in
theorem HPf_0_4 : (HP si sa hs tx tl hc hn v pa mt pm ty ra)[29]? = some (.inl (100, ((hs 0).2 2))) := rfl
set_option maxRecDepth 100000 in
theorem HPf_0_5 : (HP si sa hs tx tl hc hn v pa mt pm ty ra)[30]? = some (.inr (.inr (4, [.int ((hs 0).1 8), .ref 31]))) := rfl
set_option maxRecDepth 100000 in
theorem HPf_0_6 : (HP si sa hs tx tl hc hn v pa mt pm ty ra)[31]? = some (.inl (100, ((hs 0).2 3))) := rfl
set_option maxRecDepth 100000 in
theorem HPf_0_7 : (HP si sa hs tx tl hc hn v pa mt pm ty ra)[32]? = some (.inr (.inr (6, [.int ((hs 0).1 9), .ref 33, .ref 34, .ref 35, .ref 36, .ref 37, .ref 38, .ref 39, .ref 40]))) := rfl
set_option maxRecDepth 100000 in
theorem HPf_0_8 : (HP si sa hs tx tl hc hn v pa mt pm ty ra)[33]? = some (.inl (41, ((hs 0).2 4))) := rfl
set_option maxRecDepth 100000 in
theorem HPf_0_9 : (HP si sa hs tx tl hc hn v pa mt pm ty ra)[34]? = some (.inl (41, ((hs 0).2 5))) := rfl
set_option maxRecDepth 100000 in
theorem HPf_0_10 : (HP si sa hs tx tl hc hn v pa mt pm ty ra)[35]? = some (.inl (41, ((hs 0).2 6))) := rfl
set_option maxRecDepth 100000 in
theorem HPf_0_11 : (HP si sa hs tx tl hc hn v pa mt pm ty ra)[36]? = some (.inl (41, ((hs 0).2 7))) := rfl
set_option maxRecDepth 100000 in
theorem HPf_0_12 : (HP si sa hs tx tl hc hn v pa mt pm ty ra)[37]? = some (.inl (41, ((hs 0).2 8))) := rfl
set_option maxRecDepth 100000 in
theorem HPf_0_13 : (HP si sa hs tx tl hc hn v pa mt pm ty ra)[38]? = some (.inl (41, ((hs 0).2 9))) := rfl
set_option maxRecDepth 100000 in
theorem HPf_0_14 : (HP si sa hs tx tl hc hn v pa mt pm ty ra)[39]? = some (.inl (41, ((hs 0).2 10))) := rfl
set_option maxRecDepth 100000 in
theorem HPf_0_15 : (HP si sa hs tx tl hc hn v pa mt pm ty ra)[40]? = some (.inl (410, ((hs 0).2 11))) := rfl
set_option maxRecDepth 100000 in
theorem HPf_0_16 : (HP si sa hs tx tl hc hn v pa mt pm ty ra)[41]? = some (.inr (.inr (1, [.int ((hs 0).1 10), .ref 42, .ref 43, .ref 44]))) := rfl
set_option maxRecDepth 100000 in
theorem HPf_0_17 : (HP si sa hs tx tl hc hn v pa mt pm ty ra)[42]? = some (.inl (20, ((hs 0).2 12))) := rfl
set_option maxRecDepth 100000 in
theorem HPf_0_18 : (HP si sa hs tx tl hc hn v pa mt pm ty ra)[43]? = some (.inl (20, ((hs 0).2 13))) := rfl
set_option maxRecDepth 100000 in
theorem HPf_0_19 : (HP si sa hs tx tl hc hn v pa mt pm ty ra)[44]? = some (.inl (20, ((hs 0).2 14))) := rfl
set_option maxRecDepth 100000 in
theorem HPf_1_0 : (HP si sa hs tx tl hc hn v pa mt pm ty ra)[45]? = some (.inr (.inr (5, [.ref 46, .int ((hs 1).1 0), .int ((hs 1).1 1), .ref 47, .int ((hs 1).1 2), .int ((hs 1).1 3), .int ((hs 1).1 4), .int ((hs 1).1 5), .ref 48, .ref 50, .ref 52, .ref 61]))) := rfl
set_option maxRecDepth 100000 in
theorem HPf_1_1 : (HP si sa hs tx tl hc hn v pa mt pm ty ra)[46]? = some (.inl (6, ((hs 1).2 0))) := rfl
set_option maxRecDepth 100000 in
theorem HPf_1_2 : (HP si sa hs tx tl hc hn v pa mt pm ty ra)[47]? = some (.inl (10, ((hs 1).2 1))) := rfl
set_option maxRecDepth 100000 in
theorem HPf_1_3 : (HP si sa hs tx tl hc hn v pa mt pm ty ra)[48]? = some (.inr (.inr (2, [.int ((hs 1).1 6), .int ((hs 1).1 7), .ref 49]))) := rfl
set_option maxRecDepth 100000 in
theorem HPf_1_4 : (HP si sa hs tx tl hc hn v pa mt pm ty ra)[49]? = some (.inl (100, ((hs 1).2 2))) := rfl
set_option maxRecDepth 100000 in
theorem HPf_1_5 : (HP si sa hs tx tl hc hn v pa mt pm ty ra)[50]? = some (.inr (.inr (4, [.int ((hs 1).1 8), .ref 51]))) := rfl
set_option maxRecDepth 100000 in
theorem HPf_1_6 : (HP si sa hs tx tl hc hn v pa mt pm ty ra)[51]? = some (.inl (100, ((hs 1).2 3))) := rfl
set_option maxRecDepth 100000 in
theorem HPf_1_7 : (HP si sa hs tx tl hc hn v pa mt pm ty ra)[52]? = some (.inr (.inr (6, [.int ((hs 1).1 9), .ref 53, .ref 54, .ref 55, .ref 56, .ref 57, .ref 58, .ref 59, .ref 60]))) := rfl
set_option maxRecDepth 100000 in
theorem HPf_1_8 : (HP si sa hs tx tl hc hn v pa mt pm ty ra)[53]? = some (.inl (41, ((hs 1).2 4))) := rfl
set_option maxRecDepth 100000 in
theorem HPf_1_9 : (HP si sa hs tx tl hc hn v pa mt pm ty ra)[54]? = some (.inl (41, ((hs 1).2 5))) := rfl
set_option maxRecDepth 100000 in
theorem HPf_1_10 : (HP si sa hs tx tl hc hn v pa mt pm ty ra)[55]? = some (.inl (41, ((hs 1).2 6))) := rfl
set_option maxRecDepth 100000 in
theorem HPf_1_11 : (HP si sa hs tx tl hc hn v pa mt pm ty ra)[56]? = some (.inl (41, ((hs 1).2 7))) := rfl
set_option maxRecDepth 100000 in
theorem HPf_1_12 : (HP si sa hs tx tl hc hn v pa mt pm ty ra)[57]? = some (.inl (41, ((hs 1).2 8))) := rfl
set_option maxRecDepth 100000 in
theorem HPf_1_13 : (HP si sa hs tx tl hc hn v pa mt pm ty ra)[58]? = some (.inl (41, ((hs 1).2 9))) := rfl
set_option maxRecDepth 100000 in
theorem HPf_1_14 : (HP si sa hs tx tl hc hn v pa mt pm ty ra)[59]? = some (.inl (41, ((hs 1).2 10))) := rfl
set_option maxRecDepth 100000 in
theorem HPf_1_15 : (HP si sa hs tx tl hc hn v pa mt pm ty ra)[60]? = some (.inl (410, ((hs 1).2 11))) := rfl
set_option maxRecDepth 100000 in
theorem HPf_1_16 : (HP si sa hs tx tl hc hn v pa mt pm ty ra)[61]? = some (.inr (.inr (1, [.int ((hs 1).1 10), .ref 62, .ref 63, .ref 64]))) := rfl
set_option maxRecDepth 100000 in
theorem HPf_1_17 : (HP si sa hs tx tl hc hn v pa mt pm ty ra)[62]? = some (.inl (20, ((hs 1).2 12))) := rfl
set_option maxRecDepth 100000 in
theorem HPf_1_18 : (HP si sa hs tx tl hc hn v pa mt pm ty ra)[63]? = some (.inl (20, ((hs 1).2 13))) := rfl
set_option maxRecDepth 100000 in
theorem HPf_1_19 : (HP si sa hs tx tl hc hn v pa mt pm ty ra)[64]? = some (.inl (20, ((hs 1).2 14))) := rfl
set_option maxRecDepth 100000 in
theorem HPf_2_0 : (HP si sa hs tx tl hc hn v pa mt pm ty ra)[65]? = some (.inr (.inr (5, [.ref 66, .int ((hs 2).1 0), .int ((hs 2).1 1), .ref 67, .int ((hs 2).1 2), .int ((hs 2).1 3), .int ((hs 2).1 4), .int ((hs 2).1 5), .ref 68, .ref 70, .ref 72, .ref 81]))) := rfl
set_option maxRecDepth 100000 in
theorem HPf_2_1 : (HP si sa hs tx tl hc hn v pa mt pm ty ra)[66]? = some (.inl (6, ((hs 2).2 0))) := rfl
set_option maxRecDepth 100000 in
theorem HPf_2_2 : (HP si sa hs tx tl hc hn v pa mt pm ty ra)[67]? = some (.inl (10, ((hs 2).2 1))) := rfl
set_option maxRecDepth 100000 in
theorem HPf_2_3 : (HP si sa hs tx tl hc hn v pa mt pm ty ra)[68]? = some (.inr (.inr (2, [.int ((hs 2).1 6), .int ((hs 2).1 7), .ref 69]))) := rfl
set_option maxRecDepth 100000 in
theorem HPf_2_4 : (HP si sa hs tx tl hc hn v pa mt pm ty ra)[69]? = some (.inl (100, ((hs 2).2 2))) := rfl
set_option maxRecDepth 100000 in
theorem HPf_2_5 : (HP si sa hs tx tl hc hn v pa mt pm ty ra)[70]? = some (.inr (.inr (4, [.int ((hs 2).1 8), .ref 71]))) := rfl
set_option maxRecDepth 100000 in
theorem HPf_2_6 : (HP si sa hs tx tl hc hn v pa mt pm ty ra)[71]? = some (.inl (100, ((hs 2).2 3))) := rfl
set_option maxRecDepth 100000 in
theorem HPf_2_7 : (HP si sa hs tx tl hc hn v pa mt pm ty ra)[72]? = some (.inr (.inr (6, [.int ((hs 2).1 9), .ref 73, .ref 74, .ref 75, .ref 76, .ref 77, .ref 78, .ref 79, .ref 80]))) := rfl
set_option maxRecDepth 100000 in
theorem HPf_2_8 : (HP si sa hs tx tl hc hn v pa mt pm ty ra)[73]? = some (.inl (41, ((hs 2).2 4))) := rfl
set_option maxRecDepth 100000 in
theorem HPf_2_9 : (HP si sa hs tx tl hc hn v pa mt pm ty ra)[74]? = some (.inl (41, ((hs 2).2 5))) := rfl
set_option maxRecDepth 100000 in
theorem HPf_2_10 : (HP si sa hs tx tl hc hn v pa mt pm ty ra)[75]? = some (.inl (41, ((hs 2).2 6))) := rfl
set_option maxRecDepth 100000 in
theorem HPf_2_11 : (HP si sa hs tx tl hc hn v pa mt pm ty ra)[76]? = some (.inl (41, ((hs 2).2 7))) := rfl
set_option maxRecDepth 100000 in
theorem HPf_2_12 : (HP si sa hs tx tl hc hn v pa mt pm ty ra)[77]? = some (.inl (41, ((hs 2).2 8))) := rfl
set_option maxRecDepth 100000 in
theorem HPf_2_13 : (HP si sa hs tx tl hc hn v pa mt pm ty ra)[78]? = some (.inl (41, ((hs 2).2 9))) := rfl
set_option maxRecDepth 100000 in
theorem HPf_2_14 : (HP si sa hs tx tl hc hn v pa mt pm ty ra)[79]? = some (.inl (41, ((hs 2).2 10))) := rfl
set_option maxRecDepth 100000 in
theorem HPf_2_15 : (HP si sa hs tx tl hc hn v pa mt pm ty ra)[80]? = some (.inl (410, ((hs 2).2 11))) := rfl
set_option maxRecDepth 100000 in
theorem HPf_2_16 : (HP si sa hs tx tl hc hn v pa mt pm ty ra)[81]? = some (.inr (.inr (1, [.int ((hs 2).1 10), .ref 82, .ref 83, .ref 84]))) := rfl
set_option maxRecDepth 100000 in
theorem HPf_2_17 : (HP si sa hs tx tl hc hn v pa mt pm ty ra)[82]? = some (.inl (20, ((hs 2).2 12))) := rfl
set_option maxRecDepth 100000 in
theorem HPf_2_18 : (HP si sa hs tx tl hc hn v pa mt pm ty ra)[83]? = some (.inl (20, ((hs 2).2 13))) := rfl
set_option maxRecDepth 100000 in
theorem HPf_2_19 : (HP si sa hs tx tl hc hn v pa mt pm ty ra)[84]? = some (.inl (20, ((hs 2).2 14))) := rfl
set_option maxRecDepth 100000 in
theorem HPf_3_15 : (HP si sa hs tx tl hc hn v pa mt pm ty ra)[100]? = some (.inl (410, ((hs 3).2 11))) := rfl
set_option maxRecDepth 100000 in
theorem HPf_3_16 : (HP si sa hs tx tl hc hn v pa mt pm ty ra)[101]? = some (.inr (.inr (1, [.int ((hs 3).1 10), .ref 102, .ref 103, .ref 104]))) := rfl
set_option maxRecDepth 100000 in
theorem HPf_3_17 : (HP si sa hs tx tl hc hn v pa mt pm ty ra)[102]? = some (.inl (20, ((hs 3).2 12))) := rfl
set_option maxRecDepth 100000 in
theorem HPf_3_18 : (HP si sa hs tx tl hc hn v pa mt pm ty ra)[103]? = some (.inl (20, ((hs 3).2 13))) := rfl
set_option maxRecDepth 100000 in
theorem HPf_3_19 : (HP si sa hs tx tl hc hn v pa mt pm ty ra)[104]? = some (.inl (20, ((hs 3).2 14))) := rfl
set_option maxRecDepth 100000 in
theorem HPf_3_0 : (HP si sa hs tx tl hc hn v pa mt pm ty ra)[85]? = some (.inr (.inr (5, [.ref 86, .int ((hs 3).1 0), .int ((hs 3).1 1), .ref 87, .int ((hs 3).1 2), .int ((hs 3).1 3), .int ((hs 3).1 4), .int ((hs 3).1 5), .ref 88, .ref 90, .ref 92, .ref 101]))) := rfl
set_option maxRecDepth 100000 in
theorem HPf_3_1 : (HP si sa hs tx tl hc hn v pa mt pm ty ra)[86]? = some (.inl (6, ((hs 3).2 0))) := rfl
set_option maxRecDepth 100000 in
theorem HPf_3_2 : (HP si sa hs tx tl hc hn v pa mt pm ty ra)[87]? = some (.inl (10, ((hs 3).2 1))) := rfl
set_option maxRecDepth 100000 in
theorem HPf_3_3 : (HP si sa hs tx tl hc hn v pa mt pm ty ra)[88]? = some (.inr (.inr (2, [.int ((hs 3).1 6), .int ((hs 3).1 7), .ref 89]))) := rfl
set_option maxRecDepth 100000 in
theorem HPf_3_4 : (HP si sa hs tx tl hc hn v pa mt pm ty ra)[89]? = some (.inl (100, ((hs 3).2 2))) := rfl
set_option maxRecDepth 100000 in
theorem HPf_3_5 : (HP si sa hs tx tl hc hn v pa mt pm ty ra)[90]? = some (.inr (.inr (4, [.int ((hs 3).1 8), .ref 91]))) := rfl
set_option maxRecDepth 100000 in
theorem HPf_3_6 : (HP si sa hs tx tl hc hn v pa mt pm ty ra)[91]? = some (.inl (100, ((hs 3).2 3))) := rfl
set_option maxRecDepth 100000 in
theorem HPf_3_7 : (HP si sa hs tx tl hc hn v pa mt pm ty ra)[92]? = some (.inr (.inr (6, [.int ((hs 3).1 9), .ref 93, .ref 94, .ref 95, .ref 96, .ref 97, .ref 98, .ref 99, .ref 100]))) := rfl
set_option maxRecDepth 100000 in
theorem HPf_3_8 : (HP si sa hs tx tl hc hn v pa mt pm ty ra)[93]? = some (.inl (41, ((hs 3).2 4))) := rfl
set_option maxRecDepth 100000 in
theorem HPf_3_9 : (HP si sa hs tx tl hc hn v pa mt pm ty ra)[94]? = some (.inl (41, ((hs 3).2 5))) := rfl
set_option maxRecDepth 100000 in
theorem HPf_3_10 : (HP si sa hs tx tl hc hn v pa mt pm ty ra)[95]? = some (.inl (41, ((hs 3).2 6))) := rfl
set_option maxRecDepth 100000 in
theorem HPf_3_11 : (HP si sa hs tx tl hc hn v pa mt pm ty ra)[96]? = some (.inl (41, ((hs 3).2 7))) := rfl
set_option maxRecDepth 100000 in
theorem HPf_3_12 : (HP si sa hs tx tl hc hn v pa mt pm ty ra)[97]? = some (.inl (41, ((hs 3).2 8))) := rfl
set_option maxRecDepth 100000 in
theorem HPf_3_13 : (HP si sa hs tx tl hc hn v pa mt pm ty ra)[98]? = some (.inl (41, ((hs 3).2 9))) := rfl
set_option maxRecDepth 100000 in
theorem HPf_3_14 : (HP si sa hs tx tl hc hn v pa mt pm ty ra)[99]? = some (.inl (41, ((hs 3).2 10))) := rfl
set_option maxRecDepth 100000 in
theorem HPf_4_0 : (HP si sa hs tx tl hc hn v pa mt pm ty ra)[105]? = some (.inr (.inr (5, [.ref 106, .int ((hs 4).1 0), .int ((hs 4).1 1), .ref 107, .int ((hs 4).1 2), .int ((hs 4).1 3), .int ((hs 4).1 4), .int ((hs 4).1 5), .ref 108, .ref 110, .ref 112, .ref 121]))) := rfl
set_option maxRecDepth 100000 in
theorem HPf_4_1 : (HP si sa hs tx tl hc hn v pa mt pm ty ra)[106]? = some (.inl (6, ((hs 4).2 0))) := rfl
set_option maxRecDepth 100000 in
theorem HPf_4_2 : (HP si sa hs tx tl hc hn v pa mt pm ty ra)[107]? = some (.inl (10, ((hs 4).2 1))) := rfl
set_option maxRecDepth 100000 in
theorem HPf_4_3 : (HP si sa hs tx tl hc hn v pa mt pm ty ra)[108]? = some (.inr (.inr (2, [.int ((hs 4).1 6), .int ((hs 4).1 7), .ref 109]))) := rfl
set_option maxRecDepth 100000 in
theorem HPf_4_4 : (HP si sa hs tx tl hc hn v pa mt pm ty ra)[109]? = some (.inl (100, ((hs 4).2 2))) := rfl
set_option maxRecDepth 100000 in
theorem HPf_4_5 : (HP si sa hs tx tl hc hn v pa mt pm ty ra)[110]? = some (.inr (.inr (4, [.int ((hs 4).1 8), .ref 111]))) := rfl
set_option maxRecDepth 100000 in
theorem HPf_4_6 : (HP si sa hs tx tl hc hn v pa mt pm ty ra)[111]? = some (.inl (100, ((hs 4).2 3))) := rfl
set_option maxRecDepth 100000 in
theorem HPf_4_7 : (HP si sa hs tx tl hc hn v pa mt pm ty ra)[112]? = some (.inr (.inr (6, [.int ((hs 4).1 9), .ref 113, .ref 114, .ref 115, .ref 116, .ref 117, .ref 118, .ref 119, .ref 120]))) := rfl
set_option maxRecDepth 100000 in
theorem HPf_4_8 : (HP si sa hs tx tl hc hn v pa mt pm ty ra)[113]? = some (.inl (41, ((hs 4).2 4))) := rfl
set_option maxRecDepth 100000 in
theorem HPf_4_9 : (HP si sa hs tx tl hc hn v pa mt pm ty ra)[114]? = some (.inl (41, ((hs 4).2 5))) := rfl
set_option maxRecDepth 100000 in
theorem HPf_4_10 : (HP si sa hs tx tl hc hn v pa mt pm ty ra)[115]? = some (.inl (41, ((hs 4).2 6))) := rfl
set_option maxRecDepth 100000 in
theorem HPf_4_11 : (HP si sa hs tx tl hc hn v pa mt pm ty ra)[116]? = some (.inl (41, ((hs 4).2 7))) := rfl
set_option maxRecDepth 100000 in
theorem HPf_4_12 : (HP si sa hs tx tl hc hn v pa mt pm ty ra)[117]? = some (.inl (41, ((hs 4).2 8))) := rfl
set_option maxRecDepth 100000 in
theorem HPf_4_13 : (HP si sa hs tx tl hc hn v pa mt pm ty ra)[118]? = some (.inl (41, ((hs 4).2 9))) := rfl
set_option maxRecDepth 100000 in
theorem HPf_4_14 : (HP si sa hs tx tl hc hn v pa mt pm ty ra)[119]? = some (.inl (41, ((hs 4).2 10))) := rfl
set_option maxRecDepth 100000 in
theorem HPf_4_15 : (HP si sa hs tx tl hc hn v pa mt pm ty ra)[120]? = some (.inl (410, ((hs 4).2 11))) := rfl
set_option maxRecDepth 100000 in
theorem HPf_4_16 : (HP si sa hs tx tl hc hn v pa mt pm ty ra)[121]? = some (.inr (.inr (1, [.int ((hs 4).1 10), .ref 122, .ref 123, .ref 124]))) := rfl
set_option maxRecDepth 100000 in
theorem HPf_4_17 : (HP si sa hs tx tl hc hn v pa mt pm ty ra)[122]? = some (.inl (20, ((hs 4).2 12))) := rfl
set_option maxRecDepth 100000 in
theorem HPf_4_18 : (HP si sa hs tx tl hc hn v pa mt pm ty ra)[123]? = some (.inl (20, ((hs 4).2 13))) := rfl
set_option maxRecDepth 100000 in
theorem HPf_4_19 : (HP si sa hs tx tl hc hn v pa mt pm ty ra)[124]? = some (.inl (20, ((hs 4).2 14))) := rfl
set_option maxRecDepth 100000 in
theorem HPt_0_0 : (HP si sa (va_up hs 0 (dI, dA)) tx tl hc hn v pa mt pm ty ra)[25]? = some (.inr (.inr (5, [.ref 26, .int (dI 0), .int (dI 1), .ref 27, .int (dI 2), .int (dI 3), .int (dI 4), .int (dI 5), .ref 28, .ref 30, .ref 32, .ref 41]))) := rfl
set_option maxRecDepth 100000 in
theorem HPt_0_1 : (HP si sa (va_up hs 0 (dI, dA)) tx tl hc hn v pa mt pm ty ra)[26]? = some (.inl (6, (dA 0))) := rfl
set_option maxRecDepth 100000 in
theorem HPt_0_2 : (HP si sa (va_up hs 0 (dI, dA)) tx tl hc hn v pa mt pm ty ra)[27]? = some (.inl (10, (dA 1))) := rfl
set_option maxRecDepth 100000 in
theorem HPt_0_3 : (HP si sa (va_up hs 0 (dI, dA)) tx tl hc hn v pa mt pm ty ra)[28]? = some (.inr (.inr (2, [.int (dI 6), .int (dI 7), .ref 29]))) := rfl
set_option maxRecDepth 100000 in
theorem HPt_0_4 : (HP si sa (va_up hs 0 (dI, dA)) tx tl hc hn v pa mt pm ty ra)[29]? = some (.inl (100, (dA 2))) := rfl
set_option maxRecDepth 100000 in
theorem HPt_0_5 : (HP si sa (va_up hs 0 (dI, dA)) tx tl hc hn v pa mt pm ty ra)[30]? = some (.inr (.inr (4, [.int (dI 8), .ref 31]))) := rfl
set_option maxRecDepth 100000 in
theorem HPt_0_6 : (HP si sa (va_up hs 0 (dI, dA)) tx tl hc hn v pa mt pm ty ra)[31]? = some (.inl (100, (dA 3))) := rfl
set_option maxRecDepth 100000 in
theorem HPt_0_7 : (HP si sa (va_up hs 0 (dI, dA)) tx tl hc hn v pa mt pm ty ra)[32]? = some (.inr (.inr (6, [.int (dI 9), .ref 33, .ref 34, .ref 35, .ref 36, .ref 37, .ref 38, .ref 39, .ref 40]))) := rfl
set_option maxRecDepth 100000 in
theorem HPt_0_8 : (HP si sa (va_up hs 0 (dI, dA)) tx tl hc hn v pa mt pm ty ra)[33]? = some (.inl (41, (dA 4))) := rfl
set_option maxRecDepth 100000 in
theorem HPt_0_9 : (HP si sa (va_up hs 0 (dI, dA)) tx tl hc hn v pa mt pm ty ra)[34]? = some (.inl (41, (dA 5))) := rfl
set_option maxRecDepth 100000 in
theorem HPt_0_10 : (HP si sa (va_up hs 0 (dI, dA)) tx tl hc hn v pa mt pm ty ra)[35]? = some (.inl (41, (dA 6))) := rfl
set_option maxRecDepth 100000 in
theorem HPt_0_11 : (HP si sa (va_up hs 0 (dI, dA)) tx tl hc hn v pa mt pm ty ra)[36]? = some (.inl (41, (dA 7))) := rfl
set_option maxRecDepth 100000 in
theorem HPt_0_12 : (HP si sa (va_up hs 0 (dI, dA)) tx tl hc hn v pa mt pm ty ra)[37]? = some (.inl (41, (dA 8))) := rfl
set_option maxRecDepth 100000 in
theorem HPt_0_13 : (HP si sa (va_up hs 0 (dI, dA)) tx tl hc hn v pa mt pm ty ra)[38]? = some (.inl (41, (dA 9))) := rfl
set_option maxRecDepth 100000 in
theorem HPt_0_14 : (HP si sa (va_up hs 0 (dI, dA)) tx tl hc hn v pa mt pm ty ra)[39]? = some (.inl (41, (dA 10))) := rfl
set_option maxRecDepth 100000 in
theorem HPt_0_15 : (HP si sa (va_up hs 0 (dI, dA)) tx tl hc hn v pa mt pm ty ra)[40]? = some (.inl (410, (dA 11))) := rfl
set_option maxRecDepth 100000 in
theorem HPt_0_16 : (HP si sa (va_up hs 0 (dI, dA)) tx tl hc hn v pa mt pm ty ra)[41]? = some (.inr (.inr (1, [.int (dI 10), .ref 42, .ref 43, .ref 44]))) := rfl
set_option maxRecDepth 100000 in
theorem HPt_0_17 : (HP si sa (va_up hs 0 (dI, dA)) tx tl hc hn v pa mt pm ty ra)[42]? = some (.inl (20, (dA 12))) := rfl
set_option maxRecDepth 100000 in
theorem HPt_0_18 : (HP si sa (va_up hs 0 (dI, dA)) tx tl hc hn v pa mt pm ty ra)[43]? = some (.inl (20, (dA 13))) := rfl
set_option maxRecDepth 100000 in
theorem HPt_0_19 : (HP si sa (va_up hs 0 (dI, dA)) tx tl hc hn v pa mt pm ty ra)[44]? = some (.inl (20, (dA 14))) := rfl
set_option maxRecDepth 100000 in
theorem HPt_1_0 : (HP si sa (va_up hs 1 (dI, dA)) tx tl hc hn v pa mt pm ty ra)[45]? = some (.inr (.inr (5, [.ref 46, .int (dI 0), .int (dI 1), .ref 47, .int (dI 2), .int (dI 3), .int (dI 4), .int (dI 5), .ref 48, .ref 50, .ref 52, .ref 61]))) := rfl
set_option maxRecDepth 100000 in
theorem HPt_1_1 : (HP si sa (va_up hs 1 (dI, dA)) tx tl hc hn v pa mt pm ty ra)[46]? = some (.inl (6, (dA 0))) := rfl
set_option maxRecDepth 100000 in
theorem HPt_1_2 : (HP si sa (va_up hs 1 (dI, dA)) tx tl hc hn v pa mt pm ty ra)[47]? = some (.inl (10, (dA 1))) := rfl
set_option maxRecDepth 100000 in
theorem HPt_1_3 : (HP si sa (va_up hs 1 (dI, dA)) tx tl hc hn v pa mt pm ty ra)[48]? = some (.inr (.inr (2, [.int (dI 6), .int (dI 7), .ref 49]))) := rfl
set_option maxRecDepth 100000 in
theorem HPt_1_4 : (HP si sa (va_up hs 1 (dI, dA)) tx tl hc hn v pa mt pm ty ra)[49]? = some (.inl (100, (dA 2))) := rfl
set_option maxRecDepth 100000 in
theorem HPt_1_5 : (HP si sa (va_up hs 1 (dI, dA)) tx tl hc hn v pa mt pm ty ra)[50]? = some (.inr (.inr (4, [.int (dI 8), .ref 51]))) := rfl
set_option maxRecDepth 100000 in
theorem HPt_1_6 : (HP si sa (va_up hs 1 (dI, dA)) tx tl hc hn v pa mt pm ty ra)[51]? = some (.inl (100, (dA 3))) := rfl
set_option maxRecDepth 100000 in
theorem HPt_1_7 : (HP si sa (va_up hs 1 (dI, dA)) tx tl hc hn v pa mt pm ty ra)[52]? = some (.inr (.inr (6, [.int (dI 9), .ref 53, .ref 54, .ref 55, .ref 56, .ref 57, .ref 58, .ref 59, .ref 60]))) := rfl
set_option maxRecDepth 100000 in
theorem HPt_1_8 : (HP si sa (va_up hs 1 (dI, dA)) tx tl hc hn v pa mt pm ty ra)[53]? = some (.inl (41, (dA 4))) := rfl
set_option maxRecDepth 100000 in
theorem HPt_1_9 : (HP si sa (va_up hs 1 (dI, dA)) tx tl hc hn v pa mt pm ty ra)[54]? = some (.inl (41, (dA 5))) := rfl
set_option maxRecDepth 100000 in
theorem HPt_1_10 : (HP si sa (va_up hs 1 (dI, dA)) tx tl hc hn v pa mt pm ty ra)[55]? = some (.inl (41, (dA 6))) := rfl
set_option maxRecDepth 100000 in
theorem HPt_1_11 : (HP si sa (va_up hs 1 (dI, dA)) tx tl hc hn v pa mt pm ty ra)[56]? = some (.inl (41, (dA 7))) := rfl
set_option maxRecDepth 100000 in
theorem HPt_1_12 : (HP si sa (va_up hs 1 (dI, dA)) tx tl hc hn v pa mt pm ty ra)[57]? = some (.inl (41, (dA 8))) := rfl
set_option maxRecDepth 100000 in
theorem HPt_1_13 : (HP si sa (va_up hs 1 (dI, dA)) tx tl hc hn v pa mt pm ty ra)[58]? = some (.inl (41, (dA 9))) := rfl
set_option maxRecDepth 100000 in
theorem HPt_1_14 : (HP si sa (va_up hs 1 (dI, dA)) tx tl hc hn v pa mt pm ty ra)[59]? = some (.inl (41, (dA 10))) := rfl
set_option maxRecDepth 100000 in
theorem HPt_1_15 : (HP si sa (va_up hs 1 (dI, dA)) tx tl hc hn v pa mt pm ty ra)[60]? = some (.inl (410, (dA 11))) := rfl
set_option maxRecDepth 100000 in
theorem HPt_1_16 : (HP si sa (va_up hs 1 (dI, dA)) tx tl hc hn v pa mt pm ty ra)[61]? = some (.inr (.inr (1, [.int (dI 10), .ref 62, .ref 63, .ref 64]))) := rfl
set_option maxRecDepth 100000 in
theorem HPt_1_17 : (HP si sa (va_up hs 1 (dI, dA)) tx tl hc hn v pa mt pm ty ra)[62]? = some (.inl (20, (dA 12))) := rfl
set_option maxRecDepth 100000 in
theorem HPt_1_18 : (HP si sa (va_up hs 1 (dI, dA)) tx tl hc hn v pa mt pm ty ra)[63]? = some (.inl (20, (dA 13))) := rfl
set_option maxRecDepth 100000 in
theorem HPt_1_19 : (HP si sa (va_up hs 1 (dI, dA)) tx tl hc hn v pa mt pm ty ra)[64]? = some (.inl (20, (dA 14))) := rfl
set_option maxRecDepth 100000 in
theorem HPt_2_0 : (HP si sa (va_up hs 2 (dI, dA)) tx tl hc hn v pa mt pm ty ra)[65]? = some (.inr (.inr (5, [.ref 66, .int (dI 0), .int (dI 1), .ref 67, .int (dI 2), .int (dI 3), .int (dI 4), .int (dI 5), .ref 68, .ref 70, .ref 72, .ref 81]))) := rfl
set_option maxRecDepth 100000 in
theorem HPt_2_1 : (HP si sa (va_up hs 2 (dI, dA)) tx tl hc hn v pa mt pm ty ra)[66]? = some (.inl (6, (dA 0))) := rfl
set_option maxRecDepth 100000 in
theorem HPt_2_2 : (HP si sa (va_up hs 2 (dI, dA)) tx tl hc hn v pa mt pm ty ra)[67]? = some (.inl (10, (dA 1))) := rfl
set_option maxRecDepth 100000 in
theorem HPt_2_3 : (HP si sa (va_up hs 2 (dI, dA)) tx tl hc hn v pa mt pm ty ra)[68]? = some (.inr (.inr (2, [.int (dI 6), .int (dI 7), .ref 69]))) := rfl
set_option maxRecDepth 100000 in
theorem HPt_2_4 : (HP si sa (va_up hs 2 (dI, dA)) tx tl hc hn v pa mt pm ty ra)[69]? = some (.inl (100, (dA 2))) := rfl
set_option maxRecDepth 100000 in
theorem HPt_2_5 : (HP si sa (va_up hs 2 (dI, dA)) tx tl hc hn v pa mt pm ty ra)[70]? = some (.inr (.inr (4, [.int (dI 8), .ref 71]))) := rfl
set_option maxRecDepth 100000 in
theorem HPt_2_6 : (HP si sa (va_up hs 2 (dI, dA)) tx tl hc hn v pa mt pm ty ra)[71]? = some (.inl (100, (dA 3))) := rfl
set_option maxRecDepth 100000 in
theorem HPt_2_7 : (HP si sa (va_up hs 2 (dI, dA)) tx tl hc hn v pa mt pm ty ra)[72]? = some (.inr (.inr (6, [.int (dI 9), .ref 73, .ref 74, .ref 75, .ref 76, .ref 77, .ref 78, .ref 79, .ref 80]))) := rfl
set_option maxRecDepth 100000 in
theorem HPt_2_8 : (HP si sa (va_up hs 2 (dI, dA)) tx tl hc hn v pa mt pm ty ra)[73]? = some (.inl (41, (dA 4))) := rfl
set_option maxRecDepth 100000 in
theorem HPt_2_9 : (HP si sa (va_up hs 2 (dI, dA)) tx tl hc hn v pa mt pm ty ra)[74]? = some (.inl (41, (dA 5))) := rfl
set_option maxRecDepth 100000 in
theorem HPt_2_10 : (HP si sa (va_up hs 2 (dI, dA)) tx tl hc hn v pa mt pm ty ra)[75]? = some (.inl (41, (dA 6))) := rfl
set_option maxRecDepth 100000 in
theorem HPt_2_11 : (HP si sa (va_up hs 2 (dI, dA)) tx tl hc hn v pa mt pm ty ra)[76]? = some (.inl (41, (dA 7))) := rfl
set_option maxRecDepth 100000 in
theorem HPt_2_12 : (HP si sa (va_up hs 2 (dI, dA)) tx tl hc hn v pa mt pm ty ra)[77]? = some (.inl (41, (dA 8))) := rfl
set_option maxRecDepth 100000 in
theorem HPt_2_13 : (HP si sa (va_up hs 2 (dI, dA)) tx tl hc hn v pa mt pm ty ra)[78]? = some (.inl (41, (dA 9))) := rfl
set_option maxRecDepth 100000 in
theorem HPt_2_14 : (HP si sa (va_up hs 2 (dI, dA)) tx tl hc hn v pa mt pm ty ra)[79]? = some (.inl (41, (dA 10))) := rfl
set_option maxRecDepth 100000 in
theorem HPt_2_15 : (HP si sa (va_up hs 2 (dI, dA)) tx tl hc hn v pa mt pm ty ra)[80]? = some (.inl (410, (dA 11))) := rfl
set_option maxRecDepth 100000 in
theorem HPt_2_16 : (HP si sa (va_up hs 2 (dI, dA)) tx tl hc hn v pa mt pm ty ra)[81]? = some (.inr (.inr (1, [.int (dI 10), .ref 82, .ref 83, .ref 84]))) := rfl
set_option maxRecDepth 100000 in
theorem HPt_2_17 : (HP si sa (va_up hs 2 (dI, dA)) tx tl hc hn v pa mt pm ty ra)[82]? = some (.inl (20, (dA 12))) := rfl
set_option maxRecDepth 100000 in
theorem HPt_2_18 : (HP si sa (va_up hs 2 (dI, dA)) tx tl hc hn v pa mt pm ty ra)[83]? = some (.inl (20, (dA 13))) := rfl
set_option maxRecDepth 100000 in
theorem HPt_2_19 : (HP si sa (va_up hs 2 (dI, dA)) tx tl hc hn v pa mt pm ty ra)[84]? = some (.inl (20, (dA 14))) := rfl
set_option maxRecDepth 100000 in
theorem HPt_3_15 : (HP si sa (va_up hs 3 (dI, dA)) tx tl hc hn v pa mt pm ty ra)[100]? = some (.inl (410, (dA 11))) := rfl
set_option maxRecDepth 100000 in
theorem HPt_3_16 : (HP si sa (va_up hs 3 (dI, dA)) tx tl hc hn v pa mt pm ty ra)[101]? = some (.inr (.inr (1, [.int (dI 10), .ref 102, .ref 103, .ref 104]))) := rfl
set_option maxRecDepth 100000 in
theorem HPt_3_17 : (HP si sa (va_up hs 3 (dI, dA)) tx tl hc hn v pa mt pm ty ra)[102]? = some (.inl (20, (dA 12))) := rfl
set_option maxRecDepth 100000 in
theorem HPt_3_18 : (HP si sa (va_up hs 3 (dI, dA)) tx tl hc hn v pa mt pm ty ra)[103]? = some (.inl (20, (dA 13))) := rfl
set_option maxRecDepth 100000 in
theorem HPt_3_19 : (HP si sa (va_up hs 3 (dI, dA)) tx tl hc hn v pa mt pm ty ra)[104]? = some (.inl (20, (dA 14))) := rfl
set_option maxRecDepth 100000 in
theorem HPt_3_0 : (HP si sa (va_up hs 3 (dI, dA)) tx tl hc hn v pa mt pm ty ra)[85]? = some (.inr (.inr (5, [.ref 86, .int (dI 0), .int (dI 1), .ref 87, .int (dI 2), .int (dI 3), .int (dI 4), .int (dI 5), .ref 88, .ref 90, .ref 92, .ref 101]))) := rfl
set_option maxRecDepth 100000 in
theorem HPt_3_1 : (HP si sa (va_up hs 3 (dI, dA)) tx tl hc hn v pa mt pm ty ra)[86]? = some (.inl (6, (dA 0))) := rfl
set_option maxRecDepth 100000 in
theorem HPt_3_2 : (HP si sa (va_up hs 3 (dI, dA)) tx tl hc hn v pa mt pm ty ra)[87]? = some (.inl (10, (dA 1))) := rfl
set_option maxRecDepth 100000 in
theorem HPt_3_3 : (HP si sa (va_up hs 3 (dI, dA)) tx tl hc hn v pa mt pm ty ra)[88]? = some (.inr (.inr (2, [.int (dI 6), .int (dI 7), .ref 89]))) := rfl
set_option maxRecDepth 100000 in
theorem HPt_3_4 : (HP si sa (va_up hs 3 (dI, dA)) tx tl hc hn v pa mt pm ty ra)[89]? = some (.inl (100, (dA 2))) := rfl
set_option maxRecDepth 100000 in
theorem HPt_3_5 : (HP si sa (va_up hs 3 (dI, dA)) tx tl hc hn v pa mt pm ty ra)[90]? = some (.inr (.inr (4, [.int (dI 8), .ref 91]))) := rfl
set_option maxRecDepth 100000 in
theorem HPt_3_6 : (HP si sa (va_up hs 3 (dI, dA)) tx tl hc hn v pa mt pm ty ra)[91]? = some (.inl (100, (dA 3))) := rfl
set_option maxRecDepth 100000 in
theorem HPt_3_7 : (HP si sa (va_up hs 3 (dI, dA)) tx tl hc hn v pa mt pm ty ra)[92]? = some (.inr (.inr (6, [.int (dI 9), .ref 93, .ref 94, .ref 95, .ref 96, .ref 97, .ref 98, .ref 99, .ref 100]))) := rfl
set_option maxRecDepth 100000 in
theorem HPt_3_8 : (HP si sa (va_up hs 3 (dI, dA)) tx tl hc hn v pa mt pm ty ra)[93]? = some (.inl (41, (dA 4))) := rfl
set_option maxRecDepth 100000 in
theorem HPt_3_9 : (HP si sa (va_up hs 3 (dI, dA)) tx tl hc hn v pa mt pm ty ra)[94]? = some (.inl (41, (dA 5))) := rfl
set_option maxRecDepth 100000 in
theorem HPt_3_10 : (HP si sa (va_up hs 3 (dI, dA)) tx tl hc hn v pa mt pm ty ra)[95]? = some (.inl (41, (dA 6))) := rfl
set_option maxRecDepth 100000 in
theorem HPt_3_11 : (HP si sa (va_up hs 3 (dI, dA)) tx tl hc hn v pa mt pm ty ra)[96]? = some (.inl (41, (dA 7))) := rfl
set_option maxRecDepth 100000 in
theorem HPt_3_12 : (HP si sa (va_up hs 3 (dI, dA)) tx tl hc hn v pa mt pm ty ra)[97]? = some (.inl (41, (dA 8))) := rfl
set_option maxRecDepth 100000 in
theorem HPt_3_13 : (HP si sa (va_up hs 3 (dI, dA)) tx tl hc hn v pa mt pm ty ra)[98]? = some (.inl (41, (dA 9))) := rfl
set_option maxRecDepth 100000 in
theorem HPt_3_14 : (HP si sa (va_up hs 3 (dI, dA)) tx tl hc hn v pa mt pm ty ra)[99]? = some (.inl (41, (dA 10))) := rfl
set_option maxRecDepth 100000 in
theorem HPt_4_0 : (HP si sa (va_up hs 4 (dI, dA)) tx tl hc hn v pa mt pm ty ra)[105]? = some (.inr (.inr (5, [.ref 106, .int (dI 0), .int (dI 1), .ref 107, .int (dI 2), .int (dI 3), .int (dI 4), .int (dI 5), .ref 108, .ref 110, .ref 112, .ref 121]))) := rfl
set_option maxRecDepth 100000 in
theorem HPt_4_1 : (HP si sa (va_up hs 4 (dI, dA)) tx tl hc hn v pa mt pm ty ra)[106]? = some (.inl (6, (dA 0))) := rfl
set_option maxRecDepth 100000 in
theorem HPt_4_2 : (HP si sa (va_up hs 4 (dI, dA)) tx tl hc hn v pa mt pm ty ra)[107]? = some (.inl (10, (dA 1))) := rfl
set_option maxRecDepth 100000 in
theorem HPt_4_3 : (HP si sa (va_up hs 4 (dI, dA)) tx tl hc hn v pa mt pm ty ra)[108]? = some (.inr (.inr (2, [.int (dI 6), .int (dI 7), .ref 109]))) := rfl
set_option maxRecDepth 100000 in
theorem HPt_4_4 : (HP si sa (va_up hs 4 (dI, dA)) tx tl hc hn v pa mt pm ty ra)[109]? = some (.inl (100, (dA 2))) := rfl
set_option maxRecDepth 100000 in
theorem HPt_4_5 : (HP si sa (va_up hs 4 (dI, dA)) tx tl hc hn v pa mt pm ty ra)[110]? = some (.inr (.inr (4, [.int (dI 8), .ref 111]))) := rfl
set_option maxRecDepth 100000 in
theorem HPt_4_6 : (HP si sa (va_up hs 4 (dI, dA)) tx tl hc hn v pa mt pm ty ra)[111]? = some (.inl (100, (dA 3))) := rfl
set_option maxRecDepth 100000 in
theorem HPt_4_7 : (HP si sa (va_up hs 4 (dI, dA)) tx tl hc hn v pa mt pm ty ra)[112]? = some (.inr (.inr (6, [.int (dI 9), .ref 113, .ref 114, .ref 115, .ref 116, .ref 117, .ref 118, .ref 119, .ref 120]))) := rfl
set_option maxRecDepth 100000 in
theorem HPt_4_8 : (HP si sa (va_up hs 4 (dI, dA)) tx tl hc hn v pa mt pm ty ra)[113]? = some (.inl (41, (dA 4))) := rfl
set_option maxRecDepth 100000 in
theorem HPt_4_9 : (HP si sa (va_up hs 4 (dI, dA)) tx tl hc hn v pa mt pm ty ra)[114]? = some (.inl (41, (dA 5))) := rfl
set_option maxRecDepth 100000 in
theorem HPt_4_10 : (HP si sa (va_up hs 4 (dI, dA)) tx tl hc hn v pa mt pm ty ra)[115]? = some (.inl (41, (dA 6))) := rfl
set_option maxRecDepth 100000 in
theorem HPt_4_11 : (HP si sa (va_up hs 4 (dI, dA)) tx tl hc hn v pa mt pm ty ra)[116]? = some (.inl (41, (dA 7))) := rfl
set_option maxRecDepth 100000 in
theorem HPt_4_12 : (HP si sa (va_up hs 4 (dI, dA)) tx tl hc hn v pa mt pm ty ra)[117]? = some (.inl (41, (dA 8))) := rfl
set_option maxRecDepth 100000 in
theorem HPt_4_13 : (HP si sa (va_up hs 4 (dI, dA)) tx tl hc hn v pa mt pm ty ra)[118]? = some (.inl (41, (dA 9))) := rfl
set_option maxRecDepth 100000 in
theorem HPt_4_14 : (HP si sa (va_up hs 4 (dI, dA)) tx tl hc hn v pa mt pm ty ra)[119]? = some (.inl (41, (dA 10))) := rfl
set_option maxRecDepth 100000 in
theorem HPt_4_15 : (HP si sa (va_up hs 4 (dI, dA)) tx tl hc hn v pa mt pm ty ra)[120]? = some (.inl (410, (dA 11))) := rfl
set_option maxRecDepth 100000 in
theorem HPt_4_16 : (HP si sa (va_up hs 4 (dI, dA)) tx tl hc hn v pa mt pm ty ra)[121]? = some (.inr (.inr (1, [.int (dI 10), .ref 122, .ref 123, .ref 124]))) := rfl
set_option maxRecDepth 100000 in
theorem HPt_4_17 : (HP si sa (va_up hs 4 (dI, dA)) tx tl hc hn v pa mt pm ty ra)[122]? = some (.inl (20, (dA 12))) := rfl
set_option maxRecDepth 100000 in
theorem HPt_4_18 : (HP si sa (va_up hs 4 (dI, dA)) tx tl hc hn v pa mt pm ty ra)[123]? = some (.inl (20, (dA 13))) := rfl
set_option maxRecDepth 100000 in
theorem HPt_4_19 : (HP si sa (va_up hs 4 (dI, dA)) tx tl hc hn v pa mt pm ty ra)[124]? = some (.inl (20, (dA 14))) := rfl
set_option maxRecDepth 100000 in
theorem HPs_1_1 {x : Int32} : (HP si sa hs tx tl hc hn v pa mt pm ty ra).set 1 (.inr (.inr (0, ([.ref 2, .int tl] : List Value).set 1 (.int x)))) = HP si sa hs tx x hc hn v pa mt pm ty ra := rfl
set_option maxRecDepth 100000 in
theorem HPs_10_0 {x : Int32} : (HP si sa hs tx tl hc hn v pa mt pm ty ra).set 10 (.inr (.inr (6, ([.int (si 9), .ref 11, .ref 12, .ref 13, .ref 14, .ref 15, .ref 16, .ref 17, .ref 18] : List Value).set 0 (.int x)))) = HP (upd si 9 x) sa hs tx tl hc hn v pa mt pm ty ra := rfl
set_option maxRecDepth 100000 in
theorem HPs_125_2 {x : Int32} : (HP si sa hs tx tl hc hn v pa mt pm ty ra).set 125 (.inr (.inr (8, ([.ref 126, .ref 127, .int pm, .ref 128, .int ty, .int ra] : List Value).set 2 (.int x)))) = HP si sa hs tx tl hc hn v pa mt x ty ra := rfl
set_option maxRecDepth 100000 in
theorem HPs_125_4 {x : Int32} : (HP si sa hs tx tl hc hn v pa mt pm ty ra).set 125 (.inr (.inr (8, ([.ref 126, .ref 127, .int pm, .ref 128, .int ty, .int ra] : List Value).set 4 (.int x)))) = HP si sa hs tx tl hc hn v pa mt pm x ra := rfl
set_option maxRecDepth 100000 in
theorem HPs_125_5 {x : Int32} : (HP si sa hs tx tl hc hn v pa mt pm ty ra).set 125 (.inr (.inr (8, ([.ref 126, .ref 127, .int pm, .ref 128, .int ty, .int ra] : List Value).set 5 (.int x)))) = HP si sa hs tx tl hc hn v pa mt pm ty x := rfl
set_option maxRecDepth 100000 in
theorem HPs_19_0 {x : Int32} : (HP si sa hs tx tl hc hn v pa mt pm ty ra).set 19 (.inr (.inr (1, ([.int (si 10), .ref 20, .ref 21, .ref 22] : List Value).set 0 (.int x)))) = HP (upd si 10 x) sa hs tx tl hc hn v pa mt pm ty ra := rfl
set_option maxRecDepth 100000 in
theorem HPs_23_1 {x : Int32} : (HP si sa hs tx tl hc hn v pa mt pm ty ra).set 23 (.inr (.inr (3, ([.ref 24, .int hc, .int hn] : List Value).set 1 (.int x)))) = HP si sa hs tx tl x hn v pa mt pm ty ra := rfl
set_option maxRecDepth 100000 in
theorem HPs_23_2 {x : Int32} : (HP si sa hs tx tl hc hn v pa mt pm ty ra).set 23 (.inr (.inr (3, ([.ref 24, .int hc, .int hn] : List Value).set 2 (.int x)))) = HP si sa hs tx tl hc x v pa mt pm ty ra := rfl
set_option maxRecDepth 100000 in
theorem HPs_3_1 {x : Int32} : (HP si sa hs tx tl hc hn v pa mt pm ty ra).set 3 (.inr (.inr (5, ([.ref 4, .int (si 0), .int (si 1), .ref 5, .int (si 2), .int (si 3), .int (si 4), .int (si 5), .ref 6, .ref 8, .ref 10, .ref 19] : List Value).set 1 (.int x)))) = HP (upd si 0 x) sa hs tx tl hc hn v pa mt pm ty ra := rfl
set_option maxRecDepth 100000 in
theorem HPs_3_2 {x : Int32} : (HP si sa hs tx tl hc hn v pa mt pm ty ra).set 3 (.inr (.inr (5, ([.ref 4, .int (si 0), .int (si 1), .ref 5, .int (si 2), .int (si 3), .int (si 4), .int (si 5), .ref 6, .ref 8, .ref 10, .ref 19] : List Value).set 2 (.int x)))) = HP (upd si 1 x) sa hs tx tl hc hn v pa mt pm ty ra := rfl
set_option maxRecDepth 100000 in
theorem HPs_3_4 {x : Int32} : (HP si sa hs tx tl hc hn v pa mt pm ty ra).set 3 (.inr (.inr (5, ([.ref 4, .int (si 0), .int (si 1), .ref 5, .int (si 2), .int (si 3), .int (si 4), .int (si 5), .ref 6, .ref 8, .ref 10, .ref 19] : List Value).set 4 (.int x)))) = HP (upd si 2 x) sa hs tx tl hc hn v pa mt pm ty ra := rfl
set_option maxRecDepth 100000 in
theorem HPs_3_5 {x : Int32} : (HP si sa hs tx tl hc hn v pa mt pm ty ra).set 3 (.inr (.inr (5, ([.ref 4, .int (si 0), .int (si 1), .ref 5, .int (si 2), .int (si 3), .int (si 4), .int (si 5), .ref 6, .ref 8, .ref 10, .ref 19] : List Value).set 5 (.int x)))) = HP (upd si 3 x) sa hs tx tl hc hn v pa mt pm ty ra := rfl
set_option maxRecDepth 100000 in
theorem HPs_3_6 {x : Int32} : (HP si sa hs tx tl hc hn v pa mt pm ty ra).set 3 (.inr (.inr (5, ([.ref 4, .int (si 0), .int (si 1), .ref 5, .int (si 2), .int (si 3), .int (si 4), .int (si 5), .ref 6, .ref 8, .ref 10, .ref 19] : List Value).set 6 (.int x)))) = HP (upd si 4 x) sa hs tx tl hc hn v pa mt pm ty ra := rfl
set_option maxRecDepth 100000 in
theorem HPs_3_7 {x : Int32} : (HP si sa hs tx tl hc hn v pa mt pm ty ra).set 3 (.inr (.inr (5, ([.ref 4, .int (si 0), .int (si 1), .ref 5, .int (si 2), .int (si 3), .int (si 4), .int (si 5), .ref 6, .ref 8, .ref 10, .ref 19] : List Value).set 7 (.int x)))) = HP (upd si 5 x) sa hs tx tl hc hn v pa mt pm ty ra := rfl
set_option maxRecDepth 100000 in
theorem HPs_6_0 {x : Int32} : (HP si sa hs tx tl hc hn v pa mt pm ty ra).set 6 (.inr (.inr (2, ([.int (si 6), .int (si 7), .ref 7] : List Value).set 0 (.int x)))) = HP (upd si 6 x) sa hs tx tl hc hn v pa mt pm ty ra := rfl
set_option maxRecDepth 100000 in
theorem HPs_6_1 {x : Int32} : (HP si sa hs tx tl hc hn v pa mt pm ty ra).set 6 (.inr (.inr (2, ([.int (si 6), .int (si 7), .ref 7] : List Value).set 1 (.int x)))) = HP (upd si 7 x) sa hs tx tl hc hn v pa mt pm ty ra := rfl
set_option maxRecDepth 100000 in
theorem HPs_8_0 {x : Int32} : (HP si sa hs tx tl hc hn v pa mt pm ty ra).set 8 (.inr (.inr (4, ([.int (si 8), .ref 9] : List Value).set 0 (.int x)))) = HP (upd si 8 x) sa hs tx tl hc hn v pa mt pm ty ra := rfl
set_option maxRecDepth 100000 in
theorem HPst_0_0_1 {x : Int32} : (HP si sa (va_up hs 0 (dI, dA)) tx tl hc hn v pa mt pm ty ra).set 25 (.inr (.inr (5, ([.ref 26, .int (dI 0), .int (dI 1), .ref 27, .int (dI 2), .int (dI 3), .int (dI 4), .int (dI 5), .ref 28, .ref 30, .ref 32, .ref 41] : List Value).set 1 (.int x)))) = HP si sa (va_up hs 0 ((upd dI 0 x), dA)) tx tl hc hn v pa mt pm ty ra := rfl
set_option maxRecDepth 100000 in
theorem HPst_0_0_2 {x : Int32} : (HP si sa (va_up hs 0 (dI, dA)) tx tl hc hn v pa mt pm ty ra).set 25 (.inr (.inr (5, ([.ref 26, .int (dI 0), .int (dI 1), .ref 27, .int (dI 2), .int (dI 3), .int (dI 4), .int (dI 5), .ref 28, .ref 30, .ref 32, .ref 41] : List Value).set 2 (.int x)))) = HP si sa (va_up hs 0 ((upd dI 1 x), dA)) tx tl hc hn v pa mt pm ty ra := rfl
set_option maxRecDepth 100000 in
theorem HPst_0_0_4 {x : Int32} : (HP si sa (va_up hs 0 (dI, dA)) tx tl hc hn v pa mt pm ty ra).set 25 (.inr (.inr (5, ([.ref 26, .int (dI 0), .int (dI 1), .ref 27, .int (dI 2), .int (dI 3), .int (dI 4), .int (dI 5), .ref 28, .ref 30, .ref 32, .ref 41] : List Value).set 4 (.int x)))) = HP si sa (va_up hs 0 ((upd dI 2 x), dA)) tx tl hc hn v pa mt pm ty ra := rfl
set_option maxRecDepth 100000 in
theorem HPst_0_0_5 {x : Int32} : (HP si sa (va_up hs 0 (dI, dA)) tx tl hc hn v pa mt pm ty ra).set 25 (.inr (.inr (5, ([.ref 26, .int (dI 0), .int (dI 1), .ref 27, .int (dI 2), .int (dI 3), .int (dI 4), .int (dI 5), .ref 28, .ref 30, .ref 32, .ref 41] : List Value).set 5 (.int x)))) = HP si sa (va_up hs 0 ((upd dI 3 x), dA)) tx tl hc hn v pa mt pm ty ra := rfl
set_option maxRecDepth 100000 in
theorem HPst_0_0_6 {x : Int32} : (HP si sa (va_up hs 0 (dI, dA)) tx tl hc hn v pa mt pm ty ra).set 25 (.inr (.inr (5, ([.ref 26, .int (dI 0), .int (dI 1), .ref 27, .int (dI 2), .int (dI 3), .int (dI 4), .int (dI 5), .ref 28, .ref 30, .ref 32, .ref 41] : List Value).set 6 (.int x)))) = HP si sa (va_up hs 0 ((upd dI 4 x), dA)) tx tl hc hn v pa mt pm ty ra := rfl
set_option maxRecDepth 100000 in
theorem HPst_0_0_7 {x : Int32} : (HP si sa (va_up hs 0 (dI, dA)) tx tl hc hn v pa mt pm ty ra).set 25 (.inr (.inr (5, ([.ref 26, .int (dI 0), .int (dI 1), .ref 27, .int (dI 2), .int (dI 3), .int (dI 4), .int (dI 5), .ref 28, .ref 30, .ref 32, .ref 41] : List Value).set 7 (.int x)))) = HP si sa (va_up hs 0 ((upd dI 5 x), dA)) tx tl hc hn v pa mt pm ty ra := rfl
set_option maxRecDepth 100000 in
theorem HPst_0_3_0 {x : Int32} : (HP si sa (va_up hs 0 (dI, dA)) tx tl hc hn v pa mt pm ty ra).set 28 (.inr (.inr (2, ([.int (dI 6), .int (dI 7), .ref 29] : List Value).set 0 (.int x)))) = HP si sa (va_up hs 0 ((upd dI 6 x), dA)) tx tl hc hn v pa mt pm ty ra := rfl
set_option maxRecDepth 100000 in
theorem HPst_0_3_1 {x : Int32} : (HP si sa (va_up hs 0 (dI, dA)) tx tl hc hn v pa mt pm ty ra).set 28 (.inr (.inr (2, ([.int (dI 6), .int (dI 7), .ref 29] : List Value).set 1 (.int x)))) = HP si sa (va_up hs 0 ((upd dI 7 x), dA)) tx tl hc hn v pa mt pm ty ra := rfl
set_option maxRecDepth 100000 in
theorem HPst_0_5_0 {x : Int32} : (HP si sa (va_up hs 0 (dI, dA)) tx tl hc hn v pa mt pm ty ra).set 30 (.inr (.inr (4, ([.int (dI 8), .ref 31] : List Value).set 0 (.int x)))) = HP si sa (va_up hs 0 ((upd dI 8 x), dA)) tx tl hc hn v pa mt pm ty ra := rfl
set_option maxRecDepth 100000 in
theorem HPst_0_7_0 {x : Int32} : (HP si sa (va_up hs 0 (dI, dA)) tx tl hc hn v pa mt pm ty ra).set 32 (.inr (.inr (6, ([.int (dI 9), .ref 33, .ref 34, .ref 35, .ref 36, .ref 37, .ref 38, .ref 39, .ref 40] : List Value).set 0 (.int x)))) = HP si sa (va_up hs 0 ((upd dI 9 x), dA)) tx tl hc hn v pa mt pm ty ra := rfl
set_option maxRecDepth 100000 in
theorem HPst_0_16_0 {x : Int32} : (HP si sa (va_up hs 0 (dI, dA)) tx tl hc hn v pa mt pm ty ra).set 41 (.inr (.inr (1, ([.int (dI 10), .ref 42, .ref 43, .ref 44] : List Value).set 0 (.int x)))) = HP si sa (va_up hs 0 ((upd dI 10 x), dA)) tx tl hc hn v pa mt pm ty ra := rfl
set_option maxRecDepth 100000 in
theorem HPst_1_0_1 {x : Int32} : (HP si sa (va_up hs 1 (dI, dA)) tx tl hc hn v pa mt pm ty ra).set 45 (.inr (.inr (5, ([.ref 46, .int (dI 0), .int (dI 1), .ref 47, .int (dI 2), .int (dI 3), .int (dI 4), .int (dI 5), .ref 48, .ref 50, .ref 52, .ref 61] : List Value).set 1 (.int x)))) = HP si sa (va_up hs 1 ((upd dI 0 x), dA)) tx tl hc hn v pa mt pm ty ra := rfl
set_option maxRecDepth 100000 in
theorem HPst_1_0_2 {x : Int32} : (HP si sa (va_up hs 1 (dI, dA)) tx tl hc hn v pa mt pm ty ra).set 45 (.inr (.inr (5, ([.ref 46, .int (dI 0), .int (dI 1), .ref 47, .int (dI 2), .int (dI 3), .int (dI 4), .int (dI 5), .ref 48, .ref 50, .ref 52, .ref 61] : List Value).set 2 (.int x)))) = HP si sa (va_up hs 1 ((upd dI 1 x), dA)) tx tl hc hn v pa mt pm ty ra := rfl
set_option maxRecDepth 100000 in
theorem HPst_1_0_4 {x : Int32} : (HP si sa (va_up hs 1 (dI, dA)) tx tl hc hn v pa mt pm ty ra).set 45 (.inr (.inr (5, ([.ref 46, .int (dI 0), .int (dI 1), .ref 47, .int (dI 2), .int (dI 3), .int (dI 4), .int (dI 5), .ref 48, .ref 50, .ref 52, .ref 61] : List Value).set 4 (.int x)))) = HP si sa (va_up hs 1 ((upd dI 2 x), dA)) tx tl hc hn v pa mt pm ty ra := rfl
set_option maxRecDepth 100000 in
theorem HPst_1_0_5 {x : Int32} : (HP si sa (va_up hs 1 (dI, dA)) tx tl hc hn v pa mt pm ty ra).set 45 (.inr (.inr (5, ([.ref 46, .int (dI 0), .int (dI 1), .ref 47, .int (dI 2), .int (dI 3), .int (dI 4), .int (dI 5), .ref 48, .ref 50, .ref 52, .ref 61] : List Value).set 5 (.int x)))) = HP si sa (va_up hs 1 ((upd dI 3 x), dA)) tx tl hc hn v pa mt pm ty ra := rfl
set_option maxRecDepth 100000 in
theorem HPst_1_0_6 {x : Int32} : (HP si sa (va_up hs 1 (dI, dA)) tx tl hc hn v pa mt pm ty ra).set 45 (.inr (.inr (5, ([.ref 46, .int (dI 0), .int (dI 1), .ref 47, .int (dI 2), .int (dI 3), .int (dI 4), .int (dI 5), .ref 48, .ref 50, .ref 52, .ref 61] : List Value).set 6 (.int x)))) = HP si sa (va_up hs 1 ((upd dI 4 x), dA)) tx tl hc hn v pa mt pm ty ra := rfl
set_option maxRecDepth 100000 in
theorem HPst_1_0_7 {x : Int32} : (HP si sa (va_up hs 1 (dI, dA)) tx tl hc hn v pa mt pm ty ra).set 45 (.inr (.inr (5, ([.ref 46, .int (dI 0), .int (dI 1), .ref 47, .int (dI 2), .int (dI 3), .int (dI 4), .int (dI 5), .ref 48, .ref 50, .ref 52, .ref 61] : List Value).set 7 (.int x)))) = HP si sa (va_up hs 1 ((upd dI 5 x), dA)) tx tl hc hn v pa mt pm ty ra := rfl
set_option maxRecDepth 100000 in
theorem HPst_1_3_0 {x : Int32} : (HP si sa (va_up hs 1 (dI, dA)) tx tl hc hn v pa mt pm ty ra).set 48 (.inr (.inr (2, ([.int (dI 6), .int (dI 7), .ref 49] : List Value).set 0 (.int x)))) = HP si sa (va_up hs 1 ((upd dI 6 x), dA)) tx tl hc hn v pa mt pm ty ra := rfl
set_option maxRecDepth 100000 in
theorem HPst_1_3_1 {x : Int32} : (HP si sa (va_up hs 1 (dI, dA)) tx tl hc hn v pa mt pm ty ra).set 48 (.inr (.inr (2, ([.int (dI 6), .int (dI 7), .ref 49] : List Value).set 1 (.int x)))) = HP si sa (va_up hs 1 ((upd dI 7 x), dA)) tx tl hc hn v pa mt pm ty ra := rfl
set_option maxRecDepth 100000 in
theorem HPst_1_5_0 {x : Int32} : (HP si sa (va_up hs 1 (dI, dA)) tx tl hc hn v pa mt pm ty ra).set 50 (.inr (.inr (4, ([.int (dI 8), .ref 51] : List Value).set 0 (.int x)))) = HP si sa (va_up hs 1 ((upd dI 8 x), dA)) tx tl hc hn v pa mt pm ty ra := rfl
set_option maxRecDepth 100000 in
theorem HPst_1_7_0 {x : Int32} : (HP si sa (va_up hs 1 (dI, dA)) tx tl hc hn v pa mt pm ty ra).set 52 (.inr (.inr (6, ([.int (dI 9), .ref 53, .ref 54, .ref 55, .ref 56, .ref 57, .ref 58, .ref 59, .ref 60] : List Value).set 0 (.int x)))) = HP si sa (va_up hs 1 ((upd dI 9 x), dA)) tx tl hc hn v pa mt pm ty ra := rfl
set_option maxRecDepth 100000 in
theorem HPst_1_16_0 {x : Int32} : (HP si sa (va_up hs 1 (dI, dA)) tx tl hc hn v pa mt pm ty ra).set 61 (.inr (.inr (1, ([.int (dI 10), .ref 62, .ref 63, .ref 64] : List Value).set 0 (.int x)))) = HP si sa (va_up hs 1 ((upd dI 10 x), dA)) tx tl hc hn v pa mt pm ty ra := rfl
set_option maxRecDepth 100000 in
theorem HPst_2_0_1 {x : Int32} : (HP si sa (va_up hs 2 (dI, dA)) tx tl hc hn v pa mt pm ty ra).set 65 (.inr (.inr (5, ([.ref 66, .int (dI 0), .int (dI 1), .ref 67, .int (dI 2), .int (dI 3), .int (dI 4), .int (dI 5), .ref 68, .ref 70, .ref 72, .ref 81] : List Value).set 1 (.int x)))) = HP si sa (va_up hs 2 ((upd dI 0 x), dA)) tx tl hc hn v pa mt pm ty ra := rfl
set_option maxRecDepth 100000 in
theorem HPst_2_0_2 {x : Int32} : (HP si sa (va_up hs 2 (dI, dA)) tx tl hc hn v pa mt pm ty ra).set 65 (.inr (.inr (5, ([.ref 66, .int (dI 0), .int (dI 1), .ref 67, .int (dI 2), .int (dI 3), .int (dI 4), .int (dI 5), .ref 68, .ref 70, .ref 72, .ref 81] : List Value).set 2 (.int x)))) = HP si sa (va_up hs 2 ((upd dI 1 x), dA)) tx tl hc hn v pa mt pm ty ra := rfl
set_option maxRecDepth 100000 in
theorem HPst_2_0_4 {x : Int32} : (HP si sa (va_up hs 2 (dI, dA)) tx tl hc hn v pa mt pm ty ra).set 65 (.inr (.inr (5, ([.ref 66, .int (dI 0), .int (dI 1), .ref 67, .int (dI 2), .int (dI 3), .int (dI 4), .int (dI 5), .ref 68, .ref 70, .ref 72, .ref 81] : List Value).set 4 (.int x)))) = HP si sa (va_up hs 2 ((upd dI 2 x), dA)) tx tl hc hn v pa mt pm ty ra := rfl
set_option maxRecDepth 100000 in
theorem HPst_2_0_5 {x : Int32} : (HP si sa (va_up hs 2 (dI, dA)) tx tl hc hn v pa mt pm ty ra).set 65 (.inr (.inr (5, ([.ref 66, .int (dI 0), .int (dI 1), .ref 67, .int (dI 2), .int (dI 3), .int (dI 4), .int (dI 5), .ref 68, .ref 70, .ref 72, .ref 81] : List Value).set 5 (.int x)))) = HP si sa (va_up hs 2 ((upd dI 3 x), dA)) tx tl hc hn v pa mt pm ty ra := rfl
set_option maxRecDepth 100000 in
theorem HPst_2_0_6 {x : Int32} : (HP si sa (va_up hs 2 (dI, dA)) tx tl hc hn v pa mt pm ty ra).set 65 (.inr (.inr (5, ([.ref 66, .int (dI 0), .int (dI 1), .ref 67, .int (dI 2), .int (dI 3), .int (dI 4), .int (dI 5), .ref 68, .ref 70, .ref 72, .ref 81] : List Value).set 6 (.int x)))) = HP si sa (va_up hs 2 ((upd dI 4 x), dA)) tx tl hc hn v pa mt pm ty ra := rfl
set_option maxRecDepth 100000 in
theorem HPst_2_0_7 {x : Int32} : (HP si sa (va_up hs 2 (dI, dA)) tx tl hc hn v pa mt pm ty ra).set 65 (.inr (.inr (5, ([.ref 66, .int (dI 0), .int (dI 1), .ref 67, .int (dI 2), .int (dI 3), .int (dI 4), .int (dI 5), .ref 68, .ref 70, .ref 72, .ref 81] : List Value).set 7 (.int x)))) = HP si sa (va_up hs 2 ((upd dI 5 x), dA)) tx tl hc hn v pa mt pm ty ra := rfl
set_option maxRecDepth 100000 in
theorem HPst_2_3_0 {x : Int32} : (HP si sa (va_up hs 2 (dI, dA)) tx tl hc hn v pa mt pm ty ra).set 68 (.inr (.inr (2, ([.int (dI 6), .int (dI 7), .ref 69] : List Value).set 0 (.int x)))) = HP si sa (va_up hs 2 ((upd dI 6 x), dA)) tx tl hc hn v pa mt pm ty ra := rfl
set_option maxRecDepth 100000 in
theorem HPst_2_3_1 {x : Int32} : (HP si sa (va_up hs 2 (dI, dA)) tx tl hc hn v pa mt pm ty ra).set 68 (.inr (.inr (2, ([.int (dI 6), .int (dI 7), .ref 69] : List Value).set 1 (.int x)))) = HP si sa (va_up hs 2 ((upd dI 7 x), dA)) tx tl hc hn v pa mt pm ty ra := rfl
set_option maxRecDepth 100000 in
theorem HPst_2_5_0 {x : Int32} : (HP si sa (va_up hs 2 (dI, dA)) tx tl hc hn v pa mt pm ty ra).set 70 (.inr (.inr (4, ([.int (dI 8), .ref 71] : List Value).set 0 (.int x)))) = HP si sa (va_up hs 2 ((upd dI 8 x), dA)) tx tl hc hn v pa mt pm ty ra := rfl
set_option maxRecDepth 100000 in
theorem HPst_2_7_0 {x : Int32} : (HP si sa (va_up hs 2 (dI, dA)) tx tl hc hn v pa mt pm ty ra).set 72 (.inr (.inr (6, ([.int (dI 9), .ref 73, .ref 74, .ref 75, .ref 76, .ref 77, .ref 78, .ref 79, .ref 80] : List Value).set 0 (.int x)))) = HP si sa (va_up hs 2 ((upd dI 9 x), dA)) tx tl hc hn v pa mt pm ty ra := rfl
set_option maxRecDepth 100000 in
theorem HPst_2_16_0 {x : Int32} : (HP si sa (va_up hs 2 (dI, dA)) tx tl hc hn v pa mt pm ty ra).set 81 (.inr (.inr (1, ([.int (dI 10), .ref 82, .ref 83, .ref 84] : List Value).set 0 (.int x)))) = HP si sa (va_up hs 2 ((upd dI 10 x), dA)) tx tl hc hn v pa mt pm ty ra := rfl
set_option maxRecDepth 100000 in
theorem HPst_3_16_0 {x : Int32} : (HP si sa (va_up hs 3 (dI, dA)) tx tl hc hn v pa mt pm ty ra).set 101 (.inr (.inr (1, ([.int (dI 10), .ref 102, .ref 103, .ref 104] : List Value).set 0 (.int x)))) = HP si sa (va_up hs 3 ((upd dI 10 x), dA)) tx tl hc hn v pa mt pm ty ra := rfl
set_option maxRecDepth 100000 in
theorem HPst_3_0_1 {x : Int32} : (HP si sa (va_up hs 3 (dI, dA)) tx tl hc hn v pa mt pm ty ra).set 85 (.inr (.inr (5, ([.ref 86, .int (dI 0), .int (dI 1), .ref 87, .int (dI 2), .int (dI 3), .int (dI 4), .int (dI 5), .ref 88, .ref 90, .ref 92, .ref 101] : List Value).set 1 (.int x)))) = HP si sa (va_up hs 3 ((upd dI 0 x), dA)) tx tl hc hn v pa mt pm ty ra := rfl
set_option maxRecDepth 100000 in
theorem HPst_3_0_2 {x : Int32} : (HP si sa (va_up hs 3 (dI, dA)) tx tl hc hn v pa mt pm ty ra).set 85 (.inr (.inr (5, ([.ref 86, .int (dI 0), .int (dI 1), .ref 87, .int (dI 2), .int (dI 3), .int (dI 4), .int (dI 5), .ref 88, .ref 90, .ref 92, .ref 101] : List Value).set 2 (.int x)))) = HP si sa (va_up hs 3 ((upd dI 1 x), dA)) tx tl hc hn v pa mt pm ty ra := rfl
set_option maxRecDepth 100000 in
theorem HPst_3_0_4 {x : Int32} : (HP si sa (va_up hs 3 (dI, dA)) tx tl hc hn v pa mt pm ty ra).set 85 (.inr (.inr (5, ([.ref 86, .int (dI 0), .int (dI 1), .ref 87, .int (dI 2), .int (dI 3), .int (dI 4), .int (dI 5), .ref 88, .ref 90, .ref 92, .ref 101] : List Value).set 4 (.int x)))) = HP si sa (va_up hs 3 ((upd dI 2 x), dA)) tx tl hc hn v pa mt pm ty ra := rfl
set_option maxRecDepth 100000 in
theorem HPst_3_0_5 {x : Int32} : (HP si sa (va_up hs 3 (dI, dA)) tx tl hc hn v pa mt pm ty ra).set 85 (.inr (.inr (5, ([.ref 86, .int (dI 0), .int (dI 1), .ref 87, .int (dI 2), .int (dI 3), .int (dI 4), .int (dI 5), .ref 88, .ref 90, .ref 92, .ref 101] : List Value).set 5 (.int x)))) = HP si sa (va_up hs 3 ((upd dI 3 x), dA)) tx tl hc hn v pa mt pm ty ra := rfl
set_option maxRecDepth 100000 in
theorem HPst_3_0_6 {x : Int32} : (HP si sa (va_up hs 3 (dI, dA)) tx tl hc hn v pa mt pm ty ra).set 85 (.inr (.inr (5, ([.ref 86, .int (dI 0), .int (dI 1), .ref 87, .int (dI 2), .int (dI 3), .int (dI 4), .int (dI 5), .ref 88, .ref 90, .ref 92, .ref 101] : List Value).set 6 (.int x)))) = HP si sa (va_up hs 3 ((upd dI 4 x), dA)) tx tl hc hn v pa mt pm ty ra := rfl
set_option maxRecDepth 100000 in
theorem HPst_3_0_7 {x : Int32} : (HP si sa (va_up hs 3 (dI, dA)) tx tl hc hn v pa mt pm ty ra).set 85 (.inr (.inr (5, ([.ref 86, .int (dI 0), .int (dI 1), .ref 87, .int (dI 2), .int (dI 3), .int (dI 4), .int (dI 5), .ref 88, .ref 90, .ref 92, .ref 101] : List Value).set 7 (.int x)))) = HP si sa (va_up hs 3 ((upd dI 5 x), dA)) tx tl hc hn v pa mt pm ty ra := rfl
set_option maxRecDepth 100000 in
theorem HPst_3_3_0 {x : Int32} : (HP si sa (va_up hs 3 (dI, dA)) tx tl hc hn v pa mt pm ty ra).set 88 (.inr (.inr (2, ([.int (dI 6), .int (dI 7), .ref 89] : List Value).set 0 (.int x)))) = HP si sa (va_up hs 3 ((upd dI 6 x), dA)) tx tl hc hn v pa mt pm ty ra := rfl
set_option maxRecDepth 100000 in
theorem HPst_3_3_1 {x : Int32} : (HP si sa (va_up hs 3 (dI, dA)) tx tl hc hn v pa mt pm ty ra).set 88 (.inr (.inr (2, ([.int (dI 6), .int (dI 7), .ref 89] : List Value).set 1 (.int x)))) = HP si sa (va_up hs 3 ((upd dI 7 x), dA)) tx tl hc hn v pa mt pm ty ra := rfl
set_option maxRecDepth 100000 in
theorem HPst_3_5_0 {x : Int32} : (HP si sa (va_up hs 3 (dI, dA)) tx tl hc hn v pa mt pm ty ra).set 90 (.inr (.inr (4, ([.int (dI 8), .ref 91] : List Value).set 0 (.int x)))) = HP si sa (va_up hs 3 ((upd dI 8 x), dA)) tx tl hc hn v pa mt pm ty ra := rfl
set_option maxRecDepth 100000 in
theorem HPst_3_7_0 {x : Int32} : (HP si sa (va_up hs 3 (dI, dA)) tx tl hc hn v pa mt pm ty ra).set 92 (.inr (.inr (6, ([.int (dI 9), .ref 93, .ref 94, .ref 95, .ref 96, .ref 97, .ref 98, .ref 99, .ref 100] : List Value).set 0 (.int x)))) = HP si sa (va_up hs 3 ((upd dI 9 x), dA)) tx tl hc hn v pa mt pm ty ra := rfl
set_option maxRecDepth 100000 in
theorem HPst_4_0_1 {x : Int32} : (HP si sa (va_up hs 4 (dI, dA)) tx tl hc hn v pa mt pm ty ra).set 105 (.inr (.inr (5, ([.ref 106, .int (dI 0), .int (dI 1), .ref 107, .int (dI 2), .int (dI 3), .int (dI 4), .int (dI 5), .ref 108, .ref 110, .ref 112, .ref 121] : List Value).set 1 (.int x)))) = HP si sa (va_up hs 4 ((upd dI 0 x), dA)) tx tl hc hn v pa mt pm ty ra := rfl
set_option maxRecDepth 100000 in
theorem HPst_4_0_2 {x : Int32} : (HP si sa (va_up hs 4 (dI, dA)) tx tl hc hn v pa mt pm ty ra).set 105 (.inr (.inr (5, ([.ref 106, .int (dI 0), .int (dI 1), .ref 107, .int (dI 2), .int (dI 3), .int (dI 4), .int (dI 5), .ref 108, .ref 110, .ref 112, .ref 121] : List Value).set 2 (.int x)))) = HP si sa (va_up hs 4 ((upd dI 1 x), dA)) tx tl hc hn v pa mt pm ty ra := rfl
set_option maxRecDepth 100000 in
theorem HPst_4_0_4 {x : Int32} : (HP si sa (va_up hs 4 (dI, dA)) tx tl hc hn v pa mt pm ty ra).set 105 (.inr (.inr (5, ([.ref 106, .int (dI 0), .int (dI 1), .ref 107, .int (dI 2), .int (dI 3), .int (dI 4), .int (dI 5), .ref 108, .ref 110, .ref 112, .ref 121] : List Value).set 4 (.int x)))) = HP si sa (va_up hs 4 ((upd dI 2 x), dA)) tx tl hc hn v pa mt pm ty ra := rfl
set_option maxRecDepth 100000 in
theorem HPst_4_0_5 {x : Int32} : (HP si sa (va_up hs 4 (dI, dA)) tx tl hc hn v pa mt pm ty ra).set 105 (.inr (.inr (5, ([.ref 106, .int (dI 0), .int (dI 1), .ref 107, .int (dI 2), .int (dI 3), .int (dI 4), .int (dI 5), .ref 108, .ref 110, .ref 112, .ref 121] : List Value).set 5 (.int x)))) = HP si sa (va_up hs 4 ((upd dI 3 x), dA)) tx tl hc hn v pa mt pm ty ra := rfl
set_option maxRecDepth 100000 in
theorem HPst_4_0_6 {x : Int32} : (HP si sa (va_up hs 4 (dI, dA)) tx tl hc hn v pa mt pm ty ra).set 105 (.inr (.inr (5, ([.ref 106, .int (dI 0), .int (dI 1), .ref 107, .int (dI 2), .int (dI 3), .int (dI 4), .int (dI 5), .ref 108, .ref 110, .ref 112, .ref 121] : List Value).set 6 (.int x)))) = HP si sa (va_up hs 4 ((upd dI 4 x), dA)) tx tl hc hn v pa mt pm ty ra := rfl
set_option maxRecDepth 100000 in
theorem HPst_4_0_7 {x : Int32} : (HP si sa (va_up hs 4 (dI, dA)) tx tl hc hn v pa mt pm ty ra).set 105 (.inr (.inr (5, ([.ref 106, .int (dI 0), .int (dI 1), .ref 107, .int (dI 2), .int (dI 3), .int (dI 4), .int (dI 5), .ref 108, .ref 110, .ref 112, .ref 121] : List Value).set 7 (.int x)))) = HP si sa (va_up hs 4 ((upd dI 5 x), dA)) tx tl hc hn v pa mt pm ty ra := rfl
set_option maxRecDepth 100000 in
theorem HPst_4_3_0 {x : Int32} : (HP si sa (va_up hs 4 (dI, dA)) tx tl hc hn v pa mt pm ty ra).set 108 (.inr (.inr (2, ([.int (dI 6), .int (dI 7), .ref 109] : List Value).set 0 (.int x)))) = HP si sa (va_up hs 4 ((upd dI 6 x), dA)) tx tl hc hn v pa mt pm ty ra := rfl
set_option maxRecDepth 100000 in
theorem HPst_4_3_1 {x : Int32} : (HP si sa (va_up hs 4 (dI, dA)) tx tl hc hn v pa mt pm ty ra).set 108 (.inr (.inr (2, ([.int (dI 6), .int (dI 7), .ref 109] : List Value).set 1 (.int x)))) = HP si sa (va_up hs 4 ((upd dI 7 x), dA)) tx tl hc hn v pa mt pm ty ra := rfl
set_option maxRecDepth 100000 in
theorem HPst_4_5_0 {x : Int32} : (HP si sa (va_up hs 4 (dI, dA)) tx tl hc hn v pa mt pm ty ra).set 110 (.inr (.inr (4, ([.int (dI 8), .ref 111] : List Value).set 0 (.int x)))) = HP si sa (va_up hs 4 ((upd dI 8 x), dA)) tx tl hc hn v pa mt pm ty ra := rfl
set_option maxRecDepth 100000 in
theorem HPst_4_7_0 {x : Int32} : (HP si sa (va_up hs 4 (dI, dA)) tx tl hc hn v pa mt pm ty ra).set 112 (.inr (.inr (6, ([.int (dI 9), .ref 113, .ref 114, .ref 115, .ref 116, .ref 117, .ref 118, .ref 119, .ref 120] : List Value).set 0 (.int x)))) = HP si sa (va_up hs 4 ((upd dI 9 x), dA)) tx tl hc hn v pa mt pm ty ra := rfl
set_option maxRecDepth 100000 in
theorem HPst_4_16_0 {x : Int32} : (HP si sa (va_up hs 4 (dI, dA)) tx tl hc hn v pa mt pm ty ra).set 121 (.inr (.inr (1, ([.int (dI 10), .ref 122, .ref 123, .ref 124] : List Value).set 0 (.int x)))) = HP si sa (va_up hs 4 ((upd dI 10 x), dA)) tx tl hc hn v pa mt pm ty ra := rfl
set_option maxRecDepth 100000 in
theorem HPa_11 {f : Nat → Int32} : (HP si sa hs tx tl hc hn v pa mt pm ty ra).set 11 (.inl (41, f)) = HP si (va_up sa 4 f) hs tx tl hc hn v pa mt pm ty ra := rfl
set_option maxRecDepth 100000 in
theorem HPa_12 {f : Nat → Int32} : (HP si sa hs tx tl hc hn v pa mt pm ty ra).set 12 (.inl (41, f)) = HP si (va_up sa 5 f) hs tx tl hc hn v pa mt pm ty ra := rfl
set_option maxRecDepth 100000 in
theorem HPa_126 {f : Nat → Int32} : (HP si sa hs tx tl hc hn v pa mt pm ty ra).set 126 (.inl (1100, f)) = HP si sa hs tx tl hc hn f pa mt pm ty ra := rfl
set_option maxRecDepth 100000 in
theorem HPa_127 {f : Nat → Int32} : (HP si sa hs tx tl hc hn v pa mt pm ty ra).set 127 (.inl (5500, f)) = HP si sa hs tx tl hc hn v f mt pm ty ra := rfl
set_option maxRecDepth 100000 in
theorem HPa_128 {f : Nat → Int32} : (HP si sa hs tx tl hc hn v pa mt pm ty ra).set 128 (.inl (40, f)) = HP si sa hs tx tl hc hn v pa f pm ty ra := rfl
set_option maxRecDepth 100000 in
theorem HPa_13 {f : Nat → Int32} : (HP si sa hs tx tl hc hn v pa mt pm ty ra).set 13 (.inl (41, f)) = HP si (va_up sa 6 f) hs tx tl hc hn v pa mt pm ty ra := rfl
set_option maxRecDepth 100000 in
theorem HPa_14 {f : Nat → Int32} : (HP si sa hs tx tl hc hn v pa mt pm ty ra).set 14 (.inl (41, f)) = HP si (va_up sa 7 f) hs tx tl hc hn v pa mt pm ty ra := rfl
set_option maxRecDepth 100000 in
theorem HPa_15 {f : Nat → Int32} : (HP si sa hs tx tl hc hn v pa mt pm ty ra).set 15 (.inl (41, f)) = HP si (va_up sa 8 f) hs tx tl hc hn v pa mt pm ty ra := rfl
set_option maxRecDepth 100000 in
theorem HPa_16 {f : Nat → Int32} : (HP si sa hs tx tl hc hn v pa mt pm ty ra).set 16 (.inl (41, f)) = HP si (va_up sa 9 f) hs tx tl hc hn v pa mt pm ty ra := rfl
set_option maxRecDepth 100000 in
theorem HPa_17 {f : Nat → Int32} : (HP si sa hs tx tl hc hn v pa mt pm ty ra).set 17 (.inl (41, f)) = HP si (va_up sa 10 f) hs tx tl hc hn v pa mt pm ty ra := rfl
set_option maxRecDepth 100000 in
theorem HPa_18 {f : Nat → Int32} : (HP si sa hs tx tl hc hn v pa mt pm ty ra).set 18 (.inl (410, f)) = HP si (va_up sa 11 f) hs tx tl hc hn v pa mt pm ty ra := rfl
set_option maxRecDepth 100000 in
theorem HPa_2 {f : Nat → Int32} : (HP si sa hs tx tl hc hn v pa mt pm ty ra).set 2 (.inl (40, f)) = HP si sa hs f tl hc hn v pa mt pm ty ra := rfl
set_option maxRecDepth 100000 in
theorem HPa_20 {f : Nat → Int32} : (HP si sa hs tx tl hc hn v pa mt pm ty ra).set 20 (.inl (20, f)) = HP si (va_up sa 12 f) hs tx tl hc hn v pa mt pm ty ra := rfl
set_option maxRecDepth 100000 in
theorem HPa_21 {f : Nat → Int32} : (HP si sa hs tx tl hc hn v pa mt pm ty ra).set 21 (.inl (20, f)) = HP si (va_up sa 13 f) hs tx tl hc hn v pa mt pm ty ra := rfl
set_option maxRecDepth 100000 in
theorem HPa_22 {f : Nat → Int32} : (HP si sa hs tx tl hc hn v pa mt pm ty ra).set 22 (.inl (20, f)) = HP si (va_up sa 14 f) hs tx tl hc hn v pa mt pm ty ra := rfl
set_option maxRecDepth 100000 in
theorem HPa_4 {f : Nat → Int32} : (HP si sa hs tx tl hc hn v pa mt pm ty ra).set 4 (.inl (6, f)) = HP si (va_up sa 0 f) hs tx tl hc hn v pa mt pm ty ra := rfl
set_option maxRecDepth 100000 in
theorem HPa_5 {f : Nat → Int32} : (HP si sa hs tx tl hc hn v pa mt pm ty ra).set 5 (.inl (10, f)) = HP si (va_up sa 1 f) hs tx tl hc hn v pa mt pm ty ra := rfl
set_option maxRecDepth 100000 in
theorem HPa_7 {f : Nat → Int32} : (HP si sa hs tx tl hc hn v pa mt pm ty ra).set 7 (.inl (100, f)) = HP si (va_up sa 2 f) hs tx tl hc hn v pa mt pm ty ra := rfl
set_option maxRecDepth 100000 in
theorem HPa_9 {f : Nat → Int32} : (HP si sa hs tx tl hc hn v pa mt pm ty ra).set 9 (.inl (100, f)) = HP si (va_up sa 3 f) hs tx tl hc hn v pa mt pm ty ra := rfl
set_option maxRecDepth 100000 in
theorem HPat_0_1 {f : Nat → Int32} : (HP si sa (va_up hs 0 (dI, dA)) tx tl hc hn v pa mt pm ty ra).set 26 (.inl (6, f)) = HP si sa (va_up hs 0 (dI, (va_up dA 0 f))) tx tl hc hn v pa mt pm ty ra := rfl
set_option maxRecDepth 100000 in
theorem HPat_0_2 {f : Nat → Int32} : (HP si sa (va_up hs 0 (dI, dA)) tx tl hc hn v pa mt pm ty ra).set 27 (.inl (10, f)) = HP si sa (va_up hs 0 (dI, (va_up dA 1 f))) tx tl hc hn v pa mt pm ty ra := rfl
set_option maxRecDepth 100000 in
theorem HPat_0_4 {f : Nat → Int32} : (HP si sa (va_up hs 0 (dI, dA)) tx tl hc hn v pa mt pm ty ra).set 29 (.inl (100, f)) = HP si sa (va_up hs 0 (dI, (va_up dA 2 f))) tx tl hc hn v pa mt pm ty ra := rfl
set_option maxRecDepth 100000 in
theorem HPat_0_6 {f : Nat → Int32} : (HP si sa (va_up hs 0 (dI, dA)) tx tl hc hn v pa mt pm ty ra).set 31 (.inl (100, f)) = HP si sa (va_up hs 0 (dI, (va_up dA 3 f))) tx tl hc hn v pa mt pm ty ra := rfl
set_option maxRecDepth 100000 in
theorem HPat_0_8 {f : Nat → Int32} : (HP si sa (va_up hs 0 (dI, dA)) tx tl hc hn v pa mt pm ty ra).set 33 (.inl (41, f)) = HP si sa (va_up hs 0 (dI, (va_up dA 4 f))) tx tl hc hn v pa mt pm ty ra := rfl
set_option maxRecDepth 100000 in
theorem HPat_0_9 {f : Nat → Int32} : (HP si sa (va_up hs 0 (dI, dA)) tx tl hc hn v pa mt pm ty ra).set 34 (.inl (41, f)) = HP si sa (va_up hs 0 (dI, (va_up dA 5 f))) tx tl hc hn v pa mt pm ty ra := rfl
set_option maxRecDepth 100000 in
theorem HPat_0_10 {f : Nat → Int32} : (HP si sa (va_up hs 0 (dI, dA)) tx tl hc hn v pa mt pm ty ra).set 35 (.inl (41, f)) = HP si sa (va_up hs 0 (dI, (va_up dA 6 f))) tx tl hc hn v pa mt pm ty ra := rfl
set_option maxRecDepth 100000 in
theorem HPat_0_11 {f : Nat → Int32} : (HP si sa (va_up hs 0 (dI, dA)) tx tl hc hn v pa mt pm ty ra).set 36 (.inl (41, f)) = HP si sa (va_up hs 0 (dI, (va_up dA 7 f))) tx tl hc hn v pa mt pm ty ra := rfl
set_option maxRecDepth 100000 in
theorem HPat_0_12 {f : Nat → Int32} : (HP si sa (va_up hs 0 (dI, dA)) tx tl hc hn v pa mt pm ty ra).set 37 (.inl (41, f)) = HP si sa (va_up hs 0 (dI, (va_up dA 8 f))) tx tl hc hn v pa mt pm ty ra := rfl
set_option maxRecDepth 100000 in
theorem HPat_0_13 {f : Nat → Int32} : (HP si sa (va_up hs 0 (dI, dA)) tx tl hc hn v pa mt pm ty ra).set 38 (.inl (41, f)) = HP si sa (va_up hs 0 (dI, (va_up dA 9 f))) tx tl hc hn v pa mt pm ty ra := rfl
set_option maxRecDepth 100000 in
theorem HPat_0_14 {f : Nat → Int32} : (HP si sa (va_up hs 0 (dI, dA)) tx tl hc hn v pa mt pm ty ra).set 39 (.inl (41, f)) = HP si sa (va_up hs 0 (dI, (va_up dA 10 f))) tx tl hc hn v pa mt pm ty ra := rfl
set_option maxRecDepth 100000 in
theorem HPat_0_15 {f : Nat → Int32} : (HP si sa (va_up hs 0 (dI, dA)) tx tl hc hn v pa mt pm ty ra).set 40 (.inl (410, f)) = HP si sa (va_up hs 0 (dI, (va_up dA 11 f))) tx tl hc hn v pa mt pm ty ra := rfl
set_option maxRecDepth 100000 in
theorem HPat_0_17 {f : Nat → Int32} : (HP si sa (va_up hs 0 (dI, dA)) tx tl hc hn v pa mt pm ty ra).set 42 (.inl (20, f)) = HP si sa (va_up hs 0 (dI, (va_up dA 12 f))) tx tl hc hn v pa mt pm ty ra := rfl
set_option maxRecDepth 100000 in
theorem HPat_0_18 {f : Nat → Int32} : (HP si sa (va_up hs 0 (dI, dA)) tx tl hc hn v pa mt pm ty ra).set 43 (.inl (20, f)) = HP si sa (va_up hs 0 (dI, (va_up dA 13 f))) tx tl hc hn v pa mt pm ty ra := rfl
set_option maxRecDepth 100000 in
theorem HPat_0_19 {f : Nat → Int32} : (HP si sa (va_up hs 0 (dI, dA)) tx tl hc hn v pa mt pm ty ra).set 44 (.inl (20, f)) = HP si sa (va_up hs 0 (dI, (va_up dA 14 f))) tx tl hc hn v pa mt pm ty ra := rfl
set_option maxRecDepth 100000 in
theorem HPat_1_1 {f : Nat → Int32} : (HP si sa (va_up hs 1 (dI, dA)) tx tl hc hn v pa mt pm ty ra).set 46 (.inl (6, f)) = HP si sa (va_up hs 1 (dI, (va_up dA 0 f))) tx tl hc hn v pa mt pm ty ra := rfl
set_option maxRecDepth 100000 in
theorem HPat_1_2 {f : Nat → Int32} : (HP si sa (va_up hs 1 (dI, dA)) tx tl hc hn v pa mt pm ty ra).set 47 (.inl (10, f)) = HP si sa (va_up hs 1 (dI, (va_up dA 1 f))) tx tl hc hn v pa mt pm ty ra := rfl
set_option maxRecDepth 100000 in
theorem HPat_1_4 {f : Nat → Int32} : (HP si sa (va_up hs 1 (dI, dA)) tx tl hc hn v pa mt pm ty ra).set 49 (.inl (100, f)) = HP si sa (va_up hs 1 (dI, (va_up dA 2 f))) tx tl hc hn v pa mt pm ty ra := rfl
set_option maxRecDepth 100000 in
theorem HPat_1_6 {f : Nat → Int32} : (HP si sa (va_up hs 1 (dI, dA)) tx tl hc hn v pa mt pm ty ra).set 51 (.inl (100, f)) = HP si sa (va_up hs 1 (dI, (va_up dA 3 f))) tx tl hc hn v pa mt pm ty ra := rfl
set_option maxRecDepth 100000 in
theorem HPat_1_8 {f : Nat → Int32} : (HP si sa (va_up hs 1 (dI, dA)) tx tl hc hn v pa mt pm ty ra).set 53 (.inl (41, f)) = HP si sa (va_up hs 1 (dI, (va_up dA 4 f))) tx tl hc hn v pa mt pm ty ra := rfl
set_option maxRecDepth 100000 in
theorem HPat_1_9 {f : Nat → Int32} : (HP si sa (va_up hs 1 (dI, dA)) tx tl hc hn v pa mt pm ty ra).set 54 (.inl (41, f)) = HP si sa (va_up hs 1 (dI, (va_up dA 5 f))) tx tl hc hn v pa mt pm ty ra := rfl
set_option maxRecDepth 100000 in
theorem HPat_1_10 {f : Nat → Int32} : (HP si sa (va_up hs 1 (dI, dA)) tx tl hc hn v pa mt pm ty ra).set 55 (.inl (41, f)) = HP si sa (va_up hs 1 (dI, (va_up dA 6 f))) tx tl hc hn v pa mt pm ty ra := rfl
set_option maxRecDepth 100000 in
theorem HPat_1_11 {f : Nat → Int32} : (HP si sa (va_up hs 1 (dI, dA)) tx tl hc hn v pa mt pm ty ra).set 56 (.inl (41, f)) = HP si sa (va_up hs 1 (dI, (va_up dA 7 f))) tx tl hc hn v pa mt pm ty ra := rfl
set_option maxRecDepth 100000 in
theorem HPat_1_12 {f : Nat → Int32} : (HP si sa (va_up hs 1 (dI, dA)) tx tl hc hn v pa mt pm ty ra).set 57 (.inl (41, f)) = HP si sa (va_up hs 1 (dI, (va_up dA 8 f))) tx tl hc hn v pa mt pm ty ra := rfl
set_option maxRecDepth 100000 in
theorem HPat_1_13 {f : Nat → Int32} : (HP si sa (va_up hs 1 (dI, dA)) tx tl hc hn v pa mt pm ty ra).set 58 (.inl (41, f)) = HP si sa (va_up hs 1 (dI, (va_up dA 9 f))) tx tl hc hn v pa mt pm ty ra := rfl
set_option maxRecDepth 100000 in
theorem HPat_1_14 {f : Nat → Int32} : (HP si sa (va_up hs 1 (dI, dA)) tx tl hc hn v pa mt pm ty ra).set 59 (.inl (41, f)) = HP si sa (va_up hs 1 (dI, (va_up dA 10 f))) tx tl hc hn v pa mt pm ty ra := rfl
set_option maxRecDepth 100000 in
theorem HPat_1_15 {f : Nat → Int32} : (HP si sa (va_up hs 1 (dI, dA)) tx tl hc hn v pa mt pm ty ra).set 60 (.inl (410, f)) = HP si sa (va_up hs 1 (dI, (va_up dA 11 f))) tx tl hc hn v pa mt pm ty ra := rfl
set_option maxRecDepth 100000 in
theorem HPat_1_17 {f : Nat → Int32} : (HP si sa (va_up hs 1 (dI, dA)) tx tl hc hn v pa mt pm ty ra).set 62 (.inl (20, f)) = HP si sa (va_up hs 1 (dI, (va_up dA 12 f))) tx tl hc hn v pa mt pm ty ra := rfl
set_option maxRecDepth 100000 in
theorem HPat_1_18 {f : Nat → Int32} : (HP si sa (va_up hs 1 (dI, dA)) tx tl hc hn v pa mt pm ty ra).set 63 (.inl (20, f)) = HP si sa (va_up hs 1 (dI, (va_up dA 13 f))) tx tl hc hn v pa mt pm ty ra := rfl
set_option maxRecDepth 100000 in
theorem HPat_1_19 {f : Nat → Int32} : (HP si sa (va_up hs 1 (dI, dA)) tx tl hc hn v pa mt pm ty ra).set 64 (.inl (20, f)) = HP si sa (va_up hs 1 (dI, (va_up dA 14 f))) tx tl hc hn v pa mt pm ty ra := rfl
set_option maxRecDepth 100000 in
theorem HPat_2_1 {f : Nat → Int32} : (HP si sa (va_up hs 2 (dI, dA)) tx tl hc hn v pa mt pm ty ra).set 66 (.inl (6, f)) = HP si sa (va_up hs 2 (dI, (va_up dA 0 f))) tx tl hc hn v pa mt pm ty ra := rfl
set_option maxRecDepth 100000 in
theorem HPat_2_2 {f : Nat → Int32} : (HP si sa (va_up hs 2 (dI, dA)) tx tl hc hn v pa mt pm ty ra).set 67 (.inl (10, f)) = HP si sa (va_up hs 2 (dI, (va_up dA 1 f))) tx tl hc hn v pa mt pm ty ra := rfl
set_option maxRecDepth 100000 in
theorem HPat_2_4 {f : Nat → Int32} : (HP si sa (va_up hs 2 (dI, dA)) tx tl hc hn v pa mt pm ty ra).set 69 (.inl (100, f)) = HP si sa (va_up hs 2 (dI, (va_up dA 2 f))) tx tl hc hn v pa mt pm ty ra := rfl
set_option maxRecDepth 100000 in
theorem HPat_2_6 {f : Nat → Int32} : (HP si sa (va_up hs 2 (dI, dA)) tx tl hc hn v pa mt pm ty ra).set 71 (.inl (100, f)) = HP si sa (va_up hs 2 (dI, (va_up dA 3 f))) tx tl hc hn v pa mt pm ty ra := rfl
set_option maxRecDepth 100000 in
theorem HPat_2_8 {f : Nat → Int32} : (HP si sa (va_up hs 2 (dI, dA)) tx tl hc hn v pa mt pm ty ra).set 73 (.inl (41, f)) = HP si sa (va_up hs 2 (dI, (va_up dA 4 f))) tx tl hc hn v pa mt pm ty ra := rfl
set_option maxRecDepth 100000 in
theorem HPat_2_9 {f : Nat → Int32} : (HP si sa (va_up hs 2 (dI, dA)) tx tl hc hn v pa mt pm ty ra).set 74 (.inl (41, f)) = HP si sa (va_up hs 2 (dI, (va_up dA 5 f))) tx tl hc hn v pa mt pm ty ra := rfl
set_option maxRecDepth 100000 in
theorem HPat_2_10 {f : Nat → Int32} : (HP si sa (va_up hs 2 (dI, dA)) tx tl hc hn v pa mt pm ty ra).set 75 (.inl (41, f)) = HP si sa (va_up hs 2 (dI, (va_up dA 6 f))) tx tl hc hn v pa mt pm ty ra := rfl
set_option maxRecDepth 100000 in
theorem HPat_2_11 {f : Nat → Int32} : (HP si sa (va_up hs 2 (dI, dA)) tx tl hc hn v pa mt pm ty ra).set 76 (.inl (41, f)) = HP si sa (va_up hs 2 (dI, (va_up dA 7 f))) tx tl hc hn v pa mt pm ty ra := rfl
set_option maxRecDepth 100000 in
theorem HPat_2_12 {f : Nat → Int32} : (HP si sa (va_up hs 2 (dI, dA)) tx tl hc hn v pa mt pm ty ra).set 77 (.inl (41, f)) = HP si sa (va_up hs 2 (dI, (va_up dA 8 f))) tx tl hc hn v pa mt pm ty ra := rfl
set_option maxRecDepth 100000 in
theorem HPat_2_13 {f : Nat → Int32} : (HP si sa (va_up hs 2 (dI, dA)) tx tl hc hn v pa mt pm ty ra).set 78 (.inl (41, f)) = HP si sa (va_up hs 2 (dI, (va_up dA 9 f))) tx tl hc hn v pa mt pm ty ra := rfl
set_option maxRecDepth 100000 in
theorem HPat_2_14 {f : Nat → Int32} : (HP si sa (va_up hs 2 (dI, dA)) tx tl hc hn v pa mt pm ty ra).set 79 (.inl (41, f)) = HP si sa (va_up hs 2 (dI, (va_up dA 10 f))) tx tl hc hn v pa mt pm ty ra := rfl
set_option maxRecDepth 100000 in
theorem HPat_2_15 {f : Nat → Int32} : (HP si sa (va_up hs 2 (dI, dA)) tx tl hc hn v pa mt pm ty ra).set 80 (.inl (410, f)) = HP si sa (va_up hs 2 (dI, (va_up dA 11 f))) tx tl hc hn v pa mt pm ty ra := rfl
set_option maxRecDepth 100000 in
theorem HPat_2_17 {f : Nat → Int32} : (HP si sa (va_up hs 2 (dI, dA)) tx tl hc hn v pa mt pm ty ra).set 82 (.inl (20, f)) = HP si sa (va_up hs 2 (dI, (va_up dA 12 f))) tx tl hc hn v pa mt pm ty ra := rfl
set_option maxRecDepth 100000 in
theorem HPat_2_18 {f : Nat → Int32} : (HP si sa (va_up hs 2 (dI, dA)) tx tl hc hn v pa mt pm ty ra).set 83 (.inl (20, f)) = HP si sa (va_up hs 2 (dI, (va_up dA 13 f))) tx tl hc hn v pa mt pm ty ra := rfl
set_option maxRecDepth 100000 in
theorem HPat_2_19 {f : Nat → Int32} : (HP si sa (va_up hs 2 (dI, dA)) tx tl hc hn v pa mt pm ty ra).set 84 (.inl (20, f)) = HP si sa (va_up hs 2 (dI, (va_up dA 14 f))) tx tl hc hn v pa mt pm ty ra := rfl
set_option maxRecDepth 100000 in
theorem HPat_3_15 {f : Nat → Int32} : (HP si sa (va_up hs 3 (dI, dA)) tx tl hc hn v pa mt pm ty ra).set 100 (.inl (410, f)) = HP si sa (va_up hs 3 (dI, (va_up dA 11 f))) tx tl hc hn v pa mt pm ty ra := rfl
set_option maxRecDepth 100000 in
theorem HPat_3_17 {f : Nat → Int32} : (HP si sa (va_up hs 3 (dI, dA)) tx tl hc hn v pa mt pm ty ra).set 102 (.inl (20, f)) = HP si sa (va_up hs 3 (dI, (va_up dA 12 f))) tx tl hc hn v pa mt pm ty ra := rfl
set_option maxRecDepth 100000 in
theorem HPat_3_18 {f : Nat → Int32} : (HP si sa (va_up hs 3 (dI, dA)) tx tl hc hn v pa mt pm ty ra).set 103 (.inl (20, f)) = HP si sa (va_up hs 3 (dI, (va_up dA 13 f))) tx tl hc hn v pa mt pm ty ra := rfl
set_option maxRecDepth 100000 in
theorem HPat_3_19 {f : Nat → Int32} : (HP si sa (va_up hs 3 (dI, dA)) tx tl hc hn v pa mt pm ty ra).set 104 (.inl (20, f)) = HP si sa (va_up hs 3 (dI, (va_up dA 14 f))) tx tl hc hn v pa mt pm ty ra := rfl
set_option maxRecDepth 100000 in
theorem HPat_3_1 {f : Nat → Int32} : (HP si sa (va_up hs 3 (dI, dA)) tx tl hc hn v pa mt pm ty ra).set 86 (.inl (6, f)) = HP si sa (va_up hs 3 (dI, (va_up dA 0 f))) tx tl hc hn v pa mt pm ty ra := rfl
set_option maxRecDepth 100000 in
theorem HPat_3_2 {f : Nat → Int32} : (HP si sa (va_up hs 3 (dI, dA)) tx tl hc hn v pa mt pm ty ra).set 87 (.inl (10, f)) = HP si sa (va_up hs 3 (dI, (va_up dA 1 f))) tx tl hc hn v pa mt pm ty ra := rfl
set_option maxRecDepth 100000 in
theorem HPat_3_4 {f : Nat → Int32} : (HP si sa (va_up hs 3 (dI, dA)) tx tl hc hn v pa mt pm ty ra).set 89 (.inl (100, f)) = HP si sa (va_up hs 3 (dI, (va_up dA 2 f))) tx tl hc hn v pa mt pm ty ra := rfl
set_option maxRecDepth 100000 in
theorem HPat_3_6 {f : Nat → Int32} : (HP si sa (va_up hs 3 (dI, dA)) tx tl hc hn v pa mt pm ty ra).set 91 (.inl (100, f)) = HP si sa (va_up hs 3 (dI, (va_up dA 3 f))) tx tl hc hn v pa mt pm ty ra := rfl
set_option maxRecDepth 100000 in
theorem HPat_3_8 {f : Nat → Int32} : (HP si sa (va_up hs 3 (dI, dA)) tx tl hc hn v pa mt pm ty ra).set 93 (.inl (41, f)) = HP si sa (va_up hs 3 (dI, (va_up dA 4 f))) tx tl hc hn v pa mt pm ty ra := rfl
set_option maxRecDepth 100000 in
theorem HPat_3_9 {f : Nat → Int32} : (HP si sa (va_up hs 3 (dI, dA)) tx tl hc hn v pa mt pm ty ra).set 94 (.inl (41, f)) = HP si sa (va_up hs 3 (dI, (va_up dA 5 f))) tx tl hc hn v pa mt pm ty ra := rfl
set_option maxRecDepth 100000 in
theorem HPat_3_10 {f : Nat → Int32} : (HP si sa (va_up hs 3 (dI, dA)) tx tl hc hn v pa mt pm ty ra).set 95 (.inl (41, f)) = HP si sa (va_up hs 3 (dI, (va_up dA 6 f))) tx tl hc hn v pa mt pm ty ra := rfl
set_option maxRecDepth 100000 in
theorem HPat_3_11 {f : Nat → Int32} : (HP si sa (va_up hs 3 (dI, dA)) tx tl hc hn v pa mt pm ty ra).set 96 (.inl (41, f)) = HP si sa (va_up hs 3 (dI, (va_up dA 7 f))) tx tl hc hn v pa mt pm ty ra := rfl
set_option maxRecDepth 100000 in
theorem HPat_3_12 {f : Nat → Int32} : (HP si sa (va_up hs 3 (dI, dA)) tx tl hc hn v pa mt pm ty ra).set 97 (.inl (41, f)) = HP si sa (va_up hs 3 (dI, (va_up dA 8 f))) tx tl hc hn v pa mt pm ty ra := rfl
set_option maxRecDepth 100000 in
theorem HPat_3_13 {f : Nat → Int32} : (HP si sa (va_up hs 3 (dI, dA)) tx tl hc hn v pa mt pm ty ra).set 98 (.inl (41, f)) = HP si sa (va_up hs 3 (dI, (va_up dA 9 f))) tx tl hc hn v pa mt pm ty ra := rfl
set_option maxRecDepth 100000 in
theorem HPat_3_14 {f : Nat → Int32} : (HP si sa (va_up hs 3 (dI, dA)) tx tl hc hn v pa mt pm ty ra).set 99 (.inl (41, f)) = HP si sa (va_up hs 3 (dI, (va_up dA 10 f))) tx tl hc hn v pa mt pm ty ra := rfl
set_option maxRecDepth 100000 in
theorem HPat_4_1 {f : Nat → Int32} : (HP si sa (va_up hs 4 (dI, dA)) tx tl hc hn v pa mt pm ty ra).set 106 (.inl (6, f)) = HP si sa (va_up hs 4 (dI, (va_up dA 0 f))) tx tl hc hn v pa mt pm ty ra := rfl
set_option maxRecDepth 100000 in
theorem HPat_4_2 {f : Nat → Int32} : (HP si sa (va_up hs 4 (dI, dA)) tx tl hc hn v pa mt pm ty ra).set 107 (.inl (10, f)) = HP si sa (va_up hs 4 (dI, (va_up dA 1 f))) tx tl hc hn v pa mt pm ty ra := rfl
set_option maxRecDepth 100000 in
theorem HPat_4_4 {f : Nat → Int32} : (HP si sa (va_up hs 4 (dI, dA)) tx tl hc hn v pa mt pm ty ra).set 109 (.inl (100, f)) = HP si sa (va_up hs 4 (dI, (va_up dA 2 f))) tx tl hc hn v pa mt pm ty ra := rfl
set_option maxRecDepth 100000 in
theorem HPat_4_6 {f : Nat → Int32} : (HP si sa (va_up hs 4 (dI, dA)) tx tl hc hn v pa mt pm ty ra).set 111 (.inl (100, f)) = HP si sa (va_up hs 4 (dI, (va_up dA 3 f))) tx tl hc hn v pa mt pm ty ra := rfl
set_option maxRecDepth 100000 in
theorem HPat_4_8 {f : Nat → Int32} : (HP si sa (va_up hs 4 (dI, dA)) tx tl hc hn v pa mt pm ty ra).set 113 (.inl (41, f)) = HP si sa (va_up hs 4 (dI, (va_up dA 4 f))) tx tl hc hn v pa mt pm ty ra := rfl
set_option maxRecDepth 100000 in
theorem HPat_4_9 {f : Nat → Int32} : (HP si sa (va_up hs 4 (dI, dA)) tx tl hc hn v pa mt pm ty ra).set 114 (.inl (41, f)) = HP si sa (va_up hs 4 (dI, (va_up dA 5 f))) tx tl hc hn v pa mt pm ty ra := rfl
set_option maxRecDepth 100000 in
theorem HPat_4_10 {f : Nat → Int32} : (HP si sa (va_up hs 4 (dI, dA)) tx tl hc hn v pa mt pm ty ra).set 115 (.inl (41, f)) = HP si sa (va_up hs 4 (dI, (va_up dA 6 f))) tx tl hc hn v pa mt pm ty ra := rfl
set_option maxRecDepth 100000 in
theorem HPat_4_11 {f : Nat → Int32} : (HP si sa (va_up hs 4 (dI, dA)) tx tl hc hn v pa mt pm ty ra).set 116 (.inl (41, f)) = HP si sa (va_up hs 4 (dI, (va_up dA 7 f))) tx tl hc hn v pa mt pm ty ra := rfl
set_option maxRecDepth 100000 in
theorem HPat_4_12 {f : Nat → Int32} : (HP si sa (va_up hs 4 (dI, dA)) tx tl hc hn v pa mt pm ty ra).set 117 (.inl (41, f)) = HP si sa (va_up hs 4 (dI, (va_up dA 8 f))) tx tl hc hn v pa mt pm ty ra := rfl
set_option maxRecDepth 100000 in
theorem HPat_4_13 {f : Nat → Int32} : (HP si sa (va_up hs 4 (dI, dA)) tx tl hc hn v pa mt pm ty ra).set 118 (.inl (41, f)) = HP si sa (va_up hs 4 (dI, (va_up dA 9 f))) tx tl hc hn v pa mt pm ty ra := rfl
set_option maxRecDepth 100000 in
theorem HPat_4_14 {f : Nat → Int32} : (HP si sa (va_up hs 4 (dI, dA)) tx tl hc hn v pa mt pm ty ra).set 119 (.inl (41, f)) = HP si sa (va_up hs 4 (dI, (va_up dA 10 f))) tx tl hc hn v pa mt pm ty ra := rfl
set_option maxRecDepth 100000 in
theorem HPat_4_15 {f : Nat → Int32} : (HP si sa (va_up hs 4 (dI, dA)) tx tl hc hn v pa mt pm ty ra).set 120 (.inl (410, f)) = HP si sa (va_up hs 4 (dI, (va_up dA 11 f))) tx tl hc hn v pa mt pm ty ra := rfl
set_option maxRecDepth 100000 in
theorem HPat_4_17 {f : Nat → Int32} : (HP si sa (va_up hs 4 (dI, dA)) tx tl hc hn v pa mt pm ty ra).set 122 (.inl (20, f)) = HP si sa (va_up hs 4 (dI, (va_up dA 12 f))) tx tl hc hn v pa mt pm ty ra := rfl
set_option maxRecDepth 100000 in
theorem HPat_4_18 {f : Nat → Int32} : (HP si sa (va_up hs 4 (dI, dA)) tx tl hc hn v pa mt pm ty ra).set 123 (.inl (20, f)) = HP si sa (va_up hs 4 (dI, (va_up dA 13 f))) tx tl hc hn v pa mt pm ty ra := rfl
set_option maxRecDepth 100000 in
theorem HPat_4_19 {f : Nat → Int32} : (HP si sa (va_up hs 4 (dI, dA)) tx tl hc hn v pa mt pm ty ra).set 124 (.inl (20, f)) = HP si sa (va_up hs 4 (dI, (va_up dA 14 f))) tx tl hc hn v pa mt pm ty ra := rfl
theorem HP_eta (k : Nat) : HP si sa hs tx tl hc hn v pa mt pm ty ra = HP si sa (va_up hs k ((hs k).1, (hs k).2)) tx tl hc hn v pa mt pm ty ra := by
  congr 1
  funext j
  unfold va_up
  split
  next h => rw [h]
  · rfl
end TVHP
def tv_least : Nat → Int32 := fun i => if i = 0 then 10 else if i = 4 then 0 else 1
def tv_great : Nat → Int32 := fun i => if i = 0 then 1000 else if i = 1 then 9 else if i = 2 then 9 else if i = 3 then 100 else if i = 4 then 100 else 10
/-! the JDK's bitCount and fill; copyRow -/
def tv_us (x : Int32) (n : Int32) : Int32 := (x.toUInt32 >>> (n.toUInt32 &&& Int32.toUInt32 31)).toInt32
def tv_b1 (x : Int32) : Int32 := x - (tv_us x 1 &&& 1431655765)
def tv_b2 (x : Int32) : Int32 := (x &&& 858993459) + (tv_us x 2 &&& 858993459)
def tv_b3 (x : Int32) : Int32 := (x + tv_us x 4) &&& 252645135
def tv_b4 (x : Int32) : Int32 := x + tv_us x 8
def tv_b5 (x : Int32) : Int32 := x + tv_us x 16
def tv_bc (x : Int32) : Int32 := tv_b5 (tv_b4 (tv_b3 (tv_b2 (tv_b1 x)))) &&& 63
theorem kc_J6_265 : Cond.constant RJ6 265 1431655765 ∈ lw_tbl := (List.mem_of_getElem? (i := 310) (by decide +kernel))
theorem kc_J6_266 : Cond.constant RJ6 266 858993459 ∈ lw_tbl := (List.mem_of_getElem? (i := 311) (by decide +kernel))
theorem kc_J6_267 : Cond.constant RJ6 267 252645135 ∈ lw_tbl := (List.mem_of_getElem? (i := 312) (by decide +kernel))
set_option maxRecDepth 100000 in
set_option maxHeartbeats 4000000 in
theorem R_bitCount {g : tv_G} {l : Launch} {h : tv_Hp} {x : Int32} : tv_E g l yJ6_bitCount_0f7a4 cJ6_bitCount_0f7a4 1 (some .int) 0 0 0 0 [.int x] [] h (some (.int (tv_bc x))) h := by
  refine ev_iload_n (i := 0) 1 dJ6_bitCount_0f7a4_0 rfl rfl rfl ?_
  refine ev_iload_n (i := 0) 2 dJ6_bitCount_0f7a4_1 rfl rfl rfl ?_
  refine ev_iconst 3 dJ6_bitCount_0f7a4_2 rfl (v := 1) (by decide) ?_
  refine ev_iushr 4 dJ6_bitCount_0f7a4_3 rfl ?_
  refine ev_ldcw 7 dJ6_bitCount_0f7a4_4 rfl kc_J6_265 ?_
  refine ev_iand 8 dJ6_bitCount_0f7a4_7 rfl ?_
  refine ev_isub 9 dJ6_bitCount_0f7a4_8 rfl ?_
  refine ev_istore_n (i := 0) (L2 := [.int (tv_b1 x)]) 10 dJ6_bitCount_0f7a4_9 rfl rfl (Nat.le_of_ble_eq_true rfl) rfl ?_
  refine ev_iload_n (i := 0) 11 dJ6_bitCount_0f7a4_10 rfl rfl rfl ?_
  refine ev_ldcw 14 dJ6_bitCount_0f7a4_11 rfl kc_J6_266 ?_
  refine ev_iand 15 dJ6_bitCount_0f7a4_14 rfl ?_
  refine ev_iload_n (i := 0) 16 dJ6_bitCount_0f7a4_15 rfl rfl rfl ?_
  refine ev_iconst 17 dJ6_bitCount_0f7a4_16 rfl (v := 2) (by decide) ?_
  refine ev_iushr 18 dJ6_bitCount_0f7a4_17 rfl ?_
  refine ev_ldcw 21 dJ6_bitCount_0f7a4_18 rfl kc_J6_266 ?_
  refine ev_iand 22 dJ6_bitCount_0f7a4_21 rfl ?_
  refine ev_iadd 23 dJ6_bitCount_0f7a4_22 rfl ?_
  refine ev_istore_n (i := 0) (L2 := [.int (tv_b2 (tv_b1 x))]) 24 dJ6_bitCount_0f7a4_23 rfl rfl (Nat.le_of_ble_eq_true rfl) rfl ?_
  refine ev_iload_n (i := 0) 25 dJ6_bitCount_0f7a4_24 rfl rfl rfl ?_
  refine ev_iload_n (i := 0) 26 dJ6_bitCount_0f7a4_25 rfl rfl rfl ?_
  refine ev_iconst 27 dJ6_bitCount_0f7a4_26 rfl (v := 4) (by decide) ?_
  refine ev_iushr 28 dJ6_bitCount_0f7a4_27 rfl ?_
  refine ev_iadd 29 dJ6_bitCount_0f7a4_28 rfl ?_
  refine ev_ldcw 32 dJ6_bitCount_0f7a4_29 rfl kc_J6_267 ?_
  refine ev_iand 33 dJ6_bitCount_0f7a4_32 rfl ?_
  refine ev_istore_n (i := 0) (L2 := [.int (tv_b3 (tv_b2 (tv_b1 x)))]) 34 dJ6_bitCount_0f7a4_33 rfl rfl (Nat.le_of_ble_eq_true rfl) rfl ?_
  refine ev_iload_n (i := 0) 35 dJ6_bitCount_0f7a4_34 rfl rfl rfl ?_
  refine ev_iload_n (i := 0) 36 dJ6_bitCount_0f7a4_35 rfl rfl rfl ?_
  refine ev_bipush 38 dJ6_bitCount_0f7a4_36 rfl (v := 8) (by decide) ?_
  refine ev_iushr 39 dJ6_bitCount_0f7a4_38 rfl ?_
  refine ev_iadd 40 dJ6_bitCount_0f7a4_39 rfl ?_
  refine ev_istore_n (i := 0) (L2 := [.int (tv_b4 (tv_b3 (tv_b2 (tv_b1 x))))]) 41 dJ6_bitCount_0f7a4_40 rfl rfl (Nat.le_of_ble_eq_true rfl) rfl ?_
  refine ev_iload_n (i := 0) 42 dJ6_bitCount_0f7a4_41 rfl rfl rfl ?_
  refine ev_iload_n (i := 0) 43 dJ6_bitCount_0f7a4_42 rfl rfl rfl ?_
  refine ev_bipush 45 dJ6_bitCount_0f7a4_43 rfl (v := 16) (by decide) ?_
  refine ev_iushr 46 dJ6_bitCount_0f7a4_45 rfl ?_
  refine ev_iadd 47 dJ6_bitCount_0f7a4_46 rfl ?_
  refine ev_istore_n (i := 0) (L2 := [.int (tv_b5 (tv_b4 (tv_b3 (tv_b2 (tv_b1 x)))))]) 48 dJ6_bitCount_0f7a4_47 rfl rfl (Nat.le_of_ble_eq_true rfl) rfl ?_
  refine ev_iload_n (i := 0) 49 dJ6_bitCount_0f7a4_48 rfl rfl rfl ?_
  refine ev_bipush 51 dJ6_bitCount_0f7a4_49 rfl (v := 63) (by decide) ?_
  refine ev_iand 52 dJ6_bitCount_0f7a4_51 rfl ?_
  exact ev_ireturn dJ6_bitCount_0f7a4_52 rfl rfl
set_option maxRecDepth 100000 in
set_option maxHeartbeats 4000000 in
theorem R_copyRow {g : tv_G} {l : Launch} {h hh : tv_Hp} {i j n0 n1 : Nat} {f f1 f2 : Nat → Int32} (hi : i < 1000) (hj : j < 1000) (hci : h[i]? = some (.inl (n0, f))) (hcj : h[j]? = some (.inl (n1, f1))) (hr : tv_cp n0 f n1 f1 0 0 (Int32.ofNat n1) = some f2) (hs : h.set j (.inl (n1, f2)) = hh) : tv_E g l yX6_copyRow cX6_copyRow 2 none 1 0 0 0 [.ref i, .ref j] [] h none hh := by
  refine ev_aload_n (i := 0) 1 dX6_copyRow_0 rfl rfl rfl ?_
  refine ev_iconst (v := 0) 2 dX6_copyRow_1 rfl (by decide) ?_
  refine ev_aload_n (i := 1) 3 dX6_copyRow_2 rfl rfl rfl ?_
  refine ev_iconst (v := 0) 4 dX6_copyRow_3 rfl (by decide) ?_
  refine ev_aload_n (i := 1) 5 dX6_copyRow_4 rfl rfl rfl ?_
  refine ev_arraylength 6 dX6_copyRow_5 rfl hj hcj rfl ?_
  refine ev_arraycopy 9 dX6_copyRow_6 rfl wc_X6_44 wc_native wc_static wc_init (Nat.le_of_ble_eq_true rfl) (Nat.le_of_ble_eq_true rfl) hi hj hci hcj hr hs ?_
  exact ev_return dX6_copyRow_9 rfl
def tv_fill (n : Nat) (x : Int32) (f : Nat → Int32) : Nat → Int32 := fun i => if i < n then x else f i
theorem tv_fill_0 (x : Int32) (f : Nat → Int32) : tv_fill 0 x f = f := by
  funext i
  simp [tv_fill]
theorem tv_fill_s (n : Nat) (x : Int32) (f : Nat → Int32) : upd (tv_fill n x f) n x = tv_fill (n + 1) x f := by
  funext i
  simp only [tv_fill, upd]
  by_cases h1 : i = n
  · subst h1; simp
  · rw [if_neg h1]
    by_cases h2 : i < n
    · rw [if_pos h2, if_pos (by omega)]
    · rw [if_neg h2, if_neg (by omega)]
set_option maxRecDepth 100000 in
set_option maxHeartbeats 4000000 in
theorem R_fill_L {g : tv_G} {l : Launch} {h : tv_Hp} {a n : Nat} {f : Nat → Int32} {x : Int32} (ha : a < 1000) (hn : n < 100000) (hl : a < h.length) : ∀ (k i : Nat), k + i = n → tv_E g l yJ7_fill_53178 cJ7_fill_53178 4 none 0 0 0 5 [.ref a, .int x, .int (nI i), .int (nI n)] [] (h.set a (.inl (n, tv_fill i x f))) none (h.set a (.inl (n, tv_fill n x f))) := by
  intro k
  induction k with
  | zero =>
    intro i hi
    have hi : i = n := by omega
    subst hi
    refine ev_iload_n (i := 2) 6 dJ7_fill_53178_5 rfl rfl rfl ?_
    refine ev_iload_n (i := 3) 7 dJ7_fill_53178_6 rfl rfl rfl ?_
    refine ev_icmp_ge 20 10 dJ7_fill_53178_7 rfl rfl (fun hc => ?_) (fun hc => absurd (nI_le (Nat.le_refl _) (by omega)) hc)
    exact ev_return dJ7_fill_53178_20 rfl
  | succ k ih =>
    intro i hi
    refine ev_iload_n (i := 2) 6 dJ7_fill_53178_5 rfl rfl rfl ?_
    refine ev_iload_n (i := 3) 7 dJ7_fill_53178_6 rfl rfl rfl ?_
    refine ev_icmp_ge 20 10 dJ7_fill_53178_7 rfl rfl (fun hc => absurd hc (nI_ge (by omega) (by omega))) (fun hc => ?_)
    refine ev_aload_n (i := 0) 11 dJ7_fill_53178_10 rfl rfl rfl ?_
    refine ev_iload_n (i := 2) 12 dJ7_fill_53178_11 rfl rfl rfl ?_
    refine ev_iload_n (i := 1) 13 dJ7_fill_53178_12 rfl rfl rfl ?_
    have hcl : (nI i).toNatClampNeg = i := nI_clamp (by omega)
    refine ev_iastore (n := n) (f := tv_fill i x f) (f2 := tv_fill (i + 1) x f) (hh := h.set a (.inl (n, tv_fill (i + 1) x f))) 14 dJ7_fill_53178_13 rfl ha (by rw [List.getElem?_set_self hl]) ?_ (by rw [List.set_set]) ?_
    · unfold tv_wr
      rw [if_neg (nI_in (by omega) (by omega)), hcl, tv_fill_s]
    refine ev_iinc (v := nI (i + 1)) (L2 := [.ref a, .int x, .int (nI (i + 1)), .int (nI n)]) 17 dJ7_fill_53178_14 rfl rfl (by rw [show Int32.ofInt 1 = 1 from by decide]; exact nI_1 i) (Nat.le_of_ble_eq_true rfl) rfl ?_
    refine ev_goto 5 dJ7_fill_53178_17 rfl ?_
    exact ih (i + 1) (by omega)
set_option maxRecDepth 100000 in
set_option maxHeartbeats 4000000 in
theorem R_fill {g : tv_G} {l : Launch} {h hh : tv_Hp} {a n : Nat} {f : Nat → Int32} {x : Int32} (hn : n < 100000) (ha : a < 1000) (hc : h[a]? = some (.inl (n, f))) (hs : h.set a (.inl (n, tv_fill n x f)) = hh) : tv_E g l yJ7_fill_53178 cJ7_fill_53178 4 none 0 0 0 0 [.ref a, .int x, .null, .null] [] h none hh := by
  have hl : a < h.length := (List.getElem?_eq_some_iff.mp hc).1
  refine ev_iconst (v := 0) 1 dJ7_fill_53178_0 rfl (by decide) ?_
  refine ev_istore_n (i := 2) (L2 := [.ref a, .int x, .int 0, .null]) 2 dJ7_fill_53178_1 rfl rfl (Nat.le_of_ble_eq_true rfl) rfl ?_
  refine ev_aload_n (i := 0) 3 dJ7_fill_53178_2 rfl rfl rfl ?_
  refine ev_arraylength (v := nI n) 4 dJ7_fill_53178_3 rfl ha hc rfl ?_
  refine ev_istore_n (i := 3) (L2 := [.ref a, .int x, .int 0, .int (nI n)]) 5 dJ7_fill_53178_4 rfl rfl (Nat.le_of_ble_eq_true rfl) rfl ?_
  have h0 := R_fill_L (g := g) (l := l) (h := h) (a := a) (n := n) (f := f) (x := x) ha hn hl n 0 (by omega)
  rw [tv_fill_0, nI_0, hs] at h0
  refine ev_heq ?_ h0
  apply List.ext_getElem?
  intro j
  by_cases e : a = j
  · subst e; rw [List.getElem?_set_self hl, hc]
  · rw [List.getElem?_set_ne e]
end
section
def F_X2_copy (si : Nat → Int32) (sa : Nat → Nat → Int32) (dI : Nat → Int32) (dA : Nat → Nat → Int32) : Option ((Nat → Int32) × (Nat → Nat → Int32)) :=
  if ¬ ((si 6) = 0 ∨ (si 6) = 1) then none else
  (tv_cp 100 (sa 2) 100 (dA 2) 0 0 100).bind fun x2 =>
  some ((upd (upd dI 6 (si 6)) 7 (si 7)), (va_up dA 2 x2))

def F_X4_copy (si : Nat → Int32) (sa : Nat → Nat → Int32) (dI : Nat → Int32) (dA : Nat → Nat → Int32) : Option ((Nat → Int32) × (Nat → Nat → Int32)) :=
  (tv_cp 100 (sa 3) 100 (dA 3) 0 0 100).bind fun x1 =>
  some ((upd dI 8 (si 8)), (va_up dA 3 x1))

def F_X6_copy (si : Nat → Int32) (sa : Nat → Nat → Int32) (dI : Nat → Int32) (dA : Nat → Nat → Int32) : Option ((Nat → Int32) × (Nat → Nat → Int32)) :=
  (tv_cp 41 (sa 4) 41 (dA 4) 0 0 (Int32.ofNat 41)).bind fun x1 =>
  (tv_cp 41 (sa 5) 41 ((va_up dA 4 x1) 5) 0 0 (Int32.ofNat 41)).bind fun x2 =>
  (tv_cp 41 (sa 6) 41 ((va_up (va_up dA 4 x1) 5 x2) 6) 0 0 (Int32.ofNat 41)).bind fun x3 =>
  (tv_cp 41 (sa 7) 41 ((va_up (va_up (va_up dA 4 x1) 5 x2) 6 x3) 7) 0 0 (Int32.ofNat 41)).bind fun x4 =>
  (tv_cp 41 (sa 8) 41 ((va_up (va_up (va_up (va_up dA 4 x1) 5 x2) 6 x3) 7 x4) 8) 0 0 (Int32.ofNat 41)).bind fun x5 =>
  (tv_cp 41 (sa 9) 41 ((va_up (va_up (va_up (va_up (va_up dA 4 x1) 5 x2) 6 x3) 7 x4) 8 x5) 9) 0 0 (Int32.ofNat 41)).bind fun x6 =>
  (tv_cp 41 (sa 10) 41 ((va_up (va_up (va_up (va_up (va_up (va_up dA 4 x1) 5 x2) 6 x3) 7 x4) 8 x5) 9 x6) 10) 0 0 (Int32.ofNat 41)).bind fun x7 =>
  (tv_cp 410 (sa 11) 410 ((va_up (va_up (va_up (va_up (va_up (va_up (va_up dA 4 x1) 5 x2) 6 x3) 7 x4) 8 x5) 9 x6) 10 x7) 11) 0 0 (Int32.ofNat 410)).bind fun x8 =>
  some ((upd dI 9 (si 9)), (va_up (va_up (va_up (va_up (va_up (va_up (va_up (va_up dA 4 x1) 5 x2) 6 x3) 7 x4) 8 x5) 9 x6) 10 x7) 11 x8))

def F_X1_copy (si : Nat → Int32) (sa : Nat → Nat → Int32) (dI : Nat → Int32) (dA : Nat → Nat → Int32) : Option ((Nat → Int32) × (Nat → Nat → Int32)) :=
  (tv_cp 20 (sa 12) 20 (dA 12) 0 0 20).bind fun x1 =>
  (tv_cp 20 (sa 13) 20 ((va_up dA 12 x1) 13) 0 0 20).bind fun x2 =>
  (tv_cp 20 (sa 14) 20 ((va_up (va_up dA 12 x1) 13 x2) 14) 0 0 20).bind fun x3 =>
  some ((upd dI 10 (si 10)), (va_up (va_up (va_up dA 12 x1) 13 x2) 14 x3))

def F_X5_copy (si : Nat → Int32) (sa : Nat → Nat → Int32) (dI : Nat → Int32) (dA : Nat → Nat → Int32) : Option ((Nat → Int32) × (Nat → Nat → Int32)) :=
  (tv_cp 6 (sa 0) 6 (dA 0) 0 0 6).bind fun x1 =>
  (tv_cp 10 (sa 1) 10 ((va_up dA 0 x1) 1) 0 0 10).bind fun x2 =>
  (F_X2_copy si sa (upd (upd (upd (upd (upd (upd dI 0 (si 0)) 1 (si 1)) 2 (si 2)) 3 (si 3)) 4 (si 4)) 5 (si 5)) (va_up (va_up dA 0 x1) 1 x2)).bind fun x3 =>
  (F_X4_copy si sa x3.1 x3.2).bind fun x4 =>
  (F_X6_copy si sa x4.1 x4.2).bind fun x5 =>
  (F_X1_copy si sa x5.1 x5.2).bind fun x6 =>
  some (x6.1, x6.2)

def F_X3_keep (si : Nat → Int32) (sa : Nat → Nat → Int32) (hs : Nat → (Nat → Int32) × (Nat → Nat → Int32)) (hc : Int32) (hn : Int32) : Option ((Nat → (Nat → Int32) × (Nat → Nat → Int32)) × Int32 × Int32) :=
  if hn = 0 then (
    (F_X5_copy si sa (hs 0).1 (hs 0).2).bind fun x1 =>
    some ((va_up hs 0 (x1.1, x1.2)), (if 5 < (hc + 1) then 5 else (hc + 1)), ((hn + 1) - (hn + 1) / 5 * 5)))
  else
  if hn = 1 then (
    (F_X5_copy si sa (hs 1).1 (hs 1).2).bind fun x2 =>
    some ((va_up hs 1 (x2.1, x2.2)), (if 5 < (hc + 1) then 5 else (hc + 1)), ((hn + 1) - (hn + 1) / 5 * 5)))
  else
  if hn = 2 then (
    (F_X5_copy si sa (hs 2).1 (hs 2).2).bind fun x3 =>
    some ((va_up hs 2 (x3.1, x3.2)), (if 5 < (hc + 1) then 5 else (hc + 1)), ((hn + 1) - (hn + 1) / 5 * 5)))
  else
  if hn = 3 then (
    (F_X5_copy si sa (hs 3).1 (hs 3).2).bind fun x4 =>
    some ((va_up hs 3 (x4.1, x4.2)), (if 5 < (hc + 1) then 5 else (hc + 1)), ((hn + 1) - (hn + 1) / 5 * 5)))
  else
  if hn = 4 then (
    (F_X5_copy si sa (hs 4).1 (hs 4).2).bind fun x5 =>
    some ((va_up hs 4 (x5.1, x5.2)), (if 5 < (hc + 1) then 5 else (hc + 1)), ((hn + 1) - (hn + 1) / 5 * 5)))
  else
  none

def F_X5_countSignatures (si : Nat → Int32) : Int32 :=
  (tv_bc ((si 3) &&& (si 2)))

def F_X7_only (a0 : Int32) : Int32 :=
  (1 <<< (a0 &&& 31))

def F_X7_asNumber (a0 : Int32) : Int32 :=
  if a0 = 0 then (
    0)
  else
  1

def F_X6_finishLatest (si : Nat → Int32) (sa : Nat → Nat → Int32) (a1 : Int32) (a2 : Int32) : Option ((Nat → Nat → Int32)) :=
  (tv_wr 41 (sa 7) (si 9) a1).bind fun x1 =>
  (tv_wr 41 ((va_up sa 7 x1) 9) (si 9) (F_X7_asNumber a2)).bind fun x2 =>
  some (va_up (va_up sa 7 x1) 9 x2)

def F_X1_tell (si : Nat → Int32) (sa : Nat → Nat → Int32) (a1 : Int32) (a2 : Int32) (a3 : Int32) : Option ((Nat → Int32) × (Nat → Nat → Int32)) :=
  (tv_wr 20 (sa 12) ((si 10) - (si 10) / 20 * 20) a1).bind fun x1 =>
  (tv_wr 20 ((va_up sa 12 x1) 13) ((si 10) - (si 10) / 20 * 20) a2).bind fun x2 =>
  (tv_wr 20 ((va_up (va_up sa 12 x1) 13 x2) 14) ((si 10) - (si 10) / 20 * 20) a3).bind fun x3 =>
  some ((upd si 10 ((si 10) + 1)), (va_up (va_up (va_up sa 12 x1) 13 x2) 14 x3))

def F_X7_has (a0 : Int32) (a1 : Int32) : Int32 :=
  if ((a0 >>> (a1 &&& 31)) &&& 1) = 1 then (
    1)
  else
  0

def F_X6_score_L7 (sa : Nat → Nat → Int32) (l1 : Int32) : Nat → Int32 → Int32 → Int32 → Option (Int32 × Int32)
  | 0, _, _, _ => none
  | n + 1, l2, l3, l4 =>
    if 10 ≤ l4 then (
      some (l2, l3))
    else
    (tv_rd 410 (sa 11) ((l1 * 10) + l4)).bind fun x1 =>
    if x1 = (-9) then (
      F_X6_score_L7 sa l1 n l2 l3 (l4 + 1))
    else
    F_X6_score_L7 sa l1 n (l2 + x1) (l3 + 1) (l4 + 1)

def F_X6_score (sa : Nat → Nat → Int32) (a1 : Int32) : Option (Int32) :=
  (F_X6_score_L7 sa a1 tv_fu 0 0 0).bind fun x2 =>
  (if x2.2 ≤ 0 then (
    some 50)
  else (
    if x2.2 = 0 then none else
    some ((10 * x2.1) / x2.2))).bind fun x4 =>
  (tv_rd 41 (sa 8) a1).bind fun x5 =>
  (tv_rd 41 (sa 9) a1).bind fun x6 =>
  if 0 ≤ ((x4 + (5 * x5)) - (25 * x6)) then (
    if ((x4 + (5 * x5)) - (25 * x6)) ≤ 100 then (
      some ((x4 + (5 * x5)) - (25 * x6)))
    else
    some 100)
  else
  some 0

def F_X6_reputation_L11 (sa : Nat → Nat → Int32) (l1 : Int32) (l2 : Int32) : Nat → Int32 → Int32 → Int32 → Option (Int32 × Int32)
  | 0, _, _, _ => none
  | n + 1, l3, l4, l5 =>
    if l5 < 1 then (
      some (l3, l4))
    else
    if l2 ≤ l4 then (
      some (l3, l4))
    else
    (tv_rd 41 (sa 4) l5).bind fun x1 =>
    if x1 = l1 then (
      (tv_rd 41 (sa 7) l5).bind fun x2 =>
      if x2 = (-9) then (
        F_X6_reputation_L11 sa l1 l2 n l3 l4 (l5 + (-1)))
      else
      (F_X6_score sa l5).bind fun x3 =>
      F_X6_reputation_L11 sa l1 l2 n (l3 + x3) (l4 + 1) (l5 + (-1)))
    else
    F_X6_reputation_L11 sa l1 l2 n l3 l4 (l5 + (-1))

def F_X6_reputation (si : Nat → Int32) (sa : Nat → Nat → Int32) (a1 : Int32) (a2 : Int32) : Option (Int32) :=
  (F_X6_reputation_L11 sa a1 a2 tv_fu 0 0 (si 9)).bind fun x4 =>
  if x4.2 ≤ 0 then (
    some 50)
  else
  if x4.2 = 0 then none else
  some (x4.1 / x4.2)

def F_X6_countLed_L4 (si : Nat → Int32) (sa : Nat → Nat → Int32) (l1 : Int32) : Nat → Int32 → Int32 → Option (Int32)
  | 0, _, _ => none
  | n + 1, l2, l3 =>
    if (si 9) < l3 then (
      some l2)
    else
    (tv_rd 41 (sa 4) l3).bind fun x1 =>
    if x1 = l1 then (
      F_X6_countLed_L4 si sa l1 n (l2 + 1) (l3 + 1))
    else
    F_X6_countLed_L4 si sa l1 n l2 (l3 + 1)

def F_X6_countLed (si : Nat → Int32) (sa : Nat → Nat → Int32) (a1 : Int32) : Option (Int32) :=
  (F_X6_countLed_L4 si sa a1 tv_fu 0 1).bind fun x2 =>
  some x2

def F_X5_bestCaretaker_L11 (si : Nat → Int32) (sa : Nat → Nat → Int32) (l1 : Int32) : Nat → Int32 → Int32 → Int32 → Int32 → Option (Int32)
  | 0, _, _, _, _ => none
  | n + 1, l2, l3, l4, l5 =>
    if 10 ≤ l5 then (
      some l2)
    else
    if (F_X7_has (si 2) l5) = 0 then (
      F_X5_bestCaretaker_L11 si sa l1 n l2 l3 l4 (l5 + 1))
    else
    if l5 = l1 then (
      F_X5_bestCaretaker_L11 si sa l1 n l2 l3 l4 (l5 + 1))
    else
    (tv_rd 6 (sa 0) 5).bind fun x1 =>
    (F_X6_reputation si sa l5 x1).bind fun x2 =>
    (F_X6_countLed si sa l5).bind fun x3 =>
    if l2 = (-9) then (
      F_X5_bestCaretaker_L11 si sa l1 n l5 x2 x3 (l5 + 1))
    else
    if l3 < x2 then (
      F_X5_bestCaretaker_L11 si sa l1 n l5 x2 x3 (l5 + 1))
    else
    if x2 = l3 then (
      if l4 ≤ x3 then (
        F_X5_bestCaretaker_L11 si sa l1 n l2 l3 l4 (l5 + 1))
      else
      F_X5_bestCaretaker_L11 si sa l1 n l5 x2 x3 (l5 + 1))
    else
    F_X5_bestCaretaker_L11 si sa l1 n l2 l3 l4 (l5 + 1)

def F_X5_bestCaretaker (si : Nat → Int32) (sa : Nat → Nat → Int32) (a1 : Int32) : Option (Int32) :=
  (F_X5_bestCaretaker_L11 si sa a1 tv_fu (-9) 0 0 0).bind fun x4 =>
  some x4

def F_X5_appointCaretaker (si : Nat → Int32) (sa : Nat → Nat → Int32) (a1 : Int32) : Option ((Nat → Int32) × (Nat → Nat → Int32)) :=
  (F_X5_bestCaretaker si sa a1).bind fun x1 =>
  (if ((upd si 5 x1) 5) = (-9) then (
    some 0)
  else (
    some 1)).bind fun x2 =>
  (if ((upd (upd si 5 x1) 4 x2) 5) = (-9) then (
    some 7)
  else (
    some 5)).bind fun x3 =>
  (F_X1_tell (upd (upd si 5 x1) 4 x2) sa ((upd (upd si 5 x1) 4 x2) 0) x3 ((upd (upd si 5 x1) 4 x2) 5)).bind fun x4 =>
  some (x4.1, x4.2)

def F_X5_endTerm (si : Nat → Int32) (sa : Nat → Nat → Int32) (a1 : Int32) : Option ((Nat → Int32) × (Nat → Nat → Int32)) :=
  (if a1 = 3 then (
    some 1)
  else (
    some 0)).bind fun x1 =>
  (F_X6_finishLatest si sa (si 0) x1).bind fun x2 =>
  (F_X1_tell (upd si 3 0) x2 ((upd si 3 0) 0) a1 (si 5)).bind fun x3 =>
  (F_X5_appointCaretaker x3.1 x3.2 (si 5)).bind fun x4 =>
  some (x4.1, x4.2)

def F_X5_lookAtPetition (si : Nat → Int32) (sa : Nat → Nat → Int32) : Option ((Nat → Int32) × (Nat → Nat → Int32)) :=
  if (si 4) = 2 then (
    if (F_X5_countSignatures si) ≤ 0 then (
      some (si, sa))
    else
    (tv_rd 6 (sa 0) 3).bind fun x1 =>
    if (100 * (F_X5_countSignatures si)) < (x1 * (tv_bc ((si 2) &&& ((F_X7_only (si 5)) ^^^ (-1))))) then (
      some (si, sa))
    else
    (F_X5_endTerm si sa 3).bind fun x2 =>
    some (x2.1, x2.2))
  else
  some (si, sa)

def F_X7_set (si : Nat → Int32) (sa : Nat → Nat → Int32) (hs : Nat → (Nat → Int32) × (Nat → Nat → Int32)) (hc : Int32) (hn : Int32) (a1 : Int32) (a2 : Int32) : Option (Int32 × (Nat → Int32) × (Nat → Nat → Int32) × (Nat → (Nat → Int32) × (Nat → Nat → Int32)) × Int32 × Int32) :=
  if a1 < 0 then (
    some ((-1), si, sa, hs, hc, hn))
  else
  if a1 < 6 then (
    (tv_rd 6 tv_least a1).bind fun x1 =>
    if a2 < x1 then (
      some ((-1), si, sa, hs, hc, hn))
    else
    (tv_rd 6 tv_great a1).bind fun x2 =>
    if a2 ≤ x2 then (
      (F_X3_keep si sa hs hc hn).bind fun x3 =>
      (tv_rd 6 (sa 0) a1).bind fun x4 =>
      (tv_wr 6 (sa 0) a1 a2).bind fun x5 =>
      if a1 = 3 then (
        (F_X5_lookAtPetition si (va_up sa 0 x5)).bind fun x6 =>
        some (x4, x6.1, x6.2, x3.1, x3.2.1, x3.2.2))
      else
      some (x4, si, (va_up sa 0 x5), x3.1, x3.2.1, x3.2.2))
    else
    some ((-1), si, sa, hs, hc, hn))
  else
  some ((-1), si, sa, hs, hc, hn)

def F_X5_admit (si : Nat → Int32) (sa : Nat → Nat → Int32) (a1 : Int32) : Option (Int32 × (Nat → Int32) × (Nat → Nat → Int32)) :=
  (tv_wr 10 (sa 1) (si 1) a1).bind fun x1 =>
  some ((si 1), (upd (upd si 1 ((si 1) + 1)) 2 (((upd si 1 ((si 1) + 1)) 2) ||| (F_X7_only (si 1)))), (va_up sa 1 x1))

def F_X7_join (si : Nat → Int32) (sa : Nat → Nat → Int32) (hs : Nat → (Nat → Int32) × (Nat → Nat → Int32)) (hc : Int32) (hn : Int32) (a1 : Int32) : Option (Int32 × (Nat → Int32) × (Nat → Nat → Int32) × (Nat → (Nat → Int32) × (Nat → Nat → Int32)) × Int32 × Int32) :=
  if a1 < 0 then (
    some ((-1), si, sa, hs, hc, hn))
  else
  if a1 < 997 then (
    if (si 1) < 10 then (
      (F_X3_keep si sa hs hc hn).bind fun x1 =>
      (F_X5_admit si sa a1).bind fun x2 =>
      (F_X5_lookAtPetition x2.2.1 x2.2.2).bind fun x3 =>
      some (x2.1, x3.1, x3.2, x1.1, x1.2.1, x1.2.2))
    else
    some ((-3), si, sa, hs, hc, hn))
  else
  some ((-1), si, sa, hs, hc, hn)

def F_X5_isMember (si : Nat → Int32) (a1 : Int32) : Int32 :=
  if a1 < 0 then (
    0)
  else
  if (si 1) ≤ a1 then (
    0)
  else
  1

def F_X5_isPresent (si : Nat → Int32) (a1 : Int32) : Option (Int32) :=
  if ¬ ((F_X7_has (si 2) a1) = 0 ∨ (F_X7_has (si 2) a1) = 1) then none else
  some (F_X7_has (si 2) a1)

def F_X2_strike_L11 (l2 : Int32) (l3 : Int32) : Nat → Int32 → Int32 → (Nat → Nat → Int32) → Option (Int32 × (Nat → Nat → Int32))
  | 0, _, _, _ => none
  | n + 1, l4, l5, sa =>
    if 10 ≤ l5 then (
      some (l4, sa))
    else
    (tv_rd 100 (sa 2) (l3 + l5)).bind fun x1 =>
    if x1 = l2 then (
      F_X2_strike_L11 l2 l3 n l4 (l5 + 1) sa)
    else
    (tv_wr 100 (sa 2) (l3 + l4) x1).bind fun x2 =>
    F_X2_strike_L11 l2 l3 n (l4 + 1) (l5 + 1) (va_up sa 2 x2)

def F_X2_strike_L59 (l3 : Int32) : Nat → Int32 → (Nat → Nat → Int32) → Option ((Nat → Nat → Int32))
  | 0, _, _ => none
  | n + 1, l5, sa =>
    if 10 ≤ l5 then (
      some sa)
    else
    (tv_wr 100 (sa 2) (l3 + l5) (-9)).bind fun x4 =>
    F_X2_strike_L59 l3 n (l5 + 1) (va_up sa 2 x4)

def F_X2_strike (sa : Nat → Nat → Int32) (a1 : Int32) (a2 : Int32) : Option ((Nat → Nat → Int32)) :=
  (F_X2_strike_L11 a2 (a1 * 10) tv_fu 0 0 sa).bind fun x3 =>
  (F_X2_strike_L59 (a1 * 10) tv_fu x3.1 x3.2).bind fun x5 =>
  some x5

def F_X2_forget_L17 (l1 : Int32) : Nat → Int32 → (Nat → Nat → Int32) → Option ((Nat → Nat → Int32))
  | 0, _, _ => none
  | n + 1, l2, sa =>
    if 10 ≤ l2 then (
      some sa)
    else
    (tv_wr 100 (sa 2) ((l1 * 10) + l2) (-9)).bind fun x1 =>
    F_X2_forget_L17 l1 n (l2 + 1) (va_up sa 2 x1)

def F_X2_forget_L44 (l1 : Int32) : Nat → Int32 → (Nat → Nat → Int32) → Option ((Nat → Nat → Int32))
  | 0, _, _ => none
  | n + 1, l2, sa =>
    if 10 ≤ l2 then (
      some sa)
    else
    (F_X2_strike sa l2 l1).bind fun x3 =>
    F_X2_forget_L44 l1 n (l2 + 1) x3

def F_X2_forget (si : Nat → Int32) (sa : Nat → Nat → Int32) (a1 : Int32) : Option ((Nat → Int32) × (Nat → Nat → Int32)) :=
  (F_X2_forget_L17 a1 tv_fu 0 sa).bind fun x2 =>
  (F_X2_forget_L44 a1 tv_fu 0 x2).bind fun x4 =>
  some ((upd si 7 ((si 7) &&& ((F_X7_only a1) ^^^ (-1)))), x4)

def F_X5_leave (si : Nat → Int32) (sa : Nat → Nat → Int32) (a1 : Int32) : Option ((Nat → Int32) × (Nat → Nat → Int32)) :=
  (F_X2_forget (upd si 2 ((si 2) &&& ((F_X7_only a1) ^^^ (-1)))) sa a1).bind fun x1 =>
  if a1 = (x1.1 5) then (
    if (x1.1 4) = 2 then (
      (F_X5_endTerm x1.1 x1.2 4).bind fun x3 =>
      some (x3.1, x3.2))
    else
    (F_X5_appointCaretaker x1.1 x1.2 (-9)).bind fun x2 =>
    some (x2.1, x2.2))
  else
  some (x1.1, x1.2)

def F_X7_setPresent (si : Nat → Int32) (sa : Nat → Nat → Int32) (hs : Nat → (Nat → Int32) × (Nat → Nat → Int32)) (hc : Int32) (hn : Int32) (a1 : Int32) (a2 : Int32) : Option (Int32 × (Nat → Int32) × (Nat → Nat → Int32) × (Nat → (Nat → Int32) × (Nat → Nat → Int32)) × Int32 × Int32) :=
  if (F_X5_isMember si a1) = 0 then (
    some ((-1), si, sa, hs, hc, hn))
  else
  (F_X3_keep si sa hs hc hn).bind fun x1 =>
  (F_X5_isPresent si a1).bind fun x2 =>
  if a2 = x2 then (
    some ((F_X7_asNumber x2), si, sa, x1.1, x1.2.1, x1.2.2))
  else
  (if a2 = 0 then (
    (F_X5_leave si sa a1).bind fun x3 =>
    some (x3.1, x3.2))
  else (
    some ((upd si 2 ((si 2) ||| (F_X7_only a1))), sa))).bind fun x4 =>
  (F_X5_lookAtPetition x4.1 x4.2).bind fun x5 =>
  some ((F_X7_asNumber x2), x5.1, x5.2, x1.1, x1.2.1, x1.2.2)

def F_X6_latestPlannedEnd (si : Nat → Int32) (sa : Nat → Nat → Int32) : Option (Int32) :=
  (tv_rd 41 (sa 6) (si 9)).bind fun x1 =>
  some x1

def F_X5_advance (si : Nat → Int32) (sa : Nat → Nat → Int32) (a1 : Int32) : Option ((Nat → Int32) × (Nat → Nat → Int32)) :=
  (if (si 4) = 2 then (
    (F_X6_latestPlannedEnd si sa).bind fun x1 =>
    if ((si 0) + a1) < x1 then (
      some (si, sa))
    else
    (F_X6_latestPlannedEnd si sa).bind fun x2 =>
    (F_X5_endTerm (upd si 0 x2) sa 2).bind fun x3 =>
    some (x3.1, x3.2))
  else (
    some (si, sa))).bind fun x4 =>
  some ((upd x4.1 0 ((si 0) + a1)), x4.2)

def F_X7_pass (si : Nat → Int32) (sa : Nat → Nat → Int32) (hs : Nat → (Nat → Int32) × (Nat → Nat → Int32)) (hc : Int32) (hn : Int32) (a1 : Int32) : Option (Int32 × (Nat → Int32) × (Nat → Nat → Int32) × (Nat → (Nat → Int32) × (Nat → Nat → Int32)) × Int32 × Int32) :=
  if a1 < 1 then (
    some ((-1), si, sa, hs, hc, hn))
  else
  if a1 ≤ 1000 then (
    if ((si 0) + a1) ≤ 1000000 then (
      (F_X3_keep si sa hs hc hn).bind fun x1 =>
      (F_X5_advance si sa a1).bind fun x2 =>
      some ((x2.1 0), x2.1, x2.2, x1.1, x1.2.1, x1.2.2))
    else
    some ((-2), si, sa, hs, hc, hn))
  else
  some ((-1), si, sa, hs, hc, hn)

def F_X7_open (si : Nat → Int32) (sa : Nat → Nat → Int32) (hs : Nat → (Nat → Int32) × (Nat → Nat → Int32)) (hc : Int32) (hn : Int32) : Option (Int32 × (Nat → Int32) × (Nat → (Nat → Int32) × (Nat → Nat → Int32)) × Int32 × Int32) :=
  if (si 6) = 0 then (
    if (si 4) = 2 then (
      some ((-2), si, hs, hc, hn))
    else
    if (si 9) < 40 then (
      (F_X3_keep si sa hs hc hn).bind fun x1 =>
      some ((((upd si 6 1) 9) + 1), (upd si 6 1), x1.1, x1.2.1, x1.2.2))
    else
    some ((-3), si, hs, hc, hn))
  else
  some ((-2), si, hs, hc, hn)

def F_X6_countLedInARow_L7 (sa : Nat → Nat → Int32) (l1 : Int32) : Nat → Int32 → Int32 → Option (Int32)
  | 0, _, _ => none
  | n + 1, l2, l3 =>
    if l3 < 1 then (
      some l2)
    else
    (tv_rd 41 (sa 4) l3).bind fun x1 =>
    if x1 = l1 then (
      F_X6_countLedInARow_L7 sa l1 n (l2 + 1) (l3 + (-1)))
    else
    some l2

def F_X6_countLedInARow (si : Nat → Int32) (sa : Nat → Nat → Int32) (a1 : Int32) : Option (Int32) :=
  (F_X6_countLedInARow_L7 sa a1 tv_fu 0 (si 9)).bind fun x2 =>
  some x2

def F_X5_canLead (si : Nat → Int32) (sa : Nat → Nat → Int32) (a1 : Int32) : Option (Int32) :=
  (F_X5_isPresent si a1).bind fun x1 =>
  if x1 = 0 then (
    some 0)
  else
  (F_X6_countLed si sa a1).bind fun x2 =>
  (tv_rd 6 (sa 0) 1).bind fun x3 =>
  if x3 ≤ x2 then (
    some 0)
  else
  (F_X6_countLedInARow si sa a1).bind fun x4 =>
  (tv_rd 6 (sa 0) 2).bind fun x5 =>
  if x5 ≤ x4 then (
    some 0)
  else
  some 1

def F_X7_nominate (si : Nat → Int32) (sa : Nat → Nat → Int32) (hs : Nat → (Nat → Int32) × (Nat → Nat → Int32)) (hc : Int32) (hn : Int32) (a1 : Int32) : Option (Int32 × (Nat → Int32) × (Nat → (Nat → Int32) × (Nat → Nat → Int32)) × Int32 × Int32) :=
  if (F_X5_isMember si a1) = 0 then (
    some ((-1), si, hs, hc, hn))
  else
  if (si 6) = 0 then (
    some ((-2), si, hs, hc, hn))
  else
  if (F_X7_has (si 7) a1) = 0 then (
    (F_X5_canLead si sa a1).bind fun x1 =>
    if x1 = 0 then (
      some ((-4), si, hs, hc, hn))
    else
    (F_X3_keep si sa hs hc hn).bind fun x2 =>
    some ((tv_bc ((upd si 7 ((si 7) ||| (F_X7_only a1))) 7)), (upd si 7 ((si 7) ||| (F_X7_only a1))), x2.1, x2.2.1, x2.2.2))
  else
  some ((-2), si, hs, hc, hn)

def F_X0_errorPlace_L4 (tx : Nat → Int32) (tl : Int32) : Nat → Int32 → Int32 → Option (Int32)
  | 0, _, _ => none
  | n + 1, l2, l3 =>
    if tl ≤ l3 then (
      if (tl - tl / 2 * 2) = 1 then (
        some (-9))
      else
      some tl)
    else
    if (l3 - l3 / 2 * 2) = 1 then (
      (tv_rd 40 tx l3).bind fun x2 =>
      if x2 = 62 then (
        F_X0_errorPlace_L4 tx tl n l2 (l3 + 1))
      else
      some l3)
    else
    (tv_rd 40 tx l3).bind fun x1 =>
    if (x1 - 48) < 0 then (
      some l3)
    else
    if 9 < (x1 - 48) then (
      some l3)
    else
    if (F_X7_has l2 (x1 - 48)) = 0 then (
      some l3)
    else
    F_X0_errorPlace_L4 tx tl n (l2 &&& ((F_X7_only (x1 - 48)) ^^^ (-1))) (l3 + 1)

def F_X0_errorPlace (tx : Nat → Int32) (tl : Int32) (a1 : Int32) : Option (Int32) :=
  F_X0_errorPlace_L4 tx tl tv_fu a1 0

def F_X0_choice (tx : Nat → Int32) (tl : Int32) (a1 : Int32) : Option (Int32) :=
  if tl ≤ (2 * a1) then (
    some (-9))
  else
  (tv_rd 40 tx (2 * a1)).bind fun x1 =>
  some (x1 - 48)

def F_X2_take_L2 (tx : Nat → Int32) (tl : Int32) (l1 : Int32) : Nat → Int32 → (Nat → Nat → Int32) → Option ((Nat → Nat → Int32))
  | 0, _, _ => none
  | n + 1, l3, sa =>
    if 10 ≤ l3 then (
      some sa)
    else
    (F_X0_choice tx tl l3).bind fun x1 =>
    (tv_wr 100 (sa 2) ((l1 * 10) + l3) x1).bind fun x2 =>
    F_X2_take_L2 tx tl l1 n (l3 + 1) (va_up sa 2 x2)

def F_X2_take (sa : Nat → Nat → Int32) (tx : Nat → Int32) (tl : Int32) (a1 : Int32) : Option ((Nat → Nat → Int32)) :=
  (F_X2_take_L2 tx tl a1 tv_fu 0 sa).bind fun x3 =>
  some x3

def F_X2_choice (sa : Nat → Nat → Int32) (a1 : Int32) (a2 : Int32) : Option (Int32) :=
  (tv_rd 100 (sa 2) ((a1 * 10) + a2)).bind fun x1 =>
  some x1

def F_X2_countBallots_L4 (sa : Nat → Nat → Int32) : Nat → Int32 → Int32 → Option (Int32)
  | 0, _, _ => none
  | n + 1, l1, l2 =>
    if 10 ≤ l2 then (
      some l1)
    else
    (F_X2_choice sa l2 0).bind fun x1 =>
    if x1 = (-9) then (
      F_X2_countBallots_L4 sa n l1 (l2 + 1))
    else
    F_X2_countBallots_L4 sa n (l1 + 1) (l2 + 1)

def F_X2_countBallots (sa : Nat → Nat → Int32) : Option (Int32) :=
  (F_X2_countBallots_L4 sa tv_fu 0 0).bind fun x2 =>
  some x2

def F_X7_cast (si : Nat → Int32) (sa : Nat → Nat → Int32) (hs : Nat → (Nat → Int32) × (Nat → Nat → Int32)) (tx : Nat → Int32) (tl : Int32) (hc : Int32) (hn : Int32) (a1 : Int32) : Option (Int32 × (Nat → Nat → Int32) × (Nat → (Nat → Int32) × (Nat → Nat → Int32)) × Int32 × Int32 × Int32) :=
  if (F_X5_isMember si a1) = 0 then (
    some ((-1), sa, hs, tl, hc, hn))
  else
  if (si 6) = 0 then (
    some ((-2), sa, hs, tl, hc, hn))
  else
  (F_X5_isPresent si a1).bind fun x1 =>
  if x1 = 0 then (
    some ((-2), sa, hs, tl, hc, hn))
  else
  (F_X0_errorPlace tx tl (si 7)).bind fun x2 =>
  if x2 = (-9) then (
    (F_X3_keep si sa hs hc hn).bind fun x3 =>
    (F_X2_take sa tx tl a1).bind fun x4 =>
    (F_X2_countBallots x4).bind fun x5 =>
    some (x5, x4, x3.1, 0, x3.2.1, x3.2.2))
  else
  some (((-100) - x2), sa, hs, tl, hc, hn)

def F_X5_hasQuorum (si : Nat → Int32) (sa : Nat → Nat → Int32) : Option (Int32) :=
  (F_X2_countBallots sa).bind fun x1 =>
  (tv_rd 6 (sa 0) 4).bind fun x2 =>
  if (100 * x1) < (x2 * (tv_bc (si 2))) then (
    some 0)
  else
  some 1

def F_X2_firstAmong_L2 (sa : Nat → Nat → Int32) (l1 : Int32) (l2 : Int32) : Nat → Int32 → Option (Int32)
  | 0, _ => none
  | n + 1, l3 =>
    if 10 ≤ l3 then (
      some (-9))
    else
    (F_X2_choice sa l2 l3).bind fun x1 =>
    if x1 = (-9) then (
      F_X2_firstAmong_L2 sa l1 l2 n (l3 + 1))
    else
    if (F_X7_has l1 x1) = 0 then (
      F_X2_firstAmong_L2 sa l1 l2 n (l3 + 1))
    else
    some x1

def F_X2_firstAmong (sa : Nat → Nat → Int32) (a1 : Int32) (a2 : Int32) : Option (Int32) :=
  F_X2_firstAmong_L2 sa a1 a2 tv_fu 0

def F_X4_count_L9 (l1 : Int32) (l2 : Int32) (l4 : Int32) : Nat → Int32 → (Nat → Nat → Int32) → Option ((Nat → Nat → Int32))
  | 0, _, _ => none
  | n + 1, l5, sa =>
    if 10 ≤ l5 then (
      some sa)
    else
    (if (F_X7_has l2 l5) = 0 then (
      some (-9))
    else (
      some 0)).bind fun x1 =>
    (tv_wr 100 (sa 3) (l4 + l5) x1).bind fun x2 =>
    F_X4_count_L9 l1 l2 l4 n (l5 + 1) (va_up sa 3 x2)

def F_X4_count_L50 (l1 : Int32) (l2 : Int32) (l4 : Int32) : Nat → Int32 → (Nat → Nat → Int32) → Option ((Nat → Nat → Int32))
  | 0, _, _ => none
  | n + 1, l5, sa =>
    if 10 ≤ l5 then (
      some sa)
    else
    (F_X2_firstAmong sa l2 l5).bind fun x4 =>
    if x4 < 0 then (
      F_X4_count_L50 l1 l2 l4 n (l5 + 1) sa)
    else
    if 10 ≤ x4 then (
      F_X4_count_L50 l1 l2 l4 n (l5 + 1) sa)
    else
    (tv_rd 100 (sa 3) (l4 + x4)).bind fun x5 =>
    (tv_wr 100 (sa 3) (l4 + x4) (x5 + 1)).bind fun x6 =>
    F_X4_count_L50 l1 l2 l4 n (l5 + 1) (va_up sa 3 x6)

def F_X4_count (si : Nat → Int32) (sa : Nat → Nat → Int32) (a1 : Int32) (a2 : Int32) : Option ((Nat → Int32) × (Nat → Nat → Int32)) :=
  (F_X4_count_L9 a1 a2 (a1 * 10) tv_fu 0 sa).bind fun x3 =>
  (F_X4_count_L50 a1 a2 (a1 * 10) tv_fu 0 x3).bind fun x7 =>
  some ((upd si 8 (a1 + 1)), x7)

def F_X4_votesFor (sa : Nat → Nat → Int32) (a1 : Int32) (a2 : Int32) : Option (Int32) :=
  (tv_rd 100 (sa 3) ((a2 * 10) + a1)).bind fun x1 =>
  some x1

def F_X4_countAll_L5 (sa : Nat → Nat → Int32) (l1 : Int32) (l2 : Int32) : Nat → Int32 → Int32 → Option (Int32)
  | 0, _, _ => none
  | n + 1, l3, l4 =>
    if 10 ≤ l4 then (
      some l3)
    else
    if (F_X7_has l2 l4) = 0 then (
      F_X4_countAll_L5 sa l1 l2 n l3 (l4 + 1))
    else
    (F_X4_votesFor sa l4 l1).bind fun x1 =>
    F_X4_countAll_L5 sa l1 l2 n (l3 + x1) (l4 + 1)

def F_X4_countAll (sa : Nat → Nat → Int32) (a1 : Int32) (a2 : Int32) : Option (Int32) :=
  (F_X4_countAll_L5 sa a1 a2 tv_fu 0 0).bind fun x2 =>
  some x2

def F_X4_winner_L25 (sa : Nat → Nat → Int32) (l1 : Int32) (l2 : Int32) (l3 : Int32) (l4 : Int32) : Nat → Int32 → Option (Int32)
  | 0, _ => none
  | n + 1, l5 =>
    if 10 ≤ l5 then (
      some (-9))
    else
    if (F_X7_has l2 l5) = 0 then (
      F_X4_winner_L25 sa l1 l2 l3 l4 n (l5 + 1))
    else
    if l3 = 0 then (
      (F_X4_votesFor sa l5 l1).bind fun x3 =>
      if (2 * x3) ≤ l4 then (
        F_X4_winner_L25 sa l1 l2 l3 l4 n (l5 + 1))
      else
      some l5)
    else
    some l5

def F_X4_winner (sa : Nat → Nat → Int32) (a1 : Int32) (a2 : Int32) : Option (Int32) :=
  (if (tv_bc a2) = 1 then (
    some 1)
  else (
    some 0)).bind fun x1 =>
  (F_X4_countAll sa a1 a2).bind fun x2 =>
  F_X4_winner_L25 sa a1 a2 x1 x2 tv_fu 0

def F_X5_leavesRather (si : Nat → Int32) (sa : Nat → Nat → Int32) (a1 : Int32) (a2 : Int32) (a3 : Int32) : Option (Int32) :=
  (tv_rd 6 (sa 0) 5).bind fun x1 =>
  (F_X4_votesFor sa a1 a3).bind fun x2 =>
  (F_X4_votesFor sa a2 a3).bind fun x3 =>
  (if (x2 - x3) = 0 then (
    (F_X6_reputation si sa a1 x1).bind fun x4 =>
    (F_X6_reputation si sa a2 x1).bind fun x5 =>
    some (x4 - x5))
  else (
    some (x2 - x3))).bind fun x6 =>
  (if x6 = 0 then (
    (F_X6_countLed si sa a2).bind fun x7 =>
    (F_X6_countLed si sa a1).bind fun x8 =>
    some (x7 - x8))
  else (
    some x6)).bind fun x9 =>
  if 0 < x9 then (
    some 0)
  else
  some 1

def F_X5_weakest_L6 (si : Nat → Int32) (sa : Nat → Nat → Int32) (l1 : Int32) (l2 : Int32) : Nat → Int32 → Int32 → Option (Int32)
  | 0, _, _ => none
  | n + 1, l3, l4 =>
    if 10 ≤ l4 then (
      some l3)
    else
    if (F_X7_has l2 l4) = 0 then (
      F_X5_weakest_L6 si sa l1 l2 n l3 (l4 + 1))
    else
    if l3 = (-9) then (
      F_X5_weakest_L6 si sa l1 l2 n l4 (l4 + 1))
    else
    (F_X5_leavesRather si sa l4 l3 l1).bind fun x1 =>
    if x1 = 0 then (
      F_X5_weakest_L6 si sa l1 l2 n l3 (l4 + 1))
    else
    F_X5_weakest_L6 si sa l1 l2 n l4 (l4 + 1)

def F_X5_weakest (si : Nat → Int32) (sa : Nat → Nat → Int32) (a1 : Int32) (a2 : Int32) : Option (Int32) :=
  (F_X5_weakest_L6 si sa a1 a2 tv_fu (-9) 0).bind fun x2 =>
  some x2

def F_X5_holdRounds_L10 : Nat → Int32 → Int32 → (Nat → Int32) → (Nat → Nat → Int32) → Option (Int32 × (Nat → Int32) × (Nat → Nat → Int32))
  | 0, _, _, _, _ => none
  | n + 1, l1, l2, si, sa =>
    if 10 ≤ l2 then (
      some ((-9), si, sa))
    else
    (F_X4_count si sa l2 l1).bind fun x1 =>
    (F_X4_winner x1.2 l2 l1).bind fun x2 =>
    if x2 = (-9) then (
      (F_X5_weakest x1.1 x1.2 l2 l1).bind fun x3 =>
      F_X5_holdRounds_L10 n (l1 &&& ((F_X7_only x3) ^^^ (-1))) (l2 + 1) x1.1 x1.2)
    else
    some (x2, x1.1, x1.2)

def F_X5_holdRounds (si : Nat → Int32) (sa : Nat → Nat → Int32) : Option (Int32 × (Nat → Int32) × (Nat → Nat → Int32)) :=
  F_X5_holdRounds_L10 tv_fu (si 7) 0 si sa

def F_X2_finish (si : Nat → Int32) (sa : Nat → Nat → Int32) : Option ((Nat → Int32) × (Nat → Nat → Int32)) :=
  some ((upd (upd si 6 0) 7 0), (va_up sa 2 (tv_fill 100 (-9) (sa 2))))

def F_X6_begin_L97 (si : Nat → Int32) : Nat → Int32 → (Nat → Nat → Int32) → Option ((Nat → Nat → Int32))
  | 0, _, _ => none
  | n + 1, l5, sa =>
    if 10 ≤ l5 then (
      some sa)
    else
    (tv_wr 410 (sa 11) (((si 9) * 10) + l5) (-9)).bind fun x8 =>
    F_X6_begin_L97 si n (l5 + 1) (va_up sa 11 x8)

def F_X6_begin (si : Nat → Int32) (sa : Nat → Nat → Int32) (a1 : Int32) (a2 : Int32) (a3 : Int32) (a4 : Int32) : Option ((Nat → Int32) × (Nat → Nat → Int32)) :=
  if (si 9) < 40 then (
    (tv_wr 41 (sa 4) ((upd si 9 ((si 9) + 1)) 9) a1).bind fun x1 =>
    (tv_wr 41 ((va_up sa 4 x1) 5) ((upd si 9 ((si 9) + 1)) 9) a2).bind fun x2 =>
    (tv_wr 41 ((va_up (va_up sa 4 x1) 5 x2) 6) ((upd si 9 ((si 9) + 1)) 9) (a2 + a3)).bind fun x3 =>
    (tv_wr 41 ((va_up (va_up (va_up sa 4 x1) 5 x2) 6 x3) 7) ((upd si 9 ((si 9) + 1)) 9) (-9)).bind fun x4 =>
    (tv_wr 41 ((va_up (va_up (va_up (va_up sa 4 x1) 5 x2) 6 x3) 7 x4) 8) ((upd si 9 ((si 9) + 1)) 9) 0).bind fun x5 =>
    (tv_wr 41 ((va_up (va_up (va_up (va_up (va_up sa 4 x1) 5 x2) 6 x3) 7 x4) 8 x5) 9) ((upd si 9 ((si 9) + 1)) 9) 0).bind fun x6 =>
    (tv_wr 41 ((va_up (va_up (va_up (va_up (va_up (va_up sa 4 x1) 5 x2) 6 x3) 7 x4) 8 x5) 9 x6) 10) ((upd si 9 ((si 9) + 1)) 9) a4).bind fun x7 =>
    (F_X6_begin_L97 (upd si 9 ((si 9) + 1)) tv_fu 0 (va_up (va_up (va_up (va_up (va_up (va_up (va_up sa 4 x1) 5 x2) 6 x3) 7 x4) 8 x5) 9 x6) 10 x7)).bind fun x9 =>
    some ((upd si 9 ((si 9) + 1)), x9))
  else
  some (si, sa)

def F_X5_beginTerm (si : Nat → Int32) (sa : Nat → Nat → Int32) (a1 : Int32) : Option ((Nat → Int32) × (Nat → Nat → Int32)) :=
  (tv_rd 6 (sa 0) 0).bind fun x1 =>
  (F_X6_begin si sa a1 (si 0) x1 (si 2)).bind fun x2 =>
  (F_X1_tell (upd (upd x2.1 4 2) 5 a1) x2.2 ((upd (upd x2.1 4 2) 5 a1) 0) 1 a1).bind fun x3 =>
  some (x3.1, x3.2)

def F_X5_elect (si : Nat → Int32) (sa : Nat → Nat → Int32) : Option (Int32 × (Nat → Int32) × (Nat → Nat → Int32)) :=
  (F_X5_hasQuorum (upd si 8 0) sa).bind fun x1 =>
  (if x1 = 0 then (
    some ((-9), (upd si 8 0), sa))
  else (
    (F_X5_holdRounds (upd si 8 0) sa).bind fun x2 =>
    some (x2.1, x2.2.1, x2.2.2))).bind fun x3 =>
  (F_X2_finish x3.2.1 x3.2.2).bind fun x4 =>
  if x3.1 = (-9) then (
    (F_X1_tell x4.1 x4.2 (x4.1 0) 6 (-9)).bind fun x6 =>
    some (x3.1, x6.1, x6.2))
  else
  (F_X5_beginTerm x4.1 x4.2 x3.1).bind fun x5 =>
  some (x3.1, x5.1, x5.2)

def F_X7_close (si : Nat → Int32) (sa : Nat → Nat → Int32) (hs : Nat → (Nat → Int32) × (Nat → Nat → Int32)) (hc : Int32) (hn : Int32) : Option (Int32 × (Nat → Int32) × (Nat → Nat → Int32) × (Nat → (Nat → Int32) × (Nat → Nat → Int32)) × Int32 × Int32) :=
  if (si 6) = 0 then (
    some ((-2), si, sa, hs, hc, hn))
  else
  if (si 7) = 0 then (
    some ((-2), si, sa, hs, hc, hn))
  else
  (F_X3_keep si sa hs hc hn).bind fun x1 =>
  (F_X5_elect si sa).bind fun x2 =>
  some (x2.1, x2.2.1, x2.2.2, x1.1, x1.2.1, x1.2.2)

def F_X7_rounds (si : Nat → Int32) : Int32 :=
  (si 8)

def F_X7_tally (si : Nat → Int32) (sa : Nat → Nat → Int32) (a1 : Int32) (a2 : Int32) : Option (Int32) :=
  if a1 < 0 then (
    some (-1))
  else
  if (si 8) ≤ a1 then (
    some (-1))
  else
  if (F_X5_isMember si a2) = 0 then (
    some (-1))
  else
  (F_X4_votesFor sa a2 a1).bind fun x1 =>
  some x1

def F_X7_ballot (si : Nat → Int32) (sa : Nat → Nat → Int32) (a1 : Int32) (a2 : Int32) : Option (Int32) :=
  if (F_X5_isMember si a1) = 0 then (
    some (-1))
  else
  if 0 ≤ a2 then (
    if (si 6) = 0 then (
      some (-2))
    else
    if a2 < 10 then (
      (F_X2_choice sa a1 a2).bind fun x1 =>
      some x1)
    else
    some (-9))
  else
  some (-1)

def F_X7_office (si : Nat → Int32) : Int32 :=
  (si 4)

def F_X7_holder (si : Nat → Int32) : Int32 :=
  (si 5)

def F_X6_latestDeeds (si : Nat → Int32) (sa : Nat → Nat → Int32) : Option (Int32) :=
  (tv_rd 41 (sa 8) (si 9)).bind fun x1 =>
  some x1

def F_X6_setLatestDeeds (si : Nat → Int32) (sa : Nat → Nat → Int32) (a1 : Int32) : Option ((Nat → Nat → Int32)) :=
  (tv_wr 41 (sa 8) (si 9) a1).bind fun x1 =>
  some (va_up sa 8 x1)

def F_X7_deed (si : Nat → Int32) (sa : Nat → Nat → Int32) (hs : Nat → (Nat → Int32) × (Nat → Nat → Int32)) (hc : Int32) (hn : Int32) (a1 : Int32) : Option (Int32 × (Nat → Nat → Int32) × (Nat → (Nat → Int32) × (Nat → Nat → Int32)) × Int32 × Int32) :=
  if (si 4) = 2 then (
    (F_X6_latestDeeds si sa).bind fun x1 =>
    (if a1 = 0 then (
      some (-1))
    else (
      some 1)).bind fun x2 =>
    if 20 < (x1 + x2) then (
      some ((-2), sa, hs, hc, hn))
    else
    if (-20) ≤ (x1 + x2) then (
      (F_X3_keep si sa hs hc hn).bind fun x3 =>
      (F_X6_setLatestDeeds si sa (x1 + x2)).bind fun x4 =>
      some ((x1 + x2), x4, x3.1, x3.2.1, x3.2.2))
    else
    some ((-2), sa, hs, hc, hn))
  else
  some ((-2), sa, hs, hc, hn)

def F_X7_sign (si : Nat → Int32) (sa : Nat → Nat → Int32) (hs : Nat → (Nat → Int32) × (Nat → Nat → Int32)) (hc : Int32) (hn : Int32) (a1 : Int32) (a2 : Int32) : Option (Int32 × (Nat → Int32) × (Nat → Nat → Int32) × (Nat → (Nat → Int32) × (Nat → Nat → Int32)) × Int32 × Int32) :=
  if (F_X5_isMember si a1) = 0 then (
    some ((-1), si, sa, hs, hc, hn))
  else
  if (si 4) = 2 then (
    (F_X5_isPresent si a1).bind fun x1 =>
    if x1 = 0 then (
      some ((-2), si, sa, hs, hc, hn))
    else
    if a1 = (si 5) then (
      some ((-2), si, sa, hs, hc, hn))
    else
    if (F_X7_has (si 3) a1) = a2 then (
      some ((-2), si, sa, hs, hc, hn))
    else
    (F_X3_keep si sa hs hc hn).bind fun x2 =>
    (if a2 = 0 then (
      some ((upd si 3 ((si 3) &&& ((F_X7_only a1) ^^^ (-1)))), sa))
    else (
      (F_X5_lookAtPetition (upd si 3 ((si 3) ||| (F_X7_only a1))) sa).bind fun x3 =>
      some (x3.1, x3.2))).bind fun x4 =>
    some ((F_X5_countSignatures x4.1), x4.1, x4.2, x2.1, x2.2.1, x2.2.2))
  else
  some ((-2), si, sa, hs, hc, hn)

def F_X6_isTerm (si : Nat → Int32) (a1 : Int32) : Int32 :=
  if a1 < 1 then (
    0)
  else
  if (si 9) < a1 then (
    0)
  else
  1

def F_X6_isOver (sa : Nat → Nat → Int32) (a1 : Int32) : Option (Int32) :=
  (tv_rd 41 (sa 7) a1).bind fun x1 =>
  if x1 = (-9) then (
    some 0)
  else
  some 1

def F_X6_mayGrade (sa : Nat → Nat → Int32) (a1 : Int32) (a2 : Int32) (a3 : Int32) : Option (Int32) :=
  (F_X6_isOver sa a2).bind fun x1 =>
  if x1 = 0 then (
    some 0)
  else
  (tv_rd 41 (sa 7) a2).bind fun x2 =>
  if (a3 - x2) ≤ 50 then (
    (tv_rd 41 (sa 4) a2).bind fun x3 =>
    if a1 = x3 then (
      some 0)
    else
    (tv_rd 41 (sa 10) a2).bind fun x4 =>
    if (F_X7_has x4 a1) = 0 then (
      some 0)
    else
    some 1)
  else
  some 0

def F_X6_putGrade (sa : Nat → Nat → Int32) (a1 : Int32) (a2 : Int32) (a3 : Int32) : Option ((Nat → Nat → Int32)) :=
  (tv_wr 410 (sa 11) ((a2 * 10) + a1) a3).bind fun x1 =>
  some (va_up sa 11 x1)

def F_X6_givenPoints (sa : Nat → Nat → Int32) (a1 : Int32) (a2 : Int32) : Option (Int32) :=
  (tv_rd 410 (sa 11) ((a2 * 10) + a1)).bind fun x1 =>
  some x1

def F_X6_countGrades_L4 (sa : Nat → Nat → Int32) (l1 : Int32) : Nat → Int32 → Int32 → Option (Int32)
  | 0, _, _ => none
  | n + 1, l2, l3 =>
    if 10 ≤ l3 then (
      some l2)
    else
    (F_X6_givenPoints sa l3 l1).bind fun x1 =>
    if x1 = (-9) then (
      F_X6_countGrades_L4 sa l1 n l2 (l3 + 1))
    else
    F_X6_countGrades_L4 sa l1 n (l2 + 1) (l3 + 1)

def F_X6_countGrades (sa : Nat → Nat → Int32) (a1 : Int32) : Option (Int32) :=
  (F_X6_countGrades_L4 sa a1 tv_fu 0 0).bind fun x2 =>
  some x2

def F_X7_grade (si : Nat → Int32) (sa : Nat → Nat → Int32) (hs : Nat → (Nat → Int32) × (Nat → Nat → Int32)) (hc : Int32) (hn : Int32) (a1 : Int32) (a2 : Int32) (a3 : Int32) (a4 : Int32) : Option (Int32 × (Nat → Nat → Int32) × (Nat → (Nat → Int32) × (Nat → Nat → Int32)) × Int32 × Int32) :=
  if (F_X5_isMember si a1) = 0 then (
    some ((-1), sa, hs, hc, hn))
  else
  if (F_X6_isTerm si a2) = 0 then (
    some ((-1), sa, hs, hc, hn))
  else
  if a3 < 0 then (
    some ((-1), sa, hs, hc, hn))
  else
  if a3 ≤ 10 then (
    (F_X6_mayGrade sa a1 a2 (si 0)).bind fun x1 =>
    if x1 = 0 then (
      some ((-2), sa, hs, hc, hn))
    else
    (tv_rd 10 (sa 1) a1).bind fun x2 =>
    if a4 = (((((31 * a2) + (17 * a1)) + (7 * a3)) + x2) - ((((31 * a2) + (17 * a1)) + (7 * a3)) + x2) / 997 * 997) then (
      (F_X3_keep si sa hs hc hn).bind fun x3 =>
      (F_X6_putGrade sa a1 a2 a3).bind fun x4 =>
      (F_X6_countGrades x4 a2).bind fun x5 =>
      some (x5, x4, x3.1, x3.2.1, x3.2.2))
    else
    some ((-5), sa, hs, hc, hn))
  else
  some ((-1), sa, hs, hc, hn)

def F_X6_number (sa : Nat → Nat → Int32) (a1 : Int32) (a2 : Int32) : Option (Int32) :=
  if a2 = 0 then (
    (tv_rd 41 (sa 4) a1).bind fun x1 =>
    some x1)
  else
  if a2 = 1 then (
    (tv_rd 41 (sa 5) a1).bind fun x2 =>
    some x2)
  else
  if a2 = 2 then (
    (tv_rd 41 (sa 6) a1).bind fun x3 =>
    some x3)
  else
  if a2 = 3 then (
    (tv_rd 41 (sa 7) a1).bind fun x4 =>
    some x4)
  else
  if a2 = 4 then (
    (tv_rd 41 (sa 8) a1).bind fun x5 =>
    some x5)
  else
  if a2 = 5 then (
    (tv_rd 41 (sa 9) a1).bind fun x6 =>
    some x6)
  else
  if a2 = 6 then (
    (F_X6_countGrades sa a1).bind fun x7 =>
    some x7)
  else
  (F_X6_isOver sa a1).bind fun x8 =>
  if x8 = 0 then (
    some (-9))
  else
  (F_X6_score sa a1).bind fun x9 =>
  some x9

def F_X7_term (si : Nat → Int32) (sa : Nat → Nat → Int32) (a1 : Int32) (a2 : Int32) : Option (Int32) :=
  if (F_X6_isTerm si a1) = 0 then (
    some (-1))
  else
  if a2 < 0 then (
    some (-1))
  else
  if a2 < 8 then (
    (F_X6_number sa a1 a2).bind fun x1 =>
    some x1)
  else
  some (-1)

def F_X7_points (si : Nat → Int32) (sa : Nat → Nat → Int32) (a1 : Int32) (a2 : Int32) : Option (Int32) :=
  if (F_X5_isMember si a1) = 0 then (
    some (-1))
  else
  if (F_X6_isTerm si a2) = 0 then (
    some (-1))
  else
  (F_X6_givenPoints sa a1 a2).bind fun x1 =>
  some x1

def F_X7_terms (si : Nat → Int32) : Int32 :=
  (si 9)

def F_X5_numberOf (si : Nat → Int32) (sa : Nat → Nat → Int32) (a1 : Int32) (a2 : Int32) : Option (Int32) :=
  if a2 = 0 then (
    (tv_rd 6 (sa 0) 5).bind fun x1 =>
    (F_X6_reputation si sa a1 x1).bind fun x2 =>
    some x2)
  else
  if a2 = 1 then (
    (F_X6_countLed si sa a1).bind fun x3 =>
    some x3)
  else
  if a2 = 2 then (
    (F_X5_isPresent si a1).bind fun x4 =>
    some (F_X7_asNumber x4))
  else
  if a2 = 3 then (
    (F_X5_canLead si sa a1).bind fun x5 =>
    some (F_X7_asNumber x5))
  else
  if a2 = 4 then (
    some (F_X7_asNumber (F_X7_has (si 7) a1)))
  else
  some (F_X7_asNumber (F_X7_has (si 3) a1))

def F_X7_member (si : Nat → Int32) (sa : Nat → Nat → Int32) (a1 : Int32) (a2 : Int32) : Option (Int32) :=
  if (F_X5_isMember si a1) = 0 then (
    some (-1))
  else
  if a2 < 0 then (
    some (-1))
  else
  if a2 < 6 then (
    (F_X5_numberOf si sa a1 a2).bind fun x1 =>
    some x1)
  else
  some (-1)

def F_X7_time (si : Nat → Int32) : Int32 :=
  (si 0)

def F_X7_events (si : Nat → Int32) : Int32 :=
  (si 10)

def F_X1_number (si : Nat → Int32) (sa : Nat → Nat → Int32) (a1 : Int32) (a2 : Int32) : Option (Int32) :=
  if (si 10) ≤ a1 then (
    some (-9))
  else
  if a1 < 20 then (
    if a2 = 0 then (
      (tv_rd 20 (sa 12) ((((si 10) - 1) - a1) - (((si 10) - 1) - a1) / 20 * 20)).bind fun x1 =>
      some x1)
    else
    if a2 = 1 then (
      (tv_rd 20 (sa 13) ((((si 10) - 1) - a1) - (((si 10) - 1) - a1) / 20 * 20)).bind fun x2 =>
      some x2)
    else
    (tv_rd 20 (sa 14) ((((si 10) - 1) - a1) - (((si 10) - 1) - a1) / 20 * 20)).bind fun x3 =>
    some x3)
  else
  some (-9)

def F_X7_event (si : Nat → Int32) (sa : Nat → Nat → Int32) (a1 : Int32) (a2 : Int32) : Option (Int32) :=
  if a1 < 0 then (
    some (-1))
  else
  if a2 < 0 then (
    some (-1))
  else
  if a2 < 3 then (
    (F_X1_number si sa a1 a2).bind fun x1 =>
    some x1)
  else
  some (-1)

def F_X0_append (tx : Nat → Int32) (tl : Int32) (a1 : Int32) : Option (Int32 × (Nat → Int32) × Int32) :=
  if tl < 40 then (
    (tv_wr 40 tx tl a1).bind fun x1 =>
    some ((tl + 1), x1, (tl + 1)))
  else
  some ((-3), tx, tl)

def F_X7_type (tx : Nat → Int32) (tl : Int32) (a1 : Int32) : Option (Int32 × (Nat → Int32) × Int32) :=
  if a1 < 32 then (
    some ((-1), tx, tl))
  else
  if a1 ≤ 126 then (
    (F_X0_append tx tl a1).bind fun x1 =>
    some (x1.1, x1.2.1, x1.2.2))
  else
  some ((-1), tx, tl)

def F_X7_clear (tl : Int32) : Option (Int32 × Int32) :=
  some (tl, 0)

def F_X3_restore (si : Nat → Int32) (sa : Nat → Nat → Int32) (hs : Nat → (Nat → Int32) × (Nat → Nat → Int32)) (hc : Int32) (hn : Int32) : Option ((Nat → Int32) × (Nat → Nat → Int32) × Int32 × Int32) :=
  if (((hn + 5) - 1) - ((hn + 5) - 1) / 5 * 5) = 0 then (
    (F_X5_copy (hs 0).1 (hs 0).2 si sa).bind fun x1 =>
    some (x1.1, x1.2, (hc - 1), (((hn + 5) - 1) - ((hn + 5) - 1) / 5 * 5)))
  else
  if (((hn + 5) - 1) - ((hn + 5) - 1) / 5 * 5) = 1 then (
    (F_X5_copy (hs 1).1 (hs 1).2 si sa).bind fun x2 =>
    some (x2.1, x2.2, (hc - 1), (((hn + 5) - 1) - ((hn + 5) - 1) / 5 * 5)))
  else
  if (((hn + 5) - 1) - ((hn + 5) - 1) / 5 * 5) = 2 then (
    (F_X5_copy (hs 2).1 (hs 2).2 si sa).bind fun x3 =>
    some (x3.1, x3.2, (hc - 1), (((hn + 5) - 1) - ((hn + 5) - 1) / 5 * 5)))
  else
  if (((hn + 5) - 1) - ((hn + 5) - 1) / 5 * 5) = 3 then (
    (F_X5_copy (hs 3).1 (hs 3).2 si sa).bind fun x4 =>
    some (x4.1, x4.2, (hc - 1), (((hn + 5) - 1) - ((hn + 5) - 1) / 5 * 5)))
  else
  if (((hn + 5) - 1) - ((hn + 5) - 1) / 5 * 5) = 4 then (
    (F_X5_copy (hs 4).1 (hs 4).2 si sa).bind fun x5 =>
    some (x5.1, x5.2, (hc - 1), (((hn + 5) - 1) - ((hn + 5) - 1) / 5 * 5)))
  else
  none

def F_X7_undo (si : Nat → Int32) (sa : Nat → Nat → Int32) (hs : Nat → (Nat → Int32) × (Nat → Nat → Int32)) (hc : Int32) (hn : Int32) : Option (Int32 × (Nat → Int32) × (Nat → Nat → Int32) × Int32 × Int32) :=
  if 0 < hc then (
    (F_X3_restore si sa hs hc hn).bind fun x1 =>
    some (x1.2.2.1, x1.1, x1.2.1, x1.2.2.1, x1.2.2.2))
  else
  some ((-9), si, sa, hc, hn)

def F_X7_mixed (a0 : Int64) (a2 : Int32) : Int64 :=
  ((31 * a0) + (Int32.toInt64 a2))

def F_X7_fingerprint_L89 (sa : Nat → Nat → Int32) (l3 : Int32) : Nat → Int64 → Int32 → Option (Int64)
  | 0, _, _ => none
  | n + 1, l1, l4 =>
    if 8 ≤ l4 then (
      some l1)
    else
    (F_X6_number sa l3 l4).bind fun x1 =>
    F_X7_fingerprint_L89 sa l3 n (F_X7_mixed l1 x1) (l4 + 1)

def F_X7_fingerprint_L72 (si : Nat → Int32) (sa : Nat → Nat → Int32) : Nat → Int64 → Int32 → Option (Int64)
  | 0, _, _ => none
  | n + 1, l1, l3 =>
    if (si 9) < l3 then (
      some l1)
    else
    (F_X7_fingerprint_L89 sa l3 tv_fu l1 0).bind fun x2 =>
    F_X7_fingerprint_L72 si sa n x2 (l3 + 1)

def F_X7_fingerprint_L154 (si : Nat → Int32) (sa : Nat → Nat → Int32) (l3 : Int32) : Nat → Int64 → Int32 → Option (Int64)
  | 0, _, _ => none
  | n + 1, l1, l4 =>
    if 6 ≤ l4 then (
      some l1)
    else
    (F_X5_numberOf si sa l3 l4).bind fun x4 =>
    F_X7_fingerprint_L154 si sa l3 n (F_X7_mixed l1 x4) (l4 + 1)

def F_X7_fingerprint_L140 (si : Nat → Int32) (sa : Nat → Nat → Int32) : Nat → Int64 → Int32 → Option (Int64)
  | 0, _, _ => none
  | n + 1, l1, l3 =>
    if (si 1) ≤ l3 then (
      some l1)
    else
    (F_X7_fingerprint_L154 si sa l3 tv_fu l1 0).bind fun x5 =>
    F_X7_fingerprint_L140 si sa n x5 (l3 + 1)

def F_X7_fingerprint (si : Nat → Int32) (sa : Nat → Nat → Int32) : Option (Int64) :=
  (F_X7_fingerprint_L72 si sa tv_fu (F_X7_mixed (F_X7_mixed (F_X7_mixed (F_X7_mixed (F_X7_mixed 83 (si 0)) (si 4)) (si 5)) (si 9)) (si 10)) 1).bind fun x3 =>
  (F_X7_fingerprint_L140 si sa tv_fu (F_X7_mixed x3 (si 1)) 0).bind fun x6 =>
  some x6

def F_X8_in (a0 : Int32) (a1 : Int32) (a2 : Int32) : Int32 :=
  if a0 < a1 then (
    0)
  else
  if a2 < a0 then (
    0)
  else
  1

def F_X8_isIn (a0 : Int32) (a1 : Int32) : Option (Int32) :=
  if a0 = 0 then (
    if ¬ ((F_X8_in a1 10 1000) = 0 ∨ (F_X8_in a1 10 1000) = 1) then none else
    some (F_X8_in a1 10 1000))
  else
  if a0 = 1 then (
    if ¬ ((F_X8_in a1 1 9) = 0 ∨ (F_X8_in a1 1 9) = 1) then none else
    some (F_X8_in a1 1 9))
  else
  if a0 = 2 then (
    if ¬ ((F_X8_in a1 1 9) = 0 ∨ (F_X8_in a1 1 9) = 1) then none else
    some (F_X8_in a1 1 9))
  else
  if a0 = 3 then (
    if ¬ ((F_X8_in a1 1 100) = 0 ∨ (F_X8_in a1 1 100) = 1) then none else
    some (F_X8_in a1 1 100))
  else
  if a0 = 4 then (
    if ¬ ((F_X8_in a1 0 100) = 0 ∨ (F_X8_in a1 0 100) = 1) then none else
    some (F_X8_in a1 0 100))
  else
  if a0 = 5 then (
    if (F_X8_in a1 1 10) = 0 then (
      some 0)
    else
    some 1)
  else
  some 0

def F_X8_act_L10 : Nat → Int32 → (Nat → Int32) → Option ((Nat → Int32))
  | 0, _, _ => none
  | n + 1, l1, pa =>
    if 4400 ≤ l1 then (
      some pa)
    else
    (tv_rd 5500 pa (l1 + 1100)).bind fun x1 =>
    (tv_wr 5500 pa l1 x1).bind fun x2 =>
    F_X8_act_L10 n (l1 + 1) x2

def F_X8_act_L51 (v : Nat → Int32) (pm : Int32) : Nat → Int32 → (Nat → Int32) → Option ((Nat → Int32))
  | 0, _, _ => none
  | n + 1, l1, pa =>
    if 1100 ≤ l1 then (
      some pa)
    else
    (tv_rd 1100 v l1).bind fun x5 =>
    (tv_wr 5500 pa ((1100 * pm) + l1) x5).bind fun x6 =>
    F_X8_act_L51 v pm n (l1 + 1) x6

def F_X8_act (v : Nat → Int32) (pa : Nat → Int32) (pm : Int32) : Option ((Nat → Int32) × Int32) :=
  (if pm = 5 then (
    (F_X8_act_L10 tv_fu 0 pa).bind fun x3 =>
    some (x3, (pm - 1)))
  else (
    some (pa, pm))).bind fun x4 =>
  (F_X8_act_L51 v x4.2 tv_fu 0 x4.1).bind fun x7 =>
  some (x7, (x4.2 + 1))

def F_X8_at (a0 : Int32) (a1 : Int32) : Int32 :=
  ((20 + (15 * a0)) + a1)

def F_X8_presentMany_L4 (v : Nat → Int32) : Nat → Int32 → Int32 → Option (Int32)
  | 0, _, _ => none
  | n + 1, l1, l2 =>
    (tv_rd 1100 v 10).bind fun x1 =>
    if x1 ≤ l2 then (
      some l1)
    else
    (tv_rd 1100 v (F_X8_at l2 1)).bind fun x2 =>
    F_X8_presentMany_L4 v n (l1 + x2) (l2 + 1)

def F_X8_presentMany (v : Nat → Int32) : Option (Int32) :=
  (F_X8_presentMany_L4 v tv_fu 0 0).bind fun x3 =>
  some x3

def F_X8_isPresent (v : Nat → Int32) (a1 : Int32) : Option (Int32) :=
  (tv_rd 1100 v (F_X8_at a1 1)).bind fun x1 =>
  if x1 = 1 then (
    some 1)
  else
  some 0

def F_X8_signatures_L4 (v : Nat → Int32) : Nat → Int32 → Int32 → Option (Int32)
  | 0, _, _ => none
  | n + 1, l1, l2 =>
    (tv_rd 1100 v 10).bind fun x1 =>
    if x1 ≤ l2 then (
      some l1)
    else
    (F_X8_isPresent v l2).bind fun x2 =>
    if x2 = 0 then (
      F_X8_signatures_L4 v n (l1 + 0) (l2 + 1))
    else
    (tv_rd 1100 v (F_X8_at l2 3)).bind fun x3 =>
    if x3 = 1 then (
      F_X8_signatures_L4 v n (l1 + 1) (l2 + 1))
    else
    F_X8_signatures_L4 v n (l1 + 0) (l2 + 1)

def F_X8_signatures (v : Nat → Int32) : Option (Int32) :=
  (F_X8_signatures_L4 v tv_fu 0 0).bind fun x4 =>
  some x4

def F_X8_of (a0 : Int32) (a1 : Int32) : Int32 :=
  ((170 + (18 * (a0 - 1))) + a1)

def F_X8_tells (v : Nat → Int32) (a1 : Int32) (a2 : Int32) : Option ((Nat → Int32)) :=
  (tv_rd 1100 v 12).bind fun x1 =>
  (tv_rd 1100 v 6).bind fun x2 =>
  (tv_wr 1100 v (910 + (3 * (x1 - x1 / 20 * 20))) x2).bind fun x3 =>
  (tv_wr 1100 x3 ((910 + (3 * (x1 - x1 / 20 * 20))) + 1) a1).bind fun x4 =>
  (tv_wr 1100 x4 ((910 + (3 * (x1 - x1 / 20 * 20))) + 2) a2).bind fun x5 =>
  (tv_rd 1100 x5 12).bind fun x6 =>
  (tv_wr 1100 x5 12 (x6 + 1)).bind fun x7 =>
  some x7

def F_X8_grades_L4 (v : Nat → Int32) (l1 : Int32) : Nat → Int32 → Int32 → Option (Int32)
  | 0, _, _ => none
  | n + 1, l2, l3 =>
    if 10 ≤ l3 then (
      some l2)
    else
    (tv_rd 1100 v (F_X8_of l1 7)).bind fun x1 =>
    F_X8_grades_L4 v l1 n (l2 + ((x1 >>> (l3 &&& 31)) &&& 1)) (l3 + 1)

def F_X8_grades (v : Nat → Int32) (a1 : Int32) : Option (Int32) :=
  (F_X8_grades_L4 v a1 tv_fu 0 0).bind fun x2 =>
  some x2

def F_X8_scoreOf_L11 (v : Nat → Int32) (l1 : Int32) (l2 : Int32) : Nat → Int32 → Int32 → Option (Int32)
  | 0, _, _ => none
  | n + 1, l3, l4 =>
    if 10 ≤ l4 then (
      some l3)
    else
    (tv_rd 1100 v (F_X8_of l1 7)).bind fun x2 =>
    if ((x2 >>> (l4 &&& 31)) &&& 1) = 1 then (
      (tv_rd 1100 v (F_X8_of l1 (8 + l4))).bind fun x3 =>
      F_X8_scoreOf_L11 v l1 l2 n (l3 + x3) (l4 + 1))
    else
    F_X8_scoreOf_L11 v l1 l2 n (l3 + 0) (l4 + 1)

def F_X8_scoreOf (v : Nat → Int32) (a1 : Int32) : Option (Int32) :=
  (F_X8_grades v a1).bind fun x1 =>
  (F_X8_scoreOf_L11 v a1 x1 tv_fu 0 0).bind fun x4 =>
  (if x1 = 0 then (
    some 50)
  else (
    if x1 = 0 then none else
    some ((10 * x4) / x1))).bind fun x6 =>
  (tv_rd 1100 v (F_X8_of a1 4)).bind fun x7 =>
  (tv_rd 1100 v (F_X8_of a1 5)).bind fun x8 =>
  if 0 ≤ ((x6 + (5 * x7)) - (25 * x8)) then (
    if ((x6 + (5 * x7)) - (25 * x8)) ≤ 100 then (
      some ((x6 + (5 * x7)) - (25 * x8)))
    else
    some 100)
  else
  some 0

def F_X8_reputation_L13 (v : Nat → Int32) (l1 : Int32) : Nat → Int32 → Int32 → Int32 → Option (Int32 × Int32)
  | 0, _, _, _ => none
  | n + 1, l2, l3, l4 =>
    if l4 < 1 then (
      some (l2, l3))
    else
    (tv_rd 1100 v 5).bind fun x2 =>
    if x2 ≤ l2 then (
      some (l2, l3))
    else
    (tv_rd 1100 v (F_X8_of l4 0)).bind fun x3 =>
    if x3 = l1 then (
      (tv_rd 1100 v (F_X8_of l4 3)).bind fun x4 =>
      if x4 = (-9) then (
        F_X8_reputation_L13 v l1 n l2 l3 (l4 + (-1)))
      else
      (F_X8_scoreOf v l4).bind fun x5 =>
      F_X8_reputation_L13 v l1 n (l2 + 1) (l3 + x5) (l4 + (-1)))
    else
    F_X8_reputation_L13 v l1 n l2 l3 (l4 + (-1))

def F_X8_reputation (v : Nat → Int32) (a1 : Int32) : Option (Int32) :=
  (tv_rd 1100 v 9).bind fun x1 =>
  (F_X8_reputation_L13 v a1 tv_fu 0 0 x1).bind fun x6 =>
  if x6.1 = 0 then (
    some 50)
  else
  if x6.1 = 0 then none else
  some (x6.2 / x6.1)

def F_X8_led_L4 (v : Nat → Int32) (l1 : Int32) : Nat → Int32 → Int32 → Option (Int32)
  | 0, _, _ => none
  | n + 1, l2, l3 =>
    (tv_rd 1100 v 9).bind fun x1 =>
    if x1 < l3 then (
      some l2)
    else
    (tv_rd 1100 v (F_X8_of l3 0)).bind fun x2 =>
    if x2 = l1 then (
      F_X8_led_L4 v l1 n (l2 + 1) (l3 + 1))
    else
    F_X8_led_L4 v l1 n (l2 + 0) (l3 + 1)

def F_X8_led (v : Nat → Int32) (a1 : Int32) : Option (Int32) :=
  (F_X8_led_L4 v a1 tv_fu 0 1).bind fun x3 =>
  some x3

def F_X8_appoints_L5 (v : Nat → Int32) (l1 : Int32) : Nat → Int32 → Int32 → Option (Int32)
  | 0, _, _ => none
  | n + 1, l2, l3 =>
    (tv_rd 1100 v 10).bind fun x1 =>
    if x1 ≤ l3 then (
      some l2)
    else
    (F_X8_isPresent v l3).bind fun x2 =>
    if x2 = 0 then (
      F_X8_appoints_L5 v l1 n l2 (l3 + 1))
    else
    if l3 = l1 then (
      F_X8_appoints_L5 v l1 n l2 (l3 + 1))
    else
    (if 0 ≤ l2 then (
      (F_X8_reputation v l3).bind fun x3 =>
      (F_X8_reputation v l2).bind fun x4 =>
      some (x3 - x4))
    else (
      some 1)).bind fun x5 =>
    (if x5 = 0 then (
      (F_X8_led v l2).bind fun x6 =>
      (F_X8_led v l3).bind fun x7 =>
      some (x6 - x7))
    else (
      some x5)).bind fun x8 =>
    if x8 ≤ 0 then (
      F_X8_appoints_L5 v l1 n l2 (l3 + 1))
    else
    F_X8_appoints_L5 v l1 n l3 (l3 + 1)

def F_X8_appoints (v : Nat → Int32) (a1 : Int32) : Option ((Nat → Int32)) :=
  (F_X8_appoints_L5 v a1 tv_fu (-9) 0).bind fun x9 =>
  (if 0 ≤ x9 then (
    some 1)
  else (
    some 0)).bind fun x10 =>
  (tv_wr 1100 v 7 x10).bind fun x11 =>
  (tv_wr 1100 x11 8 x9).bind fun x12 =>
  (if 0 ≤ x9 then (
    some 5)
  else (
    some 7)).bind fun x13 =>
  (F_X8_tells x12 x13 x9).bind fun x14 =>
  some x14

def F_X8_ends_L59 (l1 : Int32) (l3 : Int32) : Nat → Int32 → (Nat → Int32) → Option ((Nat → Int32))
  | 0, _, _ => none
  | n + 1, l4, v =>
    if 10 ≤ l4 then (
      some v)
    else
    (tv_wr 1100 v (F_X8_at l4 3) 0).bind fun x7 =>
    F_X8_ends_L59 l1 l3 n (l4 + 1) x7

def F_X8_ends (v : Nat → Int32) (a1 : Int32) : Option ((Nat → Int32)) :=
  (tv_rd 1100 v 9).bind fun x1 =>
  (tv_rd 1100 v (F_X8_of x1 0)).bind fun x2 =>
  (tv_rd 1100 v 6).bind fun x3 =>
  (tv_wr 1100 v (F_X8_of x1 3) x3).bind fun x4 =>
  (if a1 = 3 then (
    some 1)
  else (
    some 0)).bind fun x5 =>
  (tv_wr 1100 x4 (F_X8_of x1 5) x5).bind fun x6 =>
  (F_X8_ends_L59 a1 x2 tv_fu 0 x6).bind fun x8 =>
  (F_X8_tells x8 a1 x2).bind fun x9 =>
  (F_X8_appoints x9 x2).bind fun x10 =>
  some x10

def F_X8_looks (v : Nat → Int32) : Option ((Nat → Int32)) :=
  (tv_rd 1100 v 7).bind fun x1 =>
  if x1 = 2 then (
    (F_X8_presentMany v).bind fun x2 =>
    (F_X8_signatures v).bind fun x3 =>
    if x3 ≤ 0 then (
      some v)
    else
    (tv_rd 1100 v 3).bind fun x4 =>
    if (100 * x3) < (x4 * (x2 - 1)) then (
      some v)
    else
    (F_X8_ends v 3).bind fun x5 =>
    some x5)
  else
  some v

def F_X8_set (v : Nat → Int32) (pa : Nat → Int32) (pm : Int32) (a1 : Int32) (a2 : Int32) : Option (Int32 × (Nat → Int32) × (Nat → Int32) × Int32) :=
  (F_X8_isIn a1 a2).bind fun x1 =>
  if x1 = 0 then (
    some ((-1), v, pa, pm))
  else
  (F_X8_act v pa pm).bind fun x2 =>
  (tv_rd 1100 v a1).bind fun x3 =>
  (tv_wr 1100 v a1 a2).bind fun x4 =>
  if a1 = 3 then (
    (F_X8_looks x4).bind fun x5 =>
    some (x3, x5, x2.1, x2.2))
  else
  some (x3, x4, x2.1, x2.2)

def F_X8_join_L42 (l1 : Int32) (l2 : Int32) : Nat → Int32 → (Nat → Int32) → Option ((Nat → Int32))
  | 0, _, _ => none
  | n + 1, l3, v =>
    if 15 ≤ l3 then (
      some v)
    else
    (tv_wr 1100 v (F_X8_at l2 l3) 0).bind fun x4 =>
    F_X8_join_L42 l1 l2 n (l3 + 1) x4

def F_X8_join (v : Nat → Int32) (pa : Nat → Int32) (pm : Int32) (a1 : Int32) : Option (Int32 × (Nat → Int32) × (Nat → Int32) × Int32) :=
  if (F_X8_in a1 0 996) = 0 then (
    some ((-1), v, pa, pm))
  else
  (tv_rd 1100 v 10).bind fun x1 =>
  if x1 = 10 then (
    some ((-3), v, pa, pm))
  else
  (F_X8_act v pa pm).bind fun x2 =>
  (tv_rd 1100 v 10).bind fun x3 =>
  (F_X8_join_L42 a1 x3 tv_fu 0 v).bind fun x5 =>
  (tv_wr 1100 x5 (F_X8_at x3 0) a1).bind fun x6 =>
  (tv_wr 1100 x6 (F_X8_at x3 1) 1).bind fun x7 =>
  (tv_rd 1100 x7 10).bind fun x8 =>
  (tv_wr 1100 x7 10 (x8 + 1)).bind fun x9 =>
  (F_X8_looks x9).bind fun x10 =>
  some (x3, x10, x2.1, x2.2)

def F_X8_isMember (v : Nat → Int32) (a1 : Int32) : Option (Int32) :=
  (tv_rd 1100 v 10).bind fun x1 =>
  if ¬ ((F_X8_in a1 0 (x1 - 1)) = 0 ∨ (F_X8_in a1 0 (x1 - 1)) = 1) then none else
  some (F_X8_in a1 0 (x1 - 1))

def F_X8_strikes_L5 (l1 : Int32) (l2 : Int32) : Nat → Int32 → Int32 → (Nat → Int32) → Option (Int32 × (Nat → Int32))
  | 0, _, _, _ => none
  | n + 1, l3, l4, v =>
    (tv_rd 1100 v (F_X8_at l1 4)).bind fun x1 =>
    if x1 ≤ l4 then (
      some (l3, v))
    else
    (tv_rd 1100 v (F_X8_at l1 (5 + l4))).bind fun x2 =>
    (tv_wr 1100 v (F_X8_at l1 (5 + l3)) x2).bind fun x3 =>
    if x2 = l2 then (
      F_X8_strikes_L5 l1 l2 n (l3 + 0) (l4 + 1) x3)
    else
    F_X8_strikes_L5 l1 l2 n (l3 + 1) (l4 + 1) x3

def F_X8_strikes (v : Nat → Int32) (a1 : Int32) (a2 : Int32) : Option ((Nat → Int32)) :=
  (F_X8_strikes_L5 a1 a2 tv_fu 0 0 v).bind fun x4 =>
  (tv_wr 1100 x4.2 (F_X8_at a1 4) x4.1).bind fun x5 =>
  some x5

def F_X8_leaves_L35 (l1 : Int32) : Nat → Int32 → (Nat → Int32) → Option ((Nat → Int32))
  | 0, _, _ => none
  | n + 1, l2, v =>
    (tv_rd 1100 v 10).bind fun x4 =>
    if x4 ≤ l2 then (
      some v)
    else
    (F_X8_strikes v l2 l1).bind fun x5 =>
    F_X8_leaves_L35 l1 n (l2 + 1) x5

def F_X8_leaves (v : Nat → Int32) (a1 : Int32) : Option ((Nat → Int32)) :=
  (tv_wr 1100 v (F_X8_at a1 1) 0).bind fun x1 =>
  (tv_wr 1100 x1 (F_X8_at a1 2) 0).bind fun x2 =>
  (tv_wr 1100 x2 (F_X8_at a1 4) 0).bind fun x3 =>
  (F_X8_leaves_L35 a1 tv_fu 0 x3).bind fun x6 =>
  (tv_rd 1100 x6 8).bind fun x7 =>
  if x7 = a1 then (
    (tv_rd 1100 x6 7).bind fun x11 =>
    if x11 = 2 then (
      (F_X8_ends x6 4).bind fun x15 =>
      some x15)
    else
    (tv_rd 1100 x6 8).bind fun x12 =>
    if x12 = a1 then (
      (tv_rd 1100 x6 7).bind fun x13 =>
      if x13 = 1 then (
        (F_X8_appoints x6 (-9)).bind fun x14 =>
        some x14)
      else
      some x6)
    else
    some x6)
  else
  (tv_rd 1100 x6 8).bind fun x8 =>
  if x8 = a1 then (
    (tv_rd 1100 x6 7).bind fun x9 =>
    if x9 = 1 then (
      (F_X8_appoints x6 (-9)).bind fun x10 =>
      some x10)
    else
    some x6)
  else
  some x6

def F_X8_setPresent (v : Nat → Int32) (pa : Nat → Int32) (pm : Int32) (a1 : Int32) (a2 : Int32) : Option (Int32 × (Nat → Int32) × (Nat → Int32) × Int32) :=
  (F_X8_isMember v a1).bind fun x1 =>
  if x1 = 0 then (
    some ((-1), v, pa, pm))
  else
  (F_X8_act v pa pm).bind fun x2 =>
  (tv_rd 1100 v (F_X8_at a1 1)).bind fun x3 =>
  if a2 = 0 then (
    if a2 = 0 then (
      if x3 = 1 then (
        (F_X8_leaves v a1).bind fun x4 =>
        (F_X8_looks x4).bind fun x5 =>
        some (x3, x5, x2.1, x2.2))
      else
      some (x3, v, x2.1, x2.2))
    else
    some (x3, v, x2.1, x2.2))
  else
  if x3 = 0 then (
    (tv_wr 1100 v (F_X8_at a1 1) 1).bind fun x8 =>
    (F_X8_looks x8).bind fun x9 =>
    some (x3, x9, x2.1, x2.2))
  else
  if a2 = 0 then (
    if x3 = 1 then (
      (F_X8_leaves v a1).bind fun x6 =>
      (F_X8_looks x6).bind fun x7 =>
      some (x3, x7, x2.1, x2.2))
    else
    some (x3, v, x2.1, x2.2))
  else
  some (x3, v, x2.1, x2.2)

def F_X8_pass (v : Nat → Int32) (pa : Nat → Int32) (pm : Int32) (a1 : Int32) : Option (Int32 × (Nat → Int32) × (Nat → Int32) × Int32) :=
  if (F_X8_in a1 1 1000) = 0 then (
    some ((-1), v, pa, pm))
  else
  (tv_rd 1100 v 6).bind fun x1 =>
  if (x1 + a1) ≤ 1000000 then (
    (F_X8_act v pa pm).bind fun x2 =>
    (tv_rd 1100 v 6).bind fun x3 =>
    (tv_rd 1100 v 7).bind fun x4 =>
    (if x4 = 2 then (
      (tv_rd 1100 v 9).bind fun x5 =>
      (tv_rd 1100 v (F_X8_of x5 2)).bind fun x6 =>
      if (x3 + a1) < x6 then (
        some v)
      else
      (tv_rd 1100 v 9).bind fun x7 =>
      (tv_rd 1100 v (F_X8_of x7 2)).bind fun x8 =>
      (tv_wr 1100 v 6 x8).bind fun x9 =>
      (F_X8_ends x9 2).bind fun x10 =>
      some x10)
    else (
      some v)).bind fun x11 =>
    (tv_wr 1100 x11 6 (x3 + a1)).bind fun x12 =>
    some ((x3 + a1), x12, x2.1, x2.2))
  else
  some ((-2), v, pa, pm)

def F_X8_open (v : Nat → Int32) (pa : Nat → Int32) (pm : Int32) : Option (Int32 × (Nat → Int32) × (Nat → Int32) × Int32) :=
  (tv_rd 1100 v 11).bind fun x1 =>
  if x1 = 1 then (
    some ((-2), v, pa, pm))
  else
  (tv_rd 1100 v 7).bind fun x2 =>
  if x2 = 2 then (
    some ((-2), v, pa, pm))
  else
  (tv_rd 1100 v 9).bind fun x3 =>
  if x3 = 40 then (
    some ((-3), v, pa, pm))
  else
  (F_X8_act v pa pm).bind fun x4 =>
  (tv_wr 1100 v 11 1).bind fun x5 =>
  (tv_rd 1100 x5 9).bind fun x6 =>
  some ((x6 + 1), x5, x4.1, x4.2)

def F_X8_canLead_L10 (v : Nat → Int32) (l1 : Int32) : Nat → Int32 → Int32 → Option (Int32)
  | 0, _, _ => none
  | n + 1, l2, l3 =>
    if l3 < 1 then (
      some l2)
    else
    (tv_rd 1100 v (F_X8_of l3 0)).bind fun x2 =>
    if x2 = l1 then (
      F_X8_canLead_L10 v l1 n (l2 + 1) (l3 + (-1)))
    else
    some l2

def F_X8_canLead (v : Nat → Int32) (a1 : Int32) : Option (Int32) :=
  (tv_rd 1100 v 9).bind fun x1 =>
  (F_X8_canLead_L10 v a1 tv_fu 0 x1).bind fun x3 =>
  (F_X8_isPresent v a1).bind fun x4 =>
  if x4 = 0 then (
    some 0)
  else
  (F_X8_led v a1).bind fun x5 =>
  (tv_rd 1100 v 1).bind fun x6 =>
  if x6 ≤ x5 then (
    some 0)
  else
  (tv_rd 1100 v 2).bind fun x7 =>
  if x7 ≤ x3 then (
    some 0)
  else
  some 1

def F_X8_candidates_L4 (v : Nat → Int32) : Nat → Int32 → Int32 → Option (Int32)
  | 0, _, _ => none
  | n + 1, l1, l2 =>
    (tv_rd 1100 v 10).bind fun x1 =>
    if x1 ≤ l2 then (
      some l1)
    else
    (tv_rd 1100 v (F_X8_at l2 2)).bind fun x2 =>
    F_X8_candidates_L4 v n (l1 + x2) (l2 + 1)

def F_X8_candidates (v : Nat → Int32) : Option (Int32) :=
  (F_X8_candidates_L4 v tv_fu 0 0).bind fun x3 =>
  some x3

def F_X8_nominate (v : Nat → Int32) (pa : Nat → Int32) (pm : Int32) (a1 : Int32) : Option (Int32 × (Nat → Int32) × (Nat → Int32) × Int32) :=
  (F_X8_isMember v a1).bind fun x1 =>
  if x1 = 0 then (
    some ((-1), v, pa, pm))
  else
  (tv_rd 1100 v 11).bind fun x2 =>
  if x2 = 0 then (
    some ((-2), v, pa, pm))
  else
  (tv_rd 1100 v (F_X8_at a1 2)).bind fun x3 =>
  if x3 = 1 then (
    some ((-2), v, pa, pm))
  else
  (F_X8_canLead v a1).bind fun x4 =>
  if x4 = 0 then (
    some ((-4), v, pa, pm))
  else
  (F_X8_act v pa pm).bind fun x5 =>
  (tv_wr 1100 v (F_X8_at a1 2) 1).bind fun x6 =>
  (F_X8_candidates x6).bind fun x7 =>
  some (x7, x6, x5.1, x5.2)

def F_X8_wrongAt_L4 (v : Nat → Int32) (mt : Nat → Int32) (ty : Int32) : Nat → Int32 → Int32 → Option (Int32)
  | 0, _, _ => none
  | n + 1, l1, l2 =>
    if ty ≤ l2 then (
      if (ty - ty / 2 * 2) = 1 then (
        some (-1))
      else
      some ty)
    else
    (tv_rd 40 mt l2).bind fun x1 =>
    if (l2 - l2 / 2 * 2) = 1 then (
      (tv_rd 40 mt l2).bind fun x4 =>
      if x4 = 62 then (
        if (l2 - l2 / 2 * 2) = 0 then (
          (F_X8_isMember v (x1 - 48)).bind fun x5 =>
          if x5 = 0 then (
            some l2)
          else
          (tv_rd 1100 v (F_X8_at (x1 - 48) 2)).bind fun x6 =>
          if x6 = 0 then (
            some l2)
          else
          if ((l1 >>> ((x1 - 48) &&& 31)) &&& 1) = 1 then (
            some l2)
          else
          F_X8_wrongAt_L4 v mt ty n (l1 ||| (1 <<< ((x1 - 48) &&& 31))) (l2 + 1))
        else
        F_X8_wrongAt_L4 v mt ty n l1 (l2 + 1))
      else
      some l2)
    else
    if (l2 - l2 / 2 * 2) = 0 then (
      (F_X8_isMember v (x1 - 48)).bind fun x2 =>
      if x2 = 0 then (
        some l2)
      else
      (tv_rd 1100 v (F_X8_at (x1 - 48) 2)).bind fun x3 =>
      if x3 = 0 then (
        some l2)
      else
      if ((l1 >>> ((x1 - 48) &&& 31)) &&& 1) = 1 then (
        some l2)
      else
      F_X8_wrongAt_L4 v mt ty n (l1 ||| (1 <<< ((x1 - 48) &&& 31))) (l2 + 1))
    else
    F_X8_wrongAt_L4 v mt ty n l1 (l2 + 1)

def F_X8_wrongAt (v : Nat → Int32) (mt : Nat → Int32) (ty : Int32) : Option (Int32) :=
  F_X8_wrongAt_L4 v mt ty tv_fu 0 0

def F_X8_ballots_L4 (v : Nat → Int32) : Nat → Int32 → Int32 → Option (Int32)
  | 0, _, _ => none
  | n + 1, l1, l2 =>
    (tv_rd 1100 v 10).bind fun x1 =>
    if x1 ≤ l2 then (
      some l1)
    else
    (tv_rd 1100 v (F_X8_at l2 4)).bind fun x2 =>
    if x2 ≤ 0 then (
      F_X8_ballots_L4 v n (l1 + 0) (l2 + 1))
    else
    F_X8_ballots_L4 v n (l1 + 1) (l2 + 1)

def F_X8_ballots (v : Nat → Int32) : Option (Int32) :=
  (F_X8_ballots_L4 v tv_fu 0 0).bind fun x3 =>
  some x3

def F_X8_cast_L69 (mt : Nat → Int32) (l1 : Int32) : Nat → Int32 → (Nat → Int32) → Option ((Nat → Int32))
  | 0, _, _ => none
  | n + 1, l3, v =>
    (tv_rd 1100 v (F_X8_at l1 4)).bind fun x7 =>
    if x7 ≤ l3 then (
      some v)
    else
    (tv_rd 40 mt (2 * l3)).bind fun x8 =>
    (tv_wr 1100 v (F_X8_at l1 (5 + l3)) (x8 - 48)).bind fun x9 =>
    F_X8_cast_L69 mt l1 n (l3 + 1) x9

def F_X8_cast (v : Nat → Int32) (pa : Nat → Int32) (mt : Nat → Int32) (pm : Int32) (ty : Int32) (a1 : Int32) : Option (Int32 × (Nat → Int32) × (Nat → Int32) × Int32 × Int32) :=
  (F_X8_isMember v a1).bind fun x1 =>
  if x1 = 0 then (
    some ((-1), v, pa, pm, ty))
  else
  (tv_rd 1100 v 11).bind fun x2 =>
  if x2 = 0 then (
    some ((-2), v, pa, pm, ty))
  else
  (F_X8_isPresent v a1).bind fun x3 =>
  if x3 = 0 then (
    some ((-2), v, pa, pm, ty))
  else
  (F_X8_wrongAt v mt ty).bind fun x4 =>
  if x4 < 0 then (
    (F_X8_act v pa pm).bind fun x5 =>
    (tv_wr 1100 v (F_X8_at a1 4) ((ty + 1) / 2)).bind fun x6 =>
    (F_X8_cast_L69 mt a1 tv_fu 0 x6).bind fun x10 =>
    (F_X8_ballots x10).bind fun x11 =>
    some (x11, x10, x5.1, x5.2, 0))
  else
  some (((-100) - x4), v, pa, pm, ty)

def F_X8_tallyAt (a1 : Int32) (a2 : Int32) : Int32 :=
  ((980 + (10 * a1)) + a2)

def F_X8_firstOf_L2 (v : Nat → Int32) (ra : Int32) (l1 : Int32) : Nat → Int32 → Option (Int32)
  | 0, _ => none
  | n + 1, l2 =>
    (tv_rd 1100 v (F_X8_at l1 4)).bind fun x1 =>
    if x1 ≤ l2 then (
      some (-9))
    else
    (tv_rd 1100 v (F_X8_at l1 (5 + l2))).bind fun x2 =>
    if ((ra >>> (x2 &&& 31)) &&& 1) = 1 then (
      some x2)
    else
    F_X8_firstOf_L2 v ra l1 n (l2 + 1)

def F_X8_firstOf (v : Nat → Int32) (ra : Int32) (a1 : Int32) : Option (Int32) :=
  F_X8_firstOf_L2 v ra a1 tv_fu 0

def F_X8_raceMany_L4 (ra : Int32) : Nat → Int32 → Int32 → Option (Int32)
  | 0, _, _ => none
  | n + 1, l1, l2 =>
    if 10 ≤ l2 then (
      some l1)
    else
    F_X8_raceMany_L4 ra n (l1 + ((ra >>> (l2 &&& 31)) &&& 1)) (l2 + 1)

def F_X8_raceMany (ra : Int32) : Option (Int32) :=
  (F_X8_raceMany_L4 ra tv_fu 0 0).bind fun x1 =>
  some x1

def F_X8_isWeaker (v : Nat → Int32) (a1 : Int32) (a2 : Int32) (a3 : Int32) : Option (Int32) :=
  (tv_rd 1100 v (F_X8_tallyAt a1 a3)).bind fun x1 =>
  (tv_rd 1100 v (F_X8_tallyAt a1 a2)).bind fun x2 =>
  (if (x1 - x2) = 0 then (
    (F_X8_reputation v a3).bind fun x3 =>
    (F_X8_reputation v a2).bind fun x4 =>
    some (x3 - x4))
  else (
    some (x1 - x2))).bind fun x5 =>
  (if x5 = 0 then (
    (F_X8_led v a2).bind fun x6 =>
    (F_X8_led v a3).bind fun x7 =>
    some (x6 - x7))
  else (
    some x5)).bind fun x8 =>
  if x8 = 0 then (
    if a2 ≤ a3 then (
      some 0)
    else
    some 1)
  else
  if x8 ≤ 0 then (
    some 0)
  else
  some 1

def F_X8_holdsRound_L4 (ra : Int32) (l1 : Int32) (l2 : Int32) : Nat → Int32 → (Nat → Int32) → Option ((Nat → Int32))
  | 0, _, _ => none
  | n + 1, l3, v =>
    if 10 ≤ l3 then (
      some v)
    else
    (if ((ra >>> (l3 &&& 31)) &&& 1) = 1 then (
      some 0)
    else (
      some (-9))).bind fun x1 =>
    (tv_wr 1100 v (F_X8_tallyAt l1 l3) x1).bind fun x2 =>
    F_X8_holdsRound_L4 ra l1 l2 n (l3 + 1) x2

def F_X8_holdsRound_L47 (ra : Int32) (l1 : Int32) : Nat → Int32 → Int32 → (Nat → Int32) → Option (Int32 × (Nat → Int32))
  | 0, _, _, _ => none
  | n + 1, l2, l3, v =>
    (tv_rd 1100 v 10).bind fun x4 =>
    if x4 ≤ l3 then (
      some (l2, v))
    else
    (F_X8_firstOf v ra l3).bind fun x5 =>
    if x5 < 0 then (
      F_X8_holdsRound_L47 ra l1 n l2 (l3 + 1) v)
    else
    (tv_rd 1100 v (F_X8_tallyAt l1 x5)).bind fun x6 =>
    (tv_wr 1100 v (F_X8_tallyAt l1 x5) (x6 + 1)).bind fun x7 =>
    F_X8_holdsRound_L47 ra l1 n (l2 + 1) (l3 + 1) x7

def F_X8_holdsRound_L101 (l1 : Int32) (l2 : Int32) : Nat → Int32 → Int32 → (Nat → Int32) → (Int32) → Option (Int32 × (Nat → Int32) × Int32)
  | 0, _, _, _, _ => none
  | n + 1, l3, l4, v, ra =>
    if 10 ≤ l4 then (
      some ((-9), v, (ra &&& ((1 <<< (l3 &&& 31)) ^^^ (-1)))))
    else
    if ((ra >>> (l4 &&& 31)) &&& 1) = 1 then (
      (tv_rd 1100 v (F_X8_tallyAt l1 l4)).bind fun x9 =>
      if l2 < (2 * x9) then (
        some (l4, v, ra))
      else
      (F_X8_raceMany ra).bind fun x10 =>
      if x10 = 1 then (
        some (l4, v, ra))
      else
      if l3 < 0 then (
        F_X8_holdsRound_L101 l1 l2 n l4 (l4 + 1) v ra)
      else
      (F_X8_isWeaker v l1 l4 l3).bind fun x11 =>
      if x11 = 0 then (
        F_X8_holdsRound_L101 l1 l2 n l3 (l4 + 1) v ra)
      else
      F_X8_holdsRound_L101 l1 l2 n l4 (l4 + 1) v ra)
    else
    F_X8_holdsRound_L101 l1 l2 n l3 (l4 + 1) v ra

def F_X8_holdsRound (v : Nat → Int32) (ra : Int32) (a1 : Int32) : Option (Int32 × (Nat → Int32) × Int32) :=
  (F_X8_holdsRound_L4 ra a1 0 tv_fu 0 v).bind fun x3 =>
  (F_X8_holdsRound_L47 ra a1 tv_fu 0 0 x3).bind fun x8 =>
  F_X8_holdsRound_L101 a1 x8.1 tv_fu (-9) 0 x8.2 ra

def F_X8_begins_L21 (l1 : Int32) (l2 : Int32) : Nat → Int32 → (Nat → Int32) → Option ((Nat → Int32))
  | 0, _, _ => none
  | n + 1, l3, v =>
    if 18 ≤ l3 then (
      some v)
    else
    (tv_wr 1100 v (F_X8_of l2 l3) 0).bind fun x4 =>
    F_X8_begins_L21 l1 l2 n (l3 + 1) x4

def F_X8_begins_L110 (l1 : Int32) (l2 : Int32) : Nat → Int32 → (Nat → Int32) → Option ((Nat → Int32))
  | 0, _, _ => none
  | n + 1, l3, v =>
    (tv_rd 1100 v 10).bind fun x13 =>
    if x13 ≤ l3 then (
      some v)
    else
    (tv_rd 1100 v (F_X8_of l2 6)).bind fun x14 =>
    (tv_rd 1100 v (F_X8_at l3 1)).bind fun x15 =>
    (tv_wr 1100 v (F_X8_of l2 6) (x14 ||| (x15 <<< (l3 &&& 31)))).bind fun x16 =>
    F_X8_begins_L110 l1 l2 n (l3 + 1) x16

def F_X8_begins (v : Nat → Int32) (a1 : Int32) : Option ((Nat → Int32)) :=
  (tv_rd 1100 v 9).bind fun x1 =>
  (tv_wr 1100 v 9 (x1 + 1)).bind fun x2 =>
  (tv_rd 1100 x2 9).bind fun x3 =>
  (F_X8_begins_L21 a1 x3 tv_fu 0 x2).bind fun x5 =>
  (tv_wr 1100 x5 (F_X8_of x3 0) a1).bind fun x6 =>
  (tv_rd 1100 x6 6).bind fun x7 =>
  (tv_wr 1100 x6 (F_X8_of x3 1) x7).bind fun x8 =>
  (tv_rd 1100 x8 6).bind fun x9 =>
  (tv_rd 1100 x8 0).bind fun x10 =>
  (tv_wr 1100 x8 (F_X8_of x3 2) (x9 + x10)).bind fun x11 =>
  (tv_wr 1100 x11 (F_X8_of x3 3) (-9)).bind fun x12 =>
  (F_X8_begins_L110 a1 x3 tv_fu 0 x12).bind fun x17 =>
  (tv_wr 1100 x17 7 2).bind fun x18 =>
  (tv_wr 1100 x18 8 a1).bind fun x19 =>
  (F_X8_tells x19 1 a1).bind fun x20 =>
  some x20

def F_X8_close_L42 (v : Nat → Int32) (l1 : Int32) : Nat → Int32 → (Int32) → Option (Int32)
  | 0, _, _ => none
  | n + 1, l2, ra =>
    (tv_rd 1100 v 10).bind fun x5 =>
    if x5 ≤ l2 then (
      some ra)
    else
    (tv_rd 1100 v (F_X8_at l2 2)).bind fun x6 =>
    F_X8_close_L42 v l1 n (l2 + 1) (ra ||| (x6 <<< (l2 &&& 31)))

def F_X8_close_L107 (l2 : Int32) : Nat → Int32 → (Nat → Int32) → (Int32) → Option (Int32 × (Nat → Int32) × Int32)
  | 0, _, _, _ => none
  | n + 1, l1, v, ra =>
    if l2 = 0 then (
      some (l1, v, ra))
    else
    if 0 ≤ l1 then (
      some (l1, v, ra))
    else
    (tv_rd 1100 v 13).bind fun x12 =>
    (F_X8_holdsRound v ra x12).bind fun x13 =>
    (tv_rd 1100 x13.2.1 13).bind fun x14 =>
    (tv_wr 1100 x13.2.1 13 (x14 + 1)).bind fun x15 =>
    F_X8_close_L107 l2 n x13.1 x15 x13.2.2

def F_X8_close_L151 (l1 : Int32) : Nat → Int32 → (Nat → Int32) → Option ((Nat → Int32))
  | 0, _, _ => none
  | n + 1, l3, v =>
    if 10 ≤ l3 then (
      some v)
    else
    (tv_wr 1100 v (F_X8_at l3 2) 0).bind fun x18 =>
    (tv_wr 1100 x18 (F_X8_at l3 4) 0).bind fun x19 =>
    F_X8_close_L151 l1 n (l3 + 1) x19

def F_X8_close (v : Nat → Int32) (pa : Nat → Int32) (pm : Int32) (ra : Int32) : Option (Int32 × (Nat → Int32) × (Nat → Int32) × Int32 × Int32) :=
  (tv_rd 1100 v 11).bind fun x1 =>
  if x1 = 0 then (
    some ((-2), v, pa, pm, ra))
  else
  (F_X8_candidates v).bind fun x2 =>
  if x2 = 0 then (
    some ((-2), v, pa, pm, ra))
  else
  (F_X8_act v pa pm).bind fun x3 =>
  (tv_wr 1100 v 13 0).bind fun x4 =>
  (F_X8_close_L42 x4 (-9) tv_fu 0 0).bind fun x7 =>
  (F_X8_ballots x4).bind fun x8 =>
  (tv_rd 1100 x4 4).bind fun x9 =>
  (F_X8_presentMany x4).bind fun x10 =>
  (if (100 * x8) < (x9 * x10) then (
    some 0)
  else (
    some 1)).bind fun x11 =>
  (F_X8_close_L107 x11 tv_fu (-9) x4 x7).bind fun x16 =>
  (tv_wr 1100 x16.2.1 11 0).bind fun x17 =>
  (F_X8_close_L151 x16.1 tv_fu 0 x17).bind fun x20 =>
  if 0 ≤ x16.1 then (
    (F_X8_begins x20 x16.1).bind fun x21 =>
    some (x16.1, x21, x3.1, x3.2, x16.2.2))
  else
  (F_X8_tells x20 6 (-9)).bind fun x22 =>
  some (x16.1, x22, x3.1, x3.2, x16.2.2)

def F_X8_rounds (v : Nat → Int32) : Option (Int32) :=
  (tv_rd 1100 v 13).bind fun x1 =>
  some x1

def F_X8_tally (v : Nat → Int32) (a1 : Int32) (a2 : Int32) : Option (Int32) :=
  (tv_rd 1100 v 13).bind fun x1 =>
  if (F_X8_in a1 0 (x1 - 1)) = 0 then (
    some (-1))
  else
  (F_X8_isMember v a2).bind fun x2 =>
  if x2 = 0 then (
    some (-1))
  else
  (tv_rd 1100 v (F_X8_tallyAt a1 a2)).bind fun x3 =>
  some x3

def F_X8_ballot (v : Nat → Int32) (a1 : Int32) (a2 : Int32) : Option (Int32) :=
  (F_X8_isMember v a1).bind fun x1 =>
  if x1 = 0 then (
    some (-1))
  else
  if 0 ≤ a2 then (
    (tv_rd 1100 v 11).bind fun x2 =>
    if x2 = 0 then (
      some (-2))
    else
    (tv_rd 1100 v (F_X8_at a1 4)).bind fun x3 =>
    if x3 ≤ a2 then (
      some (-9))
    else
    (tv_rd 1100 v (F_X8_at a1 (5 + a2))).bind fun x4 =>
    some x4)
  else
  some (-1)

def F_X8_office (v : Nat → Int32) : Option (Int32) :=
  (tv_rd 1100 v 7).bind fun x1 =>
  some x1

def F_X8_holder (v : Nat → Int32) : Option (Int32) :=
  (tv_rd 1100 v 8).bind fun x1 =>
  some x1

def F_X8_deed (v : Nat → Int32) (pa : Nat → Int32) (pm : Int32) (a1 : Int32) : Option (Int32 × (Nat → Int32) × (Nat → Int32) × Int32) :=
  (tv_rd 1100 v 7).bind fun x1 =>
  (if x1 = 2 then (
    (tv_rd 1100 v 9).bind fun x2 =>
    (tv_rd 1100 v (F_X8_of x2 4)).bind fun x3 =>
    if a1 = 0 then (
      some (x3 + (-1)))
    else
    some (x3 + 1))
  else (
    some 99)).bind fun x4 =>
  if (F_X8_in x4 (-20) 20) = 0 then (
    some ((-2), v, pa, pm))
  else
  (F_X8_act v pa pm).bind fun x5 =>
  (tv_rd 1100 v 9).bind fun x6 =>
  (tv_wr 1100 v (F_X8_of x6 4) x4).bind fun x7 =>
  some (x4, x7, x5.1, x5.2)

def F_X8_sign (v : Nat → Int32) (pa : Nat → Int32) (pm : Int32) (a1 : Int32) (a2 : Int32) : Option (Int32 × (Nat → Int32) × (Nat → Int32) × Int32) :=
  (F_X8_isMember v a1).bind fun x1 =>
  if x1 = 0 then (
    some ((-1), v, pa, pm))
  else
  (tv_rd 1100 v 7).bind fun x2 =>
  if x2 = 2 then (
    (F_X8_isPresent v a1).bind fun x3 =>
    if x3 = 0 then (
      some ((-2), v, pa, pm))
    else
    (tv_rd 1100 v 8).bind fun x4 =>
    if a1 = x4 then (
      some ((-2), v, pa, pm))
    else
    (tv_rd 1100 v (F_X8_at a1 3)).bind fun x5 =>
    (if a2 = 0 then (
      some 0)
    else (
      some 1)).bind fun x6 =>
    if x5 = x6 then (
      some ((-2), v, pa, pm))
    else
    (F_X8_act v pa pm).bind fun x7 =>
    (if a2 = 0 then (
      some 0)
    else (
      some 1)).bind fun x8 =>
    (tv_wr 1100 v (F_X8_at a1 3) x8).bind fun x9 =>
    (if a2 = 0 then (
      some x9)
    else (
      (F_X8_looks x9).bind fun x10 =>
      some x10)).bind fun x11 =>
    (tv_rd 1100 x11 7).bind fun x12 =>
    if x12 = 2 then (
      (F_X8_signatures x11).bind fun x13 =>
      some (x13, x11, x7.1, x7.2))
    else
    some (0, x11, x7.1, x7.2))
  else
  some ((-2), v, pa, pm)

def F_X8_isTerm (v : Nat → Int32) (a1 : Int32) : Option (Int32) :=
  (tv_rd 1100 v 9).bind fun x1 =>
  if ¬ ((F_X8_in a1 1 x1) = 0 ∨ (F_X8_in a1 1 x1) = 1) then none else
  some (F_X8_in a1 1 x1)

def F_X8_grade (v : Nat → Int32) (pa : Nat → Int32) (pm : Int32) (a1 : Int32) (a2 : Int32) (a3 : Int32) (a4 : Int32) : Option (Int32 × (Nat → Int32) × (Nat → Int32) × Int32) :=
  (F_X8_isMember v a1).bind fun x1 =>
  if x1 = 0 then (
    some ((-1), v, pa, pm))
  else
  (F_X8_isTerm v a2).bind fun x2 =>
  if x2 = 0 then (
    some ((-1), v, pa, pm))
  else
  if (F_X8_in a3 0 10) = 0 then (
    some ((-1), v, pa, pm))
  else
  (tv_rd 1100 v (F_X8_of a2 3)).bind fun x3 =>
  (if x3 = (-9) then (
    some 0)
  else (
    (tv_rd 1100 v 6).bind fun x4 =>
    (tv_rd 1100 v (F_X8_of a2 3)).bind fun x5 =>
    if 50 < (x4 - x5) then (
      some 0)
    else
    some 1)).bind fun x6 =>
  if x6 = 0 then (
    some ((-2), v, pa, pm))
  else
  (tv_rd 1100 v (F_X8_of a2 0)).bind fun x7 =>
  if a1 = x7 then (
    some ((-2), v, pa, pm))
  else
  (tv_rd 1100 v (F_X8_of a2 6)).bind fun x8 =>
  if ((x8 >>> (a1 &&& 31)) &&& 1) = 0 then (
    some ((-2), v, pa, pm))
  else
  (tv_rd 1100 v (F_X8_at a1 0)).bind fun x9 =>
  if a4 = (((((31 * a2) + (17 * a1)) + (7 * a3)) + x9) - ((((31 * a2) + (17 * a1)) + (7 * a3)) + x9) / 997 * 997) then (
    (F_X8_act v pa pm).bind fun x10 =>
    (tv_rd 1100 v (F_X8_of a2 7)).bind fun x11 =>
    (tv_wr 1100 v (F_X8_of a2 7) (x11 ||| (1 <<< (a1 &&& 31)))).bind fun x12 =>
    (tv_wr 1100 x12 (F_X8_of a2 (8 + a1)) a3).bind fun x13 =>
    (F_X8_grades x13 a2).bind fun x14 =>
    some (x14, x13, x10.1, x10.2))
  else
  some ((-5), v, pa, pm)

def F_X8_toldOf (v : Nat → Int32) (a1 : Int32) (a2 : Int32) : Option (Int32) :=
  if 6 ≤ a2 then (
    if a2 = 6 then (
      (F_X8_grades v a1).bind fun x3 =>
      some x3)
    else
    (tv_rd 1100 v (F_X8_of a1 3)).bind fun x1 =>
    if x1 = (-9) then (
      some (-9))
    else
    (F_X8_scoreOf v a1).bind fun x2 =>
    some x2)
  else
  (tv_rd 1100 v (F_X8_of a1 a2)).bind fun x4 =>
  some x4

def F_X8_term (v : Nat → Int32) (a1 : Int32) (a2 : Int32) : Option (Int32) :=
  (F_X8_isTerm v a1).bind fun x1 =>
  if x1 = 0 then (
    some (-1))
  else
  if (F_X8_in a2 0 7) = 0 then (
    some (-1))
  else
  (F_X8_toldOf v a1 a2).bind fun x2 =>
  some x2

def F_X8_points (v : Nat → Int32) (a1 : Int32) (a2 : Int32) : Option (Int32) :=
  (F_X8_isMember v a1).bind fun x1 =>
  if x1 = 0 then (
    some (-1))
  else
  (F_X8_isTerm v a2).bind fun x2 =>
  if x2 = 0 then (
    some (-1))
  else
  (tv_rd 1100 v (F_X8_of a2 7)).bind fun x3 =>
  if ((x3 >>> (a1 &&& 31)) &&& 1) = 1 then (
    (tv_rd 1100 v (F_X8_of a2 (8 + a1))).bind fun x4 =>
    some x4)
  else
  some (-9)

def F_X8_terms (v : Nat → Int32) : Option (Int32) :=
  (tv_rd 1100 v 9).bind fun x1 =>
  some x1

def F_X8_told (v : Nat → Int32) (a1 : Int32) (a2 : Int32) : Option (Int32) :=
  if a2 = 0 then (
    (F_X8_reputation v a1).bind fun x1 =>
    some x1)
  else
  if a2 = 1 then (
    (F_X8_led v a1).bind fun x2 =>
    some x2)
  else
  if a2 = 2 then (
    (tv_rd 1100 v (F_X8_at a1 1)).bind fun x3 =>
    some x3)
  else
  if a2 = 3 then (
    (F_X8_canLead v a1).bind fun x4 =>
    if x4 = 0 then (
      some 0)
    else
    some 1)
  else
  if a2 = 4 then (
    (tv_rd 1100 v (F_X8_at a1 2)).bind fun x5 =>
    some x5)
  else
  (tv_rd 1100 v (F_X8_at a1 3)).bind fun x6 =>
  some x6

def F_X8_member (v : Nat → Int32) (a1 : Int32) (a2 : Int32) : Option (Int32) :=
  (F_X8_isMember v a1).bind fun x1 =>
  if x1 = 0 then (
    some (-1))
  else
  if (F_X8_in a2 0 5) = 0 then (
    some (-1))
  else
  (F_X8_told v a1 a2).bind fun x2 =>
  some x2

def F_X8_time (v : Nat → Int32) : Option (Int32) :=
  (tv_rd 1100 v 6).bind fun x1 =>
  some x1

def F_X8_events (v : Nat → Int32) : Option (Int32) :=
  (tv_rd 1100 v 12).bind fun x1 =>
  some x1

def F_X8_event (v : Nat → Int32) (a1 : Int32) (a2 : Int32) : Option (Int32) :=
  if a1 < 0 then (
    some (-1))
  else
  if (F_X8_in a2 0 2) = 0 then (
    some (-1))
  else
  if 20 ≤ a1 then (
    some (-9))
  else
  (tv_rd 1100 v 12).bind fun x1 =>
  if x1 ≤ a1 then (
    some (-9))
  else
  (tv_rd 1100 v 12).bind fun x2 =>
  (tv_rd 1100 v ((910 + (3 * (((x2 - 1) - a1) - ((x2 - 1) - a1) / 20 * 20))) + a2)).bind fun x3 =>
  some x3

def F_X8_type (mt : Nat → Int32) (ty : Int32) (a1 : Int32) : Option (Int32 × (Nat → Int32) × Int32) :=
  if (F_X8_in a1 32 126) = 0 then (
    some ((-1), mt, ty))
  else
  if ty = 40 then (
    some ((-3), mt, ty))
  else
  (tv_wr 40 mt ty a1).bind fun x1 =>
  some ((ty + 1), x1, (ty + 1))

def F_X8_clear (ty : Int32) : Option (Int32 × Int32) :=
  some (ty, 0)

def F_X8_undo_L22 (pa : Nat → Int32) (pm : Int32) : Nat → Int32 → (Nat → Int32) → Option ((Nat → Int32))
  | 0, _, _ => none
  | n + 1, l1, v =>
    if 1100 ≤ l1 then (
      some v)
    else
    (tv_rd 5500 pa ((1100 * pm) + l1)).bind fun x1 =>
    (tv_wr 1100 v l1 x1).bind fun x2 =>
    F_X8_undo_L22 pa pm n (l1 + 1) x2

def F_X8_undo (v : Nat → Int32) (pa : Nat → Int32) (pm : Int32) : Option (Int32 × (Nat → Int32) × Int32) :=
  if pm = 0 then (
    some ((-9), v, pm))
  else
  (F_X8_undo_L22 pa (pm - 1) tv_fu 0 v).bind fun x3 =>
  some ((pm - 1), x3, (pm - 1))

def F_X8_fingerprint_L83 (v : Nat → Int32) (l3 : Int32) : Nat → Int64 → Int32 → Option (Int64)
  | 0, _, _ => none
  | n + 1, l1, l4 =>
    if 8 ≤ l4 then (
      some l1)
    else
    (F_X8_toldOf v l3 l4).bind fun x7 =>
    F_X8_fingerprint_L83 v l3 n ((31 * l1) + (Int32.toInt64 x7)) (l4 + 1)

def F_X8_fingerprint_L69 (v : Nat → Int32) : Nat → Int64 → Int32 → Option (Int64)
  | 0, _, _ => none
  | n + 1, l1, l3 =>
    (tv_rd 1100 v 9).bind fun x6 =>
    if x6 < l3 then (
      some l1)
    else
    (F_X8_fingerprint_L83 v l3 tv_fu l1 0).bind fun x8 =>
    F_X8_fingerprint_L69 v n x8 (l3 + 1)

def F_X8_fingerprint_L148 (v : Nat → Int32) (l3 : Int32) : Nat → Int64 → Int32 → Option (Int64)
  | 0, _, _ => none
  | n + 1, l1, l4 =>
    if 6 ≤ l4 then (
      some l1)
    else
    (F_X8_told v l3 l4).bind fun x12 =>
    F_X8_fingerprint_L148 v l3 n ((31 * l1) + (Int32.toInt64 x12)) (l4 + 1)

def F_X8_fingerprint_L134 (v : Nat → Int32) : Nat → Int64 → Int32 → Option (Int64)
  | 0, _, _ => none
  | n + 1, l1, l3 =>
    (tv_rd 1100 v 10).bind fun x11 =>
    if x11 ≤ l3 then (
      some l1)
    else
    (F_X8_fingerprint_L148 v l3 tv_fu l1 0).bind fun x13 =>
    F_X8_fingerprint_L134 v n x13 (l3 + 1)

def F_X8_fingerprint (v : Nat → Int32) : Option (Int64) :=
  (tv_rd 1100 v 6).bind fun x1 =>
  (tv_rd 1100 v 7).bind fun x2 =>
  (tv_rd 1100 v 8).bind fun x3 =>
  (tv_rd 1100 v 9).bind fun x4 =>
  (tv_rd 1100 v 12).bind fun x5 =>
  (F_X8_fingerprint_L69 v tv_fu ((31 * ((31 * ((31 * ((31 * (2573 + (Int32.toInt64 x1))) + (Int32.toInt64 x2))) + (Int32.toInt64 x3))) + (Int32.toInt64 x4))) + (Int32.toInt64 x5)) 1).bind fun x9 =>
  (tv_rd 1100 v 10).bind fun x10 =>
  (F_X8_fingerprint_L134 v tv_fu ((31 * x9) + (Int32.toInt64 x10)) 0).bind fun x14 =>
  some x14

def F_L_law_L18 (sL : Nat) (sX : Nat → Int32) : Nat → Int32 → (Nat → Int32) → (Nat → Nat → Int32) → (Nat → (Nat → Int32) × (Nat → Nat → Int32)) → (Nat → Int32) → (Int32) → (Int32) → (Int32) → (Nat → Int32) → (Nat → Int32) → (Nat → Int32) → (Int32) → (Int32) → (Int32) → Option (Int32 × (Nat → Int32) × (Nat → Nat → Int32) × (Nat → (Nat → Int32) × (Nat → Nat → Int32)) × (Nat → Int32) × Int32 × Int32 × Int32 × (Nat → Int32) × (Nat → Int32) × (Nat → Int32) × Int32 × Int32 × Int32)
  | 0, _, _, _, _, _, _, _, _, _, _, _, _, _, _ => none
  | n + 1, l3, si, sa, hs, tx, tl, hc, hn, v, pa, mt, pm, ty, ra =>
    if ((Int32.ofNat sL) - 5) < l3 then (
      some (1, si, sa, hs, tx, tl, hc, hn, v, pa, mt, pm, ty, ra))
    else
    (tv_rd sL sX l3).bind fun x1 =>
    if (x1 &&& 31) = 0 then (
      (tv_rd sL sX (l3 + 1)).bind fun x2 =>
      (tv_rd sL sX (l3 + 2)).bind fun x3 =>
      (F_X7_set si sa hs hc hn x2 x3).bind fun x4 =>
      (tv_rd sL sX (l3 + 1)).bind fun x5 =>
      (tv_rd sL sX (l3 + 2)).bind fun x6 =>
      (F_X8_set v pa pm x5 x6).bind fun x7 =>
      if x4.1 = x7.1 then (
        F_L_law_L18 sL sX n (l3 + 5) x4.2.1 x4.2.2.1 x4.2.2.2.1 tx tl x4.2.2.2.2.1 x4.2.2.2.2.2 x7.2.1 x7.2.2.1 mt x7.2.2.2 ty ra)
      else
      some (0, x4.2.1, x4.2.2.1, x4.2.2.2.1, tx, tl, x4.2.2.2.2.1, x4.2.2.2.2.2, x7.2.1, x7.2.2.1, mt, x7.2.2.2, ty, ra))
    else
    if (x1 &&& 31) = 1 then (
      (tv_rd sL sX (l3 + 1)).bind fun x8 =>
      (F_X7_join si sa hs hc hn x8).bind fun x9 =>
      (tv_rd sL sX (l3 + 1)).bind fun x10 =>
      (F_X8_join v pa pm x10).bind fun x11 =>
      if x9.1 = x11.1 then (
        F_L_law_L18 sL sX n (l3 + 5) x9.2.1 x9.2.2.1 x9.2.2.2.1 tx tl x9.2.2.2.2.1 x9.2.2.2.2.2 x11.2.1 x11.2.2.1 mt x11.2.2.2 ty ra)
      else
      some (0, x9.2.1, x9.2.2.1, x9.2.2.2.1, tx, tl, x9.2.2.2.2.1, x9.2.2.2.2.2, x11.2.1, x11.2.2.1, mt, x11.2.2.2, ty, ra))
    else
    if (x1 &&& 31) = 2 then (
      (tv_rd sL sX (l3 + 1)).bind fun x12 =>
      (tv_rd sL sX (l3 + 2)).bind fun x13 =>
      (if x13 = 0 then (
        some 0)
      else (
        some 1)).bind fun x14 =>
      (F_X7_setPresent si sa hs hc hn x12 x14).bind fun x15 =>
      (tv_rd sL sX (l3 + 1)).bind fun x16 =>
      (tv_rd sL sX (l3 + 2)).bind fun x17 =>
      (if x17 = 0 then (
        some 0)
      else (
        some 1)).bind fun x18 =>
      (F_X8_setPresent v pa pm x16 x18).bind fun x19 =>
      if x15.1 = x19.1 then (
        F_L_law_L18 sL sX n (l3 + 5) x15.2.1 x15.2.2.1 x15.2.2.2.1 tx tl x15.2.2.2.2.1 x15.2.2.2.2.2 x19.2.1 x19.2.2.1 mt x19.2.2.2 ty ra)
      else
      some (0, x15.2.1, x15.2.2.1, x15.2.2.2.1, tx, tl, x15.2.2.2.2.1, x15.2.2.2.2.2, x19.2.1, x19.2.2.1, mt, x19.2.2.2, ty, ra))
    else
    if (x1 &&& 31) = 3 then (
      (tv_rd sL sX (l3 + 1)).bind fun x20 =>
      (F_X7_pass si sa hs hc hn x20).bind fun x21 =>
      (tv_rd sL sX (l3 + 1)).bind fun x22 =>
      (F_X8_pass v pa pm x22).bind fun x23 =>
      if x21.1 = x23.1 then (
        F_L_law_L18 sL sX n (l3 + 5) x21.2.1 x21.2.2.1 x21.2.2.2.1 tx tl x21.2.2.2.2.1 x21.2.2.2.2.2 x23.2.1 x23.2.2.1 mt x23.2.2.2 ty ra)
      else
      some (0, x21.2.1, x21.2.2.1, x21.2.2.2.1, tx, tl, x21.2.2.2.2.1, x21.2.2.2.2.2, x23.2.1, x23.2.2.1, mt, x23.2.2.2, ty, ra))
    else
    if (x1 &&& 31) = 4 then (
      (F_X7_open si sa hs hc hn).bind fun x24 =>
      (F_X8_open v pa pm).bind fun x25 =>
      if x24.1 = x25.1 then (
        F_L_law_L18 sL sX n (l3 + 5) x24.2.1 sa x24.2.2.1 tx tl x24.2.2.2.1 x24.2.2.2.2 x25.2.1 x25.2.2.1 mt x25.2.2.2 ty ra)
      else
      some (0, x24.2.1, sa, x24.2.2.1, tx, tl, x24.2.2.2.1, x24.2.2.2.2, x25.2.1, x25.2.2.1, mt, x25.2.2.2, ty, ra))
    else
    if (x1 &&& 31) = 5 then (
      (tv_rd sL sX (l3 + 1)).bind fun x26 =>
      (F_X7_nominate si sa hs hc hn x26).bind fun x27 =>
      (tv_rd sL sX (l3 + 1)).bind fun x28 =>
      (F_X8_nominate v pa pm x28).bind fun x29 =>
      if x27.1 = x29.1 then (
        F_L_law_L18 sL sX n (l3 + 5) x27.2.1 sa x27.2.2.1 tx tl x27.2.2.2.1 x27.2.2.2.2 x29.2.1 x29.2.2.1 mt x29.2.2.2 ty ra)
      else
      some (0, x27.2.1, sa, x27.2.2.1, tx, tl, x27.2.2.2.1, x27.2.2.2.2, x29.2.1, x29.2.2.1, mt, x29.2.2.2, ty, ra))
    else
    if (x1 &&& 31) = 6 then (
      (tv_rd sL sX (l3 + 1)).bind fun x30 =>
      (F_X7_cast si sa hs tx tl hc hn x30).bind fun x31 =>
      (tv_rd sL sX (l3 + 1)).bind fun x32 =>
      (F_X8_cast v pa mt pm ty x32).bind fun x33 =>
      if x31.1 = x33.1 then (
        F_L_law_L18 sL sX n (l3 + 5) si x31.2.1 x31.2.2.1 tx x31.2.2.2.1 x31.2.2.2.2.1 x31.2.2.2.2.2 x33.2.1 x33.2.2.1 mt x33.2.2.2.1 x33.2.2.2.2 ra)
      else
      some (0, si, x31.2.1, x31.2.2.1, tx, x31.2.2.2.1, x31.2.2.2.2.1, x31.2.2.2.2.2, x33.2.1, x33.2.2.1, mt, x33.2.2.2.1, x33.2.2.2.2, ra))
    else
    if (x1 &&& 31) = 7 then (
      (F_X7_close si sa hs hc hn).bind fun x34 =>
      (F_X8_close v pa pm ra).bind fun x35 =>
      if x34.1 = x35.1 then (
        F_L_law_L18 sL sX n (l3 + 5) x34.2.1 x34.2.2.1 x34.2.2.2.1 tx tl x34.2.2.2.2.1 x34.2.2.2.2.2 x35.2.1 x35.2.2.1 mt x35.2.2.2.1 ty x35.2.2.2.2)
      else
      some (0, x34.2.1, x34.2.2.1, x34.2.2.2.1, tx, tl, x34.2.2.2.2.1, x34.2.2.2.2.2, x35.2.1, x35.2.2.1, mt, x35.2.2.2.1, ty, x35.2.2.2.2))
    else
    if (x1 &&& 31) = 8 then (
      (F_X8_rounds v).bind fun x36 =>
      if (F_X7_rounds si) = x36 then (
        F_L_law_L18 sL sX n (l3 + 5) si sa hs tx tl hc hn v pa mt pm ty ra)
      else
      some (0, si, sa, hs, tx, tl, hc, hn, v, pa, mt, pm, ty, ra))
    else
    if (x1 &&& 31) = 9 then (
      (tv_rd sL sX (l3 + 1)).bind fun x37 =>
      (tv_rd sL sX (l3 + 2)).bind fun x38 =>
      (F_X7_tally si sa x37 x38).bind fun x39 =>
      (tv_rd sL sX (l3 + 1)).bind fun x40 =>
      (tv_rd sL sX (l3 + 2)).bind fun x41 =>
      (F_X8_tally v x40 x41).bind fun x42 =>
      if x39 = x42 then (
        F_L_law_L18 sL sX n (l3 + 5) si sa hs tx tl hc hn v pa mt pm ty ra)
      else
      some (0, si, sa, hs, tx, tl, hc, hn, v, pa, mt, pm, ty, ra))
    else
    if (x1 &&& 31) = 10 then (
      (tv_rd sL sX (l3 + 1)).bind fun x43 =>
      (tv_rd sL sX (l3 + 2)).bind fun x44 =>
      (F_X7_ballot si sa x43 x44).bind fun x45 =>
      (tv_rd sL sX (l3 + 1)).bind fun x46 =>
      (tv_rd sL sX (l3 + 2)).bind fun x47 =>
      (F_X8_ballot v x46 x47).bind fun x48 =>
      if x45 = x48 then (
        F_L_law_L18 sL sX n (l3 + 5) si sa hs tx tl hc hn v pa mt pm ty ra)
      else
      some (0, si, sa, hs, tx, tl, hc, hn, v, pa, mt, pm, ty, ra))
    else
    if (x1 &&& 31) = 11 then (
      (F_X8_office v).bind fun x49 =>
      if (F_X7_office si) = x49 then (
        F_L_law_L18 sL sX n (l3 + 5) si sa hs tx tl hc hn v pa mt pm ty ra)
      else
      some (0, si, sa, hs, tx, tl, hc, hn, v, pa, mt, pm, ty, ra))
    else
    if (x1 &&& 31) = 12 then (
      (F_X8_holder v).bind fun x50 =>
      if (F_X7_holder si) = x50 then (
        F_L_law_L18 sL sX n (l3 + 5) si sa hs tx tl hc hn v pa mt pm ty ra)
      else
      some (0, si, sa, hs, tx, tl, hc, hn, v, pa, mt, pm, ty, ra))
    else
    if (x1 &&& 31) = 13 then (
      (tv_rd sL sX (l3 + 1)).bind fun x51 =>
      (if x51 = 0 then (
        some 0)
      else (
        some 1)).bind fun x52 =>
      (F_X7_deed si sa hs hc hn x52).bind fun x53 =>
      (tv_rd sL sX (l3 + 1)).bind fun x54 =>
      (if x54 = 0 then (
        some 0)
      else (
        some 1)).bind fun x55 =>
      (F_X8_deed v pa pm x55).bind fun x56 =>
      if x53.1 = x56.1 then (
        F_L_law_L18 sL sX n (l3 + 5) si x53.2.1 x53.2.2.1 tx tl x53.2.2.2.1 x53.2.2.2.2 x56.2.1 x56.2.2.1 mt x56.2.2.2 ty ra)
      else
      some (0, si, x53.2.1, x53.2.2.1, tx, tl, x53.2.2.2.1, x53.2.2.2.2, x56.2.1, x56.2.2.1, mt, x56.2.2.2, ty, ra))
    else
    if (x1 &&& 31) = 14 then (
      (tv_rd sL sX (l3 + 1)).bind fun x57 =>
      (tv_rd sL sX (l3 + 2)).bind fun x58 =>
      (if x58 = 0 then (
        some 0)
      else (
        some 1)).bind fun x59 =>
      (F_X7_sign si sa hs hc hn x57 x59).bind fun x60 =>
      (tv_rd sL sX (l3 + 1)).bind fun x61 =>
      (tv_rd sL sX (l3 + 2)).bind fun x62 =>
      (if x62 = 0 then (
        some 0)
      else (
        some 1)).bind fun x63 =>
      (F_X8_sign v pa pm x61 x63).bind fun x64 =>
      if x60.1 = x64.1 then (
        F_L_law_L18 sL sX n (l3 + 5) x60.2.1 x60.2.2.1 x60.2.2.2.1 tx tl x60.2.2.2.2.1 x60.2.2.2.2.2 x64.2.1 x64.2.2.1 mt x64.2.2.2 ty ra)
      else
      some (0, x60.2.1, x60.2.2.1, x60.2.2.2.1, tx, tl, x60.2.2.2.2.1, x60.2.2.2.2.2, x64.2.1, x64.2.2.1, mt, x64.2.2.2, ty, ra))
    else
    if (x1 &&& 31) = 15 then (
      (tv_rd sL sX (l3 + 1)).bind fun x65 =>
      (tv_rd sL sX (l3 + 2)).bind fun x66 =>
      (tv_rd sL sX (l3 + 3)).bind fun x67 =>
      (tv_rd sL sX (l3 + 4)).bind fun x68 =>
      (F_X7_grade si sa hs hc hn x65 x66 x67 x68).bind fun x69 =>
      (tv_rd sL sX (l3 + 1)).bind fun x70 =>
      (tv_rd sL sX (l3 + 2)).bind fun x71 =>
      (tv_rd sL sX (l3 + 3)).bind fun x72 =>
      (tv_rd sL sX (l3 + 4)).bind fun x73 =>
      (F_X8_grade v pa pm x70 x71 x72 x73).bind fun x74 =>
      if x69.1 = x74.1 then (
        F_L_law_L18 sL sX n (l3 + 5) si x69.2.1 x69.2.2.1 tx tl x69.2.2.2.1 x69.2.2.2.2 x74.2.1 x74.2.2.1 mt x74.2.2.2 ty ra)
      else
      some (0, si, x69.2.1, x69.2.2.1, tx, tl, x69.2.2.2.1, x69.2.2.2.2, x74.2.1, x74.2.2.1, mt, x74.2.2.2, ty, ra))
    else
    if (x1 &&& 31) = 16 then (
      (tv_rd sL sX (l3 + 1)).bind fun x75 =>
      (tv_rd sL sX (l3 + 2)).bind fun x76 =>
      (F_X7_term si sa x75 x76).bind fun x77 =>
      (tv_rd sL sX (l3 + 1)).bind fun x78 =>
      (tv_rd sL sX (l3 + 2)).bind fun x79 =>
      (F_X8_term v x78 x79).bind fun x80 =>
      if x77 = x80 then (
        F_L_law_L18 sL sX n (l3 + 5) si sa hs tx tl hc hn v pa mt pm ty ra)
      else
      some (0, si, sa, hs, tx, tl, hc, hn, v, pa, mt, pm, ty, ra))
    else
    if (x1 &&& 31) = 17 then (
      (tv_rd sL sX (l3 + 1)).bind fun x81 =>
      (tv_rd sL sX (l3 + 2)).bind fun x82 =>
      (F_X7_points si sa x81 x82).bind fun x83 =>
      (tv_rd sL sX (l3 + 1)).bind fun x84 =>
      (tv_rd sL sX (l3 + 2)).bind fun x85 =>
      (F_X8_points v x84 x85).bind fun x86 =>
      if x83 = x86 then (
        F_L_law_L18 sL sX n (l3 + 5) si sa hs tx tl hc hn v pa mt pm ty ra)
      else
      some (0, si, sa, hs, tx, tl, hc, hn, v, pa, mt, pm, ty, ra))
    else
    if (x1 &&& 31) = 18 then (
      (F_X8_terms v).bind fun x87 =>
      if (F_X7_terms si) = x87 then (
        F_L_law_L18 sL sX n (l3 + 5) si sa hs tx tl hc hn v pa mt pm ty ra)
      else
      some (0, si, sa, hs, tx, tl, hc, hn, v, pa, mt, pm, ty, ra))
    else
    if (x1 &&& 31) = 19 then (
      (tv_rd sL sX (l3 + 1)).bind fun x88 =>
      (tv_rd sL sX (l3 + 2)).bind fun x89 =>
      (F_X7_member si sa x88 x89).bind fun x90 =>
      (tv_rd sL sX (l3 + 1)).bind fun x91 =>
      (tv_rd sL sX (l3 + 2)).bind fun x92 =>
      (F_X8_member v x91 x92).bind fun x93 =>
      if x90 = x93 then (
        F_L_law_L18 sL sX n (l3 + 5) si sa hs tx tl hc hn v pa mt pm ty ra)
      else
      some (0, si, sa, hs, tx, tl, hc, hn, v, pa, mt, pm, ty, ra))
    else
    if (x1 &&& 31) = 20 then (
      (F_X8_time v).bind fun x94 =>
      if (F_X7_time si) = x94 then (
        F_L_law_L18 sL sX n (l3 + 5) si sa hs tx tl hc hn v pa mt pm ty ra)
      else
      some (0, si, sa, hs, tx, tl, hc, hn, v, pa, mt, pm, ty, ra))
    else
    if (x1 &&& 31) = 21 then (
      (F_X8_events v).bind fun x95 =>
      if (F_X7_events si) = x95 then (
        F_L_law_L18 sL sX n (l3 + 5) si sa hs tx tl hc hn v pa mt pm ty ra)
      else
      some (0, si, sa, hs, tx, tl, hc, hn, v, pa, mt, pm, ty, ra))
    else
    if (x1 &&& 31) = 22 then (
      (tv_rd sL sX (l3 + 1)).bind fun x96 =>
      (tv_rd sL sX (l3 + 2)).bind fun x97 =>
      (F_X7_event si sa x96 x97).bind fun x98 =>
      (tv_rd sL sX (l3 + 1)).bind fun x99 =>
      (tv_rd sL sX (l3 + 2)).bind fun x100 =>
      (F_X8_event v x99 x100).bind fun x101 =>
      if x98 = x101 then (
        F_L_law_L18 sL sX n (l3 + 5) si sa hs tx tl hc hn v pa mt pm ty ra)
      else
      some (0, si, sa, hs, tx, tl, hc, hn, v, pa, mt, pm, ty, ra))
    else
    if (x1 &&& 31) = 23 then (
      (tv_rd sL sX (l3 + 1)).bind fun x102 =>
      (F_X7_type tx tl x102).bind fun x103 =>
      (tv_rd sL sX (l3 + 1)).bind fun x104 =>
      (F_X8_type mt ty x104).bind fun x105 =>
      if x103.1 = x105.1 then (
        F_L_law_L18 sL sX n (l3 + 5) si sa hs x103.2.1 x103.2.2 hc hn v pa x105.2.1 pm x105.2.2 ra)
      else
      some (0, si, sa, hs, x103.2.1, x103.2.2, hc, hn, v, pa, x105.2.1, pm, x105.2.2, ra))
    else
    if (x1 &&& 31) = 24 then (
      (F_X7_clear tl).bind fun x106 =>
      (F_X8_clear ty).bind fun x107 =>
      if x106.1 = x107.1 then (
        F_L_law_L18 sL sX n (l3 + 5) si sa hs tx x106.2 hc hn v pa mt pm x107.2 ra)
      else
      some (0, si, sa, hs, tx, x106.2, hc, hn, v, pa, mt, pm, x107.2, ra))
    else
    if (x1 &&& 31) = 25 then (
      (F_X7_undo si sa hs hc hn).bind fun x108 =>
      (F_X8_undo v pa pm).bind fun x109 =>
      if x108.1 = x109.1 then (
        F_L_law_L18 sL sX n (l3 + 5) x108.2.1 x108.2.2.1 hs tx tl x108.2.2.2.1 x108.2.2.2.2 x109.2.1 pa mt x109.2.2 ty ra)
      else
      some (0, x108.2.1, x108.2.2.1, hs, tx, tl, x108.2.2.2.1, x108.2.2.2.2, x109.2.1, pa, mt, x109.2.2, ty, ra))
    else
    if (x1 &&& 31) = 26 then (
      (F_X7_fingerprint si sa).bind fun x110 =>
      (F_X8_fingerprint v).bind fun x111 =>
      if (lg_cmp x110 x111) = 0 then (
        F_L_law_L18 sL sX n (l3 + 5) si sa hs tx tl hc hn v pa mt pm ty ra)
      else
      some (0, si, sa, hs, tx, tl, hc, hn, v, pa, mt, pm, ty, ra))
    else
    F_L_law_L18 sL sX n (l3 + 5) si sa hs tx tl hc hn v pa mt pm ty ra

def F_L_law (si : Nat → Int32) (sa : Nat → Nat → Int32) (hs : Nat → (Nat → Int32) × (Nat → Nat → Int32)) (tx : Nat → Int32) (tl : Int32) (hc : Int32) (hn : Int32) (v : Nat → Int32) (pa : Nat → Int32) (mt : Nat → Int32) (pm : Int32) (ty : Int32) (ra : Int32) (sL : Nat) (sX : Nat → Int32) (a3 : Int32) : Option (Int32 × (Nat → Int32) × (Nat → Nat → Int32) × (Nat → (Nat → Int32) × (Nat → Nat → Int32)) × (Nat → Int32) × Int32 × Int32 × Int32 × (Nat → Int32) × (Nat → Int32) × (Nat → Int32) × Int32 × Int32 × Int32) :=
  F_L_law_L18 sL sX tv_fu a3 si sa hs tx tl hc hn v pa mt pm ty ra
end
