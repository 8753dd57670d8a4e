set_option maxRecDepth 100000 in
set_option maxHeartbeats 4000000 in
theorem R_X8_close_L151 {g : tv_G} {l : Launch} {si : Nat → Int32} {sa : Nat → Nat → Int32} {hs : Nat → (Nat → Int32) × (Nat → Nat → Int32)} {tx : Nat → Int32} {tl : Int32} {hc : Int32} {hn : Int32} {pa : Nat → Int32} {mt : Nat → Int32} {pm : Int32} {ty : Int32} {ra : Int32} {l1 : Int32} {r : Option Value} {h' : tv_Hp} : ∀ (n : Nat) (l3 : Int32) (v : Nat → Int32) (x : (Nat → Int32)), F_X8_close_L151 l1 n l3 v = some x → tv_E g l yX8_close cX8_close 4 (some .int) 6 0 0 185 [.ref 125, .int l1, .null, .null] [] (HP si sa hs tx tl hc hn x pa mt pm ty ra) r h' → tv_E g l yX8_close cX8_close 4 (some .int) 6 0 0 151 [.ref 125, .int l1, .null, .int l3] [] (HP si sa hs tx tl hc hn v pa mt pm ty ra) r h' := by
  intro n
  induction n with
  | zero => intro l3 v x hF k; cases hF
  | succ n ih =>
      intro l3 v x hF k
      rw [F_X8_close_L151] at hF
      refine ev_iload_n (i := 3) 152 dX8_close_151 rfl rfl rfl ?_
      refine ev_bipush 154 dX8_close_152 rfl kB_10 ?_
      refine ev_icmp_ge 185 157 dX8_close_154 rfl rfl (fun hc312 => ?_) (fun hc312 => ?_)
      · rw [if_pos hc312] at hF
        have hF := Option.some.inj hF
        subst hF
        refine ev_weak [.ref 125, .int l1, .null, .null] ⟨Or.inr rfl, ⟨Or.inr rfl, ⟨Or.inl rfl, ⟨Or.inl rfl, trivial⟩⟩⟩⟩ ?_
        exact k
      · rw [if_neg hc312] at hF
        refine ev_aload_n (i := 0) 158 dX8_close_157 rfl rfl rfl ?_
        refine ev_getfield 161 dX8_close_158 rfl okf_X8_7 (Nat.le_of_ble_eq_true rfl) HPg_125 rfl ?_
        refine ev_iload_n (i := 3) 162 dX8_close_161 rfl rfl rfl ?_
        refine ev_iconst 163 dX8_close_162 rfl kI_2 ?_
        refine ev_callSi 166 [.int l3, .int 2] [.ref 126] dX8_close_163 rfl okS_X8_27 rfl rfl (Nat.le_of_ble_eq_true rfl) rfl (Nat.le_of_ble_eq_true rfl) (Nat.le_of_ble_eq_true rfl) (R_X8_at rfl) ?_
        refine ev_iconst 167 dX8_close_166 rfl kI_0 ?_
        obtain ⟨x18, hx18, hF⟩ := tv_bind hF
        refine ev_iastore 168 dX8_close_167 rfl (Nat.le_of_ble_eq_true rfl) HPg_126 hx18 HPa_126 ?_
        refine ev_aload_n (i := 0) 169 dX8_close_168 rfl rfl rfl ?_
        refine ev_getfield 172 dX8_close_169 rfl okf_X8_7 (Nat.le_of_ble_eq_true rfl) HPg_125 rfl ?_
        refine ev_iload_n (i := 3) 173 dX8_close_172 rfl rfl rfl ?_
        refine ev_iconst 174 dX8_close_173 rfl kI_4 ?_
        refine ev_callSi 177 [.int l3, .int 4] [.ref 126] dX8_close_174 rfl okS_X8_27 rfl rfl (Nat.le_of_ble_eq_true rfl) rfl (Nat.le_of_ble_eq_true rfl) (Nat.le_of_ble_eq_true rfl) (R_X8_at rfl) ?_
        refine ev_iconst 178 dX8_close_177 rfl kI_0 ?_
        obtain ⟨x19, hx19, hF⟩ := tv_bind hF
        refine ev_iastore 179 dX8_close_178 rfl (Nat.le_of_ble_eq_true rfl) HPg_126 hx19 HPa_126 ?_
        refine ev_iinc (L2 := [.ref 125, .int l1, .null, .int (l3 + 1)]) 182 dX8_close_179 rfl rfl (kA_1 _) (Nat.le_of_ble_eq_true rfl) rfl ?_
        refine ev_goto 151 dX8_close_182 rfl ?_
        exact ih _ _ _ hF k

set_option maxRecDepth 100000 in
set_option maxHeartbeats 4000000 in
theorem R_X8_close {g : tv_G} {l : Launch} {si : Nat → Int32} {sa : Nat → Nat → Int32} {hs : Nat → (Nat → Int32) × (Nat → Nat → Int32)} {tx : Nat → Int32} {tl : Int32} {hc : Int32} {hn : Int32} {v : Nat → Int32} {pa : Nat → Int32} {mt : Nat → Int32} {pm : Int32} {ty : Int32} {ra : Int32}  {p : Int32 × (Nat → Int32) × (Nat → Int32) × Int32 × Int32} (hF : F_X8_close v pa pm ra = some p) : tv_E g l yX8_close cX8_close 4 (some .int) 6 0 0 0 [.ref 125, .null, .null, .null] [] (HP si sa hs tx tl hc hn v pa mt pm ty ra) (some (.int p.1)) (HP si sa hs tx tl hc hn p.2.1 p.2.2.1 mt p.2.2.2.1 ty p.2.2.2.2) := by
  unfold F_X8_close at hF
  refine ev_aload_n (i := 0) 1 dX8_close_0 rfl rfl rfl ?_
  refine ev_getfield 4 dX8_close_1 rfl okf_X8_7 (Nat.le_of_ble_eq_true rfl) HPg_125 rfl ?_
  refine ev_bipush 6 dX8_close_4 rfl kB_11 ?_
  obtain ⟨x1, hx1, hF⟩ := tv_bind hF
  refine ev_iaload 7 dX8_close_6 rfl (Nat.le_of_ble_eq_true rfl) HPg_126 hx1 ?_
  refine ev_if_eq 17 10 dX8_close_7 rfl rfl (fun hc313 => ?_) (fun hc313 => ?_)
  · rw [if_pos hc313] at hF
    refine ev_bipush 19 dX8_close_17 rfl kB_m2 ?_
    have hF := Option.some.inj hF
    subst hF
    exact ev_ireturn dX8_close_19 rfl rfl
  · rw [if_neg hc313] at hF
    refine ev_aload_n (i := 0) 11 dX8_close_10 rfl rfl rfl ?_
    obtain ⟨x2, hx2, hF⟩ := tv_bind hF
    refine ev_callVi (i := 125) 14 [] [] dX8_close_11 rfl okV_X8_92 rfl rfl (Nat.le_of_ble_eq_true rfl) (Nat.le_of_ble_eq_true rfl) HPg_125 rfl (Nat.le_of_ble_eq_true rfl) (Nat.le_of_ble_eq_true rfl) (R_X8_candidates hx2) ?_
    refine ev_if_ne 20 17 dX8_close_14 rfl rfl (fun hc314 => ?_) (fun hc314 => ?_)
    · rw [if_neg hc314] at hF
      refine ev_aload_n (i := 0) 21 dX8_close_20 rfl rfl rfl ?_
      obtain ⟨x3, hx3, hF⟩ := tv_bind hF
      refine ev_callVv (i := 125) 24 [] [] dX8_close_21 rfl okV_X8_73 rfl rfl (Nat.le_of_ble_eq_true rfl) (Nat.le_of_ble_eq_true rfl) HPg_125 rfl (Nat.le_of_ble_eq_true rfl) (Nat.le_of_ble_eq_true rfl) (R_X8_act hx3) ?_
      refine ev_bipush 26 dX8_close_24 rfl kB_m9 ?_
      refine ev_istore_n (i := 1) (L2 := [.ref 125, .int (-9), .null, .null]) 27 dX8_close_26 rfl rfl (Nat.le_of_ble_eq_true rfl) rfl ?_
      refine ev_aload_n (i := 0) 28 dX8_close_27 rfl rfl rfl ?_
      refine ev_getfield 31 dX8_close_28 rfl okf_X8_7 (Nat.le_of_ble_eq_true rfl) HPg_125 rfl ?_
      refine ev_bipush 33 dX8_close_31 rfl kB_13 ?_
      refine ev_iconst 34 dX8_close_33 rfl kI_0 ?_
      obtain ⟨x4, hx4, hF⟩ := tv_bind hF
      refine ev_iastore 35 dX8_close_34 rfl (Nat.le_of_ble_eq_true rfl) HPg_126 hx4 HPa_126 ?_
      refine ev_aload_n (i := 0) 36 dX8_close_35 rfl rfl rfl ?_
      refine ev_iconst 37 dX8_close_36 rfl kI_0 ?_
      refine ev_putfield 40 dX8_close_37 rfl okf_X8_104 (Nat.le_of_ble_eq_true rfl) HPg_125 (Nat.le_of_ble_eq_true rfl) rfl rfl HPs_125_5 ?_
      refine ev_iconst 41 dX8_close_40 rfl kI_0 ?_
      refine ev_istore_n (i := 2) (L2 := [.ref 125, .int (-9), .int 0, .null]) 42 dX8_close_41 rfl rfl (Nat.le_of_ble_eq_true rfl) rfl ?_
      obtain ⟨x7, hx7, hF⟩ := tv_bind hF
      refine R_X8_close_L42 _ _ _ _ hx7 ?_
      refine ev_bipush 82 dX8_close_80 rfl kB_100 ?_
      refine ev_aload_n (i := 0) 83 dX8_close_82 rfl rfl rfl ?_
      obtain ⟨x8, hx8, hF⟩ := tv_bind hF
      refine ev_callVi (i := 125) 86 [] [.int 100] dX8_close_83 rfl okV_X8_101 rfl rfl (Nat.le_of_ble_eq_true rfl) (Nat.le_of_ble_eq_true rfl) HPg_125 rfl (Nat.le_of_ble_eq_true rfl) (Nat.le_of_ble_eq_true rfl) (R_X8_ballots hx8) ?_
      refine ev_imul 87 dX8_close_86 rfl ?_
      refine ev_aload_n (i := 0) 88 dX8_close_87 rfl rfl rfl ?_
      refine ev_getfield 91 dX8_close_88 rfl okf_X8_7 (Nat.le_of_ble_eq_true rfl) HPg_125 rfl ?_
      refine ev_iconst 92 dX8_close_91 rfl kI_4 ?_
      obtain ⟨x9, hx9, hF⟩ := tv_bind hF
      refine ev_iaload 93 dX8_close_92 rfl (Nat.le_of_ble_eq_true rfl) HPg_126 hx9 ?_
      refine ev_aload_n (i := 0) 94 dX8_close_93 rfl rfl rfl ?_
      obtain ⟨x10, hx10, hF⟩ := tv_bind hF
      refine ev_callVi (i := 125) 97 [] [.int x9, .int (100 * x8)] dX8_close_94 rfl okV_X8_59 rfl rfl (Nat.le_of_ble_eq_true rfl) (Nat.le_of_ble_eq_true rfl) HPg_125 rfl (Nat.le_of_ble_eq_true rfl) (Nat.le_of_ble_eq_true rfl) (R_X8_presentMany hx10) ?_
      refine ev_imul 98 dX8_close_97 rfl ?_
      obtain ⟨x11, hBx11, hF⟩ := tv_bind hF
      have Jx11 : tv_E g l yX8_close cX8_close 4 (some .int) 6 0 0 106 [.ref 125, .int (-9), .null, .null] [.int x11] (HP si sa hs tx tl hc hn x4 x3.1 mt x3.2 ty x7) (some (.int p.1)) (HP si sa hs tx tl hc hn p.2.1 p.2.2.1 mt p.2.2.2.1 ty p.2.2.2.2) := by
        refine ev_istore_n (i := 2) (L2 := [.ref 125, .int (-9), .int x11, .null]) 107 dX8_close_106 rfl rfl (Nat.le_of_ble_eq_true rfl) rfl ?_
        obtain ⟨x16, hx16, hF⟩ := tv_bind hF
        refine R_X8_close_L107 _ _ _ _ _ hx16 ?_
        refine ev_aload_n (i := 0) 142 dX8_close_141 rfl rfl rfl ?_
        refine ev_getfield 145 dX8_close_142 rfl okf_X8_7 (Nat.le_of_ble_eq_true rfl) HPg_125 rfl ?_
        refine ev_bipush 147 dX8_close_145 rfl kB_11 ?_
        refine ev_iconst 148 dX8_close_147 rfl kI_0 ?_
        obtain ⟨x17, hx17, hF⟩ := tv_bind hF
        refine ev_iastore 149 dX8_close_148 rfl (Nat.le_of_ble_eq_true rfl) HPg_126 hx17 HPa_126 ?_
        refine ev_iconst 150 dX8_close_149 rfl kI_0 ?_
        refine ev_istore_n (i := 3) (L2 := [.ref 125, .int x16.1, .null, .int 0]) 151 dX8_close_150 rfl rfl (Nat.le_of_ble_eq_true rfl) rfl ?_
        obtain ⟨x20, hx20, hF⟩ := tv_bind hF
        refine R_X8_close_L151 _ _ _ _ hx20 ?_
        refine ev_iload_n (i := 1) 186 dX8_close_185 rfl rfl rfl ?_
        refine ev_if_ge 200 189 dX8_close_186 rfl rfl (fun hc315 => ?_) (fun hc315 => ?_)
        · rw [if_pos hc315] at hF
          refine ev_aload_n (i := 0) 201 dX8_close_200 rfl rfl rfl ?_
          refine ev_iload_n (i := 1) 202 dX8_close_201 rfl rfl rfl ?_
          obtain ⟨x21, hx21, hF⟩ := tv_bind hF
          refine ev_callVv (i := 125) 205 [.int x16.1] [] dX8_close_202 rfl okV_X8_122 rfl rfl (Nat.le_of_ble_eq_true rfl) (Nat.le_of_ble_eq_true rfl) HPg_125 rfl (Nat.le_of_ble_eq_true rfl) (Nat.le_of_ble_eq_true rfl) (R_X8_begins hx21) ?_
          refine ev_iload_n (i := 1) 206 dX8_close_205 rfl rfl rfl ?_
          have hF := Option.some.inj hF
          subst hF
          exact ev_ireturn dX8_close_206 rfl rfl
        · rw [if_neg hc315] at hF
          refine ev_aload_n (i := 0) 190 dX8_close_189 rfl rfl rfl ?_
          refine ev_bipush 192 dX8_close_190 rfl kB_6 ?_
          refine ev_bipush 194 dX8_close_192 rfl kB_m9 ?_
          obtain ⟨x22, hx22, hF⟩ := tv_bind hF
          refine ev_callVv (i := 125) 197 [.int 6, .int (-9)] [] dX8_close_194 rfl okV_X8_51 rfl rfl (Nat.le_of_ble_eq_true rfl) (Nat.le_of_ble_eq_true rfl) HPg_125 rfl (Nat.le_of_ble_eq_true rfl) (Nat.le_of_ble_eq_true rfl) (R_X8_tells hx22) ?_
          refine ev_goto 205 dX8_close_197 rfl ?_
          refine ev_iload_n (i := 1) 206 dX8_close_205 rfl rfl rfl ?_
          have hF := Option.some.inj hF
          subst hF
          exact ev_ireturn dX8_close_206 rfl rfl
      clear hF
      refine ev_icmp_lt 105 101 dX8_close_98 rfl rfl (fun hc316 => ?_) (fun hc316 => ?_)
      · rw [if_pos hc316] at hBx11
        refine ev_iconst 106 dX8_close_105 rfl kI_0 ?_
        have hBx11 := Option.some.inj hBx11
        subst hBx11
        exact Jx11
      · rw [if_neg hc316] at hBx11
        refine ev_iconst 102 dX8_close_101 rfl kI_1 ?_
        refine ev_goto 106 dX8_close_102 rfl ?_
        have hBx11 := Option.some.inj hBx11
        subst hBx11
        exact Jx11
    · rw [if_pos hc314] at hF
      refine ev_bipush 19 dX8_close_17 rfl kB_m2 ?_
      have hF := Option.some.inj hF
      subst hF
      exact ev_ireturn dX8_close_19 rfl rfl

set_option maxRecDepth 100000 in
set_option maxHeartbeats 4000000 in
theorem R_X8_rounds {g : tv_G} {l : Launch} {si : Nat → Int32} {sa : Nat → Nat → Int32} {hs : Nat → (Nat → Int32) × (Nat → Nat → Int32)} {tx : Nat → Int32} {tl : Int32} {hc : Int32} {hn : Int32} {v : Nat → Int32} {pa : Nat → Int32} {mt : Nat → Int32} {pm : Int32} {ty : Int32} {ra : Int32}  {p : Int32} (hF : F_X8_rounds v = some p) : tv_E g l yX8_rounds cX8_rounds 1 (some .int) 0 0 0 0 [.ref 125] [] (HP si sa hs tx tl hc hn v pa mt pm ty ra) (some (.int p)) (HP si sa hs tx tl hc hn v pa mt pm ty ra) := by
  unfold F_X8_rounds at hF
  refine ev_aload_n (i := 0) 1 dX8_rounds_0 rfl rfl rfl ?_
  refine ev_getfield 4 dX8_rounds_1 rfl okf_X8_7 (Nat.le_of_ble_eq_true rfl) HPg_125 rfl ?_
  refine ev_bipush 6 dX8_rounds_4 rfl kB_13 ?_
  obtain ⟨x1, hx1, hF⟩ := tv_bind hF
  refine ev_iaload 7 dX8_rounds_6 rfl (Nat.le_of_ble_eq_true rfl) HPg_126 hx1 ?_
  have hF := Option.some.inj hF
  subst hF
  exact ev_ireturn dX8_rounds_7 rfl rfl

set_option maxRecDepth 100000 in
set_option maxHeartbeats 4000000 in
theorem R_X8_tally {g : tv_G} {l : Launch} {si : Nat → Int32} {sa : Nat → Nat → Int32} {hs : Nat → (Nat → Int32) × (Nat → Nat → Int32)} {tx : Nat → Int32} {tl : Int32} {hc : Int32} {hn : Int32} {v : Nat → Int32} {pa : Nat → Int32} {mt : Nat → Int32} {pm : Int32} {ty : Int32} {ra : Int32} {a1 : Int32} {a2 : Int32} {p : Int32} (hF : F_X8_tally v a1 a2 = some p) : tv_E g l yX8_tally cX8_tally 3 (some .int) 2 0 0 0 [.ref 125, .int a1, .int a2] [] (HP si sa hs tx tl hc hn v pa mt pm ty ra) (some (.int p)) (HP si sa hs tx tl hc hn v pa mt pm ty ra) := by
  unfold F_X8_tally at hF
  refine ev_iload_n (i := 1) 1 dX8_tally_0 rfl rfl rfl ?_
  refine ev_iconst 2 dX8_tally_1 rfl kI_0 ?_
  refine ev_aload_n (i := 0) 3 dX8_tally_2 rfl rfl rfl ?_
  refine ev_getfield 6 dX8_tally_3 rfl okf_X8_7 (Nat.le_of_ble_eq_true rfl) HPg_125 rfl ?_
  refine ev_bipush 8 dX8_tally_6 rfl kB_13 ?_
  obtain ⟨x1, hx1, hF⟩ := tv_bind hF
  refine ev_iaload 9 dX8_tally_8 rfl (Nat.le_of_ble_eq_true rfl) HPg_126 hx1 ?_
  refine ev_iconst 10 dX8_tally_9 rfl kI_1 ?_
  refine ev_isub 11 dX8_tally_10 rfl ?_
  refine ev_callSi 14 [.int a1, .int 0, .int (x1 - 1)] [] dX8_tally_11 rfl okS_X8_23 rfl rfl (Nat.le_of_ble_eq_true rfl) rfl (Nat.le_of_ble_eq_true rfl) (Nat.le_of_ble_eq_true rfl) (R_X8_in rfl) ?_
  refine ev_if_eq 39 17 dX8_tally_14 rfl rfl (fun hc317 => ?_) (fun hc317 => ?_)
  · rw [if_pos hc317] at hF
    refine ev_iconst 40 dX8_tally_39 rfl kI_m1 ?_
    have hF := Option.some.inj hF
    subst hF
    exact ev_ireturn dX8_tally_40 rfl rfl
  · rw [if_neg hc317] at hF
    refine ev_aload_n (i := 0) 18 dX8_tally_17 rfl rfl rfl ?_
    refine ev_iload_n (i := 2) 19 dX8_tally_18 rfl rfl rfl ?_
    obtain ⟨x2, hx2, hF⟩ := tv_bind hF
    refine ev_callVi (i := 125) 22 [.int a2] [] dX8_tally_19 rfl okV_X8_82 rfl rfl (Nat.le_of_ble_eq_true rfl) (Nat.le_of_ble_eq_true rfl) HPg_125 rfl (Nat.le_of_ble_eq_true rfl) (Nat.le_of_ble_eq_true rfl) (R_X8_isMember hx2) ?_
    refine ev_if_eq 39 25 dX8_tally_22 rfl rfl (fun hc318 => ?_) (fun hc318 => ?_)
    · rw [if_pos hc318] at hF
      refine ev_iconst 40 dX8_tally_39 rfl kI_m1 ?_
      have hF := Option.some.inj hF
      subst hF
      exact ev_ireturn dX8_tally_40 rfl rfl
    · rw [if_neg hc318] at hF
      refine ev_aload_n (i := 0) 26 dX8_tally_25 rfl rfl rfl ?_
      refine ev_getfield 29 dX8_tally_26 rfl okf_X8_7 (Nat.le_of_ble_eq_true rfl) HPg_125 rfl ?_
      refine ev_aload_n (i := 0) 30 dX8_tally_29 rfl rfl rfl ?_
      refine ev_iload_n (i := 1) 31 dX8_tally_30 rfl rfl rfl ?_
      refine ev_iload_n (i := 2) 32 dX8_tally_31 rfl rfl rfl ?_
      refine ev_callVi (i := 125) 35 [.int a1, .int a2] [.ref 126] dX8_tally_32 rfl okV_X8_107 rfl rfl (Nat.le_of_ble_eq_true rfl) (Nat.le_of_ble_eq_true rfl) HPg_125 rfl (Nat.le_of_ble_eq_true rfl) (Nat.le_of_ble_eq_true rfl) (R_X8_tallyAt rfl) ?_
      obtain ⟨x3, hx3, hF⟩ := tv_bind hF
      refine ev_iaload 36 dX8_tally_35 rfl (Nat.le_of_ble_eq_true rfl) HPg_126 hx3 ?_
      refine ev_goto 40 dX8_tally_36 rfl ?_
      have hF := Option.some.inj hF
      subst hF
      exact ev_ireturn dX8_tally_40 rfl rfl

set_option maxRecDepth 100000 in
set_option maxHeartbeats 4000000 in
theorem R_X8_ballot {g : tv_G} {l : Launch} {si : Nat → Int32} {sa : Nat → Nat → Int32} {hs : Nat → (Nat → Int32) × (Nat → Nat → Int32)} {tx : Nat → Int32} {tl : Int32} {hc : Int32} {hn : Int32} {v : Nat → Int32} {pa : Nat → Int32} {mt : Nat → Int32} {pm : Int32} {ty : Int32} {ra : Int32} {a1 : Int32} {a2 : Int32} {p : Int32} (hF : F_X8_ballot v a1 a2 = some p) : tv_E g l yX8_ballot cX8_ballot 3 (some .int) 2 0 0 0 [.ref 125, .int a1, .int a2] [] (HP si sa hs tx tl hc hn v pa mt pm ty ra) (some (.int p)) (HP si sa hs tx tl hc hn v pa mt pm ty ra) := by
  unfold F_X8_ballot at hF
  refine ev_aload_n (i := 0) 1 dX8_ballot_0 rfl rfl rfl ?_
  refine ev_iload_n (i := 1) 2 dX8_ballot_1 rfl rfl rfl ?_
  obtain ⟨x1, hx1, hF⟩ := tv_bind hF
  refine ev_callVi (i := 125) 5 [.int a1] [] dX8_ballot_2 rfl okV_X8_82 rfl rfl (Nat.le_of_ble_eq_true rfl) (Nat.le_of_ble_eq_true rfl) HPg_125 rfl (Nat.le_of_ble_eq_true rfl) (Nat.le_of_ble_eq_true rfl) (R_X8_isMember hx1) ?_
  refine ev_if_eq 12 8 dX8_ballot_5 rfl rfl (fun hc319 => ?_) (fun hc319 => ?_)
  · rw [if_pos hc319] at hF
    refine ev_iconst 13 dX8_ballot_12 rfl kI_m1 ?_
    have hF := Option.some.inj hF
    subst hF
    exact ev_ireturn dX8_ballot_13 rfl rfl
  · rw [if_neg hc319] at hF
    refine ev_iload_n (i := 2) 9 dX8_ballot_8 rfl rfl rfl ?_
    refine ev_if_ge 14 12 dX8_ballot_9 rfl rfl (fun hc320 => ?_) (fun hc320 => ?_)
    · rw [if_pos hc320] at hF
      refine ev_aload_n (i := 0) 15 dX8_ballot_14 rfl rfl rfl ?_
      refine ev_getfield 18 dX8_ballot_15 rfl okf_X8_7 (Nat.le_of_ble_eq_true rfl) HPg_125 rfl ?_
      refine ev_bipush 20 dX8_ballot_18 rfl kB_11 ?_
      obtain ⟨x2, hx2, hF⟩ := tv_bind hF
      refine ev_iaload 21 dX8_ballot_20 rfl (Nat.le_of_ble_eq_true rfl) HPg_126 hx2 ?_
      refine ev_if_ne 27 24 dX8_ballot_21 rfl rfl (fun hc321 => ?_) (fun hc321 => ?_)
      · rw [if_neg hc321] at hF
        refine ev_iload_n (i := 2) 28 dX8_ballot_27 rfl rfl rfl ?_
        refine ev_aload_n (i := 0) 29 dX8_ballot_28 rfl rfl rfl ?_
        refine ev_getfield 32 dX8_ballot_29 rfl okf_X8_7 (Nat.le_of_ble_eq_true rfl) HPg_125 rfl ?_
        refine ev_iload_n (i := 1) 33 dX8_ballot_32 rfl rfl rfl ?_
        refine ev_iconst 34 dX8_ballot_33 rfl kI_4 ?_
        refine ev_callSi 37 [.int a1, .int 4] [.ref 126, .int a2] dX8_ballot_34 rfl okS_X8_27 rfl rfl (Nat.le_of_ble_eq_true rfl) rfl (Nat.le_of_ble_eq_true rfl) (Nat.le_of_ble_eq_true rfl) (R_X8_at rfl) ?_
        obtain ⟨x3, hx3, hF⟩ := tv_bind hF
        refine ev_iaload 38 dX8_ballot_37 rfl (Nat.le_of_ble_eq_true rfl) HPg_126 hx3 ?_
        refine ev_icmp_ge 56 41 dX8_ballot_38 rfl rfl (fun hc322 => ?_) (fun hc322 => ?_)
        · rw [if_pos hc322] at hF
          refine ev_bipush 58 dX8_ballot_56 rfl kB_m9 ?_
          have hF := Option.some.inj hF
          subst hF
          exact ev_ireturn dX8_ballot_58 rfl rfl
        · rw [if_neg hc322] at hF
          refine ev_aload_n (i := 0) 42 dX8_ballot_41 rfl rfl rfl ?_
          refine ev_getfield 45 dX8_ballot_42 rfl okf_X8_7 (Nat.le_of_ble_eq_true rfl) HPg_125 rfl ?_
          refine ev_iload_n (i := 1) 46 dX8_ballot_45 rfl rfl rfl ?_
          refine ev_iconst 47 dX8_ballot_46 rfl kI_5 ?_
          refine ev_iload_n (i := 2) 48 dX8_ballot_47 rfl rfl rfl ?_
          refine ev_iadd 49 dX8_ballot_48 rfl ?_
          refine ev_callSi 52 [.int a1, .int (5 + a2)] [.ref 126] dX8_ballot_49 rfl okS_X8_27 rfl rfl (Nat.le_of_ble_eq_true rfl) rfl (Nat.le_of_ble_eq_true rfl) (Nat.le_of_ble_eq_true rfl) (R_X8_at rfl) ?_
          obtain ⟨x4, hx4, hF⟩ := tv_bind hF
          refine ev_iaload 53 dX8_ballot_52 rfl (Nat.le_of_ble_eq_true rfl) HPg_126 hx4 ?_
          refine ev_goto 58 dX8_ballot_53 rfl ?_
          have hF := Option.some.inj hF
          subst hF
          exact ev_ireturn dX8_ballot_58 rfl rfl
      · rw [if_pos hc321] at hF
        refine ev_bipush 26 dX8_ballot_24 rfl kB_m2 ?_
        have hF := Option.some.inj hF
        subst hF
        exact ev_ireturn dX8_ballot_26 rfl rfl
    · rw [if_neg hc320] at hF
      refine ev_iconst 13 dX8_ballot_12 rfl kI_m1 ?_
      have hF := Option.some.inj hF
      subst hF
      exact ev_ireturn dX8_ballot_13 rfl rfl

set_option maxRecDepth 100000 in
set_option maxHeartbeats 4000000 in
theorem R_X8_office {g : tv_G} {l : Launch} {si : Nat → Int32} {sa : Nat → Nat → Int32} {hs : Nat → (Nat → Int32) × (Nat → Nat → Int32)} {tx : Nat → Int32} {tl : Int32} {hc : Int32} {hn : Int32} {v : Nat → Int32} {pa : Nat → Int32} {mt : Nat → Int32} {pm : Int32} {ty : Int32} {ra : Int32}  {p : Int32} (hF : F_X8_office v = some p) : tv_E g l yX8_office cX8_office 1 (some .int) 0 0 0 0 [.ref 125] [] (HP si sa hs tx tl hc hn v pa mt pm ty ra) (some (.int p)) (HP si sa hs tx tl hc hn v pa mt pm ty ra) := by
  unfold F_X8_office at hF
  refine ev_aload_n (i := 0) 1 dX8_office_0 rfl rfl rfl ?_
  refine ev_getfield 4 dX8_office_1 rfl okf_X8_7 (Nat.le_of_ble_eq_true rfl) HPg_125 rfl ?_
  refine ev_bipush 6 dX8_office_4 rfl kB_7 ?_
  obtain ⟨x1, hx1, hF⟩ := tv_bind hF
  refine ev_iaload 7 dX8_office_6 rfl (Nat.le_of_ble_eq_true rfl) HPg_126 hx1 ?_
  have hF := Option.some.inj hF
  subst hF
  exact ev_ireturn dX8_office_7 rfl rfl

set_option maxRecDepth 100000 in
set_option maxHeartbeats 4000000 in
theorem R_X8_holder {g : tv_G} {l : Launch} {si : Nat → Int32} {sa : Nat → Nat → Int32} {hs : Nat → (Nat → Int32) × (Nat → Nat → Int32)} {tx : Nat → Int32} {tl : Int32} {hc : Int32} {hn : Int32} {v : Nat → Int32} {pa : Nat → Int32} {mt : Nat → Int32} {pm : Int32} {ty : Int32} {ra : Int32}  {p : Int32} (hF : F_X8_holder v = some p) : tv_E g l yX8_holder cX8_holder 1 (some .int) 0 0 0 0 [.ref 125] [] (HP si sa hs tx tl hc hn v pa mt pm ty ra) (some (.int p)) (HP si sa hs tx tl hc hn v pa mt pm ty ra) := by
  unfold F_X8_holder at hF
  refine ev_aload_n (i := 0) 1 dX8_holder_0 rfl rfl rfl ?_
  refine ev_getfield 4 dX8_holder_1 rfl okf_X8_7 (Nat.le_of_ble_eq_true rfl) HPg_125 rfl ?_
  refine ev_bipush 6 dX8_holder_4 rfl kB_8 ?_
  obtain ⟨x1, hx1, hF⟩ := tv_bind hF
  refine ev_iaload 7 dX8_holder_6 rfl (Nat.le_of_ble_eq_true rfl) HPg_126 hx1 ?_
  have hF := Option.some.inj hF
  subst hF
  exact ev_ireturn dX8_holder_7 rfl rfl

set_option maxRecDepth 100000 in
set_option maxHeartbeats 4000000 in
theorem R_X8_deed {g : tv_G} {l : Launch} {si : Nat → Int32} {sa : Nat → Nat → Int32} {hs : Nat → (Nat → Int32) × (Nat → Nat → Int32)} {tx : Nat → Int32} {tl : Int32} {hc : Int32} {hn : Int32} {v : Nat → Int32} {pa : Nat → Int32} {mt : Nat → Int32} {pm : Int32} {ty : Int32} {ra : Int32} {a1 : Int32} {p : Int32 × (Nat → Int32) × (Nat → Int32) × Int32} (hF : F_X8_deed v pa pm a1 = some p) : tv_E g l yX8_deed cX8_deed 3 (some .int) 1 0 0 0 [.ref 125, .int a1, .null] [] (HP si sa hs tx tl hc hn v pa mt pm ty ra) (some (.int p.1)) (HP si sa hs tx tl hc hn p.2.1 p.2.2.1 mt p.2.2.2 ty ra) := by
  unfold F_X8_deed at hF
  refine ev_aload_n (i := 0) 1 dX8_deed_0 rfl rfl rfl ?_
  refine ev_getfield 4 dX8_deed_1 rfl okf_X8_7 (Nat.le_of_ble_eq_true rfl) HPg_125 rfl ?_
  refine ev_bipush 6 dX8_deed_4 rfl kB_7 ?_
  obtain ⟨x1, hx1, hF⟩ := tv_bind hF
  refine ev_iaload 7 dX8_deed_6 rfl (Nat.le_of_ble_eq_true rfl) HPg_126 hx1 ?_
  refine ev_iconst 8 dX8_deed_7 rfl kI_2 ?_
  obtain ⟨x4, hBx4, hF⟩ := tv_bind hF
  have Jx4 : tv_E g l yX8_deed cX8_deed 3 (some .int) 1 0 0 42 [.ref 125, .null, .null] [.int x4] (HP si sa hs tx tl hc hn v pa mt pm ty ra) (some (.int p.1)) (HP si sa hs tx tl hc hn p.2.1 p.2.2.1 mt p.2.2.2 ty ra) := by
    refine ev_istore_n (i := 2) (L2 := [.ref 125, .null, .int x4]) 43 dX8_deed_42 rfl rfl (Nat.le_of_ble_eq_true rfl) rfl ?_
    refine ev_iload_n (i := 2) 44 dX8_deed_43 rfl rfl rfl ?_
    refine ev_bipush 46 dX8_deed_44 rfl kB_m20 ?_
    refine ev_bipush 48 dX8_deed_46 rfl kB_20 ?_
    refine ev_callSi 51 [.int x4, .int (-20), .int 20] [] dX8_deed_48 rfl okS_X8_23 rfl rfl (Nat.le_of_ble_eq_true rfl) rfl (Nat.le_of_ble_eq_true rfl) (Nat.le_of_ble_eq_true rfl) (R_X8_in rfl) ?_
    refine ev_if_ne 57 54 dX8_deed_51 rfl rfl (fun hc323 => ?_) (fun hc323 => ?_)
    · rw [if_neg hc323] at hF
      refine ev_aload_n (i := 0) 58 dX8_deed_57 rfl rfl rfl ?_
      obtain ⟨x5, hx5, hF⟩ := tv_bind hF
      refine ev_callVv (i := 125) 61 [] [] dX8_deed_58 rfl okV_X8_73 rfl rfl (Nat.le_of_ble_eq_true rfl) (Nat.le_of_ble_eq_true rfl) HPg_125 rfl (Nat.le_of_ble_eq_true rfl) (Nat.le_of_ble_eq_true rfl) (R_X8_act hx5) ?_
      refine ev_aload_n (i := 0) 62 dX8_deed_61 rfl rfl rfl ?_
      refine ev_getfield 65 dX8_deed_62 rfl okf_X8_7 (Nat.le_of_ble_eq_true rfl) HPg_125 rfl ?_
      refine ev_aload_n (i := 0) 66 dX8_deed_65 rfl rfl rfl ?_
      refine ev_getfield 69 dX8_deed_66 rfl okf_X8_7 (Nat.le_of_ble_eq_true rfl) HPg_125 rfl ?_
      refine ev_bipush 71 dX8_deed_69 rfl kB_9 ?_
      obtain ⟨x6, hx6, hF⟩ := tv_bind hF
      refine ev_iaload 72 dX8_deed_71 rfl (Nat.le_of_ble_eq_true rfl) HPg_126 hx6 ?_
      refine ev_iconst 73 dX8_deed_72 rfl kI_4 ?_
      refine ev_callSi 76 [.int x6, .int 4] [.ref 126] dX8_deed_73 rfl okS_X8_31 rfl rfl (Nat.le_of_ble_eq_true rfl) rfl (Nat.le_of_ble_eq_true rfl) (Nat.le_of_ble_eq_true rfl) (R_X8_of rfl) ?_
      refine ev_iload_n (i := 2) 77 dX8_deed_76 rfl rfl rfl ?_
      obtain ⟨x7, hx7, hF⟩ := tv_bind hF
      refine ev_iastore 78 dX8_deed_77 rfl (Nat.le_of_ble_eq_true rfl) HPg_126 hx7 HPa_126 ?_
      refine ev_iload_n (i := 2) 79 dX8_deed_78 rfl rfl rfl ?_
      have hF := Option.some.inj hF
      subst hF
      exact ev_ireturn dX8_deed_79 rfl rfl
    · rw [if_pos hc323] at hF
      refine ev_bipush 56 dX8_deed_54 rfl kB_m2 ?_
      have hF := Option.some.inj hF
      subst hF
      exact ev_ireturn dX8_deed_56 rfl rfl
  clear hF
  refine ev_icmp_ne 40 11 dX8_deed_8 rfl rfl (fun hc324 => ?_) (fun hc324 => ?_)
  · rw [if_neg hc324] at hBx4
    refine ev_bipush 42 dX8_deed_40 rfl kB_99 ?_
    have hBx4 := Option.some.inj hBx4
    subst hBx4
    refine ev_weak [.ref 125, .null, .null] ⟨Or.inr rfl, ⟨Or.inl rfl, ⟨Or.inl rfl, trivial⟩⟩⟩ ?_
    exact Jx4
  · rw [if_pos hc324] at hBx4
    refine ev_aload_n (i := 0) 12 dX8_deed_11 rfl rfl rfl ?_
    refine ev_getfield 15 dX8_deed_12 rfl okf_X8_7 (Nat.le_of_ble_eq_true rfl) HPg_125 rfl ?_
    refine ev_aload_n (i := 0) 16 dX8_deed_15 rfl rfl rfl ?_
    refine ev_getfield 19 dX8_deed_16 rfl okf_X8_7 (Nat.le_of_ble_eq_true rfl) HPg_125 rfl ?_
    refine ev_bipush 21 dX8_deed_19 rfl kB_9 ?_
    obtain ⟨x2, hx2, hBx4⟩ := tv_bind hBx4
    refine ev_iaload 22 dX8_deed_21 rfl (Nat.le_of_ble_eq_true rfl) HPg_126 hx2 ?_
    refine ev_iconst 23 dX8_deed_22 rfl kI_4 ?_
    refine ev_callSi 26 [.int x2, .int 4] [.ref 126] dX8_deed_23 rfl okS_X8_31 rfl rfl (Nat.le_of_ble_eq_true rfl) rfl (Nat.le_of_ble_eq_true rfl) (Nat.le_of_ble_eq_true rfl) (R_X8_of rfl) ?_
    obtain ⟨x3, hx3, hBx4⟩ := tv_bind hBx4
    refine ev_iaload 27 dX8_deed_26 rfl (Nat.le_of_ble_eq_true rfl) HPg_126 hx3 ?_
    refine ev_iload_n (i := 1) 28 dX8_deed_27 rfl rfl rfl ?_
    refine ev_if_eq 35 31 dX8_deed_28 rfl rfl (fun hc325 => ?_) (fun hc325 => ?_)
    · rw [if_pos hc325] at hBx4
      refine ev_iconst 36 dX8_deed_35 rfl kI_m1 ?_
      refine ev_iadd 37 dX8_deed_36 rfl ?_
      refine ev_goto 42 dX8_deed_37 rfl ?_
      have hBx4 := Option.some.inj hBx4
      subst hBx4
      refine ev_weak [.ref 125, .null, .null] ⟨Or.inr rfl, ⟨Or.inl rfl, ⟨Or.inl rfl, trivial⟩⟩⟩ ?_
      exact Jx4
    · rw [if_neg hc325] at hBx4
      refine ev_iconst 32 dX8_deed_31 rfl kI_1 ?_
      refine ev_goto 36 dX8_deed_32 rfl ?_
      refine ev_iadd 37 dX8_deed_36 rfl ?_
      refine ev_goto 42 dX8_deed_37 rfl ?_
      have hBx4 := Option.some.inj hBx4
      subst hBx4
      refine ev_weak [.ref 125, .null, .null] ⟨Or.inr rfl, ⟨Or.inl rfl, ⟨Or.inl rfl, trivial⟩⟩⟩ ?_
      exact Jx4

set_option maxRecDepth 100000 in
set_option maxHeartbeats 4000000 in
theorem R_X8_sign {g : tv_G} {l : Launch} {si : Nat → Int32} {sa : Nat → Nat → Int32} {hs : Nat → (Nat → Int32) × (Nat → Nat → Int32)} {tx : Nat → Int32} {tl : Int32} {hc : Int32} {hn : Int32} {v : Nat → Int32} {pa : Nat → Int32} {mt : Nat → Int32} {pm : Int32} {ty : Int32} {ra : Int32} {a1 : Int32} {a2 : Int32} {p : Int32 × (Nat → Int32) × (Nat → Int32) × Int32} (hF : F_X8_sign v pa pm a1 a2 = some p) : tv_E g l yX8_sign cX8_sign 3 (some .int) 7 0 0 0 [.ref 125, .int a1, .int a2] [] (HP si sa hs tx tl hc hn v pa mt pm ty ra) (some (.int p.1)) (HP si sa hs tx tl hc hn p.2.1 p.2.2.1 mt p.2.2.2 ty ra) := by
  unfold F_X8_sign at hF
  refine ev_aload_n (i := 0) 1 dX8_sign_0 rfl rfl rfl ?_
  refine ev_iload_n (i := 1) 2 dX8_sign_1 rfl rfl rfl ?_
  obtain ⟨x1, hx1, hF⟩ := tv_bind hF
  refine ev_callVi (i := 125) 5 [.int a1] [] dX8_sign_2 rfl okV_X8_82 rfl rfl (Nat.le_of_ble_eq_true rfl) (Nat.le_of_ble_eq_true rfl) HPg_125 rfl (Nat.le_of_ble_eq_true rfl) (Nat.le_of_ble_eq_true rfl) (R_X8_isMember hx1) ?_
  refine ev_if_ne 10 8 dX8_sign_5 rfl rfl (fun hc326 => ?_) (fun hc326 => ?_)
  · rw [if_neg hc326] at hF
    refine ev_aload_n (i := 0) 11 dX8_sign_10 rfl rfl rfl ?_
    refine ev_getfield 14 dX8_sign_11 rfl okf_X8_7 (Nat.le_of_ble_eq_true rfl) HPg_125 rfl ?_
    refine ev_bipush 16 dX8_sign_14 rfl kB_7 ?_
    obtain ⟨x2, hx2, hF⟩ := tv_bind hF
    refine ev_iaload 17 dX8_sign_16 rfl (Nat.le_of_ble_eq_true rfl) HPg_126 hx2 ?_
    refine ev_iconst 18 dX8_sign_17 rfl kI_2 ?_
    refine ev_icmp_ne 62 21 dX8_sign_18 rfl rfl (fun hc327 => ?_) (fun hc327 => ?_)
    · rw [if_neg hc327] at hF
      refine ev_bipush 64 dX8_sign_62 rfl kB_m2 ?_
      have hF := Option.some.inj hF
      subst hF
      exact ev_ireturn dX8_sign_64 rfl rfl
    · rw [if_pos hc327] at hF
      refine ev_aload_n (i := 0) 22 dX8_sign_21 rfl rfl rfl ?_
      refine ev_iload_n (i := 1) 23 dX8_sign_22 rfl rfl rfl ?_
      obtain ⟨x3, hx3, hF⟩ := tv_bind hF
      refine ev_callVi (i := 125) 26 [.int a1] [] dX8_sign_23 rfl okV_X8_41 rfl rfl (Nat.le_of_ble_eq_true rfl) (Nat.le_of_ble_eq_true rfl) HPg_125 rfl (Nat.le_of_ble_eq_true rfl) (Nat.le_of_ble_eq_true rfl) (R_X8_isPresent hx3) ?_
      refine ev_if_eq 62 29 dX8_sign_26 rfl rfl (fun hc328 => ?_) (fun hc328 => ?_)
      · rw [if_pos hc328] at hF
        refine ev_bipush 64 dX8_sign_62 rfl kB_m2 ?_
        have hF := Option.some.inj hF
        subst hF
        exact ev_ireturn dX8_sign_64 rfl rfl
      · rw [if_neg hc328] at hF
        refine ev_iload_n (i := 1) 30 dX8_sign_29 rfl rfl rfl ?_
        refine ev_aload_n (i := 0) 31 dX8_sign_30 rfl rfl rfl ?_
        refine ev_getfield 34 dX8_sign_31 rfl okf_X8_7 (Nat.le_of_ble_eq_true rfl) HPg_125 rfl ?_
        refine ev_bipush 36 dX8_sign_34 rfl kB_8 ?_
        obtain ⟨x4, hx4, hF⟩ := tv_bind hF
        refine ev_iaload 37 dX8_sign_36 rfl (Nat.le_of_ble_eq_true rfl) HPg_126 hx4 ?_
        refine ev_icmp_eq 62 40 dX8_sign_37 rfl rfl (fun hc329 => ?_) (fun hc329 => ?_)
        · rw [if_pos hc329] at hF
          refine ev_bipush 64 dX8_sign_62 rfl kB_m2 ?_
          have hF := Option.some.inj hF
          subst hF
          exact ev_ireturn dX8_sign_64 rfl rfl
        · rw [if_neg hc329] at hF
          refine ev_aload_n (i := 0) 41 dX8_sign_40 rfl rfl rfl ?_
          refine ev_getfield 44 dX8_sign_41 rfl okf_X8_7 (Nat.le_of_ble_eq_true rfl) HPg_125 rfl ?_
          refine ev_iload_n (i := 1) 45 dX8_sign_44 rfl rfl rfl ?_
          refine ev_iconst 46 dX8_sign_45 rfl kI_3 ?_
          refine ev_callSi 49 [.int a1, .int 3] [.ref 126] dX8_sign_46 rfl okS_X8_27 rfl rfl (Nat.le_of_ble_eq_true rfl) rfl (Nat.le_of_ble_eq_true rfl) (Nat.le_of_ble_eq_true rfl) (R_X8_at rfl) ?_
          obtain ⟨x5, hx5, hF⟩ := tv_bind hF
          refine ev_iaload 50 dX8_sign_49 rfl (Nat.le_of_ble_eq_true rfl) HPg_126 hx5 ?_
          refine ev_iload_n (i := 2) 51 dX8_sign_50 rfl rfl rfl ?_
          obtain ⟨x6, hBx6, hF⟩ := tv_bind hF
          have Jx6 : tv_E g l yX8_sign cX8_sign 3 (some .int) 7 0 0 59 [.ref 125, .int a1, .int a2] [.int x6, .int x5] (HP si sa hs tx tl hc hn v pa mt pm ty ra) (some (.int p.1)) (HP si sa hs tx tl hc hn p.2.1 p.2.2.1 mt p.2.2.2 ty ra) := by
            refine ev_icmp_ne 65 62 dX8_sign_59 rfl rfl (fun hc330 => ?_) (fun hc330 => ?_)
            · rw [if_neg hc330] at hF
              refine ev_aload_n (i := 0) 66 dX8_sign_65 rfl rfl rfl ?_
              obtain ⟨x7, hx7, hF⟩ := tv_bind hF
              refine ev_callVv (i := 125) 69 [] [] dX8_sign_66 rfl okV_X8_73 rfl rfl (Nat.le_of_ble_eq_true rfl) (Nat.le_of_ble_eq_true rfl) HPg_125 rfl (Nat.le_of_ble_eq_true rfl) (Nat.le_of_ble_eq_true rfl) (R_X8_act hx7) ?_
              refine ev_aload_n (i := 0) 70 dX8_sign_69 rfl rfl rfl ?_
              refine ev_getfield 73 dX8_sign_70 rfl okf_X8_7 (Nat.le_of_ble_eq_true rfl) HPg_125 rfl ?_
              refine ev_iload_n (i := 1) 74 dX8_sign_73 rfl rfl rfl ?_
              refine ev_iconst 75 dX8_sign_74 rfl kI_3 ?_
              refine ev_callSi 78 [.int a1, .int 3] [.ref 126] dX8_sign_75 rfl okS_X8_27 rfl rfl (Nat.le_of_ble_eq_true rfl) rfl (Nat.le_of_ble_eq_true rfl) (Nat.le_of_ble_eq_true rfl) (R_X8_at rfl) ?_
              refine ev_iload_n (i := 2) 79 dX8_sign_78 rfl rfl rfl ?_
              obtain ⟨x8, hBx8, hF⟩ := tv_bind hF
              have Jx8 : tv_E g l yX8_sign cX8_sign 3 (some .int) 7 0 0 87 [.ref 125, .null, .int a2] [.int x8, .int (F_X8_at a1 3), .ref 126] (HP si sa hs tx tl hc hn v x7.1 mt x7.2 ty ra) (some (.int p.1)) (HP si sa hs tx tl hc hn p.2.1 p.2.2.1 mt p.2.2.2 ty ra) := by
                obtain ⟨x9, hx9, hF⟩ := tv_bind hF
                refine ev_iastore 88 dX8_sign_87 rfl (Nat.le_of_ble_eq_true rfl) HPg_126 hx9 HPa_126 ?_
                refine ev_iload_n (i := 2) 89 dX8_sign_88 rfl rfl rfl ?_
                obtain ⟨x11, hBx11, hF⟩ := tv_bind hF
                have Jx11 : tv_E g l yX8_sign cX8_sign 3 (some .int) 7 0 0 96 [.ref 125, .null, .null] [] (HP si sa hs tx tl hc hn x11 x7.1 mt x7.2 ty ra) (some (.int p.1)) (HP si sa hs tx tl hc hn p.2.1 p.2.2.1 mt p.2.2.2 ty ra) := by
                  refine ev_aload_n (i := 0) 97 dX8_sign_96 rfl rfl rfl ?_
                  refine ev_getfield 100 dX8_sign_97 rfl okf_X8_7 (Nat.le_of_ble_eq_true rfl) HPg_125 rfl ?_
                  refine ev_bipush 102 dX8_sign_100 rfl kB_7 ?_
                  obtain ⟨x12, hx12, hF⟩ := tv_bind hF
                  refine ev_iaload 103 dX8_sign_102 rfl (Nat.le_of_ble_eq_true rfl) HPg_126 hx12 ?_
                  refine ev_iconst 104 dX8_sign_103 rfl kI_2 ?_
                  refine ev_icmp_ne 114 107 dX8_sign_104 rfl rfl (fun hc331 => ?_) (fun hc331 => ?_)
                  · rw [if_neg hc331] at hF
                    refine ev_iconst 115 dX8_sign_114 rfl kI_0 ?_
                    have hF := Option.some.inj hF
                    subst hF
                    exact ev_ireturn dX8_sign_115 rfl rfl
                  · rw [if_pos hc331] at hF
                    refine ev_aload_n (i := 0) 108 dX8_sign_107 rfl rfl rfl ?_
                    obtain ⟨x13, hx13, hF⟩ := tv_bind hF
                    refine ev_callVi (i := 125) 111 [] [] dX8_sign_108 rfl okV_X8_63 rfl rfl (Nat.le_of_ble_eq_true rfl) (Nat.le_of_ble_eq_true rfl) HPg_125 rfl (Nat.le_of_ble_eq_true rfl) (Nat.le_of_ble_eq_true rfl) (R_X8_signatures hx13) ?_
                    refine ev_goto 115 dX8_sign_111 rfl ?_
                    have hF := Option.some.inj hF
                    subst hF
                    exact ev_ireturn dX8_sign_115 rfl rfl
                clear hF
                refine ev_if_eq 96 92 dX8_sign_89 rfl rfl (fun hc332 => ?_) (fun hc332 => ?_)
                · rw [if_pos hc332] at hBx11
                  have hBx11 := Option.some.inj hBx11
                  subst hBx11
                  refine ev_weak [.ref 125, .null, .null] ⟨Or.inr rfl, ⟨Or.inl rfl, ⟨Or.inl rfl, trivial⟩⟩⟩ ?_
                  exact Jx11
                · rw [if_neg hc332] at hBx11
                  refine ev_aload_n (i := 0) 93 dX8_sign_92 rfl rfl rfl ?_
                  obtain ⟨x10, hx10, hBx11⟩ := tv_bind hBx11
                  refine ev_callVv (i := 125) 96 [] [] dX8_sign_93 rfl okV_X8_76 rfl rfl (Nat.le_of_ble_eq_true rfl) (Nat.le_of_ble_eq_true rfl) HPg_125 rfl (Nat.le_of_ble_eq_true rfl) (Nat.le_of_ble_eq_true rfl) (R_X8_looks hx10) ?_
                  have hBx11 := Option.some.inj hBx11
                  subst hBx11
                  refine ev_weak [.ref 125, .null, .null] ⟨Or.inr rfl, ⟨Or.inl rfl, ⟨Or.inl rfl, trivial⟩⟩⟩ ?_
                  exact Jx11
              clear hF
              refine ev_if_eq 86 82 dX8_sign_79 rfl rfl (fun hc333 => ?_) (fun hc333 => ?_)
              · rw [if_pos hc333] at hBx8
                refine ev_iconst 87 dX8_sign_86 rfl kI_0 ?_
                have hBx8 := Option.some.inj hBx8
                subst hBx8
                refine ev_weak [.ref 125, .null, .int a2] ⟨Or.inr rfl, ⟨Or.inl rfl, ⟨Or.inr rfl, trivial⟩⟩⟩ ?_
                exact Jx8
              · rw [if_neg hc333] at hBx8
                refine ev_iconst 83 dX8_sign_82 rfl kI_1 ?_
                refine ev_goto 87 dX8_sign_83 rfl ?_
                have hBx8 := Option.some.inj hBx8
                subst hBx8
                refine ev_weak [.ref 125, .null, .int a2] ⟨Or.inr rfl, ⟨Or.inl rfl, ⟨Or.inr rfl, trivial⟩⟩⟩ ?_
                exact Jx8
            · rw [if_pos hc330] at hF
              refine ev_bipush 64 dX8_sign_62 rfl kB_m2 ?_
              have hF := Option.some.inj hF
              subst hF
              exact ev_ireturn dX8_sign_64 rfl rfl
          clear hF
          refine ev_if_eq 58 54 dX8_sign_51 rfl rfl (fun hc334 => ?_) (fun hc334 => ?_)
          · rw [if_pos hc334] at hBx6
            refine ev_iconst 59 dX8_sign_58 rfl kI_0 ?_
            have hBx6 := Option.some.inj hBx6
            subst hBx6
            exact Jx6
          · rw [if_neg hc334] at hBx6
            refine ev_iconst 55 dX8_sign_54 rfl kI_1 ?_
            refine ev_goto 59 dX8_sign_55 rfl ?_
            have hBx6 := Option.some.inj hBx6
            subst hBx6
            exact Jx6
  · rw [if_pos hc326] at hF
    refine ev_iconst 9 dX8_sign_8 rfl kI_m1 ?_
    have hF := Option.some.inj hF
    subst hF
    exact ev_ireturn dX8_sign_9 rfl rfl

set_option maxRecDepth 100000 in
set_option maxHeartbeats 4000000 in
theorem R_X8_isTerm {g : tv_G} {l : Launch} {si : Nat → Int32} {sa : Nat → Nat → Int32} {hs : Nat → (Nat → Int32) × (Nat → Nat → Int32)} {tx : Nat → Int32} {tl : Int32} {hc : Int32} {hn : Int32} {v : Nat → Int32} {pa : Nat → Int32} {mt : Nat → Int32} {pm : Int32} {ty : Int32} {ra : Int32} {a1 : Int32} {p : Int32} (hF : F_X8_isTerm v a1 = some p) : tv_E g l yX8_isTerm cX8_isTerm 2 (some .boolean) 1 0 0 0 [.ref 125, .int a1] [] (HP si sa hs tx tl hc hn v pa mt pm ty ra) (some (.int p)) (HP si sa hs tx tl hc hn v pa mt pm ty ra) := by
  unfold F_X8_isTerm at hF
  refine ev_iload_n (i := 1) 1 dX8_isTerm_0 rfl rfl rfl ?_
  refine ev_iconst 2 dX8_isTerm_1 rfl kI_1 ?_
  refine ev_aload_n (i := 0) 3 dX8_isTerm_2 rfl rfl rfl ?_
  refine ev_getfield 6 dX8_isTerm_3 rfl okf_X8_7 (Nat.le_of_ble_eq_true rfl) HPg_125 rfl ?_
  refine ev_bipush 8 dX8_isTerm_6 rfl kB_9 ?_
  obtain ⟨x1, hx1, hF⟩ := tv_bind hF
  refine ev_iaload 9 dX8_isTerm_8 rfl (Nat.le_of_ble_eq_true rfl) HPg_126 hx1 ?_
  refine ev_callSi 12 [.int a1, .int 1, .int x1] [] dX8_isTerm_9 rfl okS_X8_23 rfl rfl (Nat.le_of_ble_eq_true rfl) rfl (Nat.le_of_ble_eq_true rfl) (Nat.le_of_ble_eq_true rfl) (R_X8_in rfl) ?_
  by_cases hz2 : ¬ ((F_X8_in a1 1 x1) = 0 ∨ (F_X8_in a1 1 x1) = 1)
  · rw [if_pos hz2] at hF; cases hF
  rw [if_neg hz2] at hF
  have hF := Option.some.inj hF
  subst hF
  exact ev_ireturn dX8_isTerm_12 rfl (tv_nz hz2)

set_option maxRecDepth 100000 in
set_option maxHeartbeats 4000000 in
theorem R_X8_grade {g : tv_G} {l : Launch} {si : Nat → Int32} {sa : Nat → Nat → Int32} {hs : Nat → (Nat → Int32) × (Nat → Nat → Int32)} {tx : Nat → Int32} {tl : Int32} {hc : Int32} {hn : Int32} {v : Nat → Int32} {pa : Nat → Int32} {mt : Nat → Int32} {pm : Int32} {ty : Int32} {ra : Int32} {a1 : Int32} {a2 : Int32} {a3 : Int32} {a4 : Int32} {p : Int32 × (Nat → Int32) × (Nat → Int32) × Int32} (hF : F_X8_grade v pa pm a1 a2 a3 a4 = some p) : tv_E g l yX8_grade cX8_grade 6 (some .int) 2 0 0 0 [.ref 125, .int a1, .int a2, .int a3, .int a4, .null] [] (HP si sa hs tx tl hc hn v pa mt pm ty ra) (some (.int p.1)) (HP si sa hs tx tl hc hn p.2.1 p.2.2.1 mt p.2.2.2 ty ra) := by
  unfold F_X8_grade at hF
  refine ev_aload_n (i := 0) 1 dX8_grade_0 rfl rfl rfl ?_
  refine ev_iload_n (i := 1) 2 dX8_grade_1 rfl rfl rfl ?_
  obtain ⟨x1, hx1, hF⟩ := tv_bind hF
  refine ev_callVi (i := 125) 5 [.int a1] [] dX8_grade_2 rfl okV_X8_82 rfl rfl (Nat.le_of_ble_eq_true rfl) (Nat.le_of_ble_eq_true rfl) HPg_125 rfl (Nat.le_of_ble_eq_true rfl) (Nat.le_of_ble_eq_true rfl) (R_X8_isMember hx1) ?_
  refine ev_if_eq 26 8 dX8_grade_5 rfl rfl (fun hc335 => ?_) (fun hc335 => ?_)
  · rw [if_pos hc335] at hF
    refine ev_iconst 27 dX8_grade_26 rfl kI_m1 ?_
    have hF := Option.some.inj hF
    subst hF
    exact ev_ireturn dX8_grade_27 rfl rfl
  · rw [if_neg hc335] at hF
    refine ev_aload_n (i := 0) 9 dX8_grade_8 rfl rfl rfl ?_
    refine ev_iload_n (i := 2) 10 dX8_grade_9 rfl rfl rfl ?_
    obtain ⟨x2, hx2, hF⟩ := tv_bind hF
    refine ev_callVi (i := 125) 13 [.int a2] [] dX8_grade_10 rfl okV_X8_125 rfl rfl (Nat.le_of_ble_eq_true rfl) (Nat.le_of_ble_eq_true rfl) HPg_125 rfl (Nat.le_of_ble_eq_true rfl) (Nat.le_of_ble_eq_true rfl) (R_X8_isTerm hx2) ?_
    refine ev_if_eq 26 16 dX8_grade_13 rfl rfl (fun hc336 => ?_) (fun hc336 => ?_)
    · rw [if_pos hc336] at hF
      refine ev_iconst 27 dX8_grade_26 rfl kI_m1 ?_
      have hF := Option.some.inj hF
      subst hF
      exact ev_ireturn dX8_grade_27 rfl rfl
    · rw [if_neg hc336] at hF
      refine ev_iload_n (i := 3) 17 dX8_grade_16 rfl rfl rfl ?_
      refine ev_iconst 18 dX8_grade_17 rfl kI_0 ?_
      refine ev_bipush 20 dX8_grade_18 rfl kB_10 ?_
      refine ev_callSi 23 [.int a3, .int 0, .int 10] [] dX8_grade_20 rfl okS_X8_23 rfl rfl (Nat.le_of_ble_eq_true rfl) rfl (Nat.le_of_ble_eq_true rfl) (Nat.le_of_ble_eq_true rfl) (R_X8_in rfl) ?_
      refine ev_if_ne 28 26 dX8_grade_23 rfl rfl (fun hc337 => ?_) (fun hc337 => ?_)
      · rw [if_neg hc337] at hF
        refine ev_aload_n (i := 0) 29 dX8_grade_28 rfl rfl rfl ?_
        refine ev_getfield 32 dX8_grade_29 rfl okf_X8_7 (Nat.le_of_ble_eq_true rfl) HPg_125 rfl ?_
        refine ev_iload_n (i := 2) 33 dX8_grade_32 rfl rfl rfl ?_
        refine ev_iconst 34 dX8_grade_33 rfl kI_3 ?_
        refine ev_callSi 37 [.int a2, .int 3] [.ref 126] dX8_grade_34 rfl okS_X8_31 rfl rfl (Nat.le_of_ble_eq_true rfl) rfl (Nat.le_of_ble_eq_true rfl) (Nat.le_of_ble_eq_true rfl) (R_X8_of rfl) ?_
        obtain ⟨x3, hx3, hF⟩ := tv_bind hF
        refine ev_iaload 38 dX8_grade_37 rfl (Nat.le_of_ble_eq_true rfl) HPg_126 hx3 ?_
        refine ev_bipush 40 dX8_grade_38 rfl kB_m9 ?_
        obtain ⟨x6, hBx6, hF⟩ := tv_bind hF
        have Jx6 : tv_E g l yX8_grade cX8_grade 6 (some .int) 2 0 0 71 [.ref 125, .int a1, .int a2, .int a3, .int a4, .null] [.int x6] (HP si sa hs tx tl hc hn v pa mt pm ty ra) (some (.int p.1)) (HP si sa hs tx tl hc hn p.2.1 p.2.2.1 mt p.2.2.2 ty ra) := by
          refine ev_istore (L2 := [.ref 125, .int a1, .int a2, .int a3, .int a4, .int x6]) 73 dX8_grade_71 rfl (Nat.le_of_ble_eq_true rfl) rfl ?_
          refine ev_iload 75 dX8_grade_73 rfl rfl ?_
          refine ev_if_eq 110 78 dX8_grade_75 rfl rfl (fun hc338 => ?_) (fun hc338 => ?_)
          · rw [if_pos hc338] at hF
            refine ev_bipush 112 dX8_grade_110 rfl kB_m2 ?_
            have hF := Option.some.inj hF
            subst hF
            exact ev_ireturn dX8_grade_112 rfl rfl
          · rw [if_neg hc338] at hF
            refine ev_iload_n (i := 1) 79 dX8_grade_78 rfl rfl rfl ?_
            refine ev_aload_n (i := 0) 80 dX8_grade_79 rfl rfl rfl ?_
            refine ev_getfield 83 dX8_grade_80 rfl okf_X8_7 (Nat.le_of_ble_eq_true rfl) HPg_125 rfl ?_
            refine ev_iload_n (i := 2) 84 dX8_grade_83 rfl rfl rfl ?_
            refine ev_iconst 85 dX8_grade_84 rfl kI_0 ?_
            refine ev_callSi 88 [.int a2, .int 0] [.ref 126, .int a1] dX8_grade_85 rfl okS_X8_31 rfl rfl (Nat.le_of_ble_eq_true rfl) rfl (Nat.le_of_ble_eq_true rfl) (Nat.le_of_ble_eq_true rfl) (R_X8_of rfl) ?_
            obtain ⟨x7, hx7, hF⟩ := tv_bind hF
            refine ev_iaload 89 dX8_grade_88 rfl (Nat.le_of_ble_eq_true rfl) HPg_126 hx7 ?_
            refine ev_icmp_eq 110 92 dX8_grade_89 rfl rfl (fun hc339 => ?_) (fun hc339 => ?_)
            · rw [if_pos hc339] at hF
              refine ev_bipush 112 dX8_grade_110 rfl kB_m2 ?_
              have hF := Option.some.inj hF
              subst hF
              exact ev_ireturn dX8_grade_112 rfl rfl
            · rw [if_neg hc339] at hF
              refine ev_aload_n (i := 0) 93 dX8_grade_92 rfl rfl rfl ?_
              refine ev_getfield 96 dX8_grade_93 rfl okf_X8_7 (Nat.le_of_ble_eq_true rfl) HPg_125 rfl ?_
              refine ev_iload_n (i := 2) 97 dX8_grade_96 rfl rfl rfl ?_
              refine ev_bipush 99 dX8_grade_97 rfl kB_6 ?_
              refine ev_callSi 102 [.int a2, .int 6] [.ref 126] dX8_grade_99 rfl okS_X8_31 rfl rfl (Nat.le_of_ble_eq_true rfl) rfl (Nat.le_of_ble_eq_true rfl) (Nat.le_of_ble_eq_true rfl) (R_X8_of rfl) ?_
              obtain ⟨x8, hx8, hF⟩ := tv_bind hF
              refine ev_iaload 103 dX8_grade_102 rfl (Nat.le_of_ble_eq_true rfl) HPg_126 hx8 ?_
              refine ev_iload_n (i := 1) 104 dX8_grade_103 rfl rfl rfl ?_
              refine ev_ishr 105 dX8_grade_104 rfl ?_
              refine ev_iconst 106 dX8_grade_105 rfl kI_1 ?_
              refine ev_iand 107 dX8_grade_106 rfl ?_
              refine ev_if_ne 113 110 dX8_grade_107 rfl rfl (fun hc340 => ?_) (fun hc340 => ?_)
              · rw [if_neg hc340] at hF
                refine ev_iload 115 dX8_grade_113 rfl rfl ?_
                refine ev_bipush 117 dX8_grade_115 rfl kB_31 ?_
                refine ev_iload_n (i := 2) 118 dX8_grade_117 rfl rfl rfl ?_
                refine ev_imul 119 dX8_grade_118 rfl ?_
                refine ev_bipush 121 dX8_grade_119 rfl kB_17 ?_
                refine ev_iload_n (i := 1) 122 dX8_grade_121 rfl rfl rfl ?_
                refine ev_imul 123 dX8_grade_122 rfl ?_
                refine ev_iadd 124 dX8_grade_123 rfl ?_
                refine ev_bipush 126 dX8_grade_124 rfl kB_7 ?_
                refine ev_iload_n (i := 3) 127 dX8_grade_126 rfl rfl rfl ?_
                refine ev_imul 128 dX8_grade_127 rfl ?_
                refine ev_iadd 129 dX8_grade_128 rfl ?_
                refine ev_aload_n (i := 0) 130 dX8_grade_129 rfl rfl rfl ?_
                refine ev_getfield 133 dX8_grade_130 rfl okf_X8_7 (Nat.le_of_ble_eq_true rfl) HPg_125 rfl ?_
                refine ev_iload_n (i := 1) 134 dX8_grade_133 rfl rfl rfl ?_
                refine ev_iconst 135 dX8_grade_134 rfl kI_0 ?_
                refine ev_callSi 138 [.int a1, .int 0] [.ref 126, .int (((31 * a2) + (17 * a1)) + (7 * a3)), .int a4] dX8_grade_135 rfl okS_X8_27 rfl rfl (Nat.le_of_ble_eq_true rfl) rfl (Nat.le_of_ble_eq_true rfl) (Nat.le_of_ble_eq_true rfl) (R_X8_at rfl) ?_
                obtain ⟨x9, hx9, hF⟩ := tv_bind hF
                refine ev_iaload 139 dX8_grade_138 rfl (Nat.le_of_ble_eq_true rfl) HPg_126 hx9 ?_
                refine ev_iadd 140 dX8_grade_139 rfl ?_
                refine ev_sipush 143 dX8_grade_140 rfl kS_997 ?_
                refine ev_irem 144 dX8_grade_143 rfl (by decide) ?_
                refine ev_icmp_eq 150 147 dX8_grade_144 rfl rfl (fun hc341 => ?_) (fun hc341 => ?_)
                · rw [if_pos hc341] at hF
                  refine ev_aload_n (i := 0) 151 dX8_grade_150 rfl rfl rfl ?_
                  obtain ⟨x10, hx10, hF⟩ := tv_bind hF
                  refine ev_callVv (i := 125) 154 [] [] dX8_grade_151 rfl okV_X8_73 rfl rfl (Nat.le_of_ble_eq_true rfl) (Nat.le_of_ble_eq_true rfl) HPg_125 rfl (Nat.le_of_ble_eq_true rfl) (Nat.le_of_ble_eq_true rfl) (R_X8_act hx10) ?_
                  refine ev_aload_n (i := 0) 155 dX8_grade_154 rfl rfl rfl ?_
                  refine ev_getfield 158 dX8_grade_155 rfl okf_X8_7 (Nat.le_of_ble_eq_true rfl) HPg_125 rfl ?_
                  refine ev_iload_n (i := 2) 159 dX8_grade_158 rfl rfl rfl ?_
                  refine ev_bipush 161 dX8_grade_159 rfl kB_7 ?_
                  refine ev_callSi 164 [.int a2, .int 7] [.ref 126] dX8_grade_161 rfl okS_X8_31 rfl rfl (Nat.le_of_ble_eq_true rfl) rfl (Nat.le_of_ble_eq_true rfl) (Nat.le_of_ble_eq_true rfl) (R_X8_of rfl) ?_
                  refine ev_dup2 165 dX8_grade_164 rfl rfl rfl ?_
                  obtain ⟨x11, hx11, hF⟩ := tv_bind hF
                  refine ev_iaload 166 dX8_grade_165 rfl (Nat.le_of_ble_eq_true rfl) HPg_126 hx11 ?_
                  refine ev_iconst 167 dX8_grade_166 rfl kI_1 ?_
                  refine ev_iload_n (i := 1) 168 dX8_grade_167 rfl rfl rfl ?_
                  refine ev_ishl 169 dX8_grade_168 rfl ?_
                  refine ev_ior 170 dX8_grade_169 rfl ?_
                  obtain ⟨x12, hx12, hF⟩ := tv_bind hF
                  refine ev_iastore 171 dX8_grade_170 rfl (Nat.le_of_ble_eq_true rfl) HPg_126 hx12 HPa_126 ?_
                  refine ev_aload_n (i := 0) 172 dX8_grade_171 rfl rfl rfl ?_
                  refine ev_getfield 175 dX8_grade_172 rfl okf_X8_7 (Nat.le_of_ble_eq_true rfl) HPg_125 rfl ?_
                  refine ev_iload_n (i := 2) 176 dX8_grade_175 rfl rfl rfl ?_
                  refine ev_bipush 178 dX8_grade_176 rfl kB_8 ?_
                  refine ev_iload_n (i := 1) 179 dX8_grade_178 rfl rfl rfl ?_
                  refine ev_iadd 180 dX8_grade_179 rfl ?_
                  refine ev_callSi 183 [.int a2, .int (8 + a1)] [.ref 126] dX8_grade_180 rfl okS_X8_31 rfl rfl (Nat.le_of_ble_eq_true rfl) rfl (Nat.le_of_ble_eq_true rfl) (Nat.le_of_ble_eq_true rfl) (R_X8_of rfl) ?_
                  refine ev_iload_n (i := 3) 184 dX8_grade_183 rfl rfl rfl ?_
                  obtain ⟨x13, hx13, hF⟩ := tv_bind hF
                  refine ev_iastore 185 dX8_grade_184 rfl (Nat.le_of_ble_eq_true rfl) HPg_126 hx13 HPa_126 ?_
                  refine ev_aload_n (i := 0) 186 dX8_grade_185 rfl rfl rfl ?_
                  refine ev_iload_n (i := 2) 187 dX8_grade_186 rfl rfl rfl ?_
                  obtain ⟨x14, hx14, hF⟩ := tv_bind hF
                  refine ev_callVi (i := 125) 190 [.int a2] [] dX8_grade_187 rfl okV_X8_34 rfl rfl (Nat.le_of_ble_eq_true rfl) (Nat.le_of_ble_eq_true rfl) HPg_125 rfl (Nat.le_of_ble_eq_true rfl) (Nat.le_of_ble_eq_true rfl) (R_X8_grades hx14) ?_
                  have hF := Option.some.inj hF
                  subst hF
                  exact ev_ireturn dX8_grade_190 rfl rfl
                · rw [if_neg hc341] at hF
                  refine ev_bipush 149 dX8_grade_147 rfl kB_m5 ?_
                  have hF := Option.some.inj hF
                  subst hF
                  exact ev_ireturn dX8_grade_149 rfl rfl
              · rw [if_pos hc340] at hF
                refine ev_bipush 112 dX8_grade_110 rfl kB_m2 ?_
                have hF := Option.some.inj hF
                subst hF
                exact ev_ireturn dX8_grade_112 rfl rfl
        clear hF
        refine ev_icmp_eq 70 43 dX8_grade_40 rfl rfl (fun hc342 => ?_) (fun hc342 => ?_)
        · rw [if_pos hc342] at hBx6
          refine ev_iconst 71 dX8_grade_70 rfl kI_0 ?_
          have hBx6 := Option.some.inj hBx6
          subst hBx6
          exact Jx6
        · rw [if_neg hc342] at hBx6
          refine ev_aload_n (i := 0) 44 dX8_grade_43 rfl rfl rfl ?_
          refine ev_getfield 47 dX8_grade_44 rfl okf_X8_7 (Nat.le_of_ble_eq_true rfl) HPg_125 rfl ?_
          refine ev_bipush 49 dX8_grade_47 rfl kB_6 ?_
          obtain ⟨x4, hx4, hBx6⟩ := tv_bind hBx6
          refine ev_iaload 50 dX8_grade_49 rfl (Nat.le_of_ble_eq_true rfl) HPg_126 hx4 ?_
          refine ev_aload_n (i := 0) 51 dX8_grade_50 rfl rfl rfl ?_
          refine ev_getfield 54 dX8_grade_51 rfl okf_X8_7 (Nat.le_of_ble_eq_true rfl) HPg_125 rfl ?_
          refine ev_iload_n (i := 2) 55 dX8_grade_54 rfl rfl rfl ?_
          refine ev_iconst 56 dX8_grade_55 rfl kI_3 ?_
          refine ev_callSi 59 [.int a2, .int 3] [.ref 126, .int x4] dX8_grade_56 rfl okS_X8_31 rfl rfl (Nat.le_of_ble_eq_true rfl) rfl (Nat.le_of_ble_eq_true rfl) (Nat.le_of_ble_eq_true rfl) (R_X8_of rfl) ?_
          obtain ⟨x5, hx5, hBx6⟩ := tv_bind hBx6
          refine ev_iaload 60 dX8_grade_59 rfl (Nat.le_of_ble_eq_true rfl) HPg_126 hx5 ?_
          refine ev_isub 61 dX8_grade_60 rfl ?_
          refine ev_bipush 63 dX8_grade_61 rfl kB_50 ?_
          refine ev_icmp_gt 70 66 dX8_grade_63 rfl rfl (fun hc343 => ?_) (fun hc343 => ?_)
          · rw [if_pos hc343] at hBx6
            refine ev_iconst 71 dX8_grade_70 rfl kI_0 ?_
            have hBx6 := Option.some.inj hBx6
            subst hBx6
            exact Jx6
          · rw [if_neg hc343] at hBx6
            refine ev_iconst 67 dX8_grade_66 rfl kI_1 ?_
            refine ev_goto 71 dX8_grade_67 rfl ?_
            have hBx6 := Option.some.inj hBx6
            subst hBx6
            exact Jx6
      · rw [if_pos hc337] at hF
        refine ev_iconst 27 dX8_grade_26 rfl kI_m1 ?_
        have hF := Option.some.inj hF
        subst hF
        exact ev_ireturn dX8_grade_27 rfl rfl

set_option maxRecDepth 100000 in
set_option maxHeartbeats 4000000 in
theorem R_X8_toldOf {g : tv_G} {l : Launch} {si : Nat → Int32} {sa : Nat → Nat → Int32} {hs : Nat → (Nat → Int32) × (Nat → Nat → Int32)} {tx : Nat → Int32} {tl : Int32} {hc : Int32} {hn : Int32} {v : Nat → Int32} {pa : Nat → Int32} {mt : Nat → Int32} {pm : Int32} {ty : Int32} {ra : Int32} {a1 : Int32} {a2 : Int32} {p : Int32} (hF : F_X8_toldOf v a1 a2 = some p) : tv_E g l yX8_toldOf cX8_toldOf 3 (some .int) 3 0 0 0 [.ref 125, .int a1, .int a2] [] (HP si sa hs tx tl hc hn v pa mt pm ty ra) (some (.int p)) (HP si sa hs tx tl hc hn v pa mt pm ty ra) := by
  unfold F_X8_toldOf at hF
  refine ev_iload_n (i := 2) 1 dX8_toldOf_0 rfl rfl rfl ?_
  refine ev_bipush 3 dX8_toldOf_1 rfl kB_6 ?_
  refine ev_icmp_ge 17 6 dX8_toldOf_3 rfl rfl (fun hc344 => ?_) (fun hc344 => ?_)
  · rw [if_pos hc344] at hF
    refine ev_iload_n (i := 2) 18 dX8_toldOf_17 rfl rfl rfl ?_
    refine ev_bipush 20 dX8_toldOf_18 rfl kB_6 ?_
    refine ev_icmp_ne 31 23 dX8_toldOf_20 rfl rfl (fun hc345 => ?_) (fun hc345 => ?_)
    · rw [if_neg hc345] at hF
      refine ev_aload_n (i := 0) 32 dX8_toldOf_31 rfl rfl rfl ?_
      refine ev_getfield 35 dX8_toldOf_32 rfl okf_X8_7 (Nat.le_of_ble_eq_true rfl) HPg_125 rfl ?_
      refine ev_iload_n (i := 1) 36 dX8_toldOf_35 rfl rfl rfl ?_
      refine ev_iconst 37 dX8_toldOf_36 rfl kI_3 ?_
      refine ev_callSi 40 [.int a1, .int 3] [.ref 126] dX8_toldOf_37 rfl okS_X8_31 rfl rfl (Nat.le_of_ble_eq_true rfl) rfl (Nat.le_of_ble_eq_true rfl) (Nat.le_of_ble_eq_true rfl) (R_X8_of rfl) ?_
      obtain ⟨x1, hx1, hF⟩ := tv_bind hF
      refine ev_iaload 41 dX8_toldOf_40 rfl (Nat.le_of_ble_eq_true rfl) HPg_126 hx1 ?_
      refine ev_bipush 43 dX8_toldOf_41 rfl kB_m9 ?_
      refine ev_icmp_ne 51 46 dX8_toldOf_43 rfl rfl (fun hc346 => ?_) (fun hc346 => ?_)
      · rw [if_neg hc346] at hF
        refine ev_aload_n (i := 0) 52 dX8_toldOf_51 rfl rfl rfl ?_
        refine ev_iload_n (i := 1) 53 dX8_toldOf_52 rfl rfl rfl ?_
        obtain ⟨x2, hx2, hF⟩ := tv_bind hF
        refine ev_callVi (i := 125) 56 [.int a1] [] dX8_toldOf_53 rfl okV_X8_38 rfl rfl (Nat.le_of_ble_eq_true rfl) (Nat.le_of_ble_eq_true rfl) HPg_125 rfl (Nat.le_of_ble_eq_true rfl) (Nat.le_of_ble_eq_true rfl) (R_X8_scoreOf hx2) ?_
        have hF := Option.some.inj hF
        subst hF
        exact ev_ireturn dX8_toldOf_56 rfl rfl
      · rw [if_pos hc346] at hF
        refine ev_bipush 48 dX8_toldOf_46 rfl kB_m9 ?_
        refine ev_goto 56 dX8_toldOf_48 rfl ?_
        have hF := Option.some.inj hF
        subst hF
        exact ev_ireturn dX8_toldOf_56 rfl rfl
    · rw [if_pos hc345] at hF
      refine ev_aload_n (i := 0) 24 dX8_toldOf_23 rfl rfl rfl ?_
      refine ev_iload_n (i := 1) 25 dX8_toldOf_24 rfl rfl rfl ?_
      obtain ⟨x3, hx3, hF⟩ := tv_bind hF
      refine ev_callVi (i := 125) 28 [.int a1] [] dX8_toldOf_25 rfl okV_X8_34 rfl rfl (Nat.le_of_ble_eq_true rfl) (Nat.le_of_ble_eq_true rfl) HPg_125 rfl (Nat.le_of_ble_eq_true rfl) (Nat.le_of_ble_eq_true rfl) (R_X8_grades hx3) ?_
      refine ev_goto 56 dX8_toldOf_28 rfl ?_
      have hF := Option.some.inj hF
      subst hF
      exact ev_ireturn dX8_toldOf_56 rfl rfl
  · rw [if_neg hc344] at hF
    refine ev_aload_n (i := 0) 7 dX8_toldOf_6 rfl rfl rfl ?_
    refine ev_getfield 10 dX8_toldOf_7 rfl okf_X8_7 (Nat.le_of_ble_eq_true rfl) HPg_125 rfl ?_
    refine ev_iload_n (i := 1) 11 dX8_toldOf_10 rfl rfl rfl ?_
    refine ev_iload_n (i := 2) 12 dX8_toldOf_11 rfl rfl rfl ?_
    refine ev_callSi 15 [.int a1, .int a2] [.ref 126] dX8_toldOf_12 rfl okS_X8_31 rfl rfl (Nat.le_of_ble_eq_true rfl) rfl (Nat.le_of_ble_eq_true rfl) (Nat.le_of_ble_eq_true rfl) (R_X8_of rfl) ?_
    obtain ⟨x4, hx4, hF⟩ := tv_bind hF
    refine ev_iaload 16 dX8_toldOf_15 rfl (Nat.le_of_ble_eq_true rfl) HPg_126 hx4 ?_
    have hF := Option.some.inj hF
    subst hF
    exact ev_ireturn dX8_toldOf_16 rfl rfl

set_option maxRecDepth 100000 in
set_option maxHeartbeats 4000000 in
theorem R_X8_term {g : tv_G} {l : Launch} {si : Nat → Int32} {sa : Nat → Nat → Int32} {hs : Nat → (Nat → Int32) × (Nat → Nat → Int32)} {tx : Nat → Int32} {tl : Int32} {hc : Int32} {hn : Int32} {v : Nat → Int32} {pa : Nat → Int32} {mt : Nat → Int32} {pm : Int32} {ty : Int32} {ra : Int32} {a1 : Int32} {a2 : Int32} {p : Int32} (hF : F_X8_term v a1 a2 = some p) : tv_E g l yX8_term cX8_term 3 (some .int) 4 0 0 0 [.ref 125, .int a1, .int a2] [] (HP si sa hs tx tl hc hn v pa mt pm ty ra) (some (.int p)) (HP si sa hs tx tl hc hn v pa mt pm ty ra) := by
  unfold F_X8_term at hF
  refine ev_aload_n (i := 0) 1 dX8_term_0 rfl rfl rfl ?_
  refine ev_iload_n (i := 1) 2 dX8_term_1 rfl rfl rfl ?_
  obtain ⟨x1, hx1, hF⟩ := tv_bind hF
  refine ev_callVi (i := 125) 5 [.int a1] [] dX8_term_2 rfl okV_X8_125 rfl rfl (Nat.le_of_ble_eq_true rfl) (Nat.le_of_ble_eq_true rfl) HPg_125 rfl (Nat.le_of_ble_eq_true rfl) (Nat.le_of_ble_eq_true rfl) (R_X8_isTerm hx1) ?_
  refine ev_if_eq 27 8 dX8_term_5 rfl rfl (fun hc347 => ?_) (fun hc347 => ?_)
  · rw [if_pos hc347] at hF
    refine ev_iconst 28 dX8_term_27 rfl kI_m1 ?_
    have hF := Option.some.inj hF
    subst hF
    exact ev_ireturn dX8_term_28 rfl rfl
  · rw [if_neg hc347] at hF
    refine ev_iload_n (i := 2) 9 dX8_term_8 rfl rfl rfl ?_
    refine ev_iconst 10 dX8_term_9 rfl kI_0 ?_
    refine ev_bipush 12 dX8_term_10 rfl kB_7 ?_
    refine ev_callSi 15 [.int a2, .int 0, .int 7] [] dX8_term_12 rfl okS_X8_23 rfl rfl (Nat.le_of_ble_eq_true rfl) rfl (Nat.le_of_ble_eq_true rfl) (Nat.le_of_ble_eq_true rfl) (R_X8_in rfl) ?_
    refine ev_if_eq 27 18 dX8_term_15 rfl rfl (fun hc348 => ?_) (fun hc348 => ?_)
    · rw [if_pos hc348] at hF
      refine ev_iconst 28 dX8_term_27 rfl kI_m1 ?_
      have hF := Option.some.inj hF
      subst hF
      exact ev_ireturn dX8_term_28 rfl rfl
    · rw [if_neg hc348] at hF
      refine ev_aload_n (i := 0) 19 dX8_term_18 rfl rfl rfl ?_
      refine ev_iload_n (i := 1) 20 dX8_term_19 rfl rfl rfl ?_
      refine ev_iload_n (i := 2) 21 dX8_term_20 rfl rfl rfl ?_
      obtain ⟨x2, hx2, hF⟩ := tv_bind hF
      refine ev_callVi (i := 125) 24 [.int a1, .int a2] [] dX8_term_21 rfl okV_X8_128 rfl rfl (Nat.le_of_ble_eq_true rfl) (Nat.le_of_ble_eq_true rfl) HPg_125 rfl (Nat.le_of_ble_eq_true rfl) (Nat.le_of_ble_eq_true rfl) (R_X8_toldOf hx2) ?_
      refine ev_goto 28 dX8_term_24 rfl ?_
      have hF := Option.some.inj hF
      subst hF
      exact ev_ireturn dX8_term_28 rfl rfl

set_option maxRecDepth 100000 in
set_option maxHeartbeats 4000000 in
theorem R_X8_points {g : tv_G} {l : Launch} {si : Nat → Int32} {sa : Nat → Nat → Int32} {hs : Nat → (Nat → Int32) × (Nat → Nat → Int32)} {tx : Nat → Int32} {tl : Int32} {hc : Int32} {hn : Int32} {v : Nat → Int32} {pa : Nat → Int32} {mt : Nat → Int32} {pm : Int32} {ty : Int32} {ra : Int32} {a1 : Int32} {a2 : Int32} {p : Int32} (hF : F_X8_points v a1 a2 = some p) : tv_E g l yX8_points cX8_points 3 (some .int) 2 0 0 0 [.ref 125, .int a1, .int a2] [] (HP si sa hs tx tl hc hn v pa mt pm ty ra) (some (.int p)) (HP si sa hs tx tl hc hn v pa mt pm ty ra) := by
  unfold F_X8_points at hF
  refine ev_aload_n (i := 0) 1 dX8_points_0 rfl rfl rfl ?_
  refine ev_iload_n (i := 1) 2 dX8_points_1 rfl rfl rfl ?_
  obtain ⟨x1, hx1, hF⟩ := tv_bind hF
  refine ev_callVi (i := 125) 5 [.int a1] [] dX8_points_2 rfl okV_X8_82 rfl rfl (Nat.le_of_ble_eq_true rfl) (Nat.le_of_ble_eq_true rfl) HPg_125 rfl (Nat.le_of_ble_eq_true rfl) (Nat.le_of_ble_eq_true rfl) (R_X8_isMember hx1) ?_
  refine ev_if_eq 16 8 dX8_points_5 rfl rfl (fun hc349 => ?_) (fun hc349 => ?_)
  · rw [if_pos hc349] at hF
    refine ev_iconst 17 dX8_points_16 rfl kI_m1 ?_
    have hF := Option.some.inj hF
    subst hF
    exact ev_ireturn dX8_points_17 rfl rfl
  · rw [if_neg hc349] at hF
    refine ev_aload_n (i := 0) 9 dX8_points_8 rfl rfl rfl ?_
    refine ev_iload_n (i := 2) 10 dX8_points_9 rfl rfl rfl ?_
    obtain ⟨x2, hx2, hF⟩ := tv_bind hF
    refine ev_callVi (i := 125) 13 [.int a2] [] dX8_points_10 rfl okV_X8_125 rfl rfl (Nat.le_of_ble_eq_true rfl) (Nat.le_of_ble_eq_true rfl) HPg_125 rfl (Nat.le_of_ble_eq_true rfl) (Nat.le_of_ble_eq_true rfl) (R_X8_isTerm hx2) ?_
    refine ev_if_ne 18 16 dX8_points_13 rfl rfl (fun hc350 => ?_) (fun hc350 => ?_)
    · rw [if_neg hc350] at hF
      refine ev_aload_n (i := 0) 19 dX8_points_18 rfl rfl rfl ?_
      refine ev_getfield 22 dX8_points_19 rfl okf_X8_7 (Nat.le_of_ble_eq_true rfl) HPg_125 rfl ?_
      refine ev_iload_n (i := 2) 23 dX8_points_22 rfl rfl rfl ?_
      refine ev_bipush 25 dX8_points_23 rfl kB_7 ?_
      refine ev_callSi 28 [.int a2, .int 7] [.ref 126] dX8_points_25 rfl okS_X8_31 rfl rfl (Nat.le_of_ble_eq_true rfl) rfl (Nat.le_of_ble_eq_true rfl) (Nat.le_of_ble_eq_true rfl) (R_X8_of rfl) ?_
      obtain ⟨x3, hx3, hF⟩ := tv_bind hF
      refine ev_iaload 29 dX8_points_28 rfl (Nat.le_of_ble_eq_true rfl) HPg_126 hx3 ?_
      refine ev_iload_n (i := 1) 30 dX8_points_29 rfl rfl rfl ?_
      refine ev_ishr 31 dX8_points_30 rfl ?_
      refine ev_iconst 32 dX8_points_31 rfl kI_1 ?_
      refine ev_iand 33 dX8_points_32 rfl ?_
      refine ev_iconst 34 dX8_points_33 rfl kI_1 ?_
      refine ev_icmp_ne 53 37 dX8_points_34 rfl rfl (fun hc351 => ?_) (fun hc351 => ?_)
      · rw [if_neg hc351] at hF
        refine ev_bipush 55 dX8_points_53 rfl kB_m9 ?_
        have hF := Option.some.inj hF
        subst hF
        exact ev_ireturn dX8_points_55 rfl rfl
      · rw [if_pos hc351] at hF
        refine ev_aload_n (i := 0) 38 dX8_points_37 rfl rfl rfl ?_
        refine ev_getfield 41 dX8_points_38 rfl okf_X8_7 (Nat.le_of_ble_eq_true rfl) HPg_125 rfl ?_
        refine ev_iload_n (i := 2) 42 dX8_points_41 rfl rfl rfl ?_
        refine ev_bipush 44 dX8_points_42 rfl kB_8 ?_
        refine ev_iload_n (i := 1) 45 dX8_points_44 rfl rfl rfl ?_
        refine ev_iadd 46 dX8_points_45 rfl ?_
        refine ev_callSi 49 [.int a2, .int (8 + a1)] [.ref 126] dX8_points_46 rfl okS_X8_31 rfl rfl (Nat.le_of_ble_eq_true rfl) rfl (Nat.le_of_ble_eq_true rfl) (Nat.le_of_ble_eq_true rfl) (R_X8_of rfl) ?_
        obtain ⟨x4, hx4, hF⟩ := tv_bind hF
        refine ev_iaload 50 dX8_points_49 rfl (Nat.le_of_ble_eq_true rfl) HPg_126 hx4 ?_
        refine ev_goto 55 dX8_points_50 rfl ?_
        have hF := Option.some.inj hF
        subst hF
        exact ev_ireturn dX8_points_55 rfl rfl
    · rw [if_pos hc350] at hF
      refine ev_iconst 17 dX8_points_16 rfl kI_m1 ?_
      have hF := Option.some.inj hF
      subst hF
      exact ev_ireturn dX8_points_17 rfl rfl

set_option maxRecDepth 100000 in
set_option maxHeartbeats 4000000 in
theorem R_X8_terms {g : tv_G} {l : Launch} {si : Nat → Int32} {sa : Nat → Nat → Int32} {hs : Nat → (Nat → Int32) × (Nat → Nat → Int32)} {tx : Nat → Int32} {tl : Int32} {hc : Int32} {hn : Int32} {v : Nat → Int32} {pa : Nat → Int32} {mt : Nat → Int32} {pm : Int32} {ty : Int32} {ra : Int32}  {p : Int32} (hF : F_X8_terms v = some p) : tv_E g l yX8_terms cX8_terms 1 (some .int) 0 0 0 0 [.ref 125] [] (HP si sa hs tx tl hc hn v pa mt pm ty ra) (some (.int p)) (HP si sa hs tx tl hc hn v pa mt pm ty ra) := by
  unfold F_X8_terms at hF
  refine ev_aload_n (i := 0) 1 dX8_terms_0 rfl rfl rfl ?_
  refine ev_getfield 4 dX8_terms_1 rfl okf_X8_7 (Nat.le_of_ble_eq_true rfl) HPg_125 rfl ?_
  refine ev_bipush 6 dX8_terms_4 rfl kB_9 ?_
  obtain ⟨x1, hx1, hF⟩ := tv_bind hF
  refine ev_iaload 7 dX8_terms_6 rfl (Nat.le_of_ble_eq_true rfl) HPg_126 hx1 ?_
  have hF := Option.some.inj hF
  subst hF
  exact ev_ireturn dX8_terms_7 rfl rfl

set_option maxRecDepth 100000 in
set_option maxHeartbeats 4000000 in
theorem R_X8_told {g : tv_G} {l : Launch} {si : Nat → Int32} {sa : Nat → Nat → Int32} {hs : Nat → (Nat → Int32) × (Nat → Nat → Int32)} {tx : Nat → Int32} {tl : Int32} {hc : Int32} {hn : Int32} {v : Nat → Int32} {pa : Nat → Int32} {mt : Nat → Int32} {pm : Int32} {ty : Int32} {ra : Int32} {a1 : Int32} {a2 : Int32} {p : Int32} (hF : F_X8_told v a1 a2 = some p) : tv_E g l yX8_told cX8_told 3 (some .int) 4 0 0 0 [.ref 125, .int a1, .int a2] [] (HP si sa hs tx tl hc hn v pa mt pm ty ra) (some (.int p)) (HP si sa hs tx tl hc hn v pa mt pm ty ra) := by
  unfold F_X8_told at hF
  refine ev_iload_n (i := 2) 1 dX8_told_0 rfl rfl rfl ?_
  by_cases hc352 : a2 = 0
  · rw [if_pos hc352] at hF
    refine ev_tableIn (off := 35) 36 dX8_told_1 (by rw [hc352]; decide) (by rw [hc352]; decide) (by rw [hc352]; rfl) rfl ?_
    refine ev_aload_n (i := 0) 37 dX8_told_36 rfl rfl rfl ?_
    refine ev_iload_n (i := 1) 38 dX8_told_37 rfl rfl rfl ?_
    obtain ⟨x1, hx1, hF⟩ := tv_bind hF
    refine ev_callVi (i := 125) 41 [.int a1] [] dX8_told_38 rfl okV_X8_48 rfl rfl (Nat.le_of_ble_eq_true rfl) (Nat.le_of_ble_eq_true rfl) HPg_125 rfl (Nat.le_of_ble_eq_true rfl) (Nat.le_of_ble_eq_true rfl) (R_X8_reputation hx1) ?_
    have hF := Option.some.inj hF
    subst hF
    exact ev_ireturn dX8_told_41 rfl rfl
  rw [if_neg hc352] at hF
  by_cases hc353 : a2 = 1
  · rw [if_pos hc353] at hF
    refine ev_tableIn (off := 41) 42 dX8_told_1 (by rw [hc353]; decide) (by rw [hc353]; decide) (by rw [hc353]; rfl) rfl ?_
    refine ev_aload_n (i := 0) 43 dX8_told_42 rfl rfl rfl ?_
    refine ev_iload_n (i := 1) 44 dX8_told_43 rfl rfl rfl ?_
    obtain ⟨x2, hx2, hF⟩ := tv_bind hF
    refine ev_callVi (i := 125) 47 [.int a1] [] dX8_told_44 rfl okV_X8_45 rfl rfl (Nat.le_of_ble_eq_true rfl) (Nat.le_of_ble_eq_true rfl) HPg_125 rfl (Nat.le_of_ble_eq_true rfl) (Nat.le_of_ble_eq_true rfl) (R_X8_led hx2) ?_
    have hF := Option.some.inj hF
    subst hF
    exact ev_ireturn dX8_told_47 rfl rfl
  rw [if_neg hc353] at hF
  by_cases hc354 : a2 = 2
  · rw [if_pos hc354] at hF
    refine ev_tableIn (off := 47) 48 dX8_told_1 (by rw [hc354]; decide) (by rw [hc354]; decide) (by rw [hc354]; rfl) rfl ?_
    refine ev_aload_n (i := 0) 49 dX8_told_48 rfl rfl rfl ?_
    refine ev_getfield 52 dX8_told_49 rfl okf_X8_7 (Nat.le_of_ble_eq_true rfl) HPg_125 rfl ?_
    refine ev_iload_n (i := 1) 53 dX8_told_52 rfl rfl rfl ?_
    refine ev_iconst 54 dX8_told_53 rfl kI_1 ?_
    refine ev_callSi 57 [.int a1, .int 1] [.ref 126] dX8_told_54 rfl okS_X8_27 rfl rfl (Nat.le_of_ble_eq_true rfl) rfl (Nat.le_of_ble_eq_true rfl) (Nat.le_of_ble_eq_true rfl) (R_X8_at rfl) ?_
    obtain ⟨x3, hx3, hF⟩ := tv_bind hF
    refine ev_iaload 58 dX8_told_57 rfl (Nat.le_of_ble_eq_true rfl) HPg_126 hx3 ?_
    have hF := Option.some.inj hF
    subst hF
    exact ev_ireturn dX8_told_58 rfl rfl
  rw [if_neg hc354] at hF
  by_cases hc355 : a2 = 3
  · rw [if_pos hc355] at hF
    refine ev_tableIn (off := 58) 59 dX8_told_1 (by rw [hc355]; decide) (by rw [hc355]; decide) (by rw [hc355]; rfl) rfl ?_
    refine ev_aload_n (i := 0) 60 dX8_told_59 rfl rfl rfl ?_
    refine ev_iload_n (i := 1) 61 dX8_told_60 rfl rfl rfl ?_
    obtain ⟨x4, hx4, hF⟩ := tv_bind hF
    refine ev_callVi (i := 125) 64 [.int a1] [] dX8_told_61 rfl okV_X8_89 rfl rfl (Nat.le_of_ble_eq_true rfl) (Nat.le_of_ble_eq_true rfl) HPg_125 rfl (Nat.le_of_ble_eq_true rfl) (Nat.le_of_ble_eq_true rfl) (R_X8_canLead hx4) ?_
    refine ev_if_eq 71 67 dX8_told_64 rfl rfl (fun hc356 => ?_) (fun hc356 => ?_)
    · rw [if_pos hc356] at hF
      refine ev_iconst 72 dX8_told_71 rfl kI_0 ?_
      have hF := Option.some.inj hF
      subst hF
      exact ev_ireturn dX8_told_72 rfl rfl
    · rw [if_neg hc356] at hF
      refine ev_iconst 68 dX8_told_67 rfl kI_1 ?_
      refine ev_goto 72 dX8_told_68 rfl ?_
      have hF := Option.some.inj hF
      subst hF
      exact ev_ireturn dX8_told_72 rfl rfl
  rw [if_neg hc355] at hF
  by_cases hc357 : a2 = 4
  · rw [if_pos hc357] at hF
    refine ev_tableIn (off := 72) 73 dX8_told_1 (by rw [hc357]; decide) (by rw [hc357]; decide) (by rw [hc357]; rfl) rfl ?_
    refine ev_aload_n (i := 0) 74 dX8_told_73 rfl rfl rfl ?_
    refine ev_getfield 77 dX8_told_74 rfl okf_X8_7 (Nat.le_of_ble_eq_true rfl) HPg_125 rfl ?_
    refine ev_iload_n (i := 1) 78 dX8_told_77 rfl rfl rfl ?_
    refine ev_iconst 79 dX8_told_78 rfl kI_2 ?_
    refine ev_callSi 82 [.int a1, .int 2] [.ref 126] dX8_told_79 rfl okS_X8_27 rfl rfl (Nat.le_of_ble_eq_true rfl) rfl (Nat.le_of_ble_eq_true rfl) (Nat.le_of_ble_eq_true rfl) (R_X8_at rfl) ?_
    obtain ⟨x5, hx5, hF⟩ := tv_bind hF
    refine ev_iaload 83 dX8_told_82 rfl (Nat.le_of_ble_eq_true rfl) HPg_126 hx5 ?_
    have hF := Option.some.inj hF
    subst hF
    exact ev_ireturn dX8_told_83 rfl rfl
  rw [if_neg hc357] at hF
  refine ev_tableOut 84 dX8_told_1 (tv_out5 hc352 hc353 hc354 hc355 hc357) rfl ?_
  refine ev_aload_n (i := 0) 85 dX8_told_84 rfl rfl rfl ?_
  refine ev_getfield 88 dX8_told_85 rfl okf_X8_7 (Nat.le_of_ble_eq_true rfl) HPg_125 rfl ?_
  refine ev_iload_n (i := 1) 89 dX8_told_88 rfl rfl rfl ?_
  refine ev_iconst 90 dX8_told_89 rfl kI_3 ?_
  refine ev_callSi 93 [.int a1, .int 3] [.ref 126] dX8_told_90 rfl okS_X8_27 rfl rfl (Nat.le_of_ble_eq_true rfl) rfl (Nat.le_of_ble_eq_true rfl) (Nat.le_of_ble_eq_true rfl) (R_X8_at rfl) ?_
  obtain ⟨x6, hx6, hF⟩ := tv_bind hF
  refine ev_iaload 94 dX8_told_93 rfl (Nat.le_of_ble_eq_true rfl) HPg_126 hx6 ?_
  have hF := Option.some.inj hF
  subst hF
  exact ev_ireturn dX8_told_94 rfl rfl

set_option maxRecDepth 100000 in
set_option maxHeartbeats 4000000 in
theorem R_X8_member {g : tv_G} {l : Launch} {si : Nat → Int32} {sa : Nat → Nat → Int32} {hs : Nat → (Nat → Int32) × (Nat → Nat → Int32)} {tx : Nat → Int32} {tl : Int32} {hc : Int32} {hn : Int32} {v : Nat → Int32} {pa : Nat → Int32} {mt : Nat → Int32} {pm : Int32} {ty : Int32} {ra : Int32} {a1 : Int32} {a2 : Int32} {p : Int32} (hF : F_X8_member v a1 a2 = some p) : tv_E g l yX8_member cX8_member 3 (some .int) 5 0 0 0 [.ref 125, .int a1, .int a2] [] (HP si sa hs tx tl hc hn v pa mt pm ty ra) (some (.int p)) (HP si sa hs tx tl hc hn v pa mt pm ty ra) := by
  unfold F_X8_member at hF
  refine ev_aload_n (i := 0) 1 dX8_member_0 rfl rfl rfl ?_
  refine ev_iload_n (i := 1) 2 dX8_member_1 rfl rfl rfl ?_
  obtain ⟨x1, hx1, hF⟩ := tv_bind hF
  refine ev_callVi (i := 125) 5 [.int a1] [] dX8_member_2 rfl okV_X8_82 rfl rfl (Nat.le_of_ble_eq_true rfl) (Nat.le_of_ble_eq_true rfl) HPg_125 rfl (Nat.le_of_ble_eq_true rfl) (Nat.le_of_ble_eq_true rfl) (R_X8_isMember hx1) ?_
  refine ev_if_eq 26 8 dX8_member_5 rfl rfl (fun hc358 => ?_) (fun hc358 => ?_)
  · rw [if_pos hc358] at hF
    refine ev_iconst 27 dX8_member_26 rfl kI_m1 ?_
    have hF := Option.some.inj hF
    subst hF
    exact ev_ireturn dX8_member_27 rfl rfl
  · rw [if_neg hc358] at hF
    refine ev_iload_n (i := 2) 9 dX8_member_8 rfl rfl rfl ?_
    refine ev_iconst 10 dX8_member_9 rfl kI_0 ?_
    refine ev_iconst 11 dX8_member_10 rfl kI_5 ?_
    refine ev_callSi 14 [.int a2, .int 0, .int 5] [] dX8_member_11 rfl okS_X8_23 rfl rfl (Nat.le_of_ble_eq_true rfl) rfl (Nat.le_of_ble_eq_true rfl) (Nat.le_of_ble_eq_true rfl) (R_X8_in rfl) ?_
    refine ev_if_eq 26 17 dX8_member_14 rfl rfl (fun hc359 => ?_) (fun hc359 => ?_)
    · rw [if_pos hc359] at hF
      refine ev_iconst 27 dX8_member_26 rfl kI_m1 ?_
      have hF := Option.some.inj hF
      subst hF
      exact ev_ireturn dX8_member_27 rfl rfl
    · rw [if_neg hc359] at hF
      refine ev_aload_n (i := 0) 18 dX8_member_17 rfl rfl rfl ?_
      refine ev_iload_n (i := 1) 19 dX8_member_18 rfl rfl rfl ?_
      refine ev_iload_n (i := 2) 20 dX8_member_19 rfl rfl rfl ?_
      obtain ⟨x2, hx2, hF⟩ := tv_bind hF
      refine ev_callVi (i := 125) 23 [.int a1, .int a2] [] dX8_member_20 rfl okV_X8_131 rfl rfl (Nat.le_of_ble_eq_true rfl) (Nat.le_of_ble_eq_true rfl) HPg_125 rfl (Nat.le_of_ble_eq_true rfl) (Nat.le_of_ble_eq_true rfl) (R_X8_told hx2) ?_
      refine ev_goto 27 dX8_member_23 rfl ?_
      have hF := Option.some.inj hF
      subst hF
      exact ev_ireturn dX8_member_27 rfl rfl

set_option maxRecDepth 100000 in
set_option maxHeartbeats 4000000 in
theorem R_X8_time {g : tv_G} {l : Launch} {si : Nat → Int32} {sa : Nat → Nat → Int32} {hs : Nat → (Nat → Int32) × (Nat → Nat → Int32)} {tx : Nat → Int32} {tl : Int32} {hc : Int32} {hn : Int32} {v : Nat → Int32} {pa : Nat → Int32} {mt : Nat → Int32} {pm : Int32} {ty : Int32} {ra : Int32}  {p : Int32} (hF : F_X8_time v = some p) : tv_E g l yX8_time cX8_time 1 (some .int) 0 0 0 0 [.ref 125] [] (HP si sa hs tx tl hc hn v pa mt pm ty ra) (some (.int p)) (HP si sa hs tx tl hc hn v pa mt pm ty ra) := by
  unfold F_X8_time at hF
  refine ev_aload_n (i := 0) 1 dX8_time_0 rfl rfl rfl ?_
  refine ev_getfield 4 dX8_time_1 rfl okf_X8_7 (Nat.le_of_ble_eq_true rfl) HPg_125 rfl ?_
  refine ev_bipush 6 dX8_time_4 rfl kB_6 ?_
  obtain ⟨x1, hx1, hF⟩ := tv_bind hF
  refine ev_iaload 7 dX8_time_6 rfl (Nat.le_of_ble_eq_true rfl) HPg_126 hx1 ?_
  have hF := Option.some.inj hF
  subst hF
  exact ev_ireturn dX8_time_7 rfl rfl

set_option maxRecDepth 100000 in
set_option maxHeartbeats 4000000 in
theorem R_X8_events {g : tv_G} {l : Launch} {si : Nat → Int32} {sa : Nat → Nat → Int32} {hs : Nat → (Nat → Int32) × (Nat → Nat → Int32)} {tx : Nat → Int32} {tl : Int32} {hc : Int32} {hn : Int32} {v : Nat → Int32} {pa : Nat → Int32} {mt : Nat → Int32} {pm : Int32} {ty : Int32} {ra : Int32}  {p : Int32} (hF : F_X8_events v = some p) : tv_E g l yX8_events cX8_events 1 (some .int) 0 0 0 0 [.ref 125] [] (HP si sa hs tx tl hc hn v pa mt pm ty ra) (some (.int p)) (HP si sa hs tx tl hc hn v pa mt pm ty ra) := by
  unfold F_X8_events at hF
  refine ev_aload_n (i := 0) 1 dX8_events_0 rfl rfl rfl ?_
  refine ev_getfield 4 dX8_events_1 rfl okf_X8_7 (Nat.le_of_ble_eq_true rfl) HPg_125 rfl ?_
  refine ev_bipush 6 dX8_events_4 rfl kB_12 ?_
  obtain ⟨x1, hx1, hF⟩ := tv_bind hF
  refine ev_iaload 7 dX8_events_6 rfl (Nat.le_of_ble_eq_true rfl) HPg_126 hx1 ?_
  have hF := Option.some.inj hF
  subst hF
  exact ev_ireturn dX8_events_7 rfl rfl

set_option maxRecDepth 100000 in
set_option maxHeartbeats 4000000 in
theorem R_X8_event {g : tv_G} {l : Launch} {si : Nat → Int32} {sa : Nat → Nat → Int32} {hs : Nat → (Nat → Int32) × (Nat → Nat → Int32)} {tx : Nat → Int32} {tl : Int32} {hc : Int32} {hn : Int32} {v : Nat → Int32} {pa : Nat → Int32} {mt : Nat → Int32} {pm : Int32} {ty : Int32} {ra : Int32} {a1 : Int32} {a2 : Int32} {p : Int32} (hF : F_X8_event v a1 a2 = some p) : tv_E g l yX8_event cX8_event 3 (some .int) 1 0 0 0 [.ref 125, .int a1, .int a2] [] (HP si sa hs tx tl hc hn v pa mt pm ty ra) (some (.int p)) (HP si sa hs tx tl hc hn v pa mt pm ty ra) := by
  unfold F_X8_event at hF
  refine ev_iload_n (i := 1) 1 dX8_event_0 rfl rfl rfl ?_
  refine ev_if_lt 13 4 dX8_event_1 rfl rfl (fun hc360 => ?_) (fun hc360 => ?_)
  · rw [if_pos hc360] at hF
    refine ev_iconst 14 dX8_event_13 rfl kI_m1 ?_
    have hF := Option.some.inj hF
    subst hF
    exact ev_ireturn dX8_event_14 rfl rfl
  · rw [if_neg hc360] at hF
    refine ev_iload_n (i := 2) 5 dX8_event_4 rfl rfl rfl ?_
    refine ev_iconst 6 dX8_event_5 rfl kI_0 ?_
    refine ev_iconst 7 dX8_event_6 rfl kI_2 ?_
    refine ev_callSi 10 [.int a2, .int 0, .int 2] [] dX8_event_7 rfl okS_X8_23 rfl rfl (Nat.le_of_ble_eq_true rfl) rfl (Nat.le_of_ble_eq_true rfl) (Nat.le_of_ble_eq_true rfl) (R_X8_in rfl) ?_
    refine ev_if_ne 15 13 dX8_event_10 rfl rfl (fun hc361 => ?_) (fun hc361 => ?_)
    · rw [if_neg hc361] at hF
      refine ev_iload_n (i := 1) 16 dX8_event_15 rfl rfl rfl ?_
      refine ev_bipush 18 dX8_event_16 rfl kB_20 ?_
      refine ev_icmp_ge 62 21 dX8_event_18 rfl rfl (fun hc362 => ?_) (fun hc362 => ?_)
      · rw [if_pos hc362] at hF
        refine ev_bipush 64 dX8_event_62 rfl kB_m9 ?_
        have hF := Option.some.inj hF
        subst hF
        exact ev_ireturn dX8_event_64 rfl rfl
      · rw [if_neg hc362] at hF
        refine ev_iload_n (i := 1) 22 dX8_event_21 rfl rfl rfl ?_
        refine ev_aload_n (i := 0) 23 dX8_event_22 rfl rfl rfl ?_
        refine ev_getfield 26 dX8_event_23 rfl okf_X8_7 (Nat.le_of_ble_eq_true rfl) HPg_125 rfl ?_
        refine ev_bipush 28 dX8_event_26 rfl kB_12 ?_
        obtain ⟨x1, hx1, hF⟩ := tv_bind hF
        refine ev_iaload 29 dX8_event_28 rfl (Nat.le_of_ble_eq_true rfl) HPg_126 hx1 ?_
        refine ev_icmp_ge 62 32 dX8_event_29 rfl rfl (fun hc363 => ?_) (fun hc363 => ?_)
        · rw [if_pos hc363] at hF
          refine ev_bipush 64 dX8_event_62 rfl kB_m9 ?_
          have hF := Option.some.inj hF
          subst hF
          exact ev_ireturn dX8_event_64 rfl rfl
        · rw [if_neg hc363] at hF
          refine ev_aload_n (i := 0) 33 dX8_event_32 rfl rfl rfl ?_
          refine ev_getfield 36 dX8_event_33 rfl okf_X8_7 (Nat.le_of_ble_eq_true rfl) HPg_125 rfl ?_
          refine ev_sipush 39 dX8_event_36 rfl kS_910 ?_
          refine ev_iconst 40 dX8_event_39 rfl kI_3 ?_
          refine ev_aload_n (i := 0) 41 dX8_event_40 rfl rfl rfl ?_
          refine ev_getfield 44 dX8_event_41 rfl okf_X8_7 (Nat.le_of_ble_eq_true rfl) HPg_125 rfl ?_
          refine ev_bipush 46 dX8_event_44 rfl kB_12 ?_
          obtain ⟨x2, hx2, hF⟩ := tv_bind hF
          refine ev_iaload 47 dX8_event_46 rfl (Nat.le_of_ble_eq_true rfl) HPg_126 hx2 ?_
          refine ev_iconst 48 dX8_event_47 rfl kI_1 ?_
          refine ev_isub 49 dX8_event_48 rfl ?_
          refine ev_iload_n (i := 1) 50 dX8_event_49 rfl rfl rfl ?_
          refine ev_isub 51 dX8_event_50 rfl ?_
          refine ev_bipush 53 dX8_event_51 rfl kB_20 ?_
          refine ev_irem 54 dX8_event_53 rfl (by decide) ?_
          refine ev_imul 55 dX8_event_54 rfl ?_
          refine ev_iadd 56 dX8_event_55 rfl ?_
          refine ev_iload_n (i := 2) 57 dX8_event_56 rfl rfl rfl ?_
          refine ev_iadd 58 dX8_event_57 rfl ?_
          obtain ⟨x3, hx3, hF⟩ := tv_bind hF
          refine ev_iaload 59 dX8_event_58 rfl (Nat.le_of_ble_eq_true rfl) HPg_126 hx3 ?_
          refine ev_goto 64 dX8_event_59 rfl ?_
          have hF := Option.some.inj hF
          subst hF
          exact ev_ireturn dX8_event_64 rfl rfl
    · rw [if_pos hc361] at hF
      refine ev_iconst 14 dX8_event_13 rfl kI_m1 ?_
      have hF := Option.some.inj hF
      subst hF
      exact ev_ireturn dX8_event_14 rfl rfl

set_option maxRecDepth 100000 in
set_option maxHeartbeats 4000000 in
theorem R_X8_type {g : tv_G} {l : Launch} {si : Nat → Int32} {sa : Nat → Nat → Int32} {hs : Nat → (Nat → Int32) × (Nat → Nat → Int32)} {tx : Nat → Int32} {tl : Int32} {hc : Int32} {hn : Int32} {v : Nat → Int32} {pa : Nat → Int32} {mt : Nat → Int32} {pm : Int32} {ty : Int32} {ra : Int32} {a1 : Int32} {p : Int32 × (Nat → Int32) × Int32} (hF : F_X8_type mt ty a1 = some p) : tv_E g l yX8_type cX8_type 2 (some .int) 1 0 0 0 [.ref 125, .int a1] [] (HP si sa hs tx tl hc hn v pa mt pm ty ra) (some (.int p.1)) (HP si sa hs tx tl hc hn v pa p.2.1 pm p.2.2 ra) := by
  unfold F_X8_type at hF
  refine ev_iload_n (i := 1) 1 dX8_type_0 rfl rfl rfl ?_
  refine ev_bipush 3 dX8_type_1 rfl kB_32 ?_
  refine ev_bipush 5 dX8_type_3 rfl kB_126 ?_
  refine ev_callSi 8 [.int a1, .int 32, .int 126] [] dX8_type_5 rfl okS_X8_23 rfl rfl (Nat.le_of_ble_eq_true rfl) rfl (Nat.le_of_ble_eq_true rfl) (Nat.le_of_ble_eq_true rfl) (R_X8_in rfl) ?_
  refine ev_if_ne 13 11 dX8_type_8 rfl rfl (fun hc364 => ?_) (fun hc364 => ?_)
  · rw [if_neg hc364] at hF
    refine ev_aload_n (i := 0) 14 dX8_type_13 rfl rfl rfl ?_
    refine ev_getfield 17 dX8_type_14 rfl okf_X8_95 (Nat.le_of_ble_eq_true rfl) HPg_125 rfl ?_
    refine ev_bipush 19 dX8_type_17 rfl kB_40 ?_
    refine ev_icmp_ne 25 22 dX8_type_19 rfl rfl (fun hc365 => ?_) (fun hc365 => ?_)
    · rw [if_neg hc365] at hF
      refine ev_aload_n (i := 0) 26 dX8_type_25 rfl rfl rfl ?_
      refine ev_getfield 29 dX8_type_26 rfl okf_X8_16 (Nat.le_of_ble_eq_true rfl) HPg_125 rfl ?_
      refine ev_aload_n (i := 0) 30 dX8_type_29 rfl rfl rfl ?_
      refine ev_getfield 33 dX8_type_30 rfl okf_X8_95 (Nat.le_of_ble_eq_true rfl) HPg_125 rfl ?_
      refine ev_iload_n (i := 1) 34 dX8_type_33 rfl rfl rfl ?_
      obtain ⟨x1, hx1, hF⟩ := tv_bind hF
      refine ev_iastore 35 dX8_type_34 rfl (Nat.le_of_ble_eq_true rfl) HPg_128 hx1 HPa_128 ?_
      refine ev_aload_n (i := 0) 36 dX8_type_35 rfl rfl rfl ?_
      refine ev_dup 37 dX8_type_36 rfl rfl ?_
      refine ev_getfield 40 dX8_type_37 rfl okf_X8_95 (Nat.le_of_ble_eq_true rfl) HPg_125 rfl ?_
      refine ev_iconst 41 dX8_type_40 rfl kI_1 ?_
      refine ev_iadd 42 dX8_type_41 rfl ?_
      refine ev_putfield 45 dX8_type_42 rfl okf_X8_95 (Nat.le_of_ble_eq_true rfl) HPg_125 (Nat.le_of_ble_eq_true rfl) rfl rfl HPs_125_4 ?_
      refine ev_aload_n (i := 0) 46 dX8_type_45 rfl rfl rfl ?_
      refine ev_getfield 49 dX8_type_46 rfl okf_X8_95 (Nat.le_of_ble_eq_true rfl) HPg_125 rfl ?_
      have hF := Option.some.inj hF
      subst hF
      exact ev_ireturn dX8_type_49 rfl rfl
    · rw [if_pos hc365] at hF
      refine ev_bipush 24 dX8_type_22 rfl kB_m3 ?_
      have hF := Option.some.inj hF
      subst hF
      exact ev_ireturn dX8_type_24 rfl rfl
  · rw [if_pos hc364] at hF
    refine ev_iconst 12 dX8_type_11 rfl kI_m1 ?_
    have hF := Option.some.inj hF
    subst hF
    exact ev_ireturn dX8_type_12 rfl rfl

set_option maxRecDepth 100000 in
set_option maxHeartbeats 4000000 in
theorem R_X8_clear {g : tv_G} {l : Launch} {si : Nat → Int32} {sa : Nat → Nat → Int32} {hs : Nat → (Nat → Int32) × (Nat → Nat → Int32)} {tx : Nat → Int32} {tl : Int32} {hc : Int32} {hn : Int32} {v : Nat → Int32} {pa : Nat → Int32} {mt : Nat → Int32} {pm : Int32} {ty : Int32} {ra : Int32}  {p : Int32 × Int32} (hF : F_X8_clear ty = some p) : tv_E g l yX8_clear cX8_clear 2 (some .int) 0 0 0 0 [.ref 125, .null] [] (HP si sa hs tx tl hc hn v pa mt pm ty ra) (some (.int p.1)) (HP si sa hs tx tl hc hn v pa mt pm p.2 ra) := by
  unfold F_X8_clear at hF
  refine ev_aload_n (i := 0) 1 dX8_clear_0 rfl rfl rfl ?_
  refine ev_getfield 4 dX8_clear_1 rfl okf_X8_95 (Nat.le_of_ble_eq_true rfl) HPg_125 rfl ?_
  refine ev_istore_n (i := 1) (L2 := [.ref 125, .int ty]) 5 dX8_clear_4 rfl rfl (Nat.le_of_ble_eq_true rfl) rfl ?_
  refine ev_aload_n (i := 0) 6 dX8_clear_5 rfl rfl rfl ?_
  refine ev_iconst 7 dX8_clear_6 rfl kI_0 ?_
  refine ev_putfield 10 dX8_clear_7 rfl okf_X8_95 (Nat.le_of_ble_eq_true rfl) HPg_125 (Nat.le_of_ble_eq_true rfl) rfl rfl HPs_125_4 ?_
  refine ev_iload_n (i := 1) 11 dX8_clear_10 rfl rfl rfl ?_
  have hF := Option.some.inj hF
  subst hF
  exact ev_ireturn dX8_clear_11 rfl rfl

set_option maxRecDepth 100000 in
set_option maxHeartbeats 4000000 in
theorem R_X8_undo_L22 {g : tv_G} {l : Launch} {si : Nat → Int32} {sa : Nat → Nat → Int32} {hs : Nat → (Nat → Int32) × (Nat → Nat → Int32)} {tx : Nat → Int32} {tl : Int32} {hc : Int32} {hn : Int32} {pa : Nat → Int32} {mt : Nat → Int32} {pm : Int32} {ty : Int32} {ra : Int32}  {r : Option Value} {h' : tv_Hp} : ∀ (n : Nat) (l1 : Int32) (v : Nat → Int32) (x : (Nat → Int32)), F_X8_undo_L22 pa pm n l1 v = some x → tv_E g l yX8_undo cX8_undo 2 (some .int) 0 0 0 56 [.ref 125, .null] [] (HP si sa hs tx tl hc hn x pa mt pm ty ra) r h' → tv_E g l yX8_undo cX8_undo 2 (some .int) 0 0 0 22 [.ref 125, .int l1] [] (HP si sa hs tx tl hc hn v pa mt pm ty ra) r h' := by
  intro n
  induction n with
  | zero => intro l1 v x hF k; cases hF
  | succ n ih =>
      intro l1 v x hF k
      rw [F_X8_undo_L22] at hF
      refine ev_iload_n (i := 1) 23 dX8_undo_22 rfl rfl rfl ?_
      refine ev_sipush 26 dX8_undo_23 rfl kS_1100 ?_
      refine ev_icmp_ge 56 29 dX8_undo_26 rfl rfl (fun hc366 => ?_) (fun hc366 => ?_)
      · rw [if_pos hc366] at hF
        have hF := Option.some.inj hF
        subst hF
        refine ev_weak [.ref 125, .null] ⟨Or.inr rfl, ⟨Or.inl rfl, trivial⟩⟩ ?_
        exact k
      · rw [if_neg hc366] at hF
        refine ev_aload_n (i := 0) 30 dX8_undo_29 rfl rfl rfl ?_
        refine ev_getfield 33 dX8_undo_30 rfl okf_X8_7 (Nat.le_of_ble_eq_true rfl) HPg_125 rfl ?_
        refine ev_iload_n (i := 1) 34 dX8_undo_33 rfl rfl rfl ?_
        refine ev_aload_n (i := 0) 35 dX8_undo_34 rfl rfl rfl ?_
        refine ev_getfield 38 dX8_undo_35 rfl okf_X8_13 (Nat.le_of_ble_eq_true rfl) HPg_125 rfl ?_
        refine ev_sipush 41 dX8_undo_38 rfl kS_1100 ?_
        refine ev_aload_n (i := 0) 42 dX8_undo_41 rfl rfl rfl ?_
        refine ev_getfield 45 dX8_undo_42 rfl okf_X8_19 (Nat.le_of_ble_eq_true rfl) HPg_125 rfl ?_
        refine ev_imul 46 dX8_undo_45 rfl ?_
        refine ev_iload_n (i := 1) 47 dX8_undo_46 rfl rfl rfl ?_
        refine ev_iadd 48 dX8_undo_47 rfl ?_
        obtain ⟨x1, hx1, hF⟩ := tv_bind hF
        refine ev_iaload 49 dX8_undo_48 rfl (Nat.le_of_ble_eq_true rfl) HPg_127 hx1 ?_
        obtain ⟨x2, hx2, hF⟩ := tv_bind hF
        refine ev_iastore 50 dX8_undo_49 rfl (Nat.le_of_ble_eq_true rfl) HPg_126 hx2 HPa_126 ?_
        refine ev_iinc (L2 := [.ref 125, .int (l1 + 1)]) 53 dX8_undo_50 rfl rfl (kA_1 _) (Nat.le_of_ble_eq_true rfl) rfl ?_
        refine ev_goto 22 dX8_undo_53 rfl ?_
        exact ih _ _ _ hF k

set_option maxRecDepth 100000 in
set_option maxHeartbeats 4000000 in
theorem R_X8_undo {g : tv_G} {l : Launch} {si : Nat → Int32} {sa : Nat → Nat → Int32} {hs : Nat → (Nat → Int32) × (Nat → Nat → Int32)} {tx : Nat → Int32} {tl : Int32} {hc : Int32} {hn : Int32} {v : Nat → Int32} {pa : Nat → Int32} {mt : Nat → Int32} {pm : Int32} {ty : Int32} {ra : Int32}  {p : Int32 × (Nat → Int32) × Int32} (hF : F_X8_undo v pa pm = some p) : tv_E g l yX8_undo cX8_undo 2 (some .int) 0 0 0 0 [.ref 125, .null] [] (HP si sa hs tx tl hc hn v pa mt pm ty ra) (some (.int p.1)) (HP si sa hs tx tl hc hn p.2.1 pa mt p.2.2 ty ra) := by
  unfold F_X8_undo at hF
  refine ev_aload_n (i := 0) 1 dX8_undo_0 rfl rfl rfl ?_
  refine ev_getfield 4 dX8_undo_1 rfl okf_X8_19 (Nat.le_of_ble_eq_true rfl) HPg_125 rfl ?_
  refine ev_if_ne 10 7 dX8_undo_4 rfl rfl (fun hc367 => ?_) (fun hc367 => ?_)
  · rw [if_neg hc367] at hF
    refine ev_aload_n (i := 0) 11 dX8_undo_10 rfl rfl rfl ?_
    refine ev_dup 12 dX8_undo_11 rfl rfl ?_
    refine ev_getfield 15 dX8_undo_12 rfl okf_X8_19 (Nat.le_of_ble_eq_true rfl) HPg_125 rfl ?_
    refine ev_iconst 16 dX8_undo_15 rfl kI_1 ?_
    refine ev_isub 17 dX8_undo_16 rfl ?_
    refine ev_putfield 20 dX8_undo_17 rfl okf_X8_19 (Nat.le_of_ble_eq_true rfl) HPg_125 (Nat.le_of_ble_eq_true rfl) rfl rfl HPs_125_2 ?_
    refine ev_iconst 21 dX8_undo_20 rfl kI_0 ?_
    refine ev_istore_n (i := 1) (L2 := [.ref 125, .int 0]) 22 dX8_undo_21 rfl rfl (Nat.le_of_ble_eq_true rfl) rfl ?_
    obtain ⟨x3, hx3, hF⟩ := tv_bind hF
    refine R_X8_undo_L22 _ _ _ _ hx3 ?_
    refine ev_aload_n (i := 0) 57 dX8_undo_56 rfl rfl rfl ?_
    refine ev_getfield 60 dX8_undo_57 rfl okf_X8_19 (Nat.le_of_ble_eq_true rfl) HPg_125 rfl ?_
    have hF := Option.some.inj hF
    subst hF
    exact ev_ireturn dX8_undo_60 rfl rfl
  · rw [if_pos hc367] at hF
    refine ev_bipush 9 dX8_undo_7 rfl kB_m9 ?_
    have hF := Option.some.inj hF
    subst hF
    exact ev_ireturn dX8_undo_9 rfl rfl

set_option maxRecDepth 100000 in
set_option maxHeartbeats 4000000 in
theorem R_X8_fingerprint_L83 {g : tv_G} {l : Launch} {si : Nat → Int32} {sa : Nat → Nat → Int32} {hs : Nat → (Nat → Int32) × (Nat → Nat → Int32)} {tx : Nat → Int32} {tl : Int32} {hc : Int32} {hn : Int32} {v : Nat → Int32} {pa : Nat → Int32} {mt : Nat → Int32} {pm : Int32} {ty : Int32} {ra : Int32} {l3 : Int32} {r : Option Value} {h' : tv_Hp} : ∀ (n : Nat) (l1 : Int64) (l4 : Int32)  (x : Int64), F_X8_fingerprint_L83 v l3 n l1 l4 = some x → tv_E g l yX8_fingerprint cX8_fingerprint 5 (some .long) 5 0 0 111 [.ref 125, .long x, .null, .int l3, .null] [] (HP si sa hs tx tl hc hn v pa mt pm ty ra) r h' → tv_E g l yX8_fingerprint cX8_fingerprint 5 (some .long) 5 0 0 83 [.ref 125, .long l1, .null, .int l3, .int l4] [] (HP si sa hs tx tl hc hn v pa mt pm ty ra) r h' := by
  intro n
  induction n with
  | zero => intro l1 l4 x hF k; cases hF
  | succ n ih =>
      intro l1 l4 x hF k
      rw [F_X8_fingerprint_L83] at hF
      refine ev_iload 85 dX8_fingerprint_83 rfl rfl ?_
      refine ev_bipush 87 dX8_fingerprint_85 rfl kB_8 ?_
      refine ev_icmp_ge 111 90 dX8_fingerprint_87 rfl rfl (fun hc368 => ?_) (fun hc368 => ?_)
      · rw [if_pos hc368] at hF
        have hF := Option.some.inj hF
        subst hF
        refine ev_weak [.ref 125, .long l1, .null, .int l3, .null] ⟨Or.inr rfl, ⟨Or.inr rfl, ⟨Or.inl rfl, ⟨Or.inr rfl, ⟨Or.inl rfl, trivial⟩⟩⟩⟩⟩ ?_
        exact k
      · rw [if_neg hc368] at hF
        refine ev_ldc2 93 dX8_fingerprint_90 rfl kc_X8_134 ?_
        refine ev_lload_n (i := 1) 94 dX8_fingerprint_93 rfl rfl rfl ?_
        refine ev_lmul 95 dX8_fingerprint_94 rfl ?_
        refine ev_aload_n (i := 0) 96 dX8_fingerprint_95 rfl rfl rfl ?_
        refine ev_iload_n (i := 3) 97 dX8_fingerprint_96 rfl rfl rfl ?_
        refine ev_iload 99 dX8_fingerprint_97 rfl rfl ?_
        obtain ⟨x7, hx7, hF⟩ := tv_bind hF
        refine ev_callVi (i := 125) 102 [.int l3, .int l4] [.long (31 * l1)] dX8_fingerprint_99 rfl okV_X8_128 rfl rfl (Nat.le_of_ble_eq_true rfl) (Nat.le_of_ble_eq_true rfl) HPg_125 rfl (Nat.le_of_ble_eq_true rfl) (Nat.le_of_ble_eq_true rfl) (R_X8_toldOf hx7) ?_
        refine ev_i2l 103 dX8_fingerprint_102 rfl ?_
        refine ev_ladd 104 dX8_fingerprint_103 rfl ?_
        refine ev_lstore_n (i := 1) (L2 := [.ref 125, .long ((31 * l1) + (Int32.toInt64 x7)), .null, .int l3, .int l4]) 105 dX8_fingerprint_104 rfl rfl (Nat.le_of_ble_eq_true rfl) rfl ?_
        refine ev_iinc (L2 := [.ref 125, .long ((31 * l1) + (Int32.toInt64 x7)), .null, .int l3, .int (l4 + 1)]) 108 dX8_fingerprint_105 rfl rfl (kA_1 _) (Nat.le_of_ble_eq_true rfl) rfl ?_
        refine ev_goto 83 dX8_fingerprint_108 rfl ?_
        exact ih _ _ _ hF k

set_option maxRecDepth 100000 in
set_option maxHeartbeats 4000000 in
theorem R_X8_fingerprint_L69 {g : tv_G} {l : Launch} {si : Nat → Int32} {sa : Nat → Nat → Int32} {hs : Nat → (Nat → Int32) × (Nat → Nat → Int32)} {tx : Nat → Int32} {tl : Int32} {hc : Int32} {hn : Int32} {v : Nat → Int32} {pa : Nat → Int32} {mt : Nat → Int32} {pm : Int32} {ty : Int32} {ra : Int32}  {r : Option Value} {h' : tv_Hp} : ∀ (n : Nat) (l1 : Int64) (l3 : Int32)  (x : Int64), F_X8_fingerprint_L69 v n l1 l3 = some x → tv_E g l yX8_fingerprint cX8_fingerprint 5 (some .long) 5 0 0 117 [.ref 125, .long x, .null, .null, .null] [] (HP si sa hs tx tl hc hn v pa mt pm ty ra) r h' → tv_E g l yX8_fingerprint cX8_fingerprint 5 (some .long) 5 0 0 69 [.ref 125, .long l1, .null, .int l3, .null] [] (HP si sa hs tx tl hc hn v pa mt pm ty ra) r h' := by
  intro n
  induction n with
  | zero => intro l1 l3 x hF k; cases hF
  | succ n ih =>
      intro l1 l3 x hF k
      rw [F_X8_fingerprint_L69] at hF
      refine ev_iload_n (i := 3) 70 dX8_fingerprint_69 rfl rfl rfl ?_
      refine ev_aload_n (i := 0) 71 dX8_fingerprint_70 rfl rfl rfl ?_
      refine ev_getfield 74 dX8_fingerprint_71 rfl okf_X8_7 (Nat.le_of_ble_eq_true rfl) HPg_125 rfl ?_
      refine ev_bipush 76 dX8_fingerprint_74 rfl kB_9 ?_
      obtain ⟨x6, hx6, hF⟩ := tv_bind hF
      refine ev_iaload 77 dX8_fingerprint_76 rfl (Nat.le_of_ble_eq_true rfl) HPg_126 hx6 ?_
      refine ev_icmp_gt 117 80 dX8_fingerprint_77 rfl rfl (fun hc369 => ?_) (fun hc369 => ?_)
      · rw [if_pos hc369] at hF
        have hF := Option.some.inj hF
        subst hF
        refine ev_weak [.ref 125, .long l1, .null, .null, .null] ⟨Or.inr rfl, ⟨Or.inr rfl, ⟨Or.inl rfl, ⟨Or.inl rfl, ⟨Or.inl rfl, trivial⟩⟩⟩⟩⟩ ?_
        exact k
      · rw [if_neg hc369] at hF
        refine ev_iconst 81 dX8_fingerprint_80 rfl kI_0 ?_
        refine ev_istore (L2 := [.ref 125, .long l1, .null, .int l3, .int 0]) 83 dX8_fingerprint_81 rfl (Nat.le_of_ble_eq_true rfl) rfl ?_
        obtain ⟨x8, hx8, hF⟩ := tv_bind hF
        refine R_X8_fingerprint_L83 _ _ _ _ hx8 ?_
        refine ev_iinc (L2 := [.ref 125, .long x8, .null, .int (l3 + 1), .null]) 114 dX8_fingerprint_111 rfl rfl (kA_1 _) (Nat.le_of_ble_eq_true rfl) rfl ?_
        refine ev_goto 69 dX8_fingerprint_114 rfl ?_
        exact ih _ _ _ hF k

set_option maxRecDepth 100000 in
set_option maxHeartbeats 4000000 in
theorem R_X8_fingerprint_L148 {g : tv_G} {l : Launch} {si : Nat → Int32} {sa : Nat → Nat → Int32} {hs : Nat → (Nat → Int32) × (Nat → Nat → Int32)} {tx : Nat → Int32} {tl : Int32} {hc : Int32} {hn : Int32} {v : Nat → Int32} {pa : Nat → Int32} {mt : Nat → Int32} {pm : Int32} {ty : Int32} {ra : Int32} {l3 : Int32} {r : Option Value} {h' : tv_Hp} : ∀ (n : Nat) (l1 : Int64) (l4 : Int32)  (x : Int64), F_X8_fingerprint_L148 v l3 n l1 l4 = some x → tv_E g l yX8_fingerprint cX8_fingerprint 5 (some .long) 5 0 0 176 [.ref 125, .long x, .null, .int l3, .null] [] (HP si sa hs tx tl hc hn v pa mt pm ty ra) r h' → tv_E g l yX8_fingerprint cX8_fingerprint 5 (some .long) 5 0 0 148 [.ref 125, .long l1, .null, .int l3, .int l4] [] (HP si sa hs tx tl hc hn v pa mt pm ty ra) r h' := by
  intro n
  induction n with
  | zero => intro l1 l4 x hF k; cases hF
  | succ n ih =>
      intro l1 l4 x hF k
      rw [F_X8_fingerprint_L148] at hF
      refine ev_iload 150 dX8_fingerprint_148 rfl rfl ?_
      refine ev_bipush 152 dX8_fingerprint_150 rfl kB_6 ?_
      refine ev_icmp_ge 176 155 dX8_fingerprint_152 rfl rfl (fun hc370 => ?_) (fun hc370 => ?_)
      · rw [if_pos hc370] at hF
        have hF := Option.some.inj hF
        subst hF
        refine ev_weak [.ref 125, .long l1, .null, .int l3, .null] ⟨Or.inr rfl, ⟨Or.inr rfl, ⟨Or.inl rfl, ⟨Or.inr rfl, ⟨Or.inl rfl, trivial⟩⟩⟩⟩⟩ ?_
        exact k
      · rw [if_neg hc370] at hF
        refine ev_ldc2 158 dX8_fingerprint_155 rfl kc_X8_134 ?_
        refine ev_lload_n (i := 1) 159 dX8_fingerprint_158 rfl rfl rfl ?_
        refine ev_lmul 160 dX8_fingerprint_159 rfl ?_
        refine ev_aload_n (i := 0) 161 dX8_fingerprint_160 rfl rfl rfl ?_
        refine ev_iload_n (i := 3) 162 dX8_fingerprint_161 rfl rfl rfl ?_
        refine ev_iload 164 dX8_fingerprint_162 rfl rfl ?_
        obtain ⟨x12, hx12, hF⟩ := tv_bind hF
        refine ev_callVi (i := 125) 167 [.int l3, .int l4] [.long (31 * l1)] dX8_fingerprint_164 rfl okV_X8_131 rfl rfl (Nat.le_of_ble_eq_true rfl) (Nat.le_of_ble_eq_true rfl) HPg_125 rfl (Nat.le_of_ble_eq_true rfl) (Nat.le_of_ble_eq_true rfl) (R_X8_told hx12) ?_
        refine ev_i2l 168 dX8_fingerprint_167 rfl ?_
        refine ev_ladd 169 dX8_fingerprint_168 rfl ?_
        refine ev_lstore_n (i := 1) (L2 := [.ref 125, .long ((31 * l1) + (Int32.toInt64 x12)), .null, .int l3, .int l4]) 170 dX8_fingerprint_169 rfl rfl (Nat.le_of_ble_eq_true rfl) rfl ?_
        refine ev_iinc (L2 := [.ref 125, .long ((31 * l1) + (Int32.toInt64 x12)), .null, .int l3, .int (l4 + 1)]) 173 dX8_fingerprint_170 rfl rfl (kA_1 _) (Nat.le_of_ble_eq_true rfl) rfl ?_
        refine ev_goto 148 dX8_fingerprint_173 rfl ?_
        exact ih _ _ _ hF k

set_option maxRecDepth 100000 in
set_option maxHeartbeats 4000000 in
theorem R_X8_fingerprint_L134 {g : tv_G} {l : Launch} {si : Nat → Int32} {sa : Nat → Nat → Int32} {hs : Nat → (Nat → Int32) × (Nat → Nat → Int32)} {tx : Nat → Int32} {tl : Int32} {hc : Int32} {hn : Int32} {v : Nat → Int32} {pa : Nat → Int32} {mt : Nat → Int32} {pm : Int32} {ty : Int32} {ra : Int32}  {r : Option Value} {h' : tv_Hp} : ∀ (n : Nat) (l1 : Int64) (l3 : Int32)  (x : Int64), F_X8_fingerprint_L134 v n l1 l3 = some x → tv_E g l yX8_fingerprint cX8_fingerprint 5 (some .long) 5 0 0 182 [.null, .long x, .null, .null, .null] [] (HP si sa hs tx tl hc hn v pa mt pm ty ra) r h' → tv_E g l yX8_fingerprint cX8_fingerprint 5 (some .long) 5 0 0 134 [.ref 125, .long l1, .null, .int l3, .null] [] (HP si sa hs tx tl hc hn v pa mt pm ty ra) r h' := by
  intro n
  induction n with
  | zero => intro l1 l3 x hF k; cases hF
  | succ n ih =>
      intro l1 l3 x hF k
      rw [F_X8_fingerprint_L134] at hF
      refine ev_iload_n (i := 3) 135 dX8_fingerprint_134 rfl rfl rfl ?_
      refine ev_aload_n (i := 0) 136 dX8_fingerprint_135 rfl rfl rfl ?_
      refine ev_getfield 139 dX8_fingerprint_136 rfl okf_X8_7 (Nat.le_of_ble_eq_true rfl) HPg_125 rfl ?_
      refine ev_bipush 141 dX8_fingerprint_139 rfl kB_10 ?_
      obtain ⟨x11, hx11, hF⟩ := tv_bind hF
      refine ev_iaload 142 dX8_fingerprint_141 rfl (Nat.le_of_ble_eq_true rfl) HPg_126 hx11 ?_
      refine ev_icmp_ge 182 145 dX8_fingerprint_142 rfl rfl (fun hc371 => ?_) (fun hc371 => ?_)
      · rw [if_pos hc371] at hF
        have hF := Option.some.inj hF
        subst hF
        refine ev_weak [.null, .long l1, .null, .null, .null] ⟨Or.inl rfl, ⟨Or.inr rfl, ⟨Or.inl rfl, ⟨Or.inl rfl, ⟨Or.inl rfl, trivial⟩⟩⟩⟩⟩ ?_
        exact k
      · rw [if_neg hc371] at hF
        refine ev_iconst 146 dX8_fingerprint_145 rfl kI_0 ?_
        refine ev_istore (L2 := [.ref 125, .long l1, .null, .int l3, .int 0]) 148 dX8_fingerprint_146 rfl (Nat.le_of_ble_eq_true rfl) rfl ?_
        obtain ⟨x13, hx13, hF⟩ := tv_bind hF
        refine R_X8_fingerprint_L148 _ _ _ _ hx13 ?_
        refine ev_iinc (L2 := [.ref 125, .long x13, .null, .int (l3 + 1), .null]) 179 dX8_fingerprint_176 rfl rfl (kA_1 _) (Nat.le_of_ble_eq_true rfl) rfl ?_
        refine ev_goto 134 dX8_fingerprint_179 rfl ?_
        exact ih _ _ _ hF k

set_option maxRecDepth 100000 in
set_option maxHeartbeats 4000000 in
theorem R_X8_fingerprint {g : tv_G} {l : Launch} {si : Nat → Int32} {sa : Nat → Nat → Int32} {hs : Nat → (Nat → Int32) × (Nat → Nat → Int32)} {tx : Nat → Int32} {tl : Int32} {hc : Int32} {hn : Int32} {v : Nat → Int32} {pa : Nat → Int32} {mt : Nat → Int32} {pm : Int32} {ty : Int32} {ra : Int32}  {p : Int64} (hF : F_X8_fingerprint v = some p) : tv_E g l yX8_fingerprint cX8_fingerprint 5 (some .long) 5 0 0 0 [.ref 125, .null, .null, .null, .null] [] (HP si sa hs tx tl hc hn v pa mt pm ty ra) (some (.long p)) (HP si sa hs tx tl hc hn v pa mt pm ty ra) := by
  unfold F_X8_fingerprint at hF
  refine ev_ldc2 3 dX8_fingerprint_0 rfl kc_X8_134 ?_
  refine ev_ldc2 6 dX8_fingerprint_3 rfl kc_X8_134 ?_
  refine ev_ldc2 9 dX8_fingerprint_6 rfl kc_X8_136 ?_
  refine ev_aload_n (i := 0) 10 dX8_fingerprint_9 rfl rfl rfl ?_
  refine ev_getfield 13 dX8_fingerprint_10 rfl okf_X8_7 (Nat.le_of_ble_eq_true rfl) HPg_125 rfl ?_
  refine ev_bipush 15 dX8_fingerprint_13 rfl kB_6 ?_
  obtain ⟨x1, hx1, hF⟩ := tv_bind hF
  refine ev_iaload 16 dX8_fingerprint_15 rfl (Nat.le_of_ble_eq_true rfl) HPg_126 hx1 ?_
  refine ev_i2l 17 dX8_fingerprint_16 rfl ?_
  refine ev_ladd 18 dX8_fingerprint_17 rfl ?_
  refine ev_lmul 19 dX8_fingerprint_18 rfl ?_
  refine ev_aload_n (i := 0) 20 dX8_fingerprint_19 rfl rfl rfl ?_
  refine ev_getfield 23 dX8_fingerprint_20 rfl okf_X8_7 (Nat.le_of_ble_eq_true rfl) HPg_125 rfl ?_
  refine ev_bipush 25 dX8_fingerprint_23 rfl kB_7 ?_
  obtain ⟨x2, hx2, hF⟩ := tv_bind hF
  refine ev_iaload 26 dX8_fingerprint_25 rfl (Nat.le_of_ble_eq_true rfl) HPg_126 hx2 ?_
  refine ev_i2l 27 dX8_fingerprint_26 rfl ?_
  refine ev_ladd 28 dX8_fingerprint_27 rfl ?_
  refine ev_lmul 29 dX8_fingerprint_28 rfl ?_
  refine ev_aload_n (i := 0) 30 dX8_fingerprint_29 rfl rfl rfl ?_
  refine ev_getfield 33 dX8_fingerprint_30 rfl okf_X8_7 (Nat.le_of_ble_eq_true rfl) HPg_125 rfl ?_
  refine ev_bipush 35 dX8_fingerprint_33 rfl kB_8 ?_
  obtain ⟨x3, hx3, hF⟩ := tv_bind hF
  refine ev_iaload 36 dX8_fingerprint_35 rfl (Nat.le_of_ble_eq_true rfl) HPg_126 hx3 ?_
  refine ev_i2l 37 dX8_fingerprint_36 rfl ?_
  refine ev_ladd 38 dX8_fingerprint_37 rfl ?_
  refine ev_lstore_n (i := 1) (L2 := [.ref 125, .long ((31 * ((31 * (2573 + (Int32.toInt64 x1))) + (Int32.toInt64 x2))) + (Int32.toInt64 x3)), .null, .null, .null]) 39 dX8_fingerprint_38 rfl rfl (Nat.le_of_ble_eq_true rfl) rfl ?_
  refine ev_ldc2 42 dX8_fingerprint_39 rfl kc_X8_134 ?_
  refine ev_ldc2 45 dX8_fingerprint_42 rfl kc_X8_134 ?_
  refine ev_lload_n (i := 1) 46 dX8_fingerprint_45 rfl rfl rfl ?_
  refine ev_lmul 47 dX8_fingerprint_46 rfl ?_
  refine ev_aload_n (i := 0) 48 dX8_fingerprint_47 rfl rfl rfl ?_
  refine ev_getfield 51 dX8_fingerprint_48 rfl okf_X8_7 (Nat.le_of_ble_eq_true rfl) HPg_125 rfl ?_
  refine ev_bipush 53 dX8_fingerprint_51 rfl kB_9 ?_
  obtain ⟨x4, hx4, hF⟩ := tv_bind hF
  refine ev_iaload 54 dX8_fingerprint_53 rfl (Nat.le_of_ble_eq_true rfl) HPg_126 hx4 ?_
  refine ev_i2l 55 dX8_fingerprint_54 rfl ?_
  refine ev_ladd 56 dX8_fingerprint_55 rfl ?_
  refine ev_lmul 57 dX8_fingerprint_56 rfl ?_
  refine ev_aload_n (i := 0) 58 dX8_fingerprint_57 rfl rfl rfl ?_
  refine ev_getfield 61 dX8_fingerprint_58 rfl okf_X8_7 (Nat.le_of_ble_eq_true rfl) HPg_125 rfl ?_
  refine ev_bipush 63 dX8_fingerprint_61 rfl kB_12 ?_
  obtain ⟨x5, hx5, hF⟩ := tv_bind hF
  refine ev_iaload 64 dX8_fingerprint_63 rfl (Nat.le_of_ble_eq_true rfl) HPg_126 hx5 ?_
  refine ev_i2l 65 dX8_fingerprint_64 rfl ?_
  refine ev_ladd 66 dX8_fingerprint_65 rfl ?_
  refine ev_lstore_n (i := 1) (L2 := [.ref 125, .long ((31 * ((31 * ((31 * ((31 * (2573 + (Int32.toInt64 x1))) + (Int32.toInt64 x2))) + (Int32.toInt64 x3))) + (Int32.toInt64 x4))) + (Int32.toInt64 x5)), .null, .null, .null]) 67 dX8_fingerprint_66 rfl rfl (Nat.le_of_ble_eq_true rfl) rfl ?_
  refine ev_iconst 68 dX8_fingerprint_67 rfl kI_1 ?_
  refine ev_istore_n (i := 3) (L2 := [.ref 125, .long ((31 * ((31 * ((31 * ((31 * (2573 + (Int32.toInt64 x1))) + (Int32.toInt64 x2))) + (Int32.toInt64 x3))) + (Int32.toInt64 x4))) + (Int32.toInt64 x5)), .null, .int 1, .null]) 69 dX8_fingerprint_68 rfl rfl (Nat.le_of_ble_eq_true rfl) rfl ?_
  obtain ⟨x9, hx9, hF⟩ := tv_bind hF
  refine R_X8_fingerprint_L69 _ _ _ _ hx9 ?_
  refine ev_ldc2 120 dX8_fingerprint_117 rfl kc_X8_134 ?_
  refine ev_lload_n (i := 1) 121 dX8_fingerprint_120 rfl rfl rfl ?_
  refine ev_lmul 122 dX8_fingerprint_121 rfl ?_
  refine ev_aload_n (i := 0) 123 dX8_fingerprint_122 rfl rfl rfl ?_
  refine ev_getfield 126 dX8_fingerprint_123 rfl okf_X8_7 (Nat.le_of_ble_eq_true rfl) HPg_125 rfl ?_
  refine ev_bipush 128 dX8_fingerprint_126 rfl kB_10 ?_
  obtain ⟨x10, hx10, hF⟩ := tv_bind hF
  refine ev_iaload 129 dX8_fingerprint_128 rfl (Nat.le_of_ble_eq_true rfl) HPg_126 hx10 ?_
  refine ev_i2l 130 dX8_fingerprint_129 rfl ?_
  refine ev_ladd 131 dX8_fingerprint_130 rfl ?_
  refine ev_lstore_n (i := 1) (L2 := [.ref 125, .long ((31 * x9) + (Int32.toInt64 x10)), .null, .null, .null]) 132 dX8_fingerprint_131 rfl rfl (Nat.le_of_ble_eq_true rfl) rfl ?_
  refine ev_iconst 133 dX8_fingerprint_132 rfl kI_0 ?_
  refine ev_istore_n (i := 3) (L2 := [.ref 125, .long ((31 * x9) + (Int32.toInt64 x10)), .null, .int 0, .null]) 134 dX8_fingerprint_133 rfl rfl (Nat.le_of_ble_eq_true rfl) rfl ?_
  obtain ⟨x14, hx14, hF⟩ := tv_bind hF
  refine R_X8_fingerprint_L134 _ _ _ _ hx14 ?_
  refine ev_lload_n (i := 1) 183 dX8_fingerprint_182 rfl rfl rfl ?_
  have hF := Option.some.inj hF
  subst hF
  exact ev_lreturn dX8_fingerprint_183 rfl

set_option maxRecDepth 100000 in
set_option maxHeartbeats 4000000 in
theorem R_L_law_L18 {g : tv_G} {l : Launch}  {sL : Nat} {sX : Nat → Int32}  (hX2 : tv_XL g 1 = 6 ∧ tv_X g 1 = tv_least ∧ tv_XL g 2 = 6 ∧ tv_X g 2 = tv_great) (hX : tv_XL g 0 = sL ∧ tv_X g 0 = sX) : ∀ (n : Nat) (l3 : Int32) (si : Nat → Int32) (sa : Nat → Nat → Int32) (hs : Nat → (Nat → Int32) × (Nat → Nat → Int32)) (tx : Nat → Int32) (tl : Int32) (hc : Int32) (hn : Int32) (v : Nat → Int32) (pa : Nat → Int32) (mt : Nat → Int32) (pm : Int32) (ty : Int32) (ra : Int32) (p : Int32 × (Nat → Int32) × (Nat → Nat → Int32) × (Nat → (Nat → Int32) × (Nat → Nat → Int32)) × (Nat → Int32) × Int32 × Int32 × Int32 × (Nat → Int32) × (Nat → Int32) × (Nat → Int32) × Int32 × Int32 × Int32), F_L_law_L18 sL sX n l3 si sa hs tx tl hc hn v pa mt pm ty ra = some p → tv_E g l yL_law cL_law 4 (some .boolean) 8 0 0 18 [.ref 1000, .ref 0, .ref 125, .int l3] [] (HP si sa hs tx tl hc hn v pa mt pm ty ra) (some (.int p.1)) (HP p.2.1 p.2.2.1 p.2.2.2.1 p.2.2.2.2.1 p.2.2.2.2.2.1 p.2.2.2.2.2.2.1 p.2.2.2.2.2.2.2.1 p.2.2.2.2.2.2.2.2.1 p.2.2.2.2.2.2.2.2.2.1 p.2.2.2.2.2.2.2.2.2.2.1 p.2.2.2.2.2.2.2.2.2.2.2.1 p.2.2.2.2.2.2.2.2.2.2.2.2.1 p.2.2.2.2.2.2.2.2.2.2.2.2.2) := by
  intro n
  induction n with
  | zero => intro l3 si sa hs tx tl hc hn v pa mt pm ty ra p hF; cases hF
  | succ n ih =>
      intro l3 si sa hs tx tl hc hn v pa mt pm ty ra p hF
      rw [F_L_law_L18] at hF
      refine ev_iload_n (i := 3) 19 dL_law_18 rfl rfl rfl ?_
      refine ev_aload_n (i := 0) 20 dL_law_19 rfl rfl rfl ?_
      refine ev_xlen (i := 0) 21 dL_law_20 rfl (Nat.le_of_ble_eq_true rfl) ?_
      rw [hX.1]
      refine ev_iconst 22 dL_law_21 rfl kI_5 ?_
      refine ev_isub 23 dL_law_22 rfl ?_
      refine ev_icmp_gt 842 26 dL_law_23 rfl rfl (fun hc372 => ?_) (fun hc372 => ?_)
      · rw [if_pos hc372] at hF
        refine ev_iconst 843 dL_law_842 rfl kI_1 ?_
        have hF := Option.some.inj hF
        subst hF
        exact ev_ireturn dL_law_843 rfl rfl
      · rw [if_neg hc372] at hF
        refine ev_aload_n (i := 0) 27 dL_law_26 rfl rfl rfl ?_
        refine ev_iload_n (i := 3) 28 dL_law_27 rfl rfl rfl ?_
        obtain ⟨x1, hx1, hF⟩ := tv_bind hF
        refine ev_xaload (i := 0) 29 dL_law_28 rfl (Nat.le_of_ble_eq_true rfl) (by rw [hX.1, hX.2]; exact hx1) ?_
        refine ev_bipush 31 dL_law_29 rfl kB_31 ?_
        refine ev_iand 32 dL_law_31 rfl ?_
        by_cases hc373 : (x1 &&& 31) = 0
        · rw [if_pos hc373] at hF
          refine ev_tableIn (off := 124) 156 dL_law_32 (by rw [hc373]; decide) (by rw [hc373]; decide) (by rw [hc373]; rfl) rfl ?_
          refine ev_aload_n (i := 1) 157 dL_law_156 rfl rfl rfl ?_
          refine ev_aload_n (i := 0) 158 dL_law_157 rfl rfl rfl ?_
          refine ev_iload_n (i := 3) 159 dL_law_158 rfl rfl rfl ?_
          refine ev_iconst 160 dL_law_159 rfl kI_1 ?_
          refine ev_iadd 161 dL_law_160 rfl ?_
          obtain ⟨x2, hx2, hF⟩ := tv_bind hF
          refine ev_xaload (i := 0) 162 dL_law_161 rfl (Nat.le_of_ble_eq_true rfl) (by rw [hX.1, hX.2]; exact hx2) ?_
          refine ev_aload_n (i := 0) 163 dL_law_162 rfl rfl rfl ?_
          refine ev_iload_n (i := 3) 164 dL_law_163 rfl rfl rfl ?_
          refine ev_iconst 165 dL_law_164 rfl kI_2 ?_
          refine ev_iadd 166 dL_law_165 rfl ?_
          obtain ⟨x3, hx3, hF⟩ := tv_bind hF
          refine ev_xaload (i := 0) 167 dL_law_166 rfl (Nat.le_of_ble_eq_true rfl) (by rw [hX.1, hX.2]; exact hx3) ?_
          obtain ⟨x4, hx4, hF⟩ := tv_bind hF
          refine ev_callVi (i := 0) 170 [.int x2, .int x3] [] dL_law_167 rfl okV_L_13 rfl rfl (Nat.le_of_ble_eq_true rfl) (Nat.le_of_ble_eq_true rfl) HPg_0 rfl (Nat.le_of_ble_eq_true rfl) (Nat.le_of_ble_eq_true rfl) (R_X7_set hX2 hx4) ?_
          refine ev_aload_n (i := 2) 171 dL_law_170 rfl rfl rfl ?_
          refine ev_aload_n (i := 0) 172 dL_law_171 rfl rfl rfl ?_
          refine ev_iload_n (i := 3) 173 dL_law_172 rfl rfl rfl ?_
          refine ev_iconst 174 dL_law_173 rfl kI_1 ?_
          refine ev_iadd 175 dL_law_174 rfl ?_
          obtain ⟨x5, hx5, hF⟩ := tv_bind hF
          refine ev_xaload (i := 0) 176 dL_law_175 rfl (Nat.le_of_ble_eq_true rfl) (by rw [hX.1, hX.2]; exact hx5) ?_
          refine ev_aload_n (i := 0) 177 dL_law_176 rfl rfl rfl ?_
          refine ev_iload_n (i := 3) 178 dL_law_177 rfl rfl rfl ?_
          refine ev_iconst 179 dL_law_178 rfl kI_2 ?_
          refine ev_iadd 180 dL_law_179 rfl ?_
          obtain ⟨x6, hx6, hF⟩ := tv_bind hF
          refine ev_xaload (i := 0) 181 dL_law_180 rfl (Nat.le_of_ble_eq_true rfl) (by rw [hX.1, hX.2]; exact hx6) ?_
          obtain ⟨x7, hx7, hF⟩ := tv_bind hF
          refine ev_callVi (i := 125) 184 [.int x5, .int x6] [.int x4.1] dL_law_181 rfl okV_L_17 rfl rfl (Nat.le_of_ble_eq_true rfl) (Nat.le_of_ble_eq_true rfl) HPg_125 rfl (Nat.le_of_ble_eq_true rfl) (Nat.le_of_ble_eq_true rfl) (R_X8_set hx7) ?_
          refine ev_icmp_eq 836 187 dL_law_184 rfl rfl (fun hc374 => ?_) (fun hc374 => ?_)
          · rw [if_pos hc374] at hF
            refine ev_iinc (L2 := [.ref 1000, .ref 0, .ref 125, .int (l3 + 5)]) 839 dL_law_836 rfl rfl (kA_5 _) (Nat.le_of_ble_eq_true rfl) rfl ?_
            refine ev_goto 18 dL_law_839 rfl ?_
            exact ih _ _ _ _ _ _ _ _ _ _ _ _ _ _ _ hF
          · rw [if_neg hc374] at hF
            refine ev_iconst 188 dL_law_187 rfl kI_0 ?_
            have hF := Option.some.inj hF
            subst hF
            exact ev_ireturn dL_law_188 rfl rfl
        rw [if_neg hc373] at hF
        by_cases hc375 : (x1 &&& 31) = 1
        · rw [if_pos hc375] at hF
          refine ev_tableIn (off := 157) 189 dL_law_32 (by rw [hc375]; decide) (by rw [hc375]; decide) (by rw [hc375]; rfl) rfl ?_
          refine ev_aload_n (i := 1) 190 dL_law_189 rfl rfl rfl ?_
          refine ev_aload_n (i := 0) 191 dL_law_190 rfl rfl rfl ?_
          refine ev_iload_n (i := 3) 192 dL_law_191 rfl rfl rfl ?_
          refine ev_iconst 193 dL_law_192 rfl kI_1 ?_
          refine ev_iadd 194 dL_law_193 rfl ?_
          obtain ⟨x8, hx8, hF⟩ := tv_bind hF
          refine ev_xaload (i := 0) 195 dL_law_194 rfl (Nat.le_of_ble_eq_true rfl) (by rw [hX.1, hX.2]; exact hx8) ?_
          obtain ⟨x9, hx9, hF⟩ := tv_bind hF
          refine ev_callVi (i := 0) 198 [.int x8] [] dL_law_195 rfl okV_L_18 rfl rfl (Nat.le_of_ble_eq_true rfl) (Nat.le_of_ble_eq_true rfl) HPg_0 rfl (Nat.le_of_ble_eq_true rfl) (Nat.le_of_ble_eq_true rfl) (R_X7_join hx9) ?_
          refine ev_aload_n (i := 2) 199 dL_law_198 rfl rfl rfl ?_
          refine ev_aload_n (i := 0) 200 dL_law_199 rfl rfl rfl ?_
          refine ev_iload_n (i := 3) 201 dL_law_200 rfl rfl rfl ?_
          refine ev_iconst 202 dL_law_201 rfl kI_1 ?_
          refine ev_iadd 203 dL_law_202 rfl ?_
          obtain ⟨x10, hx10, hF⟩ := tv_bind hF
          refine ev_xaload (i := 0) 204 dL_law_203 rfl (Nat.le_of_ble_eq_true rfl) (by rw [hX.1, hX.2]; exact hx10) ?_
          obtain ⟨x11, hx11, hF⟩ := tv_bind hF
          refine ev_callVi (i := 125) 207 [.int x10] [.int x9.1] dL_law_204 rfl okV_L_22 rfl rfl (Nat.le_of_ble_eq_true rfl) (Nat.le_of_ble_eq_true rfl) HPg_125 rfl (Nat.le_of_ble_eq_true rfl) (Nat.le_of_ble_eq_true rfl) (R_X8_join hx11) ?_
          refine ev_icmp_eq 836 210 dL_law_207 rfl rfl (fun hc376 => ?_) (fun hc376 => ?_)
          · rw [if_pos hc376] at hF
            refine ev_iinc (L2 := [.ref 1000, .ref 0, .ref 125, .int (l3 + 5)]) 839 dL_law_836 rfl rfl (kA_5 _) (Nat.le_of_ble_eq_true rfl) rfl ?_
            refine ev_goto 18 dL_law_839 rfl ?_
            exact ih _ _ _ _ _ _ _ _ _ _ _ _ _ _ _ hF
          · rw [if_neg hc376] at hF
            refine ev_iconst 211 dL_law_210 rfl kI_0 ?_
            have hF := Option.some.inj hF
            subst hF
            exact ev_ireturn dL_law_211 rfl rfl
        rw [if_neg hc375] at hF
        by_cases hc377 : (x1 &&& 31) = 2
        · rw [if_pos hc377] at hF
          refine ev_tableIn (off := 180) 212 dL_law_32 (by rw [hc377]; decide) (by rw [hc377]; decide) (by rw [hc377]; rfl) rfl ?_
          refine ev_aload_n (i := 1) 213 dL_law_212 rfl rfl rfl ?_
          refine ev_aload_n (i := 0) 214 dL_law_213 rfl rfl rfl ?_
          refine ev_iload_n (i := 3) 215 dL_law_214 rfl rfl rfl ?_
          refine ev_iconst 216 dL_law_215 rfl kI_1 ?_
          refine ev_iadd 217 dL_law_216 rfl ?_
          obtain ⟨x12, hx12, hF⟩ := tv_bind hF
          refine ev_xaload (i := 0) 218 dL_law_217 rfl (Nat.le_of_ble_eq_true rfl) (by rw [hX.1, hX.2]; exact hx12) ?_
          refine ev_aload_n (i := 0) 219 dL_law_218 rfl rfl rfl ?_
          refine ev_iload_n (i := 3) 220 dL_law_219 rfl rfl rfl ?_
          refine ev_iconst 221 dL_law_220 rfl kI_2 ?_
          refine ev_iadd 222 dL_law_221 rfl ?_
          obtain ⟨x13, hx13, hF⟩ := tv_bind hF
          refine ev_xaload (i := 0) 223 dL_law_222 rfl (Nat.le_of_ble_eq_true rfl) (by rw [hX.1, hX.2]; exact hx13) ?_
          obtain ⟨x14, hBx14, hF⟩ := tv_bind hF
          have Jx14 : tv_E g l yL_law cL_law 4 (some .boolean) 8 0 0 231 [.ref 1000, .ref 0, .ref 125, .int l3] [.int x14, .int x12, .ref 0] (HP si sa hs tx tl hc hn v pa mt pm ty ra) (some (.int p.1)) (HP p.2.1 p.2.2.1 p.2.2.2.1 p.2.2.2.2.1 p.2.2.2.2.2.1 p.2.2.2.2.2.2.1 p.2.2.2.2.2.2.2.1 p.2.2.2.2.2.2.2.2.1 p.2.2.2.2.2.2.2.2.2.1 p.2.2.2.2.2.2.2.2.2.2.1 p.2.2.2.2.2.2.2.2.2.2.2.1 p.2.2.2.2.2.2.2.2.2.2.2.2.1 p.2.2.2.2.2.2.2.2.2.2.2.2.2) := by
            obtain ⟨x15, hx15, hF⟩ := tv_bind hF
            refine ev_callVi (i := 0) 234 [.int x12, .int x14] [] dL_law_231 rfl okV_L_23 rfl rfl (Nat.le_of_ble_eq_true rfl) (Nat.le_of_ble_eq_true rfl) HPg_0 rfl (Nat.le_of_ble_eq_true rfl) (Nat.le_of_ble_eq_true rfl) (R_X7_setPresent hx15) ?_
            refine ev_aload_n (i := 2) 235 dL_law_234 rfl rfl rfl ?_
            refine ev_aload_n (i := 0) 236 dL_law_235 rfl rfl rfl ?_
            refine ev_iload_n (i := 3) 237 dL_law_236 rfl rfl rfl ?_
            refine ev_iconst 238 dL_law_237 rfl kI_1 ?_
            refine ev_iadd 239 dL_law_238 rfl ?_
            obtain ⟨x16, hx16, hF⟩ := tv_bind hF
            refine ev_xaload (i := 0) 240 dL_law_239 rfl (Nat.le_of_ble_eq_true rfl) (by rw [hX.1, hX.2]; exact hx16) ?_
            refine ev_aload_n (i := 0) 241 dL_law_240 rfl rfl rfl ?_
            refine ev_iload_n (i := 3) 242 dL_law_241 rfl rfl rfl ?_
            refine ev_iconst 243 dL_law_242 rfl kI_2 ?_
            refine ev_iadd 244 dL_law_243 rfl ?_
            obtain ⟨x17, hx17, hF⟩ := tv_bind hF
            refine ev_xaload (i := 0) 245 dL_law_244 rfl (Nat.le_of_ble_eq_true rfl) (by rw [hX.1, hX.2]; exact hx17) ?_
            obtain ⟨x18, hBx18, hF⟩ := tv_bind hF
            have Jx18 : tv_E g l yL_law cL_law 4 (some .boolean) 8 0 0 253 [.ref 1000, .ref 0, .ref 125, .int l3] [.int x18, .int x16, .ref 125, .int x15.1] (HP x15.2.1 x15.2.2.1 x15.2.2.2.1 tx tl x15.2.2.2.2.1 x15.2.2.2.2.2 v pa mt pm ty ra) (some (.int p.1)) (HP p.2.1 p.2.2.1 p.2.2.2.1 p.2.2.2.2.1 p.2.2.2.2.2.1 p.2.2.2.2.2.2.1 p.2.2.2.2.2.2.2.1 p.2.2.2.2.2.2.2.2.1 p.2.2.2.2.2.2.2.2.2.1 p.2.2.2.2.2.2.2.2.2.2.1 p.2.2.2.2.2.2.2.2.2.2.2.1 p.2.2.2.2.2.2.2.2.2.2.2.2.1 p.2.2.2.2.2.2.2.2.2.2.2.2.2) := by
              obtain ⟨x19, hx19, hF⟩ := tv_bind hF
              refine ev_callVi (i := 125) 256 [.int x16, .int x18] [.int x15.1] dL_law_253 rfl okV_L_27 rfl rfl (Nat.le_of_ble_eq_true rfl) (Nat.le_of_ble_eq_true rfl) HPg_125 rfl (Nat.le_of_ble_eq_true rfl) (Nat.le_of_ble_eq_true rfl) (R_X8_setPresent hx19) ?_
              refine ev_icmp_eq 836 259 dL_law_256 rfl rfl (fun hc378 => ?_) (fun hc378 => ?_)
              · rw [if_pos hc378] at hF
                refine ev_iinc (L2 := [.ref 1000, .ref 0, .ref 125, .int (l3 + 5)]) 839 dL_law_836 rfl rfl (kA_5 _) (Nat.le_of_ble_eq_true rfl) rfl ?_
                refine ev_goto 18 dL_law_839 rfl ?_
                exact ih _ _ _ _ _ _ _ _ _ _ _ _ _ _ _ hF
              · rw [if_neg hc378] at hF
                refine ev_iconst 260 dL_law_259 rfl kI_0 ?_
                have hF := Option.some.inj hF
                subst hF
                exact ev_ireturn dL_law_260 rfl rfl
            clear hF
            refine ev_if_eq 252 248 dL_law_245 rfl rfl (fun hc379 => ?_) (fun hc379 => ?_)
            · rw [if_pos hc379] at hBx18
              refine ev_iconst 253 dL_law_252 rfl kI_0 ?_
              have hBx18 := Option.some.inj hBx18
              subst hBx18
              exact Jx18
            · rw [if_neg hc379] at hBx18
              refine ev_iconst 249 dL_law_248 rfl kI_1 ?_
              refine ev_goto 253 dL_law_249 rfl ?_
              have hBx18 := Option.some.inj hBx18
              subst hBx18
              exact Jx18
          clear hF
          refine ev_if_eq 230 226 dL_law_223 rfl rfl (fun hc380 => ?_) (fun hc380 => ?_)
          · rw [if_pos hc380] at hBx14
            refine ev_iconst 231 dL_law_230 rfl kI_0 ?_
            have hBx14 := Option.some.inj hBx14
            subst hBx14
            exact Jx14
          · rw [if_neg hc380] at hBx14
            refine ev_iconst 227 dL_law_226 rfl kI_1 ?_
            refine ev_goto 231 dL_law_227 rfl ?_
            have hBx14 := Option.some.inj hBx14
            subst hBx14
            exact Jx14
        rw [if_neg hc377] at hF
        by_cases hc381 : (x1 &&& 31) = 3
        · rw [if_pos hc381] at hF
          refine ev_tableIn (off := 229) 261 dL_law_32 (by rw [hc381]; decide) (by rw [hc381]; decide) (by rw [hc381]; rfl) rfl ?_
          refine ev_aload_n (i := 1) 262 dL_law_261 rfl rfl rfl ?_
          refine ev_aload_n (i := 0) 263 dL_law_262 rfl rfl rfl ?_
          refine ev_iload_n (i := 3) 264 dL_law_263 rfl rfl rfl ?_
          refine ev_iconst 265 dL_law_264 rfl kI_1 ?_
          refine ev_iadd 266 dL_law_265 rfl ?_
          obtain ⟨x20, hx20, hF⟩ := tv_bind hF
          refine ev_xaload (i := 0) 267 dL_law_266 rfl (Nat.le_of_ble_eq_true rfl) (by rw [hX.1, hX.2]; exact hx20) ?_
          obtain ⟨x21, hx21, hF⟩ := tv_bind hF
          refine ev_callVi (i := 0) 270 [.int x20] [] dL_law_267 rfl okV_L_28 rfl rfl (Nat.le_of_ble_eq_true rfl) (Nat.le_of_ble_eq_true rfl) HPg_0 rfl (Nat.le_of_ble_eq_true rfl) (Nat.le_of_ble_eq_true rfl) (R_X7_pass hx21) ?_
          refine ev_aload_n (i := 2) 271 dL_law_270 rfl rfl rfl ?_
          refine ev_aload_n (i := 0) 272 dL_law_271 rfl rfl rfl ?_
          refine ev_iload_n (i := 3) 273 dL_law_272 rfl rfl rfl ?_
          refine ev_iconst 274 dL_law_273 rfl kI_1 ?_
          refine ev_iadd 275 dL_law_274 rfl ?_
          obtain ⟨x22, hx22, hF⟩ := tv_bind hF
          refine ev_xaload (i := 0) 276 dL_law_275 rfl (Nat.le_of_ble_eq_true rfl) (by rw [hX.1, hX.2]; exact hx22) ?_
          obtain ⟨x23, hx23, hF⟩ := tv_bind hF
          refine ev_callVi (i := 125) 279 [.int x22] [.int x21.1] dL_law_276 rfl okV_L_31 rfl rfl (Nat.le_of_ble_eq_true rfl) (Nat.le_of_ble_eq_true rfl) HPg_125 rfl (Nat.le_of_ble_eq_true rfl) (Nat.le_of_ble_eq_true rfl) (R_X8_pass hx23) ?_
          refine ev_icmp_eq 836 282 dL_law_279 rfl rfl (fun hc382 => ?_) (fun hc382 => ?_)
          · rw [if_pos hc382] at hF
            refine ev_iinc (L2 := [.ref 1000, .ref 0, .ref 125, .int (l3 + 5)]) 839 dL_law_836 rfl rfl (kA_5 _) (Nat.le_of_ble_eq_true rfl) rfl ?_
            refine ev_goto 18 dL_law_839 rfl ?_
            exact ih _ _ _ _ _ _ _ _ _ _ _ _ _ _ _ hF
          · rw [if_neg hc382] at hF
            refine ev_iconst 283 dL_law_282 rfl kI_0 ?_
            have hF := Option.some.inj hF
            subst hF
            exact ev_ireturn dL_law_283 rfl rfl
        rw [if_neg hc381] at hF
        by_cases hc383 : (x1 &&& 31) = 4
        · rw [if_pos hc383] at hF
          refine ev_tableIn (off := 252) 284 dL_law_32 (by rw [hc383]; decide) (by rw [hc383]; decide) (by rw [hc383]; rfl) rfl ?_
          refine ev_aload_n (i := 1) 285 dL_law_284 rfl rfl rfl ?_
          obtain ⟨x24, hx24, hF⟩ := tv_bind hF
          refine ev_callVi (i := 0) 288 [] [] dL_law_285 rfl okV_L_32 rfl rfl (Nat.le_of_ble_eq_true rfl) (Nat.le_of_ble_eq_true rfl) HPg_0 rfl (Nat.le_of_ble_eq_true rfl) (Nat.le_of_ble_eq_true rfl) (R_X7_open hx24) ?_
          refine ev_aload_n (i := 2) 289 dL_law_288 rfl rfl rfl ?_
          obtain ⟨x25, hx25, hF⟩ := tv_bind hF
          refine ev_callVi (i := 125) 292 [] [.int x24.1] dL_law_289 rfl okV_L_36 rfl rfl (Nat.le_of_ble_eq_true rfl) (Nat.le_of_ble_eq_true rfl) HPg_125 rfl (Nat.le_of_ble_eq_true rfl) (Nat.le_of_ble_eq_true rfl) (R_X8_open hx25) ?_
          refine ev_icmp_eq 836 295 dL_law_292 rfl rfl (fun hc384 => ?_) (fun hc384 => ?_)
          · rw [if_pos hc384] at hF
            refine ev_iinc (L2 := [.ref 1000, .ref 0, .ref 125, .int (l3 + 5)]) 839 dL_law_836 rfl rfl (kA_5 _) (Nat.le_of_ble_eq_true rfl) rfl ?_
            refine ev_goto 18 dL_law_839 rfl ?_
            exact ih _ _ _ _ _ _ _ _ _ _ _ _ _ _ _ hF
          · rw [if_neg hc384] at hF
            refine ev_iconst 296 dL_law_295 rfl kI_0 ?_
            have hF := Option.some.inj hF
            subst hF
            exact ev_ireturn dL_law_296 rfl rfl
        rw [if_neg hc383] at hF
        by_cases hc385 : (x1 &&& 31) = 5
        · rw [if_pos hc385] at hF
          refine ev_tableIn (off := 265) 297 dL_law_32 (by rw [hc385]; decide) (by rw [hc385]; decide) (by rw [hc385]; rfl) rfl ?_
          refine ev_aload_n (i := 1) 298 dL_law_297 rfl rfl rfl ?_
          refine ev_aload_n (i := 0) 299 dL_law_298 rfl rfl rfl ?_
          refine ev_iload_n (i := 3) 300 dL_law_299 rfl rfl rfl ?_
          refine ev_iconst 301 dL_law_300 rfl kI_1 ?_
          refine ev_iadd 302 dL_law_301 rfl ?_
          obtain ⟨x26, hx26, hF⟩ := tv_bind hF
          refine ev_xaload (i := 0) 303 dL_law_302 rfl (Nat.le_of_ble_eq_true rfl) (by rw [hX.1, hX.2]; exact hx26) ?_
          obtain ⟨x27, hx27, hF⟩ := tv_bind hF
          refine ev_callVi (i := 0) 306 [.int x26] [] dL_law_303 rfl okV_L_37 rfl rfl (Nat.le_of_ble_eq_true rfl) (Nat.le_of_ble_eq_true rfl) HPg_0 rfl (Nat.le_of_ble_eq_true rfl) (Nat.le_of_ble_eq_true rfl) (R_X7_nominate hx27) ?_
          refine ev_aload_n (i := 2) 307 dL_law_306 rfl rfl rfl ?_
          refine ev_aload_n (i := 0) 308 dL_law_307 rfl rfl rfl ?_
          refine ev_iload_n (i := 3) 309 dL_law_308 rfl rfl rfl ?_
          refine ev_iconst 310 dL_law_309 rfl kI_1 ?_
          refine ev_iadd 311 dL_law_310 rfl ?_
          obtain ⟨x28, hx28, hF⟩ := tv_bind hF
          refine ev_xaload (i := 0) 312 dL_law_311 rfl (Nat.le_of_ble_eq_true rfl) (by rw [hX.1, hX.2]; exact hx28) ?_
          obtain ⟨x29, hx29, hF⟩ := tv_bind hF
          refine ev_callVi (i := 125) 315 [.int x28] [.int x27.1] dL_law_312 rfl okV_L_40 rfl rfl (Nat.le_of_ble_eq_true rfl) (Nat.le_of_ble_eq_true rfl) HPg_125 rfl (Nat.le_of_ble_eq_true rfl) (Nat.le_of_ble_eq_true rfl) (R_X8_nominate hx29) ?_
          refine ev_icmp_eq 836 318 dL_law_315 rfl rfl (fun hc386 => ?_) (fun hc386 => ?_)
          · rw [if_pos hc386] at hF
            refine ev_iinc (L2 := [.ref 1000, .ref 0, .ref 125, .int (l3 + 5)]) 839 dL_law_836 rfl rfl (kA_5 _) (Nat.le_of_ble_eq_true rfl) rfl ?_
            refine ev_goto 18 dL_law_839 rfl ?_
            exact ih _ _ _ _ _ _ _ _ _ _ _ _ _ _ _ hF
          · rw [if_neg hc386] at hF
            refine ev_iconst 319 dL_law_318 rfl kI_0 ?_
            have hF := Option.some.inj hF
            subst hF
            exact ev_ireturn dL_law_319 rfl rfl
        rw [if_neg hc385] at hF
        by_cases hc387 : (x1 &&& 31) = 6
        · rw [if_pos hc387] at hF
          refine ev_tableIn (off := 288) 320 dL_law_32 (by rw [hc387]; decide) (by rw [hc387]; decide) (by rw [hc387]; rfl) rfl ?_
          refine ev_aload_n (i := 1) 321 dL_law_320 rfl rfl rfl ?_
          refine ev_aload_n (i := 0) 322 dL_law_321 rfl rfl rfl ?_
          refine ev_iload_n (i := 3) 323 dL_law_322 rfl rfl rfl ?_
          refine ev_iconst 324 dL_law_323 rfl kI_1 ?_
          refine ev_iadd 325 dL_law_324 rfl ?_
          obtain ⟨x30, hx30, hF⟩ := tv_bind hF
          refine ev_xaload (i := 0) 326 dL_law_325 rfl (Nat.le_of_ble_eq_true rfl) (by rw [hX.1, hX.2]; exact hx30) ?_
          obtain ⟨x31, hx31, hF⟩ := tv_bind hF
          refine ev_callVi (i := 0) 329 [.int x30] [] dL_law_326 rfl okV_L_41 rfl rfl (Nat.le_of_ble_eq_true rfl) (Nat.le_of_ble_eq_true rfl) HPg_0 rfl (Nat.le_of_ble_eq_true rfl) (Nat.le_of_ble_eq_true rfl) (R_X7_cast hx31) ?_
          refine ev_aload_n (i := 2) 330 dL_law_329 rfl rfl rfl ?_
          refine ev_aload_n (i := 0) 331 dL_law_330 rfl rfl rfl ?_
          refine ev_iload_n (i := 3) 332 dL_law_331 rfl rfl rfl ?_
          refine ev_iconst 333 dL_law_332 rfl kI_1 ?_
          refine ev_iadd 334 dL_law_333 rfl ?_
          obtain ⟨x32, hx32, hF⟩ := tv_bind hF
          refine ev_xaload (i := 0) 335 dL_law_334 rfl (Nat.le_of_ble_eq_true rfl) (by rw [hX.1, hX.2]; exact hx32) ?_
          obtain ⟨x33, hx33, hF⟩ := tv_bind hF
          refine ev_callVi (i := 125) 338 [.int x32] [.int x31.1] dL_law_335 rfl okV_L_44 rfl rfl (Nat.le_of_ble_eq_true rfl) (Nat.le_of_ble_eq_true rfl) HPg_125 rfl (Nat.le_of_ble_eq_true rfl) (Nat.le_of_ble_eq_true rfl) (R_X8_cast hx33) ?_
          refine ev_icmp_eq 836 341 dL_law_338 rfl rfl (fun hc388 => ?_) (fun hc388 => ?_)
          · rw [if_pos hc388] at hF
            refine ev_iinc (L2 := [.ref 1000, .ref 0, .ref 125, .int (l3 + 5)]) 839 dL_law_836 rfl rfl (kA_5 _) (Nat.le_of_ble_eq_true rfl) rfl ?_
            refine ev_goto 18 dL_law_839 rfl ?_
            exact ih _ _ _ _ _ _ _ _ _ _ _ _ _ _ _ hF
          · rw [if_neg hc388] at hF
            refine ev_iconst 342 dL_law_341 rfl kI_0 ?_
            have hF := Option.some.inj hF
            subst hF
            exact ev_ireturn dL_law_342 rfl rfl
        rw [if_neg hc387] at hF
        by_cases hc389 : (x1 &&& 31) = 7
        · rw [if_pos hc389] at hF
          refine ev_tableIn (off := 311) 343 dL_law_32 (by rw [hc389]; decide) (by rw [hc389]; decide) (by rw [hc389]; rfl) rfl ?_
          refine ev_aload_n (i := 1) 344 dL_law_343 rfl rfl rfl ?_
          obtain ⟨x34, hx34, hF⟩ := tv_bind hF
          refine ev_callVi (i := 0) 347 [] [] dL_law_344 rfl okV_L_45 rfl rfl (Nat.le_of_ble_eq_true rfl) (Nat.le_of_ble_eq_true rfl) HPg_0 rfl (Nat.le_of_ble_eq_true rfl) (Nat.le_of_ble_eq_true rfl) (R_X7_close hx34) ?_
          refine ev_aload_n (i := 2) 348 dL_law_347 rfl rfl rfl ?_
          obtain ⟨x35, hx35, hF⟩ := tv_bind hF
          refine ev_callVi (i := 125) 351 [] [.int x34.1] dL_law_348 rfl okV_L_48 rfl rfl (Nat.le_of_ble_eq_true rfl) (Nat.le_of_ble_eq_true rfl) HPg_125 rfl (Nat.le_of_ble_eq_true rfl) (Nat.le_of_ble_eq_true rfl) (R_X8_close hx35) ?_
          refine ev_icmp_eq 836 354 dL_law_351 rfl rfl (fun hc390 => ?_) (fun hc390 => ?_)
          · rw [if_pos hc390] at hF
            refine ev_iinc (L2 := [.ref 1000, .ref 0, .ref 125, .int (l3 + 5)]) 839 dL_law_836 rfl rfl (kA_5 _) (Nat.le_of_ble_eq_true rfl) rfl ?_
            refine ev_goto 18 dL_law_839 rfl ?_
            exact ih _ _ _ _ _ _ _ _ _ _ _ _ _ _ _ hF
          · rw [if_neg hc390] at hF
            refine ev_iconst 355 dL_law_354 rfl kI_0 ?_
            have hF := Option.some.inj hF
            subst hF
            exact ev_ireturn dL_law_355 rfl rfl
        rw [if_neg hc389] at hF
        by_cases hc391 : (x1 &&& 31) = 8
        · rw [if_pos hc391] at hF
          refine ev_tableIn (off := 324) 356 dL_law_32 (by rw [hc391]; decide) (by rw [hc391]; decide) (by rw [hc391]; rfl) rfl ?_
          refine ev_aload_n (i := 1) 357 dL_law_356 rfl rfl rfl ?_
          refine ev_callVi (i := 0) 360 [] [] dL_law_357 rfl okV_L_49 rfl rfl (Nat.le_of_ble_eq_true rfl) (Nat.le_of_ble_eq_true rfl) HPg_0 rfl (Nat.le_of_ble_eq_true rfl) (Nat.le_of_ble_eq_true rfl) (R_X7_rounds rfl) ?_
          refine ev_aload_n (i := 2) 361 dL_law_360 rfl rfl rfl ?_
          obtain ⟨x36, hx36, hF⟩ := tv_bind hF
          refine ev_callVi (i := 125) 364 [] [.int (F_X7_rounds si)] dL_law_361 rfl okV_L_52 rfl rfl (Nat.le_of_ble_eq_true rfl) (Nat.le_of_ble_eq_true rfl) HPg_125 rfl (Nat.le_of_ble_eq_true rfl) (Nat.le_of_ble_eq_true rfl) (R_X8_rounds hx36) ?_
          refine ev_icmp_eq 836 367 dL_law_364 rfl rfl (fun hc392 => ?_) (fun hc392 => ?_)
          · rw [if_pos hc392] at hF
            refine ev_iinc (L2 := [.ref 1000, .ref 0, .ref 125, .int (l3 + 5)]) 839 dL_law_836 rfl rfl (kA_5 _) (Nat.le_of_ble_eq_true rfl) rfl ?_
            refine ev_goto 18 dL_law_839 rfl ?_
            exact ih _ _ _ _ _ _ _ _ _ _ _ _ _ _ _ hF
          · rw [if_neg hc392] at hF
            refine ev_iconst 368 dL_law_367 rfl kI_0 ?_
            have hF := Option.some.inj hF
            subst hF
            exact ev_ireturn dL_law_368 rfl rfl
        rw [if_neg hc391] at hF
        by_cases hc393 : (x1 &&& 31) = 9
        · rw [if_pos hc393] at hF
          refine ev_tableIn (off := 337) 369 dL_law_32 (by rw [hc393]; decide) (by rw [hc393]; decide) (by rw [hc393]; rfl) rfl ?_
          refine ev_aload_n (i := 1) 370 dL_law_369 rfl rfl rfl ?_
          refine ev_aload_n (i := 0) 371 dL_law_370 rfl rfl rfl ?_
          refine ev_iload_n (i := 3) 372 dL_law_371 rfl rfl rfl ?_
          refine ev_iconst 373 dL_law_372 rfl kI_1 ?_
          refine ev_iadd 374 dL_law_373 rfl ?_
          obtain ⟨x37, hx37, hF⟩ := tv_bind hF
          refine ev_xaload (i := 0) 375 dL_law_374 rfl (Nat.le_of_ble_eq_true rfl) (by rw [hX.1, hX.2]; exact hx37) ?_
          refine ev_aload_n (i := 0) 376 dL_law_375 rfl rfl rfl ?_
          refine ev_iload_n (i := 3) 377 dL_law_376 rfl rfl rfl ?_
          refine ev_iconst 378 dL_law_377 rfl kI_2 ?_
          refine ev_iadd 379 dL_law_378 rfl ?_
          obtain ⟨x38, hx38, hF⟩ := tv_bind hF
          refine ev_xaload (i := 0) 380 dL_law_379 rfl (Nat.le_of_ble_eq_true rfl) (by rw [hX.1, hX.2]; exact hx38) ?_
          obtain ⟨x39, hx39, hF⟩ := tv_bind hF
          refine ev_callVi (i := 0) 383 [.int x37, .int x38] [] dL_law_380 rfl okV_L_53 rfl rfl (Nat.le_of_ble_eq_true rfl) (Nat.le_of_ble_eq_true rfl) HPg_0 rfl (Nat.le_of_ble_eq_true rfl) (Nat.le_of_ble_eq_true rfl) (R_X7_tally hx39) ?_
          refine ev_aload_n (i := 2) 384 dL_law_383 rfl rfl rfl ?_
          refine ev_aload_n (i := 0) 385 dL_law_384 rfl rfl rfl ?_
          refine ev_iload_n (i := 3) 386 dL_law_385 rfl rfl rfl ?_
          refine ev_iconst 387 dL_law_386 rfl kI_1 ?_
          refine ev_iadd 388 dL_law_387 rfl ?_
          obtain ⟨x40, hx40, hF⟩ := tv_bind hF
          refine ev_xaload (i := 0) 389 dL_law_388 rfl (Nat.le_of_ble_eq_true rfl) (by rw [hX.1, hX.2]; exact hx40) ?_
          refine ev_aload_n (i := 0) 390 dL_law_389 rfl rfl rfl ?_
          refine ev_iload_n (i := 3) 391 dL_law_390 rfl rfl rfl ?_
          refine ev_iconst 392 dL_law_391 rfl kI_2 ?_
          refine ev_iadd 393 dL_law_392 rfl ?_
          obtain ⟨x41, hx41, hF⟩ := tv_bind hF
          refine ev_xaload (i := 0) 394 dL_law_393 rfl (Nat.le_of_ble_eq_true rfl) (by rw [hX.1, hX.2]; exact hx41) ?_
          obtain ⟨x42, hx42, hF⟩ := tv_bind hF
          refine ev_callVi (i := 125) 397 [.int x40, .int x41] [.int x39] dL_law_394 rfl okV_L_56 rfl rfl (Nat.le_of_ble_eq_true rfl) (Nat.le_of_ble_eq_true rfl) HPg_125 rfl (Nat.le_of_ble_eq_true rfl) (Nat.le_of_ble_eq_true rfl) (R_X8_tally hx42) ?_
          refine ev_icmp_eq 836 400 dL_law_397 rfl rfl (fun hc394 => ?_) (fun hc394 => ?_)
          · rw [if_pos hc394] at hF
            refine ev_iinc (L2 := [.ref 1000, .ref 0, .ref 125, .int (l3 + 5)]) 839 dL_law_836 rfl rfl (kA_5 _) (Nat.le_of_ble_eq_true rfl) rfl ?_
            refine ev_goto 18 dL_law_839 rfl ?_
            exact ih _ _ _ _ _ _ _ _ _ _ _ _ _ _ _ hF
          · rw [if_neg hc394] at hF
            refine ev_iconst 401 dL_law_400 rfl kI_0 ?_
            have hF := Option.some.inj hF
            subst hF
            exact ev_ireturn dL_law_401 rfl rfl
        rw [if_neg hc393] at hF
        by_cases hc395 : (x1 &&& 31) = 10
        · rw [if_pos hc395] at hF
          refine ev_tableIn (off := 370) 402 dL_law_32 (by rw [hc395]; decide) (by rw [hc395]; decide) (by rw [hc395]; rfl) rfl ?_
          refine ev_aload_n (i := 1) 403 dL_law_402 rfl rfl rfl ?_
          refine ev_aload_n (i := 0) 404 dL_law_403 rfl rfl rfl ?_
          refine ev_iload_n (i := 3) 405 dL_law_404 rfl rfl rfl ?_
          refine ev_iconst 406 dL_law_405 rfl kI_1 ?_
          refine ev_iadd 407 dL_law_406 rfl ?_
          obtain ⟨x43, hx43, hF⟩ := tv_bind hF
          refine ev_xaload (i := 0) 408 dL_law_407 rfl (Nat.le_of_ble_eq_true rfl) (by rw [hX.1, hX.2]; exact hx43) ?_
          refine ev_aload_n (i := 0) 409 dL_law_408 rfl rfl rfl ?_
          refine ev_iload_n (i := 3) 410 dL_law_409 rfl rfl rfl ?_
          refine ev_iconst 411 dL_law_410 rfl kI_2 ?_
          refine ev_iadd 412 dL_law_411 rfl ?_
          obtain ⟨x44, hx44, hF⟩ := tv_bind hF
          refine ev_xaload (i := 0) 413 dL_law_412 rfl (Nat.le_of_ble_eq_true rfl) (by rw [hX.1, hX.2]; exact hx44) ?_
          obtain ⟨x45, hx45, hF⟩ := tv_bind hF
          refine ev_callVi (i := 0) 416 [.int x43, .int x44] [] dL_law_413 rfl okV_L_57 rfl rfl (Nat.le_of_ble_eq_true rfl) (Nat.le_of_ble_eq_true rfl) HPg_0 rfl (Nat.le_of_ble_eq_true rfl) (Nat.le_of_ble_eq_true rfl) (R_X7_ballot hx45) ?_
          refine ev_aload_n (i := 2) 417 dL_law_416 rfl rfl rfl ?_
          refine ev_aload_n (i := 0) 418 dL_law_417 rfl rfl rfl ?_
          refine ev_iload_n (i := 3) 419 dL_law_418 rfl rfl rfl ?_
          refine ev_iconst 420 dL_law_419 rfl kI_1 ?_
          refine ev_iadd 421 dL_law_420 rfl ?_
          obtain ⟨x46, hx46, hF⟩ := tv_bind hF
          refine ev_xaload (i := 0) 422 dL_law_421 rfl (Nat.le_of_ble_eq_true rfl) (by rw [hX.1, hX.2]; exact hx46) ?_
          refine ev_aload_n (i := 0) 423 dL_law_422 rfl rfl rfl ?_
          refine ev_iload_n (i := 3) 424 dL_law_423 rfl rfl rfl ?_
          refine ev_iconst 425 dL_law_424 rfl kI_2 ?_
          refine ev_iadd 426 dL_law_425 rfl ?_
          obtain ⟨x47, hx47, hF⟩ := tv_bind hF
          refine ev_xaload (i := 0) 427 dL_law_426 rfl (Nat.le_of_ble_eq_true rfl) (by rw [hX.1, hX.2]; exact hx47) ?_
          obtain ⟨x48, hx48, hF⟩ := tv_bind hF
          refine ev_callVi (i := 125) 430 [.int x46, .int x47] [.int x45] dL_law_427 rfl okV_L_60 rfl rfl (Nat.le_of_ble_eq_true rfl) (Nat.le_of_ble_eq_true rfl) HPg_125 rfl (Nat.le_of_ble_eq_true rfl) (Nat.le_of_ble_eq_true rfl) (R_X8_ballot hx48) ?_
          refine ev_icmp_eq 836 433 dL_law_430 rfl rfl (fun hc396 => ?_) (fun hc396 => ?_)
          · rw [if_pos hc396] at hF
            refine ev_iinc (L2 := [.ref 1000, .ref 0, .ref 125, .int (l3 + 5)]) 839 dL_law_836 rfl rfl (kA_5 _) (Nat.le_of_ble_eq_true rfl) rfl ?_
            refine ev_goto 18 dL_law_839 rfl ?_
            exact ih _ _ _ _ _ _ _ _ _ _ _ _ _ _ _ hF
          · rw [if_neg hc396] at hF
            refine ev_iconst 434 dL_law_433 rfl kI_0 ?_
            have hF := Option.some.inj hF
            subst hF
            exact ev_ireturn dL_law_434 rfl rfl
        rw [if_neg hc395] at hF
        by_cases hc397 : (x1 &&& 31) = 11
        · rw [if_pos hc397] at hF
          refine ev_tableIn (off := 403) 435 dL_law_32 (by rw [hc397]; decide) (by rw [hc397]; decide) (by rw [hc397]; rfl) rfl ?_
          refine ev_aload_n (i := 1) 436 dL_law_435 rfl rfl rfl ?_
          refine ev_callVi (i := 0) 439 [] [] dL_law_436 rfl okV_L_61 rfl rfl (Nat.le_of_ble_eq_true rfl) (Nat.le_of_ble_eq_true rfl) HPg_0 rfl (Nat.le_of_ble_eq_true rfl) (Nat.le_of_ble_eq_true rfl) (R_X7_office rfl) ?_
          refine ev_aload_n (i := 2) 440 dL_law_439 rfl rfl rfl ?_
          obtain ⟨x49, hx49, hF⟩ := tv_bind hF
          refine ev_callVi (i := 125) 443 [] [.int (F_X7_office si)] dL_law_440 rfl okV_L_64 rfl rfl (Nat.le_of_ble_eq_true rfl) (Nat.le_of_ble_eq_true rfl) HPg_125 rfl (Nat.le_of_ble_eq_true rfl) (Nat.le_of_ble_eq_true rfl) (R_X8_office hx49) ?_
          refine ev_icmp_eq 836 446 dL_law_443 rfl rfl (fun hc398 => ?_) (fun hc398 => ?_)
          · rw [if_pos hc398] at hF
            refine ev_iinc (L2 := [.ref 1000, .ref 0, .ref 125, .int (l3 + 5)]) 839 dL_law_836 rfl rfl (kA_5 _) (Nat.le_of_ble_eq_true rfl) rfl ?_
            refine ev_goto 18 dL_law_839 rfl ?_
            exact ih _ _ _ _ _ _ _ _ _ _ _ _ _ _ _ hF
          · rw [if_neg hc398] at hF
            refine ev_iconst 447 dL_law_446 rfl kI_0 ?_
            have hF := Option.some.inj hF
            subst hF
            exact ev_ireturn dL_law_447 rfl rfl
        rw [if_neg hc397] at hF
        by_cases hc399 : (x1 &&& 31) = 12
        · rw [if_pos hc399] at hF
          refine ev_tableIn (off := 416) 448 dL_law_32 (by rw [hc399]; decide) (by rw [hc399]; decide) (by rw [hc399]; rfl) rfl ?_
          refine ev_aload_n (i := 1) 449 dL_law_448 rfl rfl rfl ?_
          refine ev_callVi (i := 0) 452 [] [] dL_law_449 rfl okV_L_65 rfl rfl (Nat.le_of_ble_eq_true rfl) (Nat.le_of_ble_eq_true rfl) HPg_0 rfl (Nat.le_of_ble_eq_true rfl) (Nat.le_of_ble_eq_true rfl) (R_X7_holder rfl) ?_
          refine ev_aload_n (i := 2) 453 dL_law_452 rfl rfl rfl ?_
          obtain ⟨x50, hx50, hF⟩ := tv_bind hF
          refine ev_callVi (i := 125) 456 [] [.int (F_X7_holder si)] dL_law_453 rfl okV_L_68 rfl rfl (Nat.le_of_ble_eq_true rfl) (Nat.le_of_ble_eq_true rfl) HPg_125 rfl (Nat.le_of_ble_eq_true rfl) (Nat.le_of_ble_eq_true rfl) (R_X8_holder hx50) ?_
          refine ev_icmp_eq 836 459 dL_law_456 rfl rfl (fun hc400 => ?_) (fun hc400 => ?_)
          · rw [if_pos hc400] at hF
            refine ev_iinc (L2 := [.ref 1000, .ref 0, .ref 125, .int (l3 + 5)]) 839 dL_law_836 rfl rfl (kA_5 _) (Nat.le_of_ble_eq_true rfl) rfl ?_
            refine ev_goto 18 dL_law_839 rfl ?_
            exact ih _ _ _ _ _ _ _ _ _ _ _ _ _ _ _ hF
          · rw [if_neg hc400] at hF
            refine ev_iconst 460 dL_law_459 rfl kI_0 ?_
            have hF := Option.some.inj hF
            subst hF
            exact ev_ireturn dL_law_460 rfl rfl
        rw [if_neg hc399] at hF
        by_cases hc401 : (x1 &&& 31) = 13
        · rw [if_pos hc401] at hF
          refine ev_tableIn (off := 429) 461 dL_law_32 (by rw [hc401]; decide) (by rw [hc401]; decide) (by rw [hc401]; rfl) rfl ?_
          refine ev_aload_n (i := 1) 462 dL_law_461 rfl rfl rfl ?_
          refine ev_aload_n (i := 0) 463 dL_law_462 rfl rfl rfl ?_
          refine ev_iload_n (i := 3) 464 dL_law_463 rfl rfl rfl ?_
          refine ev_iconst 465 dL_law_464 rfl kI_1 ?_
          refine ev_iadd 466 dL_law_465 rfl ?_
          obtain ⟨x51, hx51, hF⟩ := tv_bind hF
          refine ev_xaload (i := 0) 467 dL_law_466 rfl (Nat.le_of_ble_eq_true rfl) (by rw [hX.1, hX.2]; exact hx51) ?_
          obtain ⟨x52, hBx52, hF⟩ := tv_bind hF
          have Jx52 : tv_E g l yL_law cL_law 4 (some .boolean) 8 0 0 475 [.ref 1000, .ref 0, .ref 125, .int l3] [.int x52, .ref 0] (HP si sa hs tx tl hc hn v pa mt pm ty ra) (some (.int p.1)) (HP p.2.1 p.2.2.1 p.2.2.2.1 p.2.2.2.2.1 p.2.2.2.2.2.1 p.2.2.2.2.2.2.1 p.2.2.2.2.2.2.2.1 p.2.2.2.2.2.2.2.2.1 p.2.2.2.2.2.2.2.2.2.1 p.2.2.2.2.2.2.2.2.2.2.1 p.2.2.2.2.2.2.2.2.2.2.2.1 p.2.2.2.2.2.2.2.2.2.2.2.2.1 p.2.2.2.2.2.2.2.2.2.2.2.2.2) := by
            obtain ⟨x53, hx53, hF⟩ := tv_bind hF
            refine ev_callVi (i := 0) 478 [.int x52] [] dL_law_475 rfl okV_L_69 rfl rfl (Nat.le_of_ble_eq_true rfl) (Nat.le_of_ble_eq_true rfl) HPg_0 rfl (Nat.le_of_ble_eq_true rfl) (Nat.le_of_ble_eq_true rfl) (R_X7_deed hx53) ?_
            refine ev_aload_n (i := 2) 479 dL_law_478 rfl rfl rfl ?_
            refine ev_aload_n (i := 0) 480 dL_law_479 rfl rfl rfl ?_
            refine ev_iload_n (i := 3) 481 dL_law_480 rfl rfl rfl ?_
            refine ev_iconst 482 dL_law_481 rfl kI_1 ?_
            refine ev_iadd 483 dL_law_482 rfl ?_
            obtain ⟨x54, hx54, hF⟩ := tv_bind hF
            refine ev_xaload (i := 0) 484 dL_law_483 rfl (Nat.le_of_ble_eq_true rfl) (by rw [hX.1, hX.2]; exact hx54) ?_
            obtain ⟨x55, hBx55, hF⟩ := tv_bind hF
            have Jx55 : tv_E g l yL_law cL_law 4 (some .boolean) 8 0 0 492 [.ref 1000, .ref 0, .ref 125, .int l3] [.int x55, .ref 125, .int x53.1] (HP si x53.2.1 x53.2.2.1 tx tl x53.2.2.2.1 x53.2.2.2.2 v pa mt pm ty ra) (some (.int p.1)) (HP p.2.1 p.2.2.1 p.2.2.2.1 p.2.2.2.2.1 p.2.2.2.2.2.1 p.2.2.2.2.2.2.1 p.2.2.2.2.2.2.2.1 p.2.2.2.2.2.2.2.2.1 p.2.2.2.2.2.2.2.2.2.1 p.2.2.2.2.2.2.2.2.2.2.1 p.2.2.2.2.2.2.2.2.2.2.2.1 p.2.2.2.2.2.2.2.2.2.2.2.2.1 p.2.2.2.2.2.2.2.2.2.2.2.2.2) := by
              obtain ⟨x56, hx56, hF⟩ := tv_bind hF
              refine ev_callVi (i := 125) 495 [.int x55] [.int x53.1] dL_law_492 rfl okV_L_73 rfl rfl (Nat.le_of_ble_eq_true rfl) (Nat.le_of_ble_eq_true rfl) HPg_125 rfl (Nat.le_of_ble_eq_true rfl) (Nat.le_of_ble_eq_true rfl) (R_X8_deed hx56) ?_
              refine ev_icmp_eq 836 498 dL_law_495 rfl rfl (fun hc402 => ?_) (fun hc402 => ?_)
              · rw [if_pos hc402] at hF
                refine ev_iinc (L2 := [.ref 1000, .ref 0, .ref 125, .int (l3 + 5)]) 839 dL_law_836 rfl rfl (kA_5 _) (Nat.le_of_ble_eq_true rfl) rfl ?_
                refine ev_goto 18 dL_law_839 rfl ?_
                exact ih _ _ _ _ _ _ _ _ _ _ _ _ _ _ _ hF
              · rw [if_neg hc402] at hF
                refine ev_iconst 499 dL_law_498 rfl kI_0 ?_
                have hF := Option.some.inj hF
                subst hF
                exact ev_ireturn dL_law_499 rfl rfl
            clear hF
            refine ev_if_eq 491 487 dL_law_484 rfl rfl (fun hc403 => ?_) (fun hc403 => ?_)
            · rw [if_pos hc403] at hBx55
              refine ev_iconst 492 dL_law_491 rfl kI_0 ?_
              have hBx55 := Option.some.inj hBx55
              subst hBx55
              exact Jx55
            · rw [if_neg hc403] at hBx55
              refine ev_iconst 488 dL_law_487 rfl kI_1 ?_
              refine ev_goto 492 dL_law_488 rfl ?_
              have hBx55 := Option.some.inj hBx55
              subst hBx55
              exact Jx55
          clear hF
          refine ev_if_eq 474 470 dL_law_467 rfl rfl (fun hc404 => ?_) (fun hc404 => ?_)
          · rw [if_pos hc404] at hBx52
            refine ev_iconst 475 dL_law_474 rfl kI_0 ?_
            have hBx52 := Option.some.inj hBx52
            subst hBx52
            exact Jx52
          · rw [if_neg hc404] at hBx52
            refine ev_iconst 471 dL_law_470 rfl kI_1 ?_
            refine ev_goto 475 dL_law_471 rfl ?_
            have hBx52 := Option.some.inj hBx52
            subst hBx52
            exact Jx52
        rw [if_neg hc401] at hF
        by_cases hc405 : (x1 &&& 31) = 14
        · rw [if_pos hc405] at hF
          refine ev_tableIn (off := 468) 500 dL_law_32 (by rw [hc405]; decide) (by rw [hc405]; decide) (by rw [hc405]; rfl) rfl ?_
          refine ev_aload_n (i := 1) 501 dL_law_500 rfl rfl rfl ?_
          refine ev_aload_n (i := 0) 502 dL_law_501 rfl rfl rfl ?_
          refine ev_iload_n (i := 3) 503 dL_law_502 rfl rfl rfl ?_
          refine ev_iconst 504 dL_law_503 rfl kI_1 ?_
          refine ev_iadd 505 dL_law_504 rfl ?_
          obtain ⟨x57, hx57, hF⟩ := tv_bind hF
          refine ev_xaload (i := 0) 506 dL_law_505 rfl (Nat.le_of_ble_eq_true rfl) (by rw [hX.1, hX.2]; exact hx57) ?_
          refine ev_aload_n (i := 0) 507 dL_law_506 rfl rfl rfl ?_
          refine ev_iload_n (i := 3) 508 dL_law_507 rfl rfl rfl ?_
          refine ev_iconst 509 dL_law_508 rfl kI_2 ?_
          refine ev_iadd 510 dL_law_509 rfl ?_
          obtain ⟨x58, hx58, hF⟩ := tv_bind hF
          refine ev_xaload (i := 0) 511 dL_law_510 rfl (Nat.le_of_ble_eq_true rfl) (by rw [hX.1, hX.2]; exact hx58) ?_
          obtain ⟨x59, hBx59, hF⟩ := tv_bind hF
          have Jx59 : tv_E g l yL_law cL_law 4 (some .boolean) 8 0 0 519 [.ref 1000, .ref 0, .ref 125, .int l3] [.int x59, .int x57, .ref 0] (HP si sa hs tx tl hc hn v pa mt pm ty ra) (some (.int p.1)) (HP p.2.1 p.2.2.1 p.2.2.2.1 p.2.2.2.2.1 p.2.2.2.2.2.1 p.2.2.2.2.2.2.1 p.2.2.2.2.2.2.2.1 p.2.2.2.2.2.2.2.2.1 p.2.2.2.2.2.2.2.2.2.1 p.2.2.2.2.2.2.2.2.2.2.1 p.2.2.2.2.2.2.2.2.2.2.2.1 p.2.2.2.2.2.2.2.2.2.2.2.2.1 p.2.2.2.2.2.2.2.2.2.2.2.2.2) := by
            obtain ⟨x60, hx60, hF⟩ := tv_bind hF
            refine ev_callVi (i := 0) 522 [.int x57, .int x59] [] dL_law_519 rfl okV_L_74 rfl rfl (Nat.le_of_ble_eq_true rfl) (Nat.le_of_ble_eq_true rfl) HPg_0 rfl (Nat.le_of_ble_eq_true rfl) (Nat.le_of_ble_eq_true rfl) (R_X7_sign hx60) ?_
            refine ev_aload_n (i := 2) 523 dL_law_522 rfl rfl rfl ?_
            refine ev_aload_n (i := 0) 524 dL_law_523 rfl rfl rfl ?_
            refine ev_iload_n (i := 3) 525 dL_law_524 rfl rfl rfl ?_
            refine ev_iconst 526 dL_law_525 rfl kI_1 ?_
            refine ev_iadd 527 dL_law_526 rfl ?_
            obtain ⟨x61, hx61, hF⟩ := tv_bind hF
            refine ev_xaload (i := 0) 528 dL_law_527 rfl (Nat.le_of_ble_eq_true rfl) (by rw [hX.1, hX.2]; exact hx61) ?_
            refine ev_aload_n (i := 0) 529 dL_law_528 rfl rfl rfl ?_
            refine ev_iload_n (i := 3) 530 dL_law_529 rfl rfl rfl ?_
            refine ev_iconst 531 dL_law_530 rfl kI_2 ?_
            refine ev_iadd 532 dL_law_531 rfl ?_
            obtain ⟨x62, hx62, hF⟩ := tv_bind hF
            refine ev_xaload (i := 0) 533 dL_law_532 rfl (Nat.le_of_ble_eq_true rfl) (by rw [hX.1, hX.2]; exact hx62) ?_
            obtain ⟨x63, hBx63, hF⟩ := tv_bind hF
            have Jx63 : tv_E g l yL_law cL_law 4 (some .boolean) 8 0 0 541 [.ref 1000, .ref 0, .ref 125, .int l3] [.int x63, .int x61, .ref 125, .int x60.1] (HP x60.2.1 x60.2.2.1 x60.2.2.2.1 tx tl x60.2.2.2.2.1 x60.2.2.2.2.2 v pa mt pm ty ra) (some (.int p.1)) (HP p.2.1 p.2.2.1 p.2.2.2.1 p.2.2.2.2.1 p.2.2.2.2.2.1 p.2.2.2.2.2.2.1 p.2.2.2.2.2.2.2.1 p.2.2.2.2.2.2.2.2.1 p.2.2.2.2.2.2.2.2.2.1 p.2.2.2.2.2.2.2.2.2.2.1 p.2.2.2.2.2.2.2.2.2.2.2.1 p.2.2.2.2.2.2.2.2.2.2.2.2.1 p.2.2.2.2.2.2.2.2.2.2.2.2.2) := by
              obtain ⟨x64, hx64, hF⟩ := tv_bind hF
              refine ev_callVi (i := 125) 544 [.int x61, .int x63] [.int x60.1] dL_law_541 rfl okV_L_77 rfl rfl (Nat.le_of_ble_eq_true rfl) (Nat.le_of_ble_eq_true rfl) HPg_125 rfl (Nat.le_of_ble_eq_true rfl) (Nat.le_of_ble_eq_true rfl) (R_X8_sign hx64) ?_
              refine ev_icmp_eq 836 547 dL_law_544 rfl rfl (fun hc406 => ?_) (fun hc406 => ?_)
              · rw [if_pos hc406] at hF
                refine ev_iinc (L2 := [.ref 1000, .ref 0, .ref 125, .int (l3 + 5)]) 839 dL_law_836 rfl rfl (kA_5 _) (Nat.le_of_ble_eq_true rfl) rfl ?_
                refine ev_goto 18 dL_law_839 rfl ?_
                exact ih _ _ _ _ _ _ _ _ _ _ _ _ _ _ _ hF
              · rw [if_neg hc406] at hF
                refine ev_iconst 548 dL_law_547 rfl kI_0 ?_
                have hF := Option.some.inj hF
                subst hF
                exact ev_ireturn dL_law_548 rfl rfl
            clear hF
            refine ev_if_eq 540 536 dL_law_533 rfl rfl (fun hc407 => ?_) (fun hc407 => ?_)
            · rw [if_pos hc407] at hBx63
              refine ev_iconst 541 dL_law_540 rfl kI_0 ?_
              have hBx63 := Option.some.inj hBx63
              subst hBx63
              exact Jx63
            · rw [if_neg hc407] at hBx63
              refine ev_iconst 537 dL_law_536 rfl kI_1 ?_
              refine ev_goto 541 dL_law_537 rfl ?_
              have hBx63 := Option.some.inj hBx63
              subst hBx63
              exact Jx63
          clear hF
          refine ev_if_eq 518 514 dL_law_511 rfl rfl (fun hc408 => ?_) (fun hc408 => ?_)
          · rw [if_pos hc408] at hBx59
            refine ev_iconst 519 dL_law_518 rfl kI_0 ?_
            have hBx59 := Option.some.inj hBx59
            subst hBx59
            exact Jx59
          · rw [if_neg hc408] at hBx59
            refine ev_iconst 515 dL_law_514 rfl kI_1 ?_
            refine ev_goto 519 dL_law_515 rfl ?_
            have hBx59 := Option.some.inj hBx59
            subst hBx59
            exact Jx59
        rw [if_neg hc405] at hF
        by_cases hc409 : (x1 &&& 31) = 15
        · rw [if_pos hc409] at hF
          refine ev_tableIn (off := 517) 549 dL_law_32 (by rw [hc409]; decide) (by rw [hc409]; decide) (by rw [hc409]; rfl) rfl ?_
          refine ev_aload_n (i := 1) 550 dL_law_549 rfl rfl rfl ?_
          refine ev_aload_n (i := 0) 551 dL_law_550 rfl rfl rfl ?_
          refine ev_iload_n (i := 3) 552 dL_law_551 rfl rfl rfl ?_
          refine ev_iconst 553 dL_law_552 rfl kI_1 ?_
          refine ev_iadd 554 dL_law_553 rfl ?_
          obtain ⟨x65, hx65, hF⟩ := tv_bind hF
          refine ev_xaload (i := 0) 555 dL_law_554 rfl (Nat.le_of_ble_eq_true rfl) (by rw [hX.1, hX.2]; exact hx65) ?_
          refine ev_aload_n (i := 0) 556 dL_law_555 rfl rfl rfl ?_
          refine ev_iload_n (i := 3) 557 dL_law_556 rfl rfl rfl ?_
          refine ev_iconst 558 dL_law_557 rfl kI_2 ?_
          refine ev_iadd 559 dL_law_558 rfl ?_
          obtain ⟨x66, hx66, hF⟩ := tv_bind hF
          refine ev_xaload (i := 0) 560 dL_law_559 rfl (Nat.le_of_ble_eq_true rfl) (by rw [hX.1, hX.2]; exact hx66) ?_
          refine ev_aload_n (i := 0) 561 dL_law_560 rfl rfl rfl ?_
          refine ev_iload_n (i := 3) 562 dL_law_561 rfl rfl rfl ?_
          refine ev_iconst 563 dL_law_562 rfl kI_3 ?_
          refine ev_iadd 564 dL_law_563 rfl ?_
          obtain ⟨x67, hx67, hF⟩ := tv_bind hF
          refine ev_xaload (i := 0) 565 dL_law_564 rfl (Nat.le_of_ble_eq_true rfl) (by rw [hX.1, hX.2]; exact hx67) ?_
          refine ev_aload_n (i := 0) 566 dL_law_565 rfl rfl rfl ?_
          refine ev_iload_n (i := 3) 567 dL_law_566 rfl rfl rfl ?_
          refine ev_iconst 568 dL_law_567 rfl kI_4 ?_
          refine ev_iadd 569 dL_law_568 rfl ?_
          obtain ⟨x68, hx68, hF⟩ := tv_bind hF
          refine ev_xaload (i := 0) 570 dL_law_569 rfl (Nat.le_of_ble_eq_true rfl) (by rw [hX.1, hX.2]; exact hx68) ?_
          obtain ⟨x69, hx69, hF⟩ := tv_bind hF
          refine ev_callVi (i := 0) 573 [.int x65, .int x66, .int x67, .int x68] [] dL_law_570 rfl okV_L_78 rfl rfl (Nat.le_of_ble_eq_true rfl) (Nat.le_of_ble_eq_true rfl) HPg_0 rfl (Nat.le_of_ble_eq_true rfl) (Nat.le_of_ble_eq_true rfl) (R_X7_grade hx69) ?_
          refine ev_aload_n (i := 2) 574 dL_law_573 rfl rfl rfl ?_
          refine ev_aload_n (i := 0) 575 dL_law_574 rfl rfl rfl ?_
          refine ev_iload_n (i := 3) 576 dL_law_575 rfl rfl rfl ?_
          refine ev_iconst 577 dL_law_576 rfl kI_1 ?_
          refine ev_iadd 578 dL_law_577 rfl ?_
          obtain ⟨x70, hx70, hF⟩ := tv_bind hF
          refine ev_xaload (i := 0) 579 dL_law_578 rfl (Nat.le_of_ble_eq_true rfl) (by rw [hX.1, hX.2]; exact hx70) ?_
          refine ev_aload_n (i := 0) 580 dL_law_579 rfl rfl rfl ?_
          refine ev_iload_n (i := 3) 581 dL_law_580 rfl rfl rfl ?_
          refine ev_iconst 582 dL_law_581 rfl kI_2 ?_
          refine ev_iadd 583 dL_law_582 rfl ?_
          obtain ⟨x71, hx71, hF⟩ := tv_bind hF
          refine ev_xaload (i := 0) 584 dL_law_583 rfl (Nat.le_of_ble_eq_true rfl) (by rw [hX.1, hX.2]; exact hx71) ?_
          refine ev_aload_n (i := 0) 585 dL_law_584 rfl rfl rfl ?_
          refine ev_iload_n (i := 3) 586 dL_law_585 rfl rfl rfl ?_
          refine ev_iconst 587 dL_law_586 rfl kI_3 ?_
          refine ev_iadd 588 dL_law_587 rfl ?_
          obtain ⟨x72, hx72, hF⟩ := tv_bind hF
          refine ev_xaload (i := 0) 589 dL_law_588 rfl (Nat.le_of_ble_eq_true rfl) (by rw [hX.1, hX.2]; exact hx72) ?_
          refine ev_aload_n (i := 0) 590 dL_law_589 rfl rfl rfl ?_
          refine ev_iload_n (i := 3) 591 dL_law_590 rfl rfl rfl ?_
          refine ev_iconst 592 dL_law_591 rfl kI_4 ?_
          refine ev_iadd 593 dL_law_592 rfl ?_
          obtain ⟨x73, hx73, hF⟩ := tv_bind hF
          refine ev_xaload (i := 0) 594 dL_law_593 rfl (Nat.le_of_ble_eq_true rfl) (by rw [hX.1, hX.2]; exact hx73) ?_
          obtain ⟨x74, hx74, hF⟩ := tv_bind hF
          refine ev_callVi (i := 125) 597 [.int x70, .int x71, .int x72, .int x73] [.int x69.1] dL_law_594 rfl okV_L_82 rfl rfl (Nat.le_of_ble_eq_true rfl) (Nat.le_of_ble_eq_true rfl) HPg_125 rfl (Nat.le_of_ble_eq_true rfl) (Nat.le_of_ble_eq_true rfl) (R_X8_grade hx74) ?_
          refine ev_icmp_eq 836 600 dL_law_597 rfl rfl (fun hc410 => ?_) (fun hc410 => ?_)
          · rw [if_pos hc410] at hF
            refine ev_iinc (L2 := [.ref 1000, .ref 0, .ref 125, .int (l3 + 5)]) 839 dL_law_836 rfl rfl (kA_5 _) (Nat.le_of_ble_eq_true rfl) rfl ?_
            refine ev_goto 18 dL_law_839 rfl ?_
            exact ih _ _ _ _ _ _ _ _ _ _ _ _ _ _ _ hF
          · rw [if_neg hc410] at hF
            refine ev_iconst 601 dL_law_600 rfl kI_0 ?_
            have hF := Option.some.inj hF
            subst hF
            exact ev_ireturn dL_law_601 rfl rfl
        rw [if_neg hc409] at hF
        by_cases hc411 : (x1 &&& 31) = 16
        · rw [if_pos hc411] at hF
          refine ev_tableIn (off := 570) 602 dL_law_32 (by rw [hc411]; decide) (by rw [hc411]; decide) (by rw [hc411]; rfl) rfl ?_
          refine ev_aload_n (i := 1) 603 dL_law_602 rfl rfl rfl ?_
          refine ev_aload_n (i := 0) 604 dL_law_603 rfl rfl rfl ?_
          refine ev_iload_n (i := 3) 605 dL_law_604 rfl rfl rfl ?_
          refine ev_iconst 606 dL_law_605 rfl kI_1 ?_
          refine ev_iadd 607 dL_law_606 rfl ?_
          obtain ⟨x75, hx75, hF⟩ := tv_bind hF
          refine ev_xaload (i := 0) 608 dL_law_607 rfl (Nat.le_of_ble_eq_true rfl) (by rw [hX.1, hX.2]; exact hx75) ?_
          refine ev_aload_n (i := 0) 609 dL_law_608 rfl rfl rfl ?_
          refine ev_iload_n (i := 3) 610 dL_law_609 rfl rfl rfl ?_
          refine ev_iconst 611 dL_law_610 rfl kI_2 ?_
          refine ev_iadd 612 dL_law_611 rfl ?_
          obtain ⟨x76, hx76, hF⟩ := tv_bind hF
          refine ev_xaload (i := 0) 613 dL_law_612 rfl (Nat.le_of_ble_eq_true rfl) (by rw [hX.1, hX.2]; exact hx76) ?_
          obtain ⟨x77, hx77, hF⟩ := tv_bind hF
          refine ev_callVi (i := 0) 616 [.int x75, .int x76] [] dL_law_613 rfl okV_L_83 rfl rfl (Nat.le_of_ble_eq_true rfl) (Nat.le_of_ble_eq_true rfl) HPg_0 rfl (Nat.le_of_ble_eq_true rfl) (Nat.le_of_ble_eq_true rfl) (R_X7_term hx77) ?_
          refine ev_aload_n (i := 2) 617 dL_law_616 rfl rfl rfl ?_
          refine ev_aload_n (i := 0) 618 dL_law_617 rfl rfl rfl ?_
          refine ev_iload_n (i := 3) 619 dL_law_618 rfl rfl rfl ?_
          refine ev_iconst 620 dL_law_619 rfl kI_1 ?_
          refine ev_iadd 621 dL_law_620 rfl ?_
          obtain ⟨x78, hx78, hF⟩ := tv_bind hF
          refine ev_xaload (i := 0) 622 dL_law_621 rfl (Nat.le_of_ble_eq_true rfl) (by rw [hX.1, hX.2]; exact hx78) ?_
          refine ev_aload_n (i := 0) 623 dL_law_622 rfl rfl rfl ?_
          refine ev_iload_n (i := 3) 624 dL_law_623 rfl rfl rfl ?_
          refine ev_iconst 625 dL_law_624 rfl kI_2 ?_
          refine ev_iadd 626 dL_law_625 rfl ?_
          obtain ⟨x79, hx79, hF⟩ := tv_bind hF
          refine ev_xaload (i := 0) 627 dL_law_626 rfl (Nat.le_of_ble_eq_true rfl) (by rw [hX.1, hX.2]; exact hx79) ?_
          obtain ⟨x80, hx80, hF⟩ := tv_bind hF
          refine ev_callVi (i := 125) 630 [.int x78, .int x79] [.int x77] dL_law_627 rfl okV_L_86 rfl rfl (Nat.le_of_ble_eq_true rfl) (Nat.le_of_ble_eq_true rfl) HPg_125 rfl (Nat.le_of_ble_eq_true rfl) (Nat.le_of_ble_eq_true rfl) (R_X8_term hx80) ?_
          refine ev_icmp_eq 836 633 dL_law_630 rfl rfl (fun hc412 => ?_) (fun hc412 => ?_)
          · rw [if_pos hc412] at hF
            refine ev_iinc (L2 := [.ref 1000, .ref 0, .ref 125, .int (l3 + 5)]) 839 dL_law_836 rfl rfl (kA_5 _) (Nat.le_of_ble_eq_true rfl) rfl ?_
            refine ev_goto 18 dL_law_839 rfl ?_
            exact ih _ _ _ _ _ _ _ _ _ _ _ _ _ _ _ hF
          · rw [if_neg hc412] at hF
            refine ev_iconst 634 dL_law_633 rfl kI_0 ?_
            have hF := Option.some.inj hF
            subst hF
            exact ev_ireturn dL_law_634 rfl rfl
        rw [if_neg hc411] at hF
        by_cases hc413 : (x1 &&& 31) = 17
        · rw [if_pos hc413] at hF
          refine ev_tableIn (off := 603) 635 dL_law_32 (by rw [hc413]; decide) (by rw [hc413]; decide) (by rw [hc413]; rfl) rfl ?_
          refine ev_aload_n (i := 1) 636 dL_law_635 rfl rfl rfl ?_
          refine ev_aload_n (i := 0) 637 dL_law_636 rfl rfl rfl ?_
          refine ev_iload_n (i := 3) 638 dL_law_637 rfl rfl rfl ?_
          refine ev_iconst 639 dL_law_638 rfl kI_1 ?_
          refine ev_iadd 640 dL_law_639 rfl ?_
          obtain ⟨x81, hx81, hF⟩ := tv_bind hF
          refine ev_xaload (i := 0) 641 dL_law_640 rfl (Nat.le_of_ble_eq_true rfl) (by rw [hX.1, hX.2]; exact hx81) ?_
          refine ev_aload_n (i := 0) 642 dL_law_641 rfl rfl rfl ?_
          refine ev_iload_n (i := 3) 643 dL_law_642 rfl rfl rfl ?_
          refine ev_iconst 644 dL_law_643 rfl kI_2 ?_
          refine ev_iadd 645 dL_law_644 rfl ?_
          obtain ⟨x82, hx82, hF⟩ := tv_bind hF
          refine ev_xaload (i := 0) 646 dL_law_645 rfl (Nat.le_of_ble_eq_true rfl) (by rw [hX.1, hX.2]; exact hx82) ?_
          obtain ⟨x83, hx83, hF⟩ := tv_bind hF
          refine ev_callVi (i := 0) 649 [.int x81, .int x82] [] dL_law_646 rfl okV_L_87 rfl rfl (Nat.le_of_ble_eq_true rfl) (Nat.le_of_ble_eq_true rfl) HPg_0 rfl (Nat.le_of_ble_eq_true rfl) (Nat.le_of_ble_eq_true rfl) (R_X7_points hx83) ?_
          refine ev_aload_n (i := 2) 650 dL_law_649 rfl rfl rfl ?_
          refine ev_aload_n (i := 0) 651 dL_law_650 rfl rfl rfl ?_
          refine ev_iload_n (i := 3) 652 dL_law_651 rfl rfl rfl ?_
          refine ev_iconst 653 dL_law_652 rfl kI_1 ?_
          refine ev_iadd 654 dL_law_653 rfl ?_
          obtain ⟨x84, hx84, hF⟩ := tv_bind hF
          refine ev_xaload (i := 0) 655 dL_law_654 rfl (Nat.le_of_ble_eq_true rfl) (by rw [hX.1, hX.2]; exact hx84) ?_
          refine ev_aload_n (i := 0) 656 dL_law_655 rfl rfl rfl ?_
          refine ev_iload_n (i := 3) 657 dL_law_656 rfl rfl rfl ?_
          refine ev_iconst 658 dL_law_657 rfl kI_2 ?_
          refine ev_iadd 659 dL_law_658 rfl ?_
          obtain ⟨x85, hx85, hF⟩ := tv_bind hF
          refine ev_xaload (i := 0) 660 dL_law_659 rfl (Nat.le_of_ble_eq_true rfl) (by rw [hX.1, hX.2]; exact hx85) ?_
          obtain ⟨x86, hx86, hF⟩ := tv_bind hF
          refine ev_callVi (i := 125) 663 [.int x84, .int x85] [.int x83] dL_law_660 rfl okV_L_90 rfl rfl (Nat.le_of_ble_eq_true rfl) (Nat.le_of_ble_eq_true rfl) HPg_125 rfl (Nat.le_of_ble_eq_true rfl) (Nat.le_of_ble_eq_true rfl) (R_X8_points hx86) ?_
          refine ev_icmp_eq 836 666 dL_law_663 rfl rfl (fun hc414 => ?_) (fun hc414 => ?_)
          · rw [if_pos hc414] at hF
            refine ev_iinc (L2 := [.ref 1000, .ref 0, .ref 125, .int (l3 + 5)]) 839 dL_law_836 rfl rfl (kA_5 _) (Nat.le_of_ble_eq_true rfl) rfl ?_
            refine ev_goto 18 dL_law_839 rfl ?_
            exact ih _ _ _ _ _ _ _ _ _ _ _ _ _ _ _ hF
          · rw [if_neg hc414] at hF
            refine ev_iconst 667 dL_law_666 rfl kI_0 ?_
            have hF := Option.some.inj hF
            subst hF
            exact ev_ireturn dL_law_667 rfl rfl
        rw [if_neg hc413] at hF
        by_cases hc415 : (x1 &&& 31) = 18
        · rw [if_pos hc415] at hF
          refine ev_tableIn (off := 636) 668 dL_law_32 (by rw [hc415]; decide) (by rw [hc415]; decide) (by rw [hc415]; rfl) rfl ?_
          refine ev_aload_n (i := 1) 669 dL_law_668 rfl rfl rfl ?_
          refine ev_callVi (i := 0) 672 [] [] dL_law_669 rfl okV_L_91 rfl rfl (Nat.le_of_ble_eq_true rfl) (Nat.le_of_ble_eq_true rfl) HPg_0 rfl (Nat.le_of_ble_eq_true rfl) (Nat.le_of_ble_eq_true rfl) (R_X7_terms rfl) ?_
          refine ev_aload_n (i := 2) 673 dL_law_672 rfl rfl rfl ?_
          obtain ⟨x87, hx87, hF⟩ := tv_bind hF
          refine ev_callVi (i := 125) 676 [] [.int (F_X7_terms si)] dL_law_673 rfl okV_L_94 rfl rfl (Nat.le_of_ble_eq_true rfl) (Nat.le_of_ble_eq_true rfl) HPg_125 rfl (Nat.le_of_ble_eq_true rfl) (Nat.le_of_ble_eq_true rfl) (R_X8_terms hx87) ?_
          refine ev_icmp_eq 836 679 dL_law_676 rfl rfl (fun hc416 => ?_) (fun hc416 => ?_)
          · rw [if_pos hc416] at hF
            refine ev_iinc (L2 := [.ref 1000, .ref 0, .ref 125, .int (l3 + 5)]) 839 dL_law_836 rfl rfl (kA_5 _) (Nat.le_of_ble_eq_true rfl) rfl ?_
            refine ev_goto 18 dL_law_839 rfl ?_
            exact ih _ _ _ _ _ _ _ _ _ _ _ _ _ _ _ hF
          · rw [if_neg hc416] at hF
            refine ev_iconst 680 dL_law_679 rfl kI_0 ?_
            have hF := Option.some.inj hF
            subst hF
            exact ev_ireturn dL_law_680 rfl rfl
        rw [if_neg hc415] at hF
        by_cases hc417 : (x1 &&& 31) = 19
        · rw [if_pos hc417] at hF
          refine ev_tableIn (off := 649) 681 dL_law_32 (by rw [hc417]; decide) (by rw [hc417]; decide) (by rw [hc417]; rfl) rfl ?_
          refine ev_aload_n (i := 1) 682 dL_law_681 rfl rfl rfl ?_
          refine ev_aload_n (i := 0) 683 dL_law_682 rfl rfl rfl ?_
          refine ev_iload_n (i := 3) 684 dL_law_683 rfl rfl rfl ?_
          refine ev_iconst 685 dL_law_684 rfl kI_1 ?_
          refine ev_iadd 686 dL_law_685 rfl ?_
          obtain ⟨x88, hx88, hF⟩ := tv_bind hF
          refine ev_xaload (i := 0) 687 dL_law_686 rfl (Nat.le_of_ble_eq_true rfl) (by rw [hX.1, hX.2]; exact hx88) ?_
          refine ev_aload_n (i := 0) 688 dL_law_687 rfl rfl rfl ?_
          refine ev_iload_n (i := 3) 689 dL_law_688 rfl rfl rfl ?_
          refine ev_iconst 690 dL_law_689 rfl kI_2 ?_
          refine ev_iadd 691 dL_law_690 rfl ?_
          obtain ⟨x89, hx89, hF⟩ := tv_bind hF
          refine ev_xaload (i := 0) 692 dL_law_691 rfl (Nat.le_of_ble_eq_true rfl) (by rw [hX.1, hX.2]; exact hx89) ?_
          obtain ⟨x90, hx90, hF⟩ := tv_bind hF
          refine ev_callVi (i := 0) 695 [.int x88, .int x89] [] dL_law_692 rfl okV_L_95 rfl rfl (Nat.le_of_ble_eq_true rfl) (Nat.le_of_ble_eq_true rfl) HPg_0 rfl (Nat.le_of_ble_eq_true rfl) (Nat.le_of_ble_eq_true rfl) (R_X7_member hx90) ?_
          refine ev_aload_n (i := 2) 696 dL_law_695 rfl rfl rfl ?_
          refine ev_aload_n (i := 0) 697 dL_law_696 rfl rfl rfl ?_
          refine ev_iload_n (i := 3) 698 dL_law_697 rfl rfl rfl ?_
          refine ev_iconst 699 dL_law_698 rfl kI_1 ?_
          refine ev_iadd 700 dL_law_699 rfl ?_
          obtain ⟨x91, hx91, hF⟩ := tv_bind hF
          refine ev_xaload (i := 0) 701 dL_law_700 rfl (Nat.le_of_ble_eq_true rfl) (by rw [hX.1, hX.2]; exact hx91) ?_
          refine ev_aload_n (i := 0) 702 dL_law_701 rfl rfl rfl ?_
          refine ev_iload_n (i := 3) 703 dL_law_702 rfl rfl rfl ?_
          refine ev_iconst 704 dL_law_703 rfl kI_2 ?_
          refine ev_iadd 705 dL_law_704 rfl ?_
          obtain ⟨x92, hx92, hF⟩ := tv_bind hF
          refine ev_xaload (i := 0) 706 dL_law_705 rfl (Nat.le_of_ble_eq_true rfl) (by rw [hX.1, hX.2]; exact hx92) ?_
          obtain ⟨x93, hx93, hF⟩ := tv_bind hF
          refine ev_callVi (i := 125) 709 [.int x91, .int x92] [.int x90] dL_law_706 rfl okV_L_98 rfl rfl (Nat.le_of_ble_eq_true rfl) (Nat.le_of_ble_eq_true rfl) HPg_125 rfl (Nat.le_of_ble_eq_true rfl) (Nat.le_of_ble_eq_true rfl) (R_X8_member hx93) ?_
          refine ev_icmp_eq 836 712 dL_law_709 rfl rfl (fun hc418 => ?_) (fun hc418 => ?_)
          · rw [if_pos hc418] at hF
            refine ev_iinc (L2 := [.ref 1000, .ref 0, .ref 125, .int (l3 + 5)]) 839 dL_law_836 rfl rfl (kA_5 _) (Nat.le_of_ble_eq_true rfl) rfl ?_
            refine ev_goto 18 dL_law_839 rfl ?_
            exact ih _ _ _ _ _ _ _ _ _ _ _ _ _ _ _ hF
          · rw [if_neg hc418] at hF
            refine ev_iconst 713 dL_law_712 rfl kI_0 ?_
            have hF := Option.some.inj hF
            subst hF
            exact ev_ireturn dL_law_713 rfl rfl
        rw [if_neg hc417] at hF
        by_cases hc419 : (x1 &&& 31) = 20
        · rw [if_pos hc419] at hF
          refine ev_tableIn (off := 682) 714 dL_law_32 (by rw [hc419]; decide) (by rw [hc419]; decide) (by rw [hc419]; rfl) rfl ?_
          refine ev_aload_n (i := 1) 715 dL_law_714 rfl rfl rfl ?_
          refine ev_callVi (i := 0) 718 [] [] dL_law_715 rfl okV_L_99 rfl rfl (Nat.le_of_ble_eq_true rfl) (Nat.le_of_ble_eq_true rfl) HPg_0 rfl (Nat.le_of_ble_eq_true rfl) (Nat.le_of_ble_eq_true rfl) (R_X7_time rfl) ?_
          refine ev_aload_n (i := 2) 719 dL_law_718 rfl rfl rfl ?_
          obtain ⟨x94, hx94, hF⟩ := tv_bind hF
          refine ev_callVi (i := 125) 722 [] [.int (F_X7_time si)] dL_law_719 rfl okV_L_102 rfl rfl (Nat.le_of_ble_eq_true rfl) (Nat.le_of_ble_eq_true rfl) HPg_125 rfl (Nat.le_of_ble_eq_true rfl) (Nat.le_of_ble_eq_true rfl) (R_X8_time hx94) ?_
          refine ev_icmp_eq 836 725 dL_law_722 rfl rfl (fun hc420 => ?_) (fun hc420 => ?_)
          · rw [if_pos hc420] at hF
            refine ev_iinc (L2 := [.ref 1000, .ref 0, .ref 125, .int (l3 + 5)]) 839 dL_law_836 rfl rfl (kA_5 _) (Nat.le_of_ble_eq_true rfl) rfl ?_
            refine ev_goto 18 dL_law_839 rfl ?_
            exact ih _ _ _ _ _ _ _ _ _ _ _ _ _ _ _ hF
          · rw [if_neg hc420] at hF
            refine ev_iconst 726 dL_law_725 rfl kI_0 ?_
            have hF := Option.some.inj hF
            subst hF
            exact ev_ireturn dL_law_726 rfl rfl
        rw [if_neg hc419] at hF
        by_cases hc421 : (x1 &&& 31) = 21
        · rw [if_pos hc421] at hF
          refine ev_tableIn (off := 695) 727 dL_law_32 (by rw [hc421]; decide) (by rw [hc421]; decide) (by rw [hc421]; rfl) rfl ?_
          refine ev_aload_n (i := 1) 728 dL_law_727 rfl rfl rfl ?_
          refine ev_callVi (i := 0) 731 [] [] dL_law_728 rfl okV_L_103 rfl rfl (Nat.le_of_ble_eq_true rfl) (Nat.le_of_ble_eq_true rfl) HPg_0 rfl (Nat.le_of_ble_eq_true rfl) (Nat.le_of_ble_eq_true rfl) (R_X7_events rfl) ?_
          refine ev_aload_n (i := 2) 732 dL_law_731 rfl rfl rfl ?_
          obtain ⟨x95, hx95, hF⟩ := tv_bind hF
          refine ev_callVi (i := 125) 735 [] [.int (F_X7_events si)] dL_law_732 rfl okV_L_106 rfl rfl (Nat.le_of_ble_eq_true rfl) (Nat.le_of_ble_eq_true rfl) HPg_125 rfl (Nat.le_of_ble_eq_true rfl) (Nat.le_of_ble_eq_true rfl) (R_X8_events hx95) ?_
          refine ev_icmp_eq 836 738 dL_law_735 rfl rfl (fun hc422 => ?_) (fun hc422 => ?_)
          · rw [if_pos hc422] at hF
            refine ev_iinc (L2 := [.ref 1000, .ref 0, .ref 125, .int (l3 + 5)]) 839 dL_law_836 rfl rfl (kA_5 _) (Nat.le_of_ble_eq_true rfl) rfl ?_
            refine ev_goto 18 dL_law_839 rfl ?_
            exact ih _ _ _ _ _ _ _ _ _ _ _ _ _ _ _ hF
          · rw [if_neg hc422] at hF
            refine ev_iconst 739 dL_law_738 rfl kI_0 ?_
            have hF := Option.some.inj hF
            subst hF
            exact ev_ireturn dL_law_739 rfl rfl
        rw [if_neg hc421] at hF
        by_cases hc423 : (x1 &&& 31) = 22
        · rw [if_pos hc423] at hF
          refine ev_tableIn (off := 708) 740 dL_law_32 (by rw [hc423]; decide) (by rw [hc423]; decide) (by rw [hc423]; rfl) rfl ?_
          refine ev_aload_n (i := 1) 741 dL_law_740 rfl rfl rfl ?_
          refine ev_aload_n (i := 0) 742 dL_law_741 rfl rfl rfl ?_
          refine ev_iload_n (i := 3) 743 dL_law_742 rfl rfl rfl ?_
          refine ev_iconst 744 dL_law_743 rfl kI_1 ?_
          refine ev_iadd 745 dL_law_744 rfl ?_
          obtain ⟨x96, hx96, hF⟩ := tv_bind hF
          refine ev_xaload (i := 0) 746 dL_law_745 rfl (Nat.le_of_ble_eq_true rfl) (by rw [hX.1, hX.2]; exact hx96) ?_
          refine ev_aload_n (i := 0) 747 dL_law_746 rfl rfl rfl ?_
          refine ev_iload_n (i := 3) 748 dL_law_747 rfl rfl rfl ?_
          refine ev_iconst 749 dL_law_748 rfl kI_2 ?_
          refine ev_iadd 750 dL_law_749 rfl ?_
          obtain ⟨x97, hx97, hF⟩ := tv_bind hF
          refine ev_xaload (i := 0) 751 dL_law_750 rfl (Nat.le_of_ble_eq_true rfl) (by rw [hX.1, hX.2]; exact hx97) ?_
          obtain ⟨x98, hx98, hF⟩ := tv_bind hF
          refine ev_callVi (i := 0) 754 [.int x96, .int x97] [] dL_law_751 rfl okV_L_107 rfl rfl (Nat.le_of_ble_eq_true rfl) (Nat.le_of_ble_eq_true rfl) HPg_0 rfl (Nat.le_of_ble_eq_true rfl) (Nat.le_of_ble_eq_true rfl) (R_X7_event hx98) ?_
          refine ev_aload_n (i := 2) 755 dL_law_754 rfl rfl rfl ?_
          refine ev_aload_n (i := 0) 756 dL_law_755 rfl rfl rfl ?_
          refine ev_iload_n (i := 3) 757 dL_law_756 rfl rfl rfl ?_
          refine ev_iconst 758 dL_law_757 rfl kI_1 ?_
          refine ev_iadd 759 dL_law_758 rfl ?_
          obtain ⟨x99, hx99, hF⟩ := tv_bind hF
          refine ev_xaload (i := 0) 760 dL_law_759 rfl (Nat.le_of_ble_eq_true rfl) (by rw [hX.1, hX.2]; exact hx99) ?_
          refine ev_aload_n (i := 0) 761 dL_law_760 rfl rfl rfl ?_
          refine ev_iload_n (i := 3) 762 dL_law_761 rfl rfl rfl ?_
          refine ev_iconst 763 dL_law_762 rfl kI_2 ?_
          refine ev_iadd 764 dL_law_763 rfl ?_
          obtain ⟨x100, hx100, hF⟩ := tv_bind hF
          refine ev_xaload (i := 0) 765 dL_law_764 rfl (Nat.le_of_ble_eq_true rfl) (by rw [hX.1, hX.2]; exact hx100) ?_
          obtain ⟨x101, hx101, hF⟩ := tv_bind hF
          refine ev_callVi (i := 125) 768 [.int x99, .int x100] [.int x98] dL_law_765 rfl okV_L_110 rfl rfl (Nat.le_of_ble_eq_true rfl) (Nat.le_of_ble_eq_true rfl) HPg_125 rfl (Nat.le_of_ble_eq_true rfl) (Nat.le_of_ble_eq_true rfl) (R_X8_event hx101) ?_
          refine ev_icmp_eq 836 771 dL_law_768 rfl rfl (fun hc424 => ?_) (fun hc424 => ?_)
          · rw [if_pos hc424] at hF
            refine ev_iinc (L2 := [.ref 1000, .ref 0, .ref 125, .int (l3 + 5)]) 839 dL_law_836 rfl rfl (kA_5 _) (Nat.le_of_ble_eq_true rfl) rfl ?_
            refine ev_goto 18 dL_law_839 rfl ?_
            exact ih _ _ _ _ _ _ _ _ _ _ _ _ _ _ _ hF
          · rw [if_neg hc424] at hF
            refine ev_iconst 772 dL_law_771 rfl kI_0 ?_
            have hF := Option.some.inj hF
            subst hF
            exact ev_ireturn dL_law_772 rfl rfl
        rw [if_neg hc423] at hF
        by_cases hc425 : (x1 &&& 31) = 23
        · rw [if_pos hc425] at hF
          refine ev_tableIn (off := 741) 773 dL_law_32 (by rw [hc425]; decide) (by rw [hc425]; decide) (by rw [hc425]; rfl) rfl ?_
          refine ev_aload_n (i := 1) 774 dL_law_773 rfl rfl rfl ?_
          refine ev_aload_n (i := 0) 775 dL_law_774 rfl rfl rfl ?_
          refine ev_iload_n (i := 3) 776 dL_law_775 rfl rfl rfl ?_
          refine ev_iconst 777 dL_law_776 rfl kI_1 ?_
          refine ev_iadd 778 dL_law_777 rfl ?_
          obtain ⟨x102, hx102, hF⟩ := tv_bind hF
          refine ev_xaload (i := 0) 779 dL_law_778 rfl (Nat.le_of_ble_eq_true rfl) (by rw [hX.1, hX.2]; exact hx102) ?_
          obtain ⟨x103, hx103, hF⟩ := tv_bind hF
          refine ev_callVi (i := 0) 782 [.int x102] [] dL_law_779 rfl okV_L_111 rfl rfl (Nat.le_of_ble_eq_true rfl) (Nat.le_of_ble_eq_true rfl) HPg_0 rfl (Nat.le_of_ble_eq_true rfl) (Nat.le_of_ble_eq_true rfl) (R_X7_type hx103) ?_
          refine ev_aload_n (i := 2) 783 dL_law_782 rfl rfl rfl ?_
          refine ev_aload_n (i := 0) 784 dL_law_783 rfl rfl rfl ?_
          refine ev_iload_n (i := 3) 785 dL_law_784 rfl rfl rfl ?_
          refine ev_iconst 786 dL_law_785 rfl kI_1 ?_
          refine ev_iadd 787 dL_law_786 rfl ?_
          obtain ⟨x104, hx104, hF⟩ := tv_bind hF
          refine ev_xaload (i := 0) 788 dL_law_787 rfl (Nat.le_of_ble_eq_true rfl) (by rw [hX.1, hX.2]; exact hx104) ?_
          obtain ⟨x105, hx105, hF⟩ := tv_bind hF
          refine ev_callVi (i := 125) 791 [.int x104] [.int x103.1] dL_law_788 rfl okV_L_114 rfl rfl (Nat.le_of_ble_eq_true rfl) (Nat.le_of_ble_eq_true rfl) HPg_125 rfl (Nat.le_of_ble_eq_true rfl) (Nat.le_of_ble_eq_true rfl) (R_X8_type hx105) ?_
          refine ev_icmp_eq 836 794 dL_law_791 rfl rfl (fun hc426 => ?_) (fun hc426 => ?_)
          · rw [if_pos hc426] at hF
            refine ev_iinc (L2 := [.ref 1000, .ref 0, .ref 125, .int (l3 + 5)]) 839 dL_law_836 rfl rfl (kA_5 _) (Nat.le_of_ble_eq_true rfl) rfl ?_
            refine ev_goto 18 dL_law_839 rfl ?_
            exact ih _ _ _ _ _ _ _ _ _ _ _ _ _ _ _ hF
          · rw [if_neg hc426] at hF
            refine ev_iconst 795 dL_law_794 rfl kI_0 ?_
            have hF := Option.some.inj hF
            subst hF
            exact ev_ireturn dL_law_795 rfl rfl
        rw [if_neg hc425] at hF
        by_cases hc427 : (x1 &&& 31) = 24
        · rw [if_pos hc427] at hF
          refine ev_tableIn (off := 764) 796 dL_law_32 (by rw [hc427]; decide) (by rw [hc427]; decide) (by rw [hc427]; rfl) rfl ?_
          refine ev_aload_n (i := 1) 797 dL_law_796 rfl rfl rfl ?_
          obtain ⟨x106, hx106, hF⟩ := tv_bind hF
          refine ev_callVi (i := 0) 800 [] [] dL_law_797 rfl okV_L_115 rfl rfl (Nat.le_of_ble_eq_true rfl) (Nat.le_of_ble_eq_true rfl) HPg_0 rfl (Nat.le_of_ble_eq_true rfl) (Nat.le_of_ble_eq_true rfl) (R_X7_clear hx106) ?_
          refine ev_aload_n (i := 2) 801 dL_law_800 rfl rfl rfl ?_
          obtain ⟨x107, hx107, hF⟩ := tv_bind hF
          refine ev_callVi (i := 125) 804 [] [.int x106.1] dL_law_801 rfl okV_L_118 rfl rfl (Nat.le_of_ble_eq_true rfl) (Nat.le_of_ble_eq_true rfl) HPg_125 rfl (Nat.le_of_ble_eq_true rfl) (Nat.le_of_ble_eq_true rfl) (R_X8_clear hx107) ?_
          refine ev_icmp_eq 836 807 dL_law_804 rfl rfl (fun hc428 => ?_) (fun hc428 => ?_)
          · rw [if_pos hc428] at hF
            refine ev_iinc (L2 := [.ref 1000, .ref 0, .ref 125, .int (l3 + 5)]) 839 dL_law_836 rfl rfl (kA_5 _) (Nat.le_of_ble_eq_true rfl) rfl ?_
            refine ev_goto 18 dL_law_839 rfl ?_
            exact ih _ _ _ _ _ _ _ _ _ _ _ _ _ _ _ hF
          · rw [if_neg hc428] at hF
            refine ev_iconst 808 dL_law_807 rfl kI_0 ?_
            have hF := Option.some.inj hF
            subst hF
            exact ev_ireturn dL_law_808 rfl rfl
        rw [if_neg hc427] at hF
        by_cases hc429 : (x1 &&& 31) = 25
        · rw [if_pos hc429] at hF
          refine ev_tableIn (off := 777) 809 dL_law_32 (by rw [hc429]; decide) (by rw [hc429]; decide) (by rw [hc429]; rfl) rfl ?_
          refine ev_aload_n (i := 1) 810 dL_law_809 rfl rfl rfl ?_
          obtain ⟨x108, hx108, hF⟩ := tv_bind hF
          refine ev_callVi (i := 0) 813 [] [] dL_law_810 rfl okV_L_119 rfl rfl (Nat.le_of_ble_eq_true rfl) (Nat.le_of_ble_eq_true rfl) HPg_0 rfl (Nat.le_of_ble_eq_true rfl) (Nat.le_of_ble_eq_true rfl) (R_X7_undo hx108) ?_
          refine ev_aload_n (i := 2) 814 dL_law_813 rfl rfl rfl ?_
          obtain ⟨x109, hx109, hF⟩ := tv_bind hF
          refine ev_callVi (i := 125) 817 [] [.int x108.1] dL_law_814 rfl okV_L_122 rfl rfl (Nat.le_of_ble_eq_true rfl) (Nat.le_of_ble_eq_true rfl) HPg_125 rfl (Nat.le_of_ble_eq_true rfl) (Nat.le_of_ble_eq_true rfl) (R_X8_undo hx109) ?_
          refine ev_icmp_eq 836 820 dL_law_817 rfl rfl (fun hc430 => ?_) (fun hc430 => ?_)
          · rw [if_pos hc430] at hF
            refine ev_iinc (L2 := [.ref 1000, .ref 0, .ref 125, .int (l3 + 5)]) 839 dL_law_836 rfl rfl (kA_5 _) (Nat.le_of_ble_eq_true rfl) rfl ?_
            refine ev_goto 18 dL_law_839 rfl ?_
            exact ih _ _ _ _ _ _ _ _ _ _ _ _ _ _ _ hF
          · rw [if_neg hc430] at hF
            refine ev_iconst 821 dL_law_820 rfl kI_0 ?_
            have hF := Option.some.inj hF
            subst hF
            exact ev_ireturn dL_law_821 rfl rfl
        rw [if_neg hc429] at hF
        by_cases hc431 : (x1 &&& 31) = 26
        · rw [if_pos hc431] at hF
          refine ev_tableIn (off := 790) 822 dL_law_32 (by rw [hc431]; decide) (by rw [hc431]; decide) (by rw [hc431]; rfl) rfl ?_
          refine ev_aload_n (i := 1) 823 dL_law_822 rfl rfl rfl ?_
          obtain ⟨x110, hx110, hF⟩ := tv_bind hF
          refine ev_callVl (i := 0) 826 [] [] dL_law_823 rfl okV_L_123 rfl rfl (Nat.le_of_ble_eq_true rfl) (Nat.le_of_ble_eq_true rfl) HPg_0 rfl (Nat.le_of_ble_eq_true rfl) (Nat.le_of_ble_eq_true rfl) (R_X7_fingerprint hx110) ?_
          refine ev_aload_n (i := 2) 827 dL_law_826 rfl rfl rfl ?_
          obtain ⟨x111, hx111, hF⟩ := tv_bind hF
          refine ev_callVl (i := 125) 830 [] [.long x110] dL_law_827 rfl okV_L_127 rfl rfl (Nat.le_of_ble_eq_true rfl) (Nat.le_of_ble_eq_true rfl) HPg_125 rfl (Nat.le_of_ble_eq_true rfl) (Nat.le_of_ble_eq_true rfl) (R_X8_fingerprint hx111) ?_
          refine ev_lcmp 831 dL_law_830 rfl ?_
          refine ev_if_eq 836 834 dL_law_831 rfl rfl (fun hc432 => ?_) (fun hc432 => ?_)
          · rw [if_pos hc432] at hF
            refine ev_iinc (L2 := [.ref 1000, .ref 0, .ref 125, .int (l3 + 5)]) 839 dL_law_836 rfl rfl (kA_5 _) (Nat.le_of_ble_eq_true rfl) rfl ?_
            refine ev_goto 18 dL_law_839 rfl ?_
            exact ih _ _ _ _ _ _ _ _ _ _ _ _ _ _ _ hF
          · rw [if_neg hc432] at hF
            refine ev_iconst 835 dL_law_834 rfl kI_0 ?_
            have hF := Option.some.inj hF
            subst hF
            exact ev_ireturn dL_law_835 rfl rfl
        rw [if_neg hc431] at hF
        refine ev_tableOut 836 dL_law_32 (tv_out27 hc373 hc375 hc377 hc381 hc383 hc385 hc387 hc389 hc391 hc393 hc395 hc397 hc399 hc401 hc405 hc409 hc411 hc413 hc415 hc417 hc419 hc421 hc423 hc425 hc427 hc429 hc431) rfl ?_
        refine ev_iinc (L2 := [.ref 1000, .ref 0, .ref 125, .int (l3 + 5)]) 839 dL_law_836 rfl rfl (kA_5 _) (Nat.le_of_ble_eq_true rfl) rfl ?_
        refine ev_goto 18 dL_law_839 rfl ?_
        exact ih _ _ _ _ _ _ _ _ _ _ _ _ _ _ _ hF
