abbrev E_X9_perform (G : GT) (d pc : Nat) (ls : List (Nat × AV)) (st : List AV) (mem : Mem) (Q : Option AV → Mem → Prop) : Prop := Ex G RX9 cX9_perform 7 (some .int) d pc ls st mem Q
abbrev C_X9_perform (G : GT) (d : Nat) (as : List AV) (mem : Mem) (Q : Option AV → Mem → Prop) : Prop := Ct G yX9_perform cX9_perform 7 (some .int) d as mem Q
abbrev E_X9_run (G : GT) (d pc : Nat) (ls : List (Nat × AV)) (st : List AV) (mem : Mem) (Q : Option AV → Mem → Prop) : Prop := Ex G RX9 cX9_run 5 (some .int) d pc ls st mem Q
abbrev C_X9_run (G : GT) (d : Nat) (as : List AV) (mem : Mem) (Q : Option AV → Mem → Prop) : Prop := Ct G yX9_run cX9_run 5 (some .int) d as mem Q
abbrev E_X9_runHighest (G : GT) (d pc : Nat) (ls : List (Nat × AV)) (st : List AV) (mem : Mem) (Q : Option AV → Mem → Prop) : Prop := Ex G RX9 cX9_runHighest 4 (some .int) d pc ls st mem Q
abbrev C_X9_runHighest (G : GT) (d : Nat) (as : List AV) (mem : Mem) (Q : Option AV → Mem → Prop) : Prop := Ct G yX9_runHighest cX9_runHighest 4 (some .int) d as mem Q
abbrev E_X9_shareOut (G : GT) (d pc : Nat) (ls : List (Nat × AV)) (st : List AV) (mem : Mem) (Q : Option AV → Mem → Prop) : Prop := Ex G RX9 cX9_shareOut 3 (some .int) d pc ls st mem Q
abbrev C_X9_shareOut (G : GT) (d : Nat) (as : List AV) (mem : Mem) (Q : Option AV → Mem → Prop) : Prop := Ct G yX9_shareOut cX9_shareOut 3 (some .int) d as mem Q
abbrev E_X9_sound (G : GT) (d pc : Nat) (ls : List (Nat × AV)) (st : List AV) (mem : Mem) (Q : Option AV → Mem → Prop) : Prop := Ex G RX9 cX9_sound 5 (some .int) d pc ls st mem Q
abbrev C_X9_sound (G : GT) (d : Nat) (as : List AV) (mem : Mem) (Q : Option AV → Mem → Prop) : Prop := Ct G yX9_sound cX9_sound 5 (some .int) d as mem Q
abbrev E_X11_voiced (G : GT) (d pc : Nat) (ls : List (Nat × AV)) (st : List AV) (mem : Mem) (Q : Option AV → Mem → Prop) : Prop := Ex G RX11 cX11_voiced 3 (some .int) d pc ls st mem Q
abbrev C_X11_voiced (G : GT) (d : Nat) (as : List AV) (mem : Mem) (Q : Option AV → Mem → Prop) : Prop := Ct G yX11_voiced cX11_voiced 3 (some .int) d as mem Q
abbrev E_X11_bodyFrom (G : GT) (d pc : Nat) (ls : List (Nat × AV)) (st : List AV) (mem : Mem) (Q : Option AV → Mem → Prop) : Prop := Ex G RX11 cX11_bodyFrom 5 (some .int) d pc ls st mem Q
abbrev C_X11_bodyFrom (G : GT) (d : Nat) (as : List AV) (mem : Mem) (Q : Option AV → Mem → Prop) : Prop := Ct G yX11_bodyFrom cX11_bodyFrom 5 (some .int) d as mem Q
abbrev E_X11_body (G : GT) (d pc : Nat) (ls : List (Nat × AV)) (st : List AV) (mem : Mem) (Q : Option AV → Mem → Prop) : Prop := Ex G RX11 cX11_body 6 (some .int) d pc ls st mem Q
abbrev C_X11_body (G : GT) (d : Nat) (as : List AV) (mem : Mem) (Q : Option AV → Mem → Prop) : Prop := Ct G yX11_body cX11_body 6 (some .int) d as mem Q
set_option maxRecDepth 20000 in
set_option maxHeartbeats 4000000 in
theorem B_X9_perform {G : GT} {d : Nat} {l1 : Int} {l2 : Int} {l3 : Int} {l4 : Int} {mem : Mem} {Q : Option AV → Mem → Prop} (hd : 1 ≤ d) (H : ((mem 59 2 ≠ 0) → (Q (some (vI 0)) mem)) ∧ (¬ (mem 59 2 ≠ 0) → ((inr l4) ∧ (((l4 ≤ 40) → (E_X9_perform G d 22 [(0, vR 59), (2, vI l2), (3, vI l3), (4, vI l4), (5, vI l1), (6, vI 0)] [] mem Q)) ∧ (¬ (l4 ≤ 40) → (Q (some (vI 0)) mem)))))) : C_X9_perform G d [vR 59, vI l1, vI l2, vI l3, vI l4] mem Q := by
  refine Ct_of_Ex (by decide +kernel) (by exact Nat.le_of_ble_eq_true rfl) (ls := [(0, vR 59), (1, vI l1), (2, vI l2), (3, vI l3), (4, vI l4)]) rfl ?_
  show E_X9_perform G d 0 [(0, vR 59), (1, vI l1), (2, vI l2), (3, vI l3), (4, vI l4)] [] mem Q
  refine x_aloadn (q := 1) 0 rfl rfl rfl dX9_perform_0 rfl ?_
  refine x_geti (q := 4) (ji := 2) dX9_perform_1 rfl fa_X9_19 sh_59 rfl rfl (fun r1 => ?_)
  obtain ⟨H1, H2⟩ := H
  refine x_if_ne (tgt := 14) (q := 7) dX9_perform_4 (by decide) rfl r1 (fun hB => ?_) (fun hB => ?_)
  · have H := H1 (hB)
    refine x_iconst (q := 15) dX9_perform_14 rfl ?_
    exact x_iret rfl dX9_perform_15 H
  · have H := H2 (hB)
    refine x_iload (q := 9) 4 rfl dX9_perform_7 rfl ?_
    refine x_bipush (q := 11) rfl dX9_perform_9 rfl ?_
    obtain ⟨s4, H⟩ := H
    obtain ⟨H1, H2⟩ := H
    refine x_icmp_le (tgt := 16) (q := 14) dX9_perform_11 (by decide) rfl s4 (by decide) (fun hB => ?_) (fun hB => ?_)
    · have H := H1 (hB)
      refine x_iloadn (q := 17) 1 rfl rfl dX9_perform_16 rfl ?_
      refine x_istore (q := 19) (ls' := [(5, vI l1), (0, vR 59), (1, vI l1), (2, vI l2), (3, vI l3), (4, vI l4)]) (by decide) rfl dX9_perform_17 rfl ?_
      refine x_iconst (q := 20) dX9_perform_19 rfl ?_
      refine x_istore (q := 22) (ls' := [(6, vI 0), (5, vI l1), (0, vR 59), (1, vI l1), (2, vI l2), (3, vI l3), (4, vI l4)]) (by decide) rfl dX9_perform_20 rfl ?_
      refine x_sub [2, 4, 5, 6, 1, 0] rfl ?_
      exact H
    · have H := H2 (hB)
      refine x_iconst (q := 15) dX9_perform_14 rfl ?_
      exact x_iret rfl dX9_perform_15 H
set_option maxRecDepth 20000 in
set_option maxHeartbeats 4000000 in
theorem B_X9_perform_22 {G : GT} {d : Nat} {l2 : Int} {l3 : Int} {l4 : Int} {l5 : Int} {l6 : Int} {mem : Mem} {Q : Option AV → Mem → Prop} (hd : 1 ≤ d) (H : (inr l6) ∧ (((6 ≤ l6) → ((0 ≤ (l5 * 4) + l2 ∧ (l5 * 4) + l2 < 24) ∧ (((30 ≤ mem 59 1) → ((inr l5) ∧ (((l5 ≠ 0) → ((0 ≤ l5 ∧ l5 < 6) ∧ (C_X9_run G (d - 1) [vR 59, vI ((tbl 1).getD (Int.toNat ((l5 * 4) + l2)) 0), vI ((tbl 0).getD (Int.toNat l5) 0), vI l3, vI (l4 + 1)] mem (fun r9 m20 => ∃ z21 : Int, r9 = some (vI z21) ∧ (Q (some (vI z21)) m20))))) ∧ (¬ (l5 ≠ 0) → (C_X9_runHighest G (d - 1) [vR 59, vI ((tbl 1).getD (Int.toNat ((l5 * 4) + l2)) 0), vI l3, vI (l4 + 1)] mem (fun r9 m22 => ∃ z23 : Int, r9 = some (vI z23) ∧ (Q (some (vI z23)) m22))))))) ∧ (¬ (30 ≤ mem 59 1) → ((0 ≤ mem 59 1 ∧ mem 59 1 < 30) ∧ (∀ m27 : Mem, m27 = upM mem 60 (mem 59 1) ((tbl 1).getD (Int.toNat ((l5 * 4) + l2)) 0) → ((inr ((m27 59 1) + 1)) ∧ (∀ m29 : Mem, m29 = upM m27 59 1 ((m27 59 1) + 1) → ((inr l5) ∧ (((l5 ≠ 0) → ((0 ≤ l5 ∧ l5 < 6) ∧ (C_X9_run G (d - 1) [vR 59, vI ((tbl 1).getD (Int.toNat ((l5 * 4) + l2)) 0), vI ((tbl 0).getD (Int.toNat l5) 0), vI l3, vI (l4 + 1)] m29 (fun r9 m36 => ∃ z37 : Int, r9 = some (vI z37) ∧ (Q (some (vI z37)) m36))))) ∧ (¬ (l5 ≠ 0) → (C_X9_runHighest G (d - 1) [vR 59, vI ((tbl 1).getD (Int.toNat ((l5 * 4) + l2)) 0), vI l3, vI (l4 + 1)] m29 (fun r9 m38 => ∃ z39 : Int, r9 = some (vI z39) ∧ (Q (some (vI z39)) m38)))))))))))))) ∧ (¬ (6 ≤ l6) → ((0 ≤ (l5 * 4) + l2 ∧ (l5 * 4) + l2 < 24) ∧ ((((tbl 1).getD (Int.toNat ((l5 * 4) + l2)) 0 ≠ 0) → (((30 ≤ mem 59 1) → ((inr l5) ∧ (((l5 ≠ 0) → ((0 ≤ l5 ∧ l5 < 6) ∧ (C_X9_run G (d - 1) [vR 59, vI ((tbl 1).getD (Int.toNat ((l5 * 4) + l2)) 0), vI ((tbl 0).getD (Int.toNat l5) 0), vI l3, vI (l4 + 1)] mem (fun r9 m52 => ∃ z53 : Int, r9 = some (vI z53) ∧ (Q (some (vI z53)) m52))))) ∧ (¬ (l5 ≠ 0) → (C_X9_runHighest G (d - 1) [vR 59, vI ((tbl 1).getD (Int.toNat ((l5 * 4) + l2)) 0), vI l3, vI (l4 + 1)] mem (fun r9 m54 => ∃ z55 : Int, r9 = some (vI z55) ∧ (Q (some (vI z55)) m54))))))) ∧ (¬ (30 ≤ mem 59 1) → ((0 ≤ mem 59 1 ∧ mem 59 1 < 30) ∧ (∀ m59 : Mem, m59 = upM mem 60 (mem 59 1) ((tbl 1).getD (Int.toNat ((l5 * 4) + l2)) 0) → ((inr ((m59 59 1) + 1)) ∧ (∀ m61 : Mem, m61 = upM m59 59 1 ((m59 59 1) + 1) → ((inr l5) ∧ (((l5 ≠ 0) → ((0 ≤ l5 ∧ l5 < 6) ∧ (C_X9_run G (d - 1) [vR 59, vI ((tbl 1).getD (Int.toNat ((l5 * 4) + l2)) 0), vI ((tbl 0).getD (Int.toNat l5) 0), vI l3, vI (l4 + 1)] m61 (fun r9 m68 => ∃ z69 : Int, r9 = some (vI z69) ∧ (Q (some (vI z69)) m68))))) ∧ (¬ (l5 ≠ 0) → (C_X9_runHighest G (d - 1) [vR 59, vI ((tbl 1).getD (Int.toNat ((l5 * 4) + l2)) 0), vI l3, vI (l4 + 1)] m61 (fun r9 m70 => ∃ z71 : Int, r9 = some (vI z71) ∧ (Q (some (vI z71)) m70))))))))))))) ∧ (¬ ((tbl 1).getD (Int.toNat ((l5 * 4) + l2)) 0 ≠ 0) → ((0 ≤ l5 ∧ l5 < 6) ∧ ((((tbl 0).getD (Int.toNat l5) 0 < 0) → (((30 ≤ mem 59 1) → ((inr l5) ∧ (((l5 ≠ 0) → (C_X9_run G (d - 1) [vR 59, vI ((tbl 1).getD (Int.toNat ((l5 * 4) + l2)) 0), vI ((tbl 0).getD (Int.toNat l5) 0), vI l3, vI (l4 + 1)] mem (fun r9 m82 => ∃ z83 : Int, r9 = some (vI z83) ∧ (Q (some (vI z83)) m82)))) ∧ (¬ (l5 ≠ 0) → (C_X9_runHighest G (d - 1) [vR 59, vI ((tbl 1).getD (Int.toNat ((l5 * 4) + l2)) 0), vI l3, vI (l4 + 1)] mem (fun r9 m84 => ∃ z85 : Int, r9 = some (vI z85) ∧ (Q (some (vI z85)) m84))))))) ∧ (¬ (30 ≤ mem 59 1) → ((0 ≤ mem 59 1 ∧ mem 59 1 < 30) ∧ (∀ m89 : Mem, m89 = upM mem 60 (mem 59 1) ((tbl 1).getD (Int.toNat ((l5 * 4) + l2)) 0) → ((inr ((m89 59 1) + 1)) ∧ (∀ m91 : Mem, m91 = upM m89 59 1 ((m89 59 1) + 1) → ((inr l5) ∧ (((l5 ≠ 0) → (C_X9_run G (d - 1) [vR 59, vI ((tbl 1).getD (Int.toNat ((l5 * 4) + l2)) 0), vI ((tbl 0).getD (Int.toNat l5) 0), vI l3, vI (l4 + 1)] m91 (fun r9 m96 => ∃ z97 : Int, r9 = some (vI z97) ∧ (Q (some (vI z97)) m96)))) ∧ (¬ (l5 ≠ 0) → (C_X9_runHighest G (d - 1) [vR 59, vI ((tbl 1).getD (Int.toNat ((l5 * 4) + l2)) 0), vI l3, vI (l4 + 1)] m91 (fun r9 m98 => ∃ z99 : Int, r9 = some (vI z99) ∧ (Q (some (vI z99)) m98))))))))))))) ∧ (¬ ((tbl 0).getD (Int.toNat l5) 0 < 0) → (E_X9_perform G d 22 [(0, vR 59), (2, vI l2), (3, vI l3), (4, vI l4), (5, vI ((tbl 0).getD (Int.toNat l5) 0)), (6, vI (l6 + 1))] [] mem Q)))))))))) : E_X9_perform G d 22 [(0, vR 59), (2, vI l2), (3, vI l3), (4, vI l4), (5, vI l5), (6, vI l6)] [] mem Q := by
  refine x_iload (q := 24) 5 rfl dX9_perform_22 rfl ?_
  refine x_getT (q := 27) 0 (by decide) dX9_perform_24 rfl gs_X9_50 ?_
  refine x_tlen (q := 28) (v := 6) (by decide) dX9_perform_27 rfl rfl ?_
  obtain ⟨s7, H⟩ := H
  obtain ⟨H1, H2⟩ := H
  refine x_icmp_ge (tgt := 67) (q := 31) dX9_perform_28 (by decide) rfl s7 (by decide) (fun hB => ?_) (fun hB => ?_)
  · have H := H1 (hB)
    refine x_getT (q := 70) 1 (by decide) dX9_perform_67 rfl gs_X9_53 ?_
    refine x_iload (q := 72) 4 rfl dX9_perform_70 rfl ?_
    refine x_iconst (q := 73) dX9_perform_72 rfl ?_
    refine x_imul (q := 74) dX9_perform_73 rfl ?_
    refine x_iloadn (q := 75) 1 rfl rfl dX9_perform_74 rfl ?_
    refine x_iadd (q := 76) dX9_perform_75 rfl ?_
    obtain ⟨⟨s10, s11⟩, H⟩ := H
    refine x_tald (q := 77) (by decide) dX9_perform_76 rfl s10 (show (l5 * 4) + l2 < ((24 : Nat) : Int) from s11) ?_
    refine x_istore (q := 79) (ls' := [(6, vI ((tbl 1).getD (Int.toNat ((l5 * 4) + l2)) 0)), (0, vR 59), (2, vI l2), (3, vI l3), (4, vI l4), (5, vI l5)]) (by decide) rfl dX9_perform_77 rfl ?_
    refine x_aloadn (q := 80) 1 rfl rfl rfl dX9_perform_79 rfl ?_
    refine x_geti (q := 83) (ji := 1) dX9_perform_80 rfl fa_X9_15 sh_59 rfl rfl (fun r12 => ?_)
    refine x_bipush (q := 85) rfl dX9_perform_83 rfl ?_
    obtain ⟨H1, H2⟩ := H
    refine x_icmp_ge (tgt := 109) (q := 88) dX9_perform_85 (by decide) rfl r12 (by decide) (fun hB => ?_) (fun hB => ?_)
    · have H := H1 (hB)
      refine x_iload (q := 111) 5 rfl dX9_perform_109 rfl ?_
      obtain ⟨s15, H⟩ := H
      obtain ⟨H1, H2⟩ := H
      refine x_if_ne (tgt := 128) (q := 114) dX9_perform_111 (by decide) rfl s15 (fun hB => ?_) (fun hB => ?_)
      · have H := H1 (hB)
        refine x_aloadn (q := 129) 1 rfl rfl rfl dX9_perform_128 rfl ?_
        refine x_iload (q := 131) 0 rfl dX9_perform_129 rfl ?_
        refine x_getT (q := 134) 0 (by decide) dX9_perform_131 rfl gs_X9_50 ?_
        refine x_iload (q := 136) 5 rfl dX9_perform_134 rfl ?_
        obtain ⟨⟨s18, s19⟩, H⟩ := H
        refine x_tald (q := 137) (by decide) dX9_perform_136 rfl s18 (show l5 < ((6 : Nat) : Int) from s19) ?_
        refine x_iloadn (q := 138) 3 rfl rfl dX9_perform_137 rfl ?_
        refine x_iload (q := 140) 4 rfl dX9_perform_138 rfl ?_
        refine x_iconst (q := 141) dX9_perform_140 rfl ?_
        refine x_iadd (q := 142) dX9_perform_141 rfl ?_
        refine x_callV (q := 145) (d := d - 1) (as := [vI ((tbl 1).getD (Int.toNat ((l5 * 4) + l2)) 0), vI ((tbl 0).getD (Int.toNat l5) 0), vI l3, vI (l4 + 1)]) (st := []) dX9_perform_142 rfl mv_X9_60 sh_59 rfl rfl rfl (by exact Nat.le_of_ble_eq_true rfl) ⟨by show _ ≤ d; omega, by show _ ≤ 40 * d; omega⟩ ⟨Nat.le_refl _, Nat.le_refl _⟩ (Ct.mono H (fun r9 m20 H => ?_))
        obtain ⟨z21, rfl, H⟩ := H
        show E_X9_perform G d 145 [(6, vI ((tbl 1).getD (Int.toNat ((l5 * 4) + l2)) 0)), (0, vR 59), (2, vI l2), (3, vI l3), (4, vI l4), (5, vI l5)] [vI z21] m20 Q
        exact x_iret rfl dX9_perform_145 H
      · have H := H2 (hB)
        refine x_aloadn (q := 115) 1 rfl rfl rfl dX9_perform_114 rfl ?_
        refine x_iload (q := 117) 0 rfl dX9_perform_115 rfl ?_
        refine x_iloadn (q := 118) 3 rfl rfl dX9_perform_117 rfl ?_
        refine x_iload (q := 120) 4 rfl dX9_perform_118 rfl ?_
        refine x_iconst (q := 121) dX9_perform_120 rfl ?_
        refine x_iadd (q := 122) dX9_perform_121 rfl ?_
        refine x_callV (q := 125) (d := d - 1) (as := [vI ((tbl 1).getD (Int.toNat ((l5 * 4) + l2)) 0), vI l3, vI (l4 + 1)]) (st := []) dX9_perform_122 rfl mv_X9_56 sh_59 rfl rfl rfl (by exact Nat.le_of_ble_eq_true rfl) ⟨by show _ ≤ d; omega, by show _ ≤ 40 * d; omega⟩ ⟨Nat.le_refl _, Nat.le_refl _⟩ (Ct.mono H (fun r9 m22 H => ?_))
        obtain ⟨z23, rfl, H⟩ := H
        show E_X9_perform G d 125 [(6, vI ((tbl 1).getD (Int.toNat ((l5 * 4) + l2)) 0)), (0, vR 59), (2, vI l2), (3, vI l3), (4, vI l4), (5, vI l5)] [vI z23] m22 Q
        refine x_goto (tgt := 145) dX9_perform_125 (by decide) ?_
        exact x_iret rfl dX9_perform_145 H
    · have H := H2 (hB)
      refine x_aloadn (q := 89) 1 rfl rfl rfl dX9_perform_88 rfl ?_
      refine x_getr (q := 92) dX9_perform_89 rfl fa_X9_9 sh_59 rfl ?_
      refine x_aloadn (q := 93) 1 rfl rfl rfl dX9_perform_92 rfl ?_
      refine x_geti (q := 96) (ji := 1) dX9_perform_93 rfl fa_X9_15 sh_59 rfl rfl (fun r24 => ?_)
      refine x_iload (q := 98) 0 rfl dX9_perform_96 rfl ?_
      obtain ⟨⟨s25, s26⟩, H⟩ := H
      refine x_iast (q := 99) dX9_perform_98 rfl sh_60 s25 s26 (tbl_inr 1 (by decide) _) (fun m27 em27 => ?_)
      have H := H m27 em27
      refine x_aloadn (q := 100) 1 rfl rfl rfl dX9_perform_99 rfl ?_
      refine x_dup (q := 101) (by exact Nat.ne_of_beq_eq_false rfl) dX9_perform_100 rfl ?_
      refine x_geti (q := 104) (ji := 1) dX9_perform_101 rfl fa_X9_15 sh_59 rfl rfl (fun r28 => ?_)
      refine x_iconst (q := 105) dX9_perform_104 rfl ?_
      refine x_iadd (q := 106) dX9_perform_105 rfl ?_
      obtain ⟨s30, H⟩ := H
      refine x_puti (q := 109) (ji := 1) dX9_perform_106 rfl fp_X9_15 sh_59 rfl rfl s30 (fun m29 em29 => ?_)
      have H := H m29 em29
      refine x_iload (q := 111) 5 rfl dX9_perform_109 rfl ?_
      obtain ⟨s31, H⟩ := H
      obtain ⟨H1, H2⟩ := H
      refine x_if_ne (tgt := 128) (q := 114) dX9_perform_111 (by decide) rfl s31 (fun hB => ?_) (fun hB => ?_)
      · have H := H1 (hB)
        refine x_aloadn (q := 129) 1 rfl rfl rfl dX9_perform_128 rfl ?_
        refine x_iload (q := 131) 0 rfl dX9_perform_129 rfl ?_
        refine x_getT (q := 134) 0 (by decide) dX9_perform_131 rfl gs_X9_50 ?_
        refine x_iload (q := 136) 5 rfl dX9_perform_134 rfl ?_
        obtain ⟨⟨s34, s35⟩, H⟩ := H
        refine x_tald (q := 137) (by decide) dX9_perform_136 rfl s34 (show l5 < ((6 : Nat) : Int) from s35) ?_
        refine x_iloadn (q := 138) 3 rfl rfl dX9_perform_137 rfl ?_
        refine x_iload (q := 140) 4 rfl dX9_perform_138 rfl ?_
        refine x_iconst (q := 141) dX9_perform_140 rfl ?_
        refine x_iadd (q := 142) dX9_perform_141 rfl ?_
        refine x_callV (q := 145) (d := d - 1) (as := [vI ((tbl 1).getD (Int.toNat ((l5 * 4) + l2)) 0), vI ((tbl 0).getD (Int.toNat l5) 0), vI l3, vI (l4 + 1)]) (st := []) dX9_perform_142 rfl mv_X9_60 sh_59 rfl rfl rfl (by exact Nat.le_of_ble_eq_true rfl) ⟨by show _ ≤ d; omega, by show _ ≤ 40 * d; omega⟩ ⟨Nat.le_refl _, Nat.le_refl _⟩ (Ct.mono H (fun r9 m36 H => ?_))
        obtain ⟨z37, rfl, H⟩ := H
        show E_X9_perform G d 145 [(6, vI ((tbl 1).getD (Int.toNat ((l5 * 4) + l2)) 0)), (0, vR 59), (2, vI l2), (3, vI l3), (4, vI l4), (5, vI l5)] [vI z37] m36 Q
        exact x_iret rfl dX9_perform_145 H
      · have H := H2 (hB)
        refine x_aloadn (q := 115) 1 rfl rfl rfl dX9_perform_114 rfl ?_
        refine x_iload (q := 117) 0 rfl dX9_perform_115 rfl ?_
        refine x_iloadn (q := 118) 3 rfl rfl dX9_perform_117 rfl ?_
        refine x_iload (q := 120) 4 rfl dX9_perform_118 rfl ?_
        refine x_iconst (q := 121) dX9_perform_120 rfl ?_
        refine x_iadd (q := 122) dX9_perform_121 rfl ?_
        refine x_callV (q := 125) (d := d - 1) (as := [vI ((tbl 1).getD (Int.toNat ((l5 * 4) + l2)) 0), vI l3, vI (l4 + 1)]) (st := []) dX9_perform_122 rfl mv_X9_56 sh_59 rfl rfl rfl (by exact Nat.le_of_ble_eq_true rfl) ⟨by show _ ≤ d; omega, by show _ ≤ 40 * d; omega⟩ ⟨Nat.le_refl _, Nat.le_refl _⟩ (Ct.mono H (fun r9 m38 H => ?_))
        obtain ⟨z39, rfl, H⟩ := H
        show E_X9_perform G d 125 [(6, vI ((tbl 1).getD (Int.toNat ((l5 * 4) + l2)) 0)), (0, vR 59), (2, vI l2), (3, vI l3), (4, vI l4), (5, vI l5)] [vI z39] m38 Q
        refine x_goto (tgt := 145) dX9_perform_125 (by decide) ?_
        exact x_iret rfl dX9_perform_145 H
  · have H := H2 (hB)
    refine x_getT (q := 34) 1 (by decide) dX9_perform_31 rfl gs_X9_53 ?_
    refine x_iload (q := 36) 4 rfl dX9_perform_34 rfl ?_
    refine x_iconst (q := 37) dX9_perform_36 rfl ?_
    refine x_imul (q := 38) dX9_perform_37 rfl ?_
    refine x_iloadn (q := 39) 1 rfl rfl dX9_perform_38 rfl ?_
    refine x_iadd (q := 40) dX9_perform_39 rfl ?_
    obtain ⟨⟨s40, s41⟩, H⟩ := H
    refine x_tald (q := 41) (by decide) dX9_perform_40 rfl s40 (show (l5 * 4) + l2 < ((24 : Nat) : Int) from s41) ?_
    obtain ⟨H1, H2⟩ := H
    refine x_if_ne (tgt := 67) (q := 44) dX9_perform_41 (by decide) rfl (tbl_inr 1 (by decide) _) (fun hB => ?_) (fun hB => ?_)
    · have H := H1 (hB)
      refine x_getT (q := 70) 1 (by decide) dX9_perform_67 rfl gs_X9_53 ?_
      refine x_iload (q := 72) 4 rfl dX9_perform_70 rfl ?_
      refine x_iconst (q := 73) dX9_perform_72 rfl ?_
      refine x_imul (q := 74) dX9_perform_73 rfl ?_
      refine x_iloadn (q := 75) 1 rfl rfl dX9_perform_74 rfl ?_
      refine x_iadd (q := 76) dX9_perform_75 rfl ?_
      refine x_tald (q := 77) (by decide) dX9_perform_76 rfl s40 (show (l5 * 4) + l2 < ((24 : Nat) : Int) from s41) ?_
      refine x_istore (q := 79) (ls' := [(6, vI ((tbl 1).getD (Int.toNat ((l5 * 4) + l2)) 0)), (0, vR 59), (2, vI l2), (3, vI l3), (4, vI l4), (5, vI l5)]) (by decide) rfl dX9_perform_77 rfl ?_
      refine x_aloadn (q := 80) 1 rfl rfl rfl dX9_perform_79 rfl ?_
      refine x_geti (q := 83) (ji := 1) dX9_perform_80 rfl fa_X9_15 sh_59 rfl rfl (fun r44 => ?_)
      refine x_bipush (q := 85) rfl dX9_perform_83 rfl ?_
      obtain ⟨H1, H2⟩ := H
      refine x_icmp_ge (tgt := 109) (q := 88) dX9_perform_85 (by decide) rfl r44 (by decide) (fun hB => ?_) (fun hB => ?_)
      · have H := H1 (hB)
        refine x_iload (q := 111) 5 rfl dX9_perform_109 rfl ?_
        obtain ⟨s47, H⟩ := H
        obtain ⟨H1, H2⟩ := H
        refine x_if_ne (tgt := 128) (q := 114) dX9_perform_111 (by decide) rfl s47 (fun hB => ?_) (fun hB => ?_)
        · have H := H1 (hB)
          refine x_aloadn (q := 129) 1 rfl rfl rfl dX9_perform_128 rfl ?_
          refine x_iload (q := 131) 0 rfl dX9_perform_129 rfl ?_
          refine x_getT (q := 134) 0 (by decide) dX9_perform_131 rfl gs_X9_50 ?_
          refine x_iload (q := 136) 5 rfl dX9_perform_134 rfl ?_
          obtain ⟨⟨s50, s51⟩, H⟩ := H
          refine x_tald (q := 137) (by decide) dX9_perform_136 rfl s50 (show l5 < ((6 : Nat) : Int) from s51) ?_
          refine x_iloadn (q := 138) 3 rfl rfl dX9_perform_137 rfl ?_
          refine x_iload (q := 140) 4 rfl dX9_perform_138 rfl ?_
          refine x_iconst (q := 141) dX9_perform_140 rfl ?_
          refine x_iadd (q := 142) dX9_perform_141 rfl ?_
          refine x_callV (q := 145) (d := d - 1) (as := [vI ((tbl 1).getD (Int.toNat ((l5 * 4) + l2)) 0), vI ((tbl 0).getD (Int.toNat l5) 0), vI l3, vI (l4 + 1)]) (st := []) dX9_perform_142 rfl mv_X9_60 sh_59 rfl rfl rfl (by exact Nat.le_of_ble_eq_true rfl) ⟨by show _ ≤ d; omega, by show _ ≤ 40 * d; omega⟩ ⟨Nat.le_refl _, Nat.le_refl _⟩ (Ct.mono H (fun r9 m52 H => ?_))
          obtain ⟨z53, rfl, H⟩ := H
          show E_X9_perform G d 145 [(6, vI ((tbl 1).getD (Int.toNat ((l5 * 4) + l2)) 0)), (0, vR 59), (2, vI l2), (3, vI l3), (4, vI l4), (5, vI l5)] [vI z53] m52 Q
          exact x_iret rfl dX9_perform_145 H
        · have H := H2 (hB)
          refine x_aloadn (q := 115) 1 rfl rfl rfl dX9_perform_114 rfl ?_
          refine x_iload (q := 117) 0 rfl dX9_perform_115 rfl ?_
          refine x_iloadn (q := 118) 3 rfl rfl dX9_perform_117 rfl ?_
          refine x_iload (q := 120) 4 rfl dX9_perform_118 rfl ?_
          refine x_iconst (q := 121) dX9_perform_120 rfl ?_
          refine x_iadd (q := 122) dX9_perform_121 rfl ?_
          refine x_callV (q := 125) (d := d - 1) (as := [vI ((tbl 1).getD (Int.toNat ((l5 * 4) + l2)) 0), vI l3, vI (l4 + 1)]) (st := []) dX9_perform_122 rfl mv_X9_56 sh_59 rfl rfl rfl (by exact Nat.le_of_ble_eq_true rfl) ⟨by show _ ≤ d; omega, by show _ ≤ 40 * d; omega⟩ ⟨Nat.le_refl _, Nat.le_refl _⟩ (Ct.mono H (fun r9 m54 H => ?_))
          obtain ⟨z55, rfl, H⟩ := H
          show E_X9_perform G d 125 [(6, vI ((tbl 1).getD (Int.toNat ((l5 * 4) + l2)) 0)), (0, vR 59), (2, vI l2), (3, vI l3), (4, vI l4), (5, vI l5)] [vI z55] m54 Q
          refine x_goto (tgt := 145) dX9_perform_125 (by decide) ?_
          exact x_iret rfl dX9_perform_145 H
      · have H := H2 (hB)
        refine x_aloadn (q := 89) 1 rfl rfl rfl dX9_perform_88 rfl ?_
        refine x_getr (q := 92) dX9_perform_89 rfl fa_X9_9 sh_59 rfl ?_
        refine x_aloadn (q := 93) 1 rfl rfl rfl dX9_perform_92 rfl ?_
        refine x_geti (q := 96) (ji := 1) dX9_perform_93 rfl fa_X9_15 sh_59 rfl rfl (fun r56 => ?_)
        refine x_iload (q := 98) 0 rfl dX9_perform_96 rfl ?_
        obtain ⟨⟨s57, s58⟩, H⟩ := H
        refine x_iast (q := 99) dX9_perform_98 rfl sh_60 s57 s58 (tbl_inr 1 (by decide) _) (fun m59 em59 => ?_)
        have H := H m59 em59
        refine x_aloadn (q := 100) 1 rfl rfl rfl dX9_perform_99 rfl ?_
        refine x_dup (q := 101) (by exact Nat.ne_of_beq_eq_false rfl) dX9_perform_100 rfl ?_
        refine x_geti (q := 104) (ji := 1) dX9_perform_101 rfl fa_X9_15 sh_59 rfl rfl (fun r60 => ?_)
        refine x_iconst (q := 105) dX9_perform_104 rfl ?_
        refine x_iadd (q := 106) dX9_perform_105 rfl ?_
        obtain ⟨s62, H⟩ := H
        refine x_puti (q := 109) (ji := 1) dX9_perform_106 rfl fp_X9_15 sh_59 rfl rfl s62 (fun m61 em61 => ?_)
        have H := H m61 em61
        refine x_iload (q := 111) 5 rfl dX9_perform_109 rfl ?_
        obtain ⟨s63, H⟩ := H
        obtain ⟨H1, H2⟩ := H
        refine x_if_ne (tgt := 128) (q := 114) dX9_perform_111 (by decide) rfl s63 (fun hB => ?_) (fun hB => ?_)
        · have H := H1 (hB)
          refine x_aloadn (q := 129) 1 rfl rfl rfl dX9_perform_128 rfl ?_
          refine x_iload (q := 131) 0 rfl dX9_perform_129 rfl ?_
          refine x_getT (q := 134) 0 (by decide) dX9_perform_131 rfl gs_X9_50 ?_
          refine x_iload (q := 136) 5 rfl dX9_perform_134 rfl ?_
          obtain ⟨⟨s66, s67⟩, H⟩ := H
          refine x_tald (q := 137) (by decide) dX9_perform_136 rfl s66 (show l5 < ((6 : Nat) : Int) from s67) ?_
          refine x_iloadn (q := 138) 3 rfl rfl dX9_perform_137 rfl ?_
          refine x_iload (q := 140) 4 rfl dX9_perform_138 rfl ?_
          refine x_iconst (q := 141) dX9_perform_140 rfl ?_
          refine x_iadd (q := 142) dX9_perform_141 rfl ?_
          refine x_callV (q := 145) (d := d - 1) (as := [vI ((tbl 1).getD (Int.toNat ((l5 * 4) + l2)) 0), vI ((tbl 0).getD (Int.toNat l5) 0), vI l3, vI (l4 + 1)]) (st := []) dX9_perform_142 rfl mv_X9_60 sh_59 rfl rfl rfl (by exact Nat.le_of_ble_eq_true rfl) ⟨by show _ ≤ d; omega, by show _ ≤ 40 * d; omega⟩ ⟨Nat.le_refl _, Nat.le_refl _⟩ (Ct.mono H (fun r9 m68 H => ?_))
          obtain ⟨z69, rfl, H⟩ := H
          show E_X9_perform G d 145 [(6, vI ((tbl 1).getD (Int.toNat ((l5 * 4) + l2)) 0)), (0, vR 59), (2, vI l2), (3, vI l3), (4, vI l4), (5, vI l5)] [vI z69] m68 Q
          exact x_iret rfl dX9_perform_145 H
        · have H := H2 (hB)
          refine x_aloadn (q := 115) 1 rfl rfl rfl dX9_perform_114 rfl ?_
          refine x_iload (q := 117) 0 rfl dX9_perform_115 rfl ?_
          refine x_iloadn (q := 118) 3 rfl rfl dX9_perform_117 rfl ?_
          refine x_iload (q := 120) 4 rfl dX9_perform_118 rfl ?_
          refine x_iconst (q := 121) dX9_perform_120 rfl ?_
          refine x_iadd (q := 122) dX9_perform_121 rfl ?_
          refine x_callV (q := 125) (d := d - 1) (as := [vI ((tbl 1).getD (Int.toNat ((l5 * 4) + l2)) 0), vI l3, vI (l4 + 1)]) (st := []) dX9_perform_122 rfl mv_X9_56 sh_59 rfl rfl rfl (by exact Nat.le_of_ble_eq_true rfl) ⟨by show _ ≤ d; omega, by show _ ≤ 40 * d; omega⟩ ⟨Nat.le_refl _, Nat.le_refl _⟩ (Ct.mono H (fun r9 m70 H => ?_))
          obtain ⟨z71, rfl, H⟩ := H
          show E_X9_perform G d 125 [(6, vI ((tbl 1).getD (Int.toNat ((l5 * 4) + l2)) 0)), (0, vR 59), (2, vI l2), (3, vI l3), (4, vI l4), (5, vI l5)] [vI z71] m70 Q
          refine x_goto (tgt := 145) dX9_perform_125 (by decide) ?_
          exact x_iret rfl dX9_perform_145 H
    · have H := H2 (hB)
      refine x_getT (q := 47) 0 (by decide) dX9_perform_44 rfl gs_X9_50 ?_
      refine x_iload (q := 49) 4 rfl dX9_perform_47 rfl ?_
      obtain ⟨⟨s72, s73⟩, H⟩ := H
      refine x_tald (q := 50) (by decide) dX9_perform_49 rfl s72 (show l5 < ((6 : Nat) : Int) from s73) ?_
      obtain ⟨H1, H2⟩ := H
      refine x_if_lt (tgt := 67) (q := 53) dX9_perform_50 (by decide) rfl (tbl_inr 0 (by decide) _) (fun hB => ?_) (fun hB => ?_)
      · have H := H1 (hB)
        refine x_getT (q := 70) 1 (by decide) dX9_perform_67 rfl gs_X9_53 ?_
        refine x_iload (q := 72) 4 rfl dX9_perform_70 rfl ?_
        refine x_iconst (q := 73) dX9_perform_72 rfl ?_
        refine x_imul (q := 74) dX9_perform_73 rfl ?_
        refine x_iloadn (q := 75) 1 rfl rfl dX9_perform_74 rfl ?_
        refine x_iadd (q := 76) dX9_perform_75 rfl ?_
        refine x_tald (q := 77) (by decide) dX9_perform_76 rfl s40 (show (l5 * 4) + l2 < ((24 : Nat) : Int) from s41) ?_
        refine x_istore (q := 79) (ls' := [(6, vI ((tbl 1).getD (Int.toNat ((l5 * 4) + l2)) 0)), (0, vR 59), (2, vI l2), (3, vI l3), (4, vI l4), (5, vI l5)]) (by decide) rfl dX9_perform_77 rfl ?_
        refine x_aloadn (q := 80) 1 rfl rfl rfl dX9_perform_79 rfl ?_
        refine x_geti (q := 83) (ji := 1) dX9_perform_80 rfl fa_X9_15 sh_59 rfl rfl (fun r76 => ?_)
        refine x_bipush (q := 85) rfl dX9_perform_83 rfl ?_
        obtain ⟨H1, H2⟩ := H
        refine x_icmp_ge (tgt := 109) (q := 88) dX9_perform_85 (by decide) rfl r76 (by decide) (fun hB => ?_) (fun hB => ?_)
        · have H := H1 (hB)
          refine x_iload (q := 111) 5 rfl dX9_perform_109 rfl ?_
          obtain ⟨s79, H⟩ := H
          obtain ⟨H1, H2⟩ := H
          refine x_if_ne (tgt := 128) (q := 114) dX9_perform_111 (by decide) rfl s79 (fun hB => ?_) (fun hB => ?_)
          · have H := H1 (hB)
            refine x_aloadn (q := 129) 1 rfl rfl rfl dX9_perform_128 rfl ?_
            refine x_iload (q := 131) 0 rfl dX9_perform_129 rfl ?_
            refine x_getT (q := 134) 0 (by decide) dX9_perform_131 rfl gs_X9_50 ?_
            refine x_iload (q := 136) 5 rfl dX9_perform_134 rfl ?_
            refine x_tald (q := 137) (by decide) dX9_perform_136 rfl s72 (show l5 < ((6 : Nat) : Int) from s73) ?_
            refine x_iloadn (q := 138) 3 rfl rfl dX9_perform_137 rfl ?_
            refine x_iload (q := 140) 4 rfl dX9_perform_138 rfl ?_
            refine x_iconst (q := 141) dX9_perform_140 rfl ?_
            refine x_iadd (q := 142) dX9_perform_141 rfl ?_
            refine x_callV (q := 145) (d := d - 1) (as := [vI ((tbl 1).getD (Int.toNat ((l5 * 4) + l2)) 0), vI ((tbl 0).getD (Int.toNat l5) 0), vI l3, vI (l4 + 1)]) (st := []) dX9_perform_142 rfl mv_X9_60 sh_59 rfl rfl rfl (by exact Nat.le_of_ble_eq_true rfl) ⟨by show _ ≤ d; omega, by show _ ≤ 40 * d; omega⟩ ⟨Nat.le_refl _, Nat.le_refl _⟩ (Ct.mono H (fun r9 m82 H => ?_))
            obtain ⟨z83, rfl, H⟩ := H
            show E_X9_perform G d 145 [(6, vI ((tbl 1).getD (Int.toNat ((l5 * 4) + l2)) 0)), (0, vR 59), (2, vI l2), (3, vI l3), (4, vI l4), (5, vI l5)] [vI z83] m82 Q
            exact x_iret rfl dX9_perform_145 H
          · have H := H2 (hB)
            refine x_aloadn (q := 115) 1 rfl rfl rfl dX9_perform_114 rfl ?_
            refine x_iload (q := 117) 0 rfl dX9_perform_115 rfl ?_
            refine x_iloadn (q := 118) 3 rfl rfl dX9_perform_117 rfl ?_
            refine x_iload (q := 120) 4 rfl dX9_perform_118 rfl ?_
            refine x_iconst (q := 121) dX9_perform_120 rfl ?_
            refine x_iadd (q := 122) dX9_perform_121 rfl ?_
            refine x_callV (q := 125) (d := d - 1) (as := [vI ((tbl 1).getD (Int.toNat ((l5 * 4) + l2)) 0), vI l3, vI (l4 + 1)]) (st := []) dX9_perform_122 rfl mv_X9_56 sh_59 rfl rfl rfl (by exact Nat.le_of_ble_eq_true rfl) ⟨by show _ ≤ d; omega, by show _ ≤ 40 * d; omega⟩ ⟨Nat.le_refl _, Nat.le_refl _⟩ (Ct.mono H (fun r9 m84 H => ?_))
            obtain ⟨z85, rfl, H⟩ := H
            show E_X9_perform G d 125 [(6, vI ((tbl 1).getD (Int.toNat ((l5 * 4) + l2)) 0)), (0, vR 59), (2, vI l2), (3, vI l3), (4, vI l4), (5, vI l5)] [vI z85] m84 Q
            refine x_goto (tgt := 145) dX9_perform_125 (by decide) ?_
            exact x_iret rfl dX9_perform_145 H
        · have H := H2 (hB)
          refine x_aloadn (q := 89) 1 rfl rfl rfl dX9_perform_88 rfl ?_
          refine x_getr (q := 92) dX9_perform_89 rfl fa_X9_9 sh_59 rfl ?_
          refine x_aloadn (q := 93) 1 rfl rfl rfl dX9_perform_92 rfl ?_
          refine x_geti (q := 96) (ji := 1) dX9_perform_93 rfl fa_X9_15 sh_59 rfl rfl (fun r86 => ?_)
          refine x_iload (q := 98) 0 rfl dX9_perform_96 rfl ?_
          obtain ⟨⟨s87, s88⟩, H⟩ := H
          refine x_iast (q := 99) dX9_perform_98 rfl sh_60 s87 s88 (tbl_inr 1 (by decide) _) (fun m89 em89 => ?_)
          have H := H m89 em89
          refine x_aloadn (q := 100) 1 rfl rfl rfl dX9_perform_99 rfl ?_
          refine x_dup (q := 101) (by exact Nat.ne_of_beq_eq_false rfl) dX9_perform_100 rfl ?_
          refine x_geti (q := 104) (ji := 1) dX9_perform_101 rfl fa_X9_15 sh_59 rfl rfl (fun r90 => ?_)
          refine x_iconst (q := 105) dX9_perform_104 rfl ?_
          refine x_iadd (q := 106) dX9_perform_105 rfl ?_
          obtain ⟨s92, H⟩ := H
          refine x_puti (q := 109) (ji := 1) dX9_perform_106 rfl fp_X9_15 sh_59 rfl rfl s92 (fun m91 em91 => ?_)
          have H := H m91 em91
          refine x_iload (q := 111) 5 rfl dX9_perform_109 rfl ?_
          obtain ⟨s93, H⟩ := H
          obtain ⟨H1, H2⟩ := H
          refine x_if_ne (tgt := 128) (q := 114) dX9_perform_111 (by decide) rfl s93 (fun hB => ?_) (fun hB => ?_)
          · have H := H1 (hB)
            refine x_aloadn (q := 129) 1 rfl rfl rfl dX9_perform_128 rfl ?_
            refine x_iload (q := 131) 0 rfl dX9_perform_129 rfl ?_
            refine x_getT (q := 134) 0 (by decide) dX9_perform_131 rfl gs_X9_50 ?_
            refine x_iload (q := 136) 5 rfl dX9_perform_134 rfl ?_
            refine x_tald (q := 137) (by decide) dX9_perform_136 rfl s72 (show l5 < ((6 : Nat) : Int) from s73) ?_
            refine x_iloadn (q := 138) 3 rfl rfl dX9_perform_137 rfl ?_
            refine x_iload (q := 140) 4 rfl dX9_perform_138 rfl ?_
            refine x_iconst (q := 141) dX9_perform_140 rfl ?_
            refine x_iadd (q := 142) dX9_perform_141 rfl ?_
            refine x_callV (q := 145) (d := d - 1) (as := [vI ((tbl 1).getD (Int.toNat ((l5 * 4) + l2)) 0), vI ((tbl 0).getD (Int.toNat l5) 0), vI l3, vI (l4 + 1)]) (st := []) dX9_perform_142 rfl mv_X9_60 sh_59 rfl rfl rfl (by exact Nat.le_of_ble_eq_true rfl) ⟨by show _ ≤ d; omega, by show _ ≤ 40 * d; omega⟩ ⟨Nat.le_refl _, Nat.le_refl _⟩ (Ct.mono H (fun r9 m96 H => ?_))
            obtain ⟨z97, rfl, H⟩ := H
            show E_X9_perform G d 145 [(6, vI ((tbl 1).getD (Int.toNat ((l5 * 4) + l2)) 0)), (0, vR 59), (2, vI l2), (3, vI l3), (4, vI l4), (5, vI l5)] [vI z97] m96 Q
            exact x_iret rfl dX9_perform_145 H
          · have H := H2 (hB)
            refine x_aloadn (q := 115) 1 rfl rfl rfl dX9_perform_114 rfl ?_
            refine x_iload (q := 117) 0 rfl dX9_perform_115 rfl ?_
            refine x_iloadn (q := 118) 3 rfl rfl dX9_perform_117 rfl ?_
            refine x_iload (q := 120) 4 rfl dX9_perform_118 rfl ?_
            refine x_iconst (q := 121) dX9_perform_120 rfl ?_
            refine x_iadd (q := 122) dX9_perform_121 rfl ?_
            refine x_callV (q := 125) (d := d - 1) (as := [vI ((tbl 1).getD (Int.toNat ((l5 * 4) + l2)) 0), vI l3, vI (l4 + 1)]) (st := []) dX9_perform_122 rfl mv_X9_56 sh_59 rfl rfl rfl (by exact Nat.le_of_ble_eq_true rfl) ⟨by show _ ≤ d; omega, by show _ ≤ 40 * d; omega⟩ ⟨Nat.le_refl _, Nat.le_refl _⟩ (Ct.mono H (fun r9 m98 H => ?_))
            obtain ⟨z99, rfl, H⟩ := H
            show E_X9_perform G d 125 [(6, vI ((tbl 1).getD (Int.toNat ((l5 * 4) + l2)) 0)), (0, vR 59), (2, vI l2), (3, vI l3), (4, vI l4), (5, vI l5)] [vI z99] m98 Q
            refine x_goto (tgt := 145) dX9_perform_125 (by decide) ?_
            exact x_iret rfl dX9_perform_145 H
      · have H := H2 (hB)
        refine x_getT (q := 56) 0 (by decide) dX9_perform_53 rfl gs_X9_50 ?_
        refine x_iload (q := 58) 4 rfl dX9_perform_56 rfl ?_
        refine x_tald (q := 59) (by decide) dX9_perform_58 rfl s72 (show l5 < ((6 : Nat) : Int) from s73) ?_
        refine x_istore (q := 61) (ls' := [(5, vI ((tbl 0).getD (Int.toNat l5) 0)), (0, vR 59), (2, vI l2), (3, vI l3), (4, vI l4), (6, vI l6)]) (by decide) rfl dX9_perform_59 rfl ?_
        refine x_iinc (q := 64) (ls' := [(6, vI (l6 + 1)), (5, vI ((tbl 0).getD (Int.toNat l5) 0)), (0, vR 59), (2, vI l2), (3, vI l3), (4, vI l4)]) 5 rfl (by decide) rfl dX9_perform_61 rfl ?_
        refine x_goto (tgt := 22) dX9_perform_64 (by decide) ?_
        refine x_sub [2, 3, 4, 5, 1, 0] rfl ?_
        exact H
set_option maxRecDepth 20000 in
set_option maxHeartbeats 4000000 in
theorem B_X9_run {G : GT} {d : Nat} {l1 : Int} {l2 : Int} {l3 : Int} {l4 : Int} {mem : Mem} {Q : Option AV → Mem → Prop} (hd : 1 ≤ d) (H : (inr l1) ∧ ((l1 = 20 → (C_X9_perform G (d - 1) [vR 59, vI l2, vI 0, vI l3, vI l4] mem (fun r9 m2 => ∃ z3 : Int, r9 = some (vI z3) ∧ (Q (some (vI (z3 + 1))) m2)))) ∧ (l1 = 21 → (C_X9_perform G (d - 1) [vR 59, vI l2, vI 2, vI l3, vI l4] mem (fun r9 m4 => ∃ z5 : Int, r9 = some (vI z5) ∧ (Q (some (vI (ixor z5 (m4 59 5)))) m4)))) ∧ (l1 = 30 → (C_X9_perform G (d - 1) [vR 59, vI l2, vI 1, vI l3, vI l4] mem (fun r9 m7 => ∃ z8 : Int, r9 = some (vI z8) ∧ (Q (some (vI (0 - z8))) m7)))) ∧ (l1 = 31 → (C_X9_perform G (d - 1) [vR 59, vI l2, vI 3, vI l3, vI l4] mem (fun r9 m9 => ∃ z10 : Int, r9 = some (vI z10) ∧ (C_X9_perform G (d - 1) [vR 59, vI (m9 59 3), vI 0, vI (m9 59 4), vI l4] m9 (fun r9 m13 => ∃ z14 : Int, r9 = some (vI z14) ∧ (Q (some (vI (z10 + z14))) m13)))))) ∧ (l1 = 40 → ((inr l3) ∧ (C_X9_perform G (d - 1) [vR 59, vI l2, vI 0, vI (Int.tdiv l3 2), vI l4] mem (fun r9 m16 => ∃ z17 : Int, r9 = some (vI z17) ∧ (Q (some (vI z17)) m16))))) ∧ (l1 = 41 → (C_X9_perform G (d - 1) [vR 59, vI l2, vI 2, vI l3, vI l4] mem (fun r9 m18 => ∃ z19 : Int, r9 = some (vI z19) ∧ (C_X9_perform G (d - 1) [vR 59, vI (m18 59 3), vI 1, vI 1, vI l4] m18 (fun r9 m21 => ∃ z22 : Int, r9 = some (vI z22) ∧ (Q (some (vI (z19 + z22))) m21)))))) ∧ (l1 = 50 → (C_X9_perform G (d - 1) [vR 59, vI l2, vI 1, vI (l3 + 1), vI l4] mem (fun r9 m23 => ∃ z24 : Int, r9 = some (vI z24) ∧ (Q (some (vI z24)) m23)))) ∧ (l1 = 51 → (C_X9_perform G (d - 1) [vR 59, vI l2, vI 2, vI l3, vI l4] mem (fun r9 m25 => ∃ z26 : Int, r9 = some (vI z26) ∧ (C_X9_perform G (d - 1) [vR 59, vI l2, vI 1, vI 0, vI l4] m25 (fun r9 m27 => ∃ z28 : Int, r9 = some (vI z28) ∧ (Q (some (vI (z26 - z28))) m27)))))) ∧ (l1 = 61 → (C_X9_perform G (d - 1) [vR 59, vI (mem 59 3), vI 2, vI l3, vI l4] mem (fun r9 m30 => ∃ z31 : Int, r9 = some (vI z31) ∧ (C_X9_perform G (d - 1) [vR 59, vI l2, vI 3, vI l3, vI l4] m30 (fun r9 m32 => ∃ z33 : Int, r9 = some (vI z33) ∧ (Q (some (vI (z31 - z33))) m32)))))) ∧ ((l1 ≠ 20 ∧ l1 ≠ 21 ∧ l1 ≠ 30 ∧ l1 ≠ 31 ∧ l1 ≠ 40 ∧ l1 ≠ 41 ∧ l1 ≠ 50 ∧ l1 ≠ 51 ∧ l1 ≠ 61) → (Q (some (vI 0)) mem)))) : C_X9_run G d [vR 59, vI l1, vI l2, vI l3, vI l4] mem Q := by
  refine Ct_of_Ex (by decide +kernel) (by exact Nat.le_of_ble_eq_true rfl) (ls := [(0, vR 59), (1, vI l1), (2, vI l2), (3, vI l3), (4, vI l4)]) rfl ?_
  show E_X9_run G d 0 [(0, vR 59), (1, vI l1), (2, vI l2), (3, vI l3), (4, vI l4)] [] mem Q
  refine x_iloadn (q := 1) 1 rfl rfl dX9_run_0 rfl ?_
  obtain ⟨s1, H⟩ := H
  obtain ⟨H0, H1, H2, H3, H4, H5, H6, H7, H8, H9⟩ := H
  rcases (show l1 = 20 ∨ l1 = 21 ∨ l1 = 30 ∨ l1 = 31 ∨ l1 = 40 ∨ l1 = 41 ∨ l1 = 50 ∨ l1 = 51 ∨ l1 = 61 ∨ (l1 ≠ 20 ∧ l1 ≠ 21 ∧ l1 ≠ 30 ∧ l1 ≠ 31 ∧ l1 ≠ 40 ∧ l1 ≠ 41 ∧ l1 ≠ 50 ∧ l1 ≠ 51 ∧ l1 ≠ 61) by omega) with hB | hB | hB | hB | hB | hB | hB | hB | hB | hB
  · have H := H0 hB
    refine x_lsw (off := 83) (tgt := 84) dX9_run_1 s1 (by decide) (by rw [hB]; decide) (by decide) ?_
    refine x_aloadn (q := 85) 0 rfl rfl rfl dX9_run_84 rfl ?_
    refine x_iloadn (q := 86) 2 rfl rfl dX9_run_85 rfl ?_
    refine x_iconst (q := 87) dX9_run_86 rfl ?_
    refine x_iloadn (q := 88) 3 rfl rfl dX9_run_87 rfl ?_
    refine x_iload (q := 90) 4 rfl dX9_run_88 rfl ?_
    refine x_callV (q := 93) (d := d - 1) (as := [vI l2, vI 0, vI l3, vI l4]) (st := []) dX9_run_90 rfl mv_X9_46 sh_59 rfl rfl rfl (by exact Nat.le_of_ble_eq_true rfl) ⟨by show _ ≤ d; omega, by show _ ≤ 40 * d; omega⟩ ⟨Nat.le_refl _, Nat.le_refl _⟩ (Ct.mono H (fun r9 m2 H => ?_))
    obtain ⟨z3, rfl, H⟩ := H
    show E_X9_run G d 93 [(0, vR 59), (1, vI l1), (2, vI l2), (3, vI l3), (4, vI l4)] [vI z3] m2 Q
    refine x_iconst (q := 94) dX9_run_93 rfl ?_
    refine x_iadd (q := 95) dX9_run_94 rfl ?_
    exact x_iret rfl dX9_run_95 H
  · have H := H1 hB
    refine x_lsw (off := 95) (tgt := 96) dX9_run_1 s1 (by decide) (by rw [hB]; decide) (by decide) ?_
    refine x_aloadn (q := 97) 0 rfl rfl rfl dX9_run_96 rfl ?_
    refine x_iloadn (q := 98) 2 rfl rfl dX9_run_97 rfl ?_
    refine x_iconst (q := 99) dX9_run_98 rfl ?_
    refine x_iloadn (q := 100) 3 rfl rfl dX9_run_99 rfl ?_
    refine x_iload (q := 102) 4 rfl dX9_run_100 rfl ?_
    refine x_callV (q := 105) (d := d - 1) (as := [vI l2, vI 2, vI l3, vI l4]) (st := []) dX9_run_102 rfl mv_X9_46 sh_59 rfl rfl rfl (by exact Nat.le_of_ble_eq_true rfl) ⟨by show _ ≤ d; omega, by show _ ≤ 40 * d; omega⟩ ⟨Nat.le_refl _, Nat.le_refl _⟩ (Ct.mono H (fun r9 m4 H => ?_))
    obtain ⟨z5, rfl, H⟩ := H
    show E_X9_run G d 105 [(0, vR 59), (1, vI l1), (2, vI l2), (3, vI l3), (4, vI l4)] [vI z5] m4 Q
    refine x_aloadn (q := 106) 0 rfl rfl rfl dX9_run_105 rfl ?_
    refine x_geti (q := 109) (ji := 5) dX9_run_106 rfl fa_X9_37 sh_59 rfl rfl (fun r6 => ?_)
    refine x_ixor (q := 110) dX9_run_109 rfl ?_
    exact x_iret rfl dX9_run_110 H
  · have H := H2 hB
    refine x_lsw (off := 110) (tgt := 111) dX9_run_1 s1 (by decide) (by rw [hB]; decide) (by decide) ?_
    refine x_iconst (q := 112) dX9_run_111 rfl ?_
    refine x_aloadn (q := 113) 0 rfl rfl rfl dX9_run_112 rfl ?_
    refine x_iloadn (q := 114) 2 rfl rfl dX9_run_113 rfl ?_
    refine x_iconst (q := 115) dX9_run_114 rfl ?_
    refine x_iloadn (q := 116) 3 rfl rfl dX9_run_115 rfl ?_
    refine x_iload (q := 118) 4 rfl dX9_run_116 rfl ?_
    refine x_callV (q := 121) (d := d - 1) (as := [vI l2, vI 1, vI l3, vI l4]) (st := [vI 0]) dX9_run_118 rfl mv_X9_46 sh_59 rfl rfl rfl (by exact Nat.le_of_ble_eq_true rfl) ⟨by show _ ≤ d; omega, by show _ ≤ 40 * d; omega⟩ ⟨Nat.le_refl _, Nat.le_refl _⟩ (Ct.mono H (fun r9 m7 H => ?_))
    obtain ⟨z8, rfl, H⟩ := H
    show E_X9_run G d 121 [(0, vR 59), (1, vI l1), (2, vI l2), (3, vI l3), (4, vI l4)] [vI z8, vI 0] m7 Q
    refine x_isub (q := 122) dX9_run_121 rfl ?_
    exact x_iret rfl dX9_run_122 H
  · have H := H3 hB
    refine x_lsw (off := 122) (tgt := 123) dX9_run_1 s1 (by decide) (by rw [hB]; decide) (by decide) ?_
    refine x_aloadn (q := 124) 0 rfl rfl rfl dX9_run_123 rfl ?_
    refine x_iloadn (q := 125) 2 rfl rfl dX9_run_124 rfl ?_
    refine x_iconst (q := 126) dX9_run_125 rfl ?_
    refine x_iloadn (q := 127) 3 rfl rfl dX9_run_126 rfl ?_
    refine x_iload (q := 129) 4 rfl dX9_run_127 rfl ?_
    refine x_callV (q := 132) (d := d - 1) (as := [vI l2, vI 3, vI l3, vI l4]) (st := []) dX9_run_129 rfl mv_X9_46 sh_59 rfl rfl rfl (by exact Nat.le_of_ble_eq_true rfl) ⟨by show _ ≤ d; omega, by show _ ≤ 40 * d; omega⟩ ⟨Nat.le_refl _, Nat.le_refl _⟩ (Ct.mono H (fun r9 m9 H => ?_))
    obtain ⟨z10, rfl, H⟩ := H
    show E_X9_run G d 132 [(0, vR 59), (1, vI l1), (2, vI l2), (3, vI l3), (4, vI l4)] [vI z10] m9 Q
    refine x_aloadn (q := 133) 0 rfl rfl rfl dX9_run_132 rfl ?_
    refine x_aloadn (q := 134) 0 rfl rfl rfl dX9_run_133 rfl ?_
    refine x_geti (q := 137) (ji := 3) dX9_run_134 rfl fa_X9_28 sh_59 rfl rfl (fun r11 => ?_)
    refine x_iconst (q := 138) dX9_run_137 rfl ?_
    refine x_aloadn (q := 139) 0 rfl rfl rfl dX9_run_138 rfl ?_
    refine x_geti (q := 142) (ji := 4) dX9_run_139 rfl fa_X9_31 sh_59 rfl rfl (fun r12 => ?_)
    refine x_iload (q := 144) 4 rfl dX9_run_142 rfl ?_
    refine x_callV (q := 147) (d := d - 1) (as := [vI (m9 59 3), vI 0, vI (m9 59 4), vI l4]) (st := [vI z10]) dX9_run_144 rfl mv_X9_46 sh_59 rfl rfl rfl (by exact Nat.le_of_ble_eq_true rfl) ⟨by show _ ≤ d; omega, by show _ ≤ 40 * d; omega⟩ ⟨Nat.le_refl _, Nat.le_refl _⟩ (Ct.mono H (fun r9 m13 H => ?_))
    obtain ⟨z14, rfl, H⟩ := H
    show E_X9_run G d 147 [(0, vR 59), (1, vI l1), (2, vI l2), (3, vI l3), (4, vI l4)] [vI z14, vI z10] m13 Q
    refine x_iadd (q := 148) dX9_run_147 rfl ?_
    exact x_iret rfl dX9_run_148 H
  · have H := H4 hB
    refine x_lsw (off := 148) (tgt := 149) dX9_run_1 s1 (by decide) (by rw [hB]; decide) (by decide) ?_
    refine x_aloadn (q := 150) 0 rfl rfl rfl dX9_run_149 rfl ?_
    refine x_iloadn (q := 151) 2 rfl rfl dX9_run_150 rfl ?_
    refine x_iconst (q := 152) dX9_run_151 rfl ?_
    refine x_iloadn (q := 153) 3 rfl rfl dX9_run_152 rfl ?_
    refine x_iconst (q := 154) dX9_run_153 rfl ?_
    obtain ⟨s15, H⟩ := H
    refine x_idiv (q := 155) s15 (by decide) (by decide) dX9_run_154 rfl ?_
    refine x_iload (q := 157) 4 rfl dX9_run_155 rfl ?_
    refine x_callV (q := 160) (d := d - 1) (as := [vI l2, vI 0, vI (Int.tdiv l3 2), vI l4]) (st := []) dX9_run_157 rfl mv_X9_46 sh_59 rfl rfl rfl (by exact Nat.le_of_ble_eq_true rfl) ⟨by show _ ≤ d; omega, by show _ ≤ 40 * d; omega⟩ ⟨Nat.le_refl _, Nat.le_refl _⟩ (Ct.mono H (fun r9 m16 H => ?_))
    obtain ⟨z17, rfl, H⟩ := H
    show E_X9_run G d 160 [(0, vR 59), (1, vI l1), (2, vI l2), (3, vI l3), (4, vI l4)] [vI z17] m16 Q
    exact x_iret rfl dX9_run_160 H
  · have H := H5 hB
    refine x_lsw (off := 160) (tgt := 161) dX9_run_1 s1 (by decide) (by rw [hB]; decide) (by decide) ?_
    refine x_aloadn (q := 162) 0 rfl rfl rfl dX9_run_161 rfl ?_
    refine x_iloadn (q := 163) 2 rfl rfl dX9_run_162 rfl ?_
    refine x_iconst (q := 164) dX9_run_163 rfl ?_
    refine x_iloadn (q := 165) 3 rfl rfl dX9_run_164 rfl ?_
    refine x_iload (q := 167) 4 rfl dX9_run_165 rfl ?_
    refine x_callV (q := 170) (d := d - 1) (as := [vI l2, vI 2, vI l3, vI l4]) (st := []) dX9_run_167 rfl mv_X9_46 sh_59 rfl rfl rfl (by exact Nat.le_of_ble_eq_true rfl) ⟨by show _ ≤ d; omega, by show _ ≤ 40 * d; omega⟩ ⟨Nat.le_refl _, Nat.le_refl _⟩ (Ct.mono H (fun r9 m18 H => ?_))
    obtain ⟨z19, rfl, H⟩ := H
    show E_X9_run G d 170 [(0, vR 59), (1, vI l1), (2, vI l2), (3, vI l3), (4, vI l4)] [vI z19] m18 Q
    refine x_aloadn (q := 171) 0 rfl rfl rfl dX9_run_170 rfl ?_
    refine x_aloadn (q := 172) 0 rfl rfl rfl dX9_run_171 rfl ?_
    refine x_geti (q := 175) (ji := 3) dX9_run_172 rfl fa_X9_28 sh_59 rfl rfl (fun r20 => ?_)
    refine x_iconst (q := 176) dX9_run_175 rfl ?_
    refine x_iconst (q := 177) dX9_run_176 rfl ?_
    refine x_iload (q := 179) 4 rfl dX9_run_177 rfl ?_
    refine x_callV (q := 182) (d := d - 1) (as := [vI (m18 59 3), vI 1, vI 1, vI l4]) (st := [vI z19]) dX9_run_179 rfl mv_X9_46 sh_59 rfl rfl rfl (by exact Nat.le_of_ble_eq_true rfl) ⟨by show _ ≤ d; omega, by show _ ≤ 40 * d; omega⟩ ⟨Nat.le_refl _, Nat.le_refl _⟩ (Ct.mono H (fun r9 m21 H => ?_))
    obtain ⟨z22, rfl, H⟩ := H
    show E_X9_run G d 182 [(0, vR 59), (1, vI l1), (2, vI l2), (3, vI l3), (4, vI l4)] [vI z22, vI z19] m21 Q
    refine x_iadd (q := 183) dX9_run_182 rfl ?_
    exact x_iret rfl dX9_run_183 H
  · have H := H6 hB
    refine x_lsw (off := 183) (tgt := 184) dX9_run_1 s1 (by decide) (by rw [hB]; decide) (by decide) ?_
    refine x_aloadn (q := 185) 0 rfl rfl rfl dX9_run_184 rfl ?_
    refine x_iloadn (q := 186) 2 rfl rfl dX9_run_185 rfl ?_
    refine x_iconst (q := 187) dX9_run_186 rfl ?_
    refine x_iloadn (q := 188) 3 rfl rfl dX9_run_187 rfl ?_
    refine x_iconst (q := 189) dX9_run_188 rfl ?_
    refine x_iadd (q := 190) dX9_run_189 rfl ?_
    refine x_iload (q := 192) 4 rfl dX9_run_190 rfl ?_
    refine x_callV (q := 195) (d := d - 1) (as := [vI l2, vI 1, vI (l3 + 1), vI l4]) (st := []) dX9_run_192 rfl mv_X9_46 sh_59 rfl rfl rfl (by exact Nat.le_of_ble_eq_true rfl) ⟨by show _ ≤ d; omega, by show _ ≤ 40 * d; omega⟩ ⟨Nat.le_refl _, Nat.le_refl _⟩ (Ct.mono H (fun r9 m23 H => ?_))
    obtain ⟨z24, rfl, H⟩ := H
    show E_X9_run G d 195 [(0, vR 59), (1, vI l1), (2, vI l2), (3, vI l3), (4, vI l4)] [vI z24] m23 Q
    exact x_iret rfl dX9_run_195 H
  · have H := H7 hB
    refine x_lsw (off := 195) (tgt := 196) dX9_run_1 s1 (by decide) (by rw [hB]; decide) (by decide) ?_
    refine x_aloadn (q := 197) 0 rfl rfl rfl dX9_run_196 rfl ?_
    refine x_iloadn (q := 198) 2 rfl rfl dX9_run_197 rfl ?_
    refine x_iconst (q := 199) dX9_run_198 rfl ?_
    refine x_iloadn (q := 200) 3 rfl rfl dX9_run_199 rfl ?_
    refine x_iload (q := 202) 4 rfl dX9_run_200 rfl ?_
    refine x_callV (q := 205) (d := d - 1) (as := [vI l2, vI 2, vI l3, vI l4]) (st := []) dX9_run_202 rfl mv_X9_46 sh_59 rfl rfl rfl (by exact Nat.le_of_ble_eq_true rfl) ⟨by show _ ≤ d; omega, by show _ ≤ 40 * d; omega⟩ ⟨Nat.le_refl _, Nat.le_refl _⟩ (Ct.mono H (fun r9 m25 H => ?_))
    obtain ⟨z26, rfl, H⟩ := H
    show E_X9_run G d 205 [(0, vR 59), (1, vI l1), (2, vI l2), (3, vI l3), (4, vI l4)] [vI z26] m25 Q
    refine x_aloadn (q := 206) 0 rfl rfl rfl dX9_run_205 rfl ?_
    refine x_iloadn (q := 207) 2 rfl rfl dX9_run_206 rfl ?_
    refine x_iconst (q := 208) dX9_run_207 rfl ?_
    refine x_iconst (q := 209) dX9_run_208 rfl ?_
    refine x_iload (q := 211) 4 rfl dX9_run_209 rfl ?_
    refine x_callV (q := 214) (d := d - 1) (as := [vI l2, vI 1, vI 0, vI l4]) (st := [vI z26]) dX9_run_211 rfl mv_X9_46 sh_59 rfl rfl rfl (by exact Nat.le_of_ble_eq_true rfl) ⟨by show _ ≤ d; omega, by show _ ≤ 40 * d; omega⟩ ⟨Nat.le_refl _, Nat.le_refl _⟩ (Ct.mono H (fun r9 m27 H => ?_))
    obtain ⟨z28, rfl, H⟩ := H
    show E_X9_run G d 214 [(0, vR 59), (1, vI l1), (2, vI l2), (3, vI l3), (4, vI l4)] [vI z28, vI z26] m27 Q
    refine x_isub (q := 215) dX9_run_214 rfl ?_
    exact x_iret rfl dX9_run_215 H
  · have H := H8 hB
    refine x_lsw (off := 215) (tgt := 216) dX9_run_1 s1 (by decide) (by rw [hB]; decide) (by decide) ?_
    refine x_aloadn (q := 217) 0 rfl rfl rfl dX9_run_216 rfl ?_
    refine x_aloadn (q := 218) 0 rfl rfl rfl dX9_run_217 rfl ?_
    refine x_geti (q := 221) (ji := 3) dX9_run_218 rfl fa_X9_28 sh_59 rfl rfl (fun r29 => ?_)
    refine x_iconst (q := 222) dX9_run_221 rfl ?_
    refine x_iloadn (q := 223) 3 rfl rfl dX9_run_222 rfl ?_
    refine x_iload (q := 225) 4 rfl dX9_run_223 rfl ?_
    refine x_callV (q := 228) (d := d - 1) (as := [vI (mem 59 3), vI 2, vI l3, vI l4]) (st := []) dX9_run_225 rfl mv_X9_46 sh_59 rfl rfl rfl (by exact Nat.le_of_ble_eq_true rfl) ⟨by show _ ≤ d; omega, by show _ ≤ 40 * d; omega⟩ ⟨Nat.le_refl _, Nat.le_refl _⟩ (Ct.mono H (fun r9 m30 H => ?_))
    obtain ⟨z31, rfl, H⟩ := H
    show E_X9_run G d 228 [(0, vR 59), (1, vI l1), (2, vI l2), (3, vI l3), (4, vI l4)] [vI z31] m30 Q
    refine x_aloadn (q := 229) 0 rfl rfl rfl dX9_run_228 rfl ?_
    refine x_iloadn (q := 230) 2 rfl rfl dX9_run_229 rfl ?_
    refine x_iconst (q := 231) dX9_run_230 rfl ?_
    refine x_iloadn (q := 232) 3 rfl rfl dX9_run_231 rfl ?_
    refine x_iload (q := 234) 4 rfl dX9_run_232 rfl ?_
    refine x_callV (q := 237) (d := d - 1) (as := [vI l2, vI 3, vI l3, vI l4]) (st := [vI z31]) dX9_run_234 rfl mv_X9_46 sh_59 rfl rfl rfl (by exact Nat.le_of_ble_eq_true rfl) ⟨by show _ ≤ d; omega, by show _ ≤ 40 * d; omega⟩ ⟨Nat.le_refl _, Nat.le_refl _⟩ (Ct.mono H (fun r9 m32 H => ?_))
    obtain ⟨z33, rfl, H⟩ := H
    show E_X9_run G d 237 [(0, vR 59), (1, vI l1), (2, vI l2), (3, vI l3), (4, vI l4)] [vI z33, vI z31] m32 Q
    refine x_isub (q := 238) dX9_run_237 rfl ?_
    exact x_iret rfl dX9_run_238 H
  · have H := H9 hB
    refine x_lsw (off := 238) (tgt := 239) dX9_run_1 s1 (by decide) (by simp [Op.lookupswitch.offset_cons, hB, Ne.symm, eq_comm]; first | rfl | (simp_all [Op.lookupswitch.offset]; done)) (by decide) ?_
    refine x_iconst (q := 240) dX9_run_239 rfl ?_
    exact x_iret rfl dX9_run_240 H
set_option maxRecDepth 20000 in
set_option maxHeartbeats 4000000 in
theorem B_X9_runHighest {G : GT} {d : Nat} {l1 : Int} {l2 : Int} {l3 : Int} {mem : Mem} {Q : Option AV → Mem → Prop} (hd : 1 ≤ d) (H : (inr l1) ∧ ((l1 = 10 → (Q (some (vI (l2 + (mem 59 6)))) mem)) ∧ (l1 = 11 → (C_X9_perform G (d - 1) [vR 59, vI (mem 59 3), vI 0, vI l2, vI l3] mem (fun r9 m4 => ∃ z5 : Int, r9 = some (vI z5) ∧ (Q (some (vI (z5 * 3))) m4)))) ∧ (l1 = 12 → (C_X9_perform G (d - 1) [vR 59, vI (mem 59 3), vI 1, vI l2, vI l3] mem (fun r9 m7 => ∃ z8 : Int, r9 = some (vI z8) ∧ (Q (some (vI (z8 - (m7 59 5)))) m7)))) ∧ ((l1 < 10 ∨ 12 < l1) → (C_X9_shareOut G (d - 1) [vR 59, vI l2] mem (fun r9 m10 => ∃ z11 : Int, r9 = some (vI z11) ∧ (Q (some (vI z11)) m10)))))) : C_X9_runHighest G d [vR 59, vI l1, vI l2, vI l3] mem Q := by
  refine Ct_of_Ex (by decide +kernel) (by exact Nat.le_of_ble_eq_true rfl) (ls := [(0, vR 59), (1, vI l1), (2, vI l2), (3, vI l3)]) rfl ?_
  show E_X9_runHighest G d 0 [(0, vR 59), (1, vI l1), (2, vI l2), (3, vI l3)] [] mem Q
  refine x_iloadn (q := 1) 1 rfl rfl dX9_runHighest_0 rfl ?_
  obtain ⟨s1, H⟩ := H
  obtain ⟨H0, H1, H2, H3⟩ := H
  rcases (show l1 = 10 ∨ l1 = 11 ∨ l1 = 12 ∨ (l1 < 10 ∨ 12 < l1) by omega) with hB | hB | hB | hB
  · have H := H0 hB
    refine x_tswIn (z := 10) (tgt := 28) dX9_runHighest_1 hB (by decide) (by decide) (by decide) rfl (by decide) ?_
    refine x_iloadn (q := 29) 2 rfl rfl dX9_runHighest_28 rfl ?_
    refine x_aloadn (q := 30) 0 rfl rfl rfl dX9_runHighest_29 rfl ?_
    refine x_geti (q := 33) (ji := 6) dX9_runHighest_30 rfl fa_X9_43 sh_59 rfl rfl (fun r2 => ?_)
    refine x_iadd (q := 34) dX9_runHighest_33 rfl ?_
    exact x_iret rfl dX9_runHighest_34 H
  · have H := H1 hB
    refine x_tswIn (z := 11) (tgt := 35) dX9_runHighest_1 hB (by decide) (by decide) (by decide) rfl (by decide) ?_
    refine x_aloadn (q := 36) 0 rfl rfl rfl dX9_runHighest_35 rfl ?_
    refine x_aloadn (q := 37) 0 rfl rfl rfl dX9_runHighest_36 rfl ?_
    refine x_geti (q := 40) (ji := 3) dX9_runHighest_37 rfl fa_X9_28 sh_59 rfl rfl (fun r3 => ?_)
    refine x_iconst (q := 41) dX9_runHighest_40 rfl ?_
    refine x_iloadn (q := 42) 2 rfl rfl dX9_runHighest_41 rfl ?_
    refine x_iloadn (q := 43) 3 rfl rfl dX9_runHighest_42 rfl ?_
    refine x_callV (q := 46) (d := d - 1) (as := [vI (mem 59 3), vI 0, vI l2, vI l3]) (st := []) dX9_runHighest_43 rfl mv_X9_46 sh_59 rfl rfl rfl (by exact Nat.le_of_ble_eq_true rfl) ⟨by show _ ≤ d; omega, by show _ ≤ 40 * d; omega⟩ ⟨Nat.le_refl _, Nat.le_refl _⟩ (Ct.mono H (fun r9 m4 H => ?_))
    obtain ⟨z5, rfl, H⟩ := H
    show E_X9_runHighest G d 46 [(0, vR 59), (1, vI l1), (2, vI l2), (3, vI l3)] [vI z5] m4 Q
    refine x_iconst (q := 47) dX9_runHighest_46 rfl ?_
    refine x_imul (q := 48) dX9_runHighest_47 rfl ?_
    exact x_iret rfl dX9_runHighest_48 H
  · have H := H2 hB
    refine x_tswIn (z := 12) (tgt := 49) dX9_runHighest_1 hB (by decide) (by decide) (by decide) rfl (by decide) ?_
    refine x_aloadn (q := 50) 0 rfl rfl rfl dX9_runHighest_49 rfl ?_
    refine x_aloadn (q := 51) 0 rfl rfl rfl dX9_runHighest_50 rfl ?_
    refine x_geti (q := 54) (ji := 3) dX9_runHighest_51 rfl fa_X9_28 sh_59 rfl rfl (fun r6 => ?_)
    refine x_iconst (q := 55) dX9_runHighest_54 rfl ?_
    refine x_iloadn (q := 56) 2 rfl rfl dX9_runHighest_55 rfl ?_
    refine x_iloadn (q := 57) 3 rfl rfl dX9_runHighest_56 rfl ?_
    refine x_callV (q := 60) (d := d - 1) (as := [vI (mem 59 3), vI 1, vI l2, vI l3]) (st := []) dX9_runHighest_57 rfl mv_X9_46 sh_59 rfl rfl rfl (by exact Nat.le_of_ble_eq_true rfl) ⟨by show _ ≤ d; omega, by show _ ≤ 40 * d; omega⟩ ⟨Nat.le_refl _, Nat.le_refl _⟩ (Ct.mono H (fun r9 m7 H => ?_))
    obtain ⟨z8, rfl, H⟩ := H
    show E_X9_runHighest G d 60 [(0, vR 59), (1, vI l1), (2, vI l2), (3, vI l3)] [vI z8] m7 Q
    refine x_aloadn (q := 61) 0 rfl rfl rfl dX9_runHighest_60 rfl ?_
    refine x_geti (q := 64) (ji := 5) dX9_runHighest_61 rfl fa_X9_37 sh_59 rfl rfl (fun r9 => ?_)
    refine x_isub (q := 65) dX9_runHighest_64 rfl ?_
    exact x_iret rfl dX9_runHighest_65 H
  · have H := H3 hB
    refine x_tswOut (tgt := 66) dX9_runHighest_1 s1 hB (by decide) ?_
    refine x_aloadn (q := 67) 0 rfl rfl rfl dX9_runHighest_66 rfl ?_
    refine x_iloadn (q := 68) 2 rfl rfl dX9_runHighest_67 rfl ?_
    refine x_callV (q := 71) (d := d - 1) (as := [vI l2]) (st := []) dX9_runHighest_68 rfl mv_X9_63 sh_59 rfl rfl rfl (by exact Nat.le_of_ble_eq_true rfl) ⟨by show _ ≤ d; omega, by show _ ≤ 40 * d; omega⟩ ⟨Nat.le_refl _, Nat.le_refl _⟩ (Ct.mono H (fun r9 m10 H => ?_))
    obtain ⟨z11, rfl, H⟩ := H
    show E_X9_runHighest G d 71 [(0, vR 59), (1, vI l1), (2, vI l2), (3, vI l3)] [vI z11] m10 Q
    exact x_iret rfl dX9_runHighest_71 H
set_option maxRecDepth 20000 in
set_option maxHeartbeats 4000000 in
theorem B_X9_shareOut {G : GT} {d : Nat} {l1 : Int} {mem : Mem} {Q : Option AV → Mem → Prop} (H : (inr ((mem 59 5) - (mem 59 4))) ∧ ((((mem 59 5) - (mem 59 4) ≠ 0) → ((inr l1) ∧ (((mem 59 5) - (mem 59 4) ≠ 0) ∧ (Q (some (vI (Int.tdiv l1 ((mem 59 5) - (mem 59 4))))) mem)))) ∧ (¬ ((mem 59 5) - (mem 59 4) ≠ 0) → (∀ m8 : Mem, m8 = upM mem 59 2 1 → (Q (some (vI 0)) m8))))) : C_X9_shareOut G d [vR 59, vI l1] mem Q := by
  refine Ct_of_Ex (by decide +kernel) (by exact Nat.le_of_ble_eq_true rfl) (ls := [(0, vR 59), (1, vI l1)]) rfl ?_
  show E_X9_shareOut G d 0 [(0, vR 59), (1, vI l1)] [] mem Q
  refine x_aloadn (q := 1) 0 rfl rfl rfl dX9_shareOut_0 rfl ?_
  refine x_geti (q := 4) (ji := 5) dX9_shareOut_1 rfl fa_X9_37 sh_59 rfl rfl (fun r1 => ?_)
  refine x_aloadn (q := 5) 0 rfl rfl rfl dX9_shareOut_4 rfl ?_
  refine x_geti (q := 8) (ji := 4) dX9_shareOut_5 rfl fa_X9_31 sh_59 rfl rfl (fun r2 => ?_)
  refine x_isub (q := 9) dX9_shareOut_8 rfl ?_
  refine x_istoren (q := 10) (ls' := [(2, vI ((mem 59 5) - (mem 59 4))), (0, vR 59), (1, vI l1)]) rfl (by decide) rfl dX9_shareOut_9 rfl ?_
  refine x_iloadn (q := 11) 0 rfl rfl dX9_shareOut_10 rfl ?_
  obtain ⟨s3, H⟩ := H
  obtain ⟨H1, H2⟩ := H
  refine x_if_ne (tgt := 21) (q := 14) dX9_shareOut_11 (by decide) rfl s3 (fun hB => ?_) (fun hB => ?_)
  · have H := H1 (hB)
    refine x_iloadn (q := 22) 2 rfl rfl dX9_shareOut_21 rfl ?_
    refine x_iloadn (q := 23) 0 rfl rfl dX9_shareOut_22 rfl ?_
    obtain ⟨s6, H⟩ := H
    obtain ⟨s7, H⟩ := H
    refine x_idiv (q := 24) s6 s3 s7 dX9_shareOut_23 rfl ?_
    exact x_iret rfl dX9_shareOut_24 H
  · have H := H2 (hB)
    refine x_aloadn (q := 15) 1 rfl rfl rfl dX9_shareOut_14 rfl ?_
    refine x_iconst (q := 16) dX9_shareOut_15 rfl ?_
    refine x_putz (q := 19) (ji := 2) dX9_shareOut_16 rfl fp_X9_19 sh_59 rfl rfl (by decide) (fun m8 em8 => ?_)
    have H := H m8 em8
    refine x_iconst (q := 20) dX9_shareOut_19 rfl ?_
    exact x_iret rfl dX9_shareOut_20 H
set_option maxRecDepth 20000 in
set_option maxHeartbeats 4000000 in
theorem B_X9_sound {G : GT} {d : Nat} {h : Nat} (hh : isH h) {l2 : Int} {l3 : Int} {l4 : Int} {mem : Mem} {Q : Option AV → Mem → Prop} (hd : 1 ≤ d) (H : ∀ m1 : Mem, m1 = upM mem 59 1 0 → (∀ m2 : Mem, m2 = upM m1 59 2 0 → ((0 ≤ l2 ∧ l2 < 12) ∧ (∀ m6 : Mem, m6 = upM m2 59 3 (m2 (h + 1) l2) → ((inr l2) ∧ (∀ m7 : Mem, m7 = upM m6 59 4 l2 → (∀ m10 : Mem, m10 = upM m7 59 5 (m7 (h + 2) l2) → (∀ m12 : Mem, m12 = upM m10 59 6 (m10 (h + 3) l2) → (C_X9_perform G (d - 1) [vR 59, vI (m12 59 3), vI l3, vI l4, vI 0] m12 (fun r9 m14 => ∃ z15 : Int, r9 = some (vI z15) ∧ (Q (some (vI z15)) m14))))))))))) : C_X9_sound G d [vR 59, vR h, vI l2, vI l3, vI l4] mem Q := by
  refine Ct_of_Ex (by decide +kernel) (by exact Nat.le_of_ble_eq_true rfl) (ls := [(0, vR 59), (1, vR h), (2, vI l2), (3, vI l3), (4, vI l4)]) rfl ?_
  show E_X9_sound G d 0 [(0, vR 59), (1, vR h), (2, vI l2), (3, vI l3), (4, vI l4)] [] mem Q
  refine x_aloadn (q := 1) 0 rfl rfl rfl dX9_sound_0 rfl ?_
  refine x_iconst (q := 2) dX9_sound_1 rfl ?_
  refine x_puti (q := 5) (ji := 1) dX9_sound_2 rfl fp_X9_15 sh_59 rfl rfl (by decide) (fun m1 em1 => ?_)
  have H := H m1 em1
  refine x_aloadn (q := 6) 0 rfl rfl rfl dX9_sound_5 rfl ?_
  refine x_iconst (q := 7) dX9_sound_6 rfl ?_
  refine x_putz (q := 10) (ji := 2) dX9_sound_7 rfl fp_X9_19 sh_59 rfl rfl (by decide) (fun m2 em2 => ?_)
  have H := H m2 em2
  refine x_aloadn (q := 11) 0 rfl rfl rfl dX9_sound_10 rfl ?_
  refine x_aloadn (q := 12) 1 rfl rfl rfl dX9_sound_11 rfl ?_
  refine x_getr (q := 15) dX9_sound_12 rfl fa_X9_23 (sh_H0 hh) rfl ?_
  refine x_iloadn (q := 16) 2 rfl rfl dX9_sound_15 rfl ?_
  obtain ⟨⟨s3, s4⟩, H⟩ := H
  refine x_iald (q := 17) dX9_sound_16 rfl (sh_H1 hh) s3 s4 (fun r5 => ?_)
  refine x_puti (q := 20) (ji := 3) dX9_sound_17 rfl fp_X9_28 sh_59 rfl rfl r5 (fun m6 em6 => ?_)
  have H := H m6 em6
  refine x_aloadn (q := 21) 0 rfl rfl rfl dX9_sound_20 rfl ?_
  refine x_iloadn (q := 22) 2 rfl rfl dX9_sound_21 rfl ?_
  obtain ⟨s8, H⟩ := H
  refine x_puti (q := 25) (ji := 4) dX9_sound_22 rfl fp_X9_31 sh_59 rfl rfl s8 (fun m7 em7 => ?_)
  have H := H m7 em7
  refine x_aloadn (q := 26) 0 rfl rfl rfl dX9_sound_25 rfl ?_
  refine x_aloadn (q := 27) 1 rfl rfl rfl dX9_sound_26 rfl ?_
  refine x_getr (q := 30) dX9_sound_27 rfl fa_X9_34 (sh_H0 hh) rfl ?_
  refine x_iloadn (q := 31) 2 rfl rfl dX9_sound_30 rfl ?_
  refine x_iald (q := 32) dX9_sound_31 rfl (sh_H2 hh) s3 s4 (fun r9 => ?_)
  refine x_puti (q := 35) (ji := 5) dX9_sound_32 rfl fp_X9_37 sh_59 rfl rfl r9 (fun m10 em10 => ?_)
  have H := H m10 em10
  refine x_aloadn (q := 36) 0 rfl rfl rfl dX9_sound_35 rfl ?_
  refine x_aloadn (q := 37) 1 rfl rfl rfl dX9_sound_36 rfl ?_
  refine x_getr (q := 40) dX9_sound_37 rfl fa_X9_40 (sh_H0 hh) rfl ?_
  refine x_iloadn (q := 41) 2 rfl rfl dX9_sound_40 rfl ?_
  refine x_iald (q := 42) dX9_sound_41 rfl (sh_H3 hh) s3 s4 (fun r11 => ?_)
  refine x_puti (q := 45) (ji := 6) dX9_sound_42 rfl fp_X9_43 sh_59 rfl rfl r11 (fun m12 em12 => ?_)
  have H := H m12 em12
  refine x_aloadn (q := 46) 0 rfl rfl rfl dX9_sound_45 rfl ?_
  refine x_aloadn (q := 47) 0 rfl rfl rfl dX9_sound_46 rfl ?_
  refine x_geti (q := 50) (ji := 3) dX9_sound_47 rfl fa_X9_28 sh_59 rfl rfl (fun r13 => ?_)
  refine x_iloadn (q := 51) 3 rfl rfl dX9_sound_50 rfl ?_
  refine x_iload (q := 53) 4 rfl dX9_sound_51 rfl ?_
  refine x_iconst (q := 54) dX9_sound_53 rfl ?_
  refine x_callV (q := 57) (d := d - 1) (as := [vI (m12 59 3), vI l3, vI l4, vI 0]) (st := []) dX9_sound_54 rfl mv_X9_46 sh_59 rfl rfl rfl (by exact Nat.le_of_ble_eq_true rfl) ⟨by show _ ≤ d; omega, by show _ ≤ 40 * d; omega⟩ ⟨Nat.le_refl _, Nat.le_refl _⟩ (Ct.mono H (fun r9 m14 H => ?_))
  obtain ⟨z15, rfl, H⟩ := H
  show E_X9_sound G d 57 [(0, vR 59), (1, vR h), (2, vI l2), (3, vI l3), (4, vI l4)] [vI z15] m14 Q
  exact x_iret rfl dX9_sound_57 H
set_option maxRecDepth 20000 in
set_option maxHeartbeats 4000000 in
theorem B_X11_voiced {G : GT} {d : Nat} {l1 : Int} {l2 : Int} {mem : Mem} {Q : Option AV → Mem → Prop} (hd : 1 ≤ d) (H : (0 ≤ 5 + 3 * (mem 71 22) + 0 ∧ 5 + 3 * (mem 71 22) + 0 < 553) ∧ (C_X11_bodyFrom G (d - 1) [vR 71, vI (mem 72 (5 + 3 * (mem 71 22) + 0)), vI l1, vI l2] mem (fun r9 m4 => ∃ z5 : Int, r9 = some (vI z5) ∧ (Q (some (vI z5)) m4)))) : C_X11_voiced G d [vR 71, vI l1, vI l2] mem Q := by
  refine Ct_of_Ex (by decide +kernel) (by exact Nat.le_of_ble_eq_true rfl) (ls := [(0, vR 71), (1, vI l1), (2, vI l2)]) rfl ?_
  show E_X11_voiced G d 0 [(0, vR 71), (1, vI l1), (2, vI l2)] [] mem Q
  refine x_aloadn (q := 1) 0 rfl rfl rfl dX11_voiced_0 rfl ?_
  refine x_aloadn (q := 2) 0 rfl rfl rfl dX11_voiced_1 rfl ?_
  refine x_aloadn (q := 3) 0 rfl rfl rfl dX11_voiced_2 rfl ?_
  refine x_geti (q := 6) (ji := 22) dX11_voiced_3 rfl fa_X11_274 sh_71 rfl rfl (fun r1 => ?_)
  refine x_iconst (q := 7) dX11_voiced_6 rfl ?_
  obtain ⟨⟨s2, s3⟩, H⟩ := H
  refine x_callV (q := 10) (d := d - 1) (as := [vI (mem 71 22), vI 0]) (st := [vR 71]) dX11_voiced_7 rfl mv_X11_105 sh_71 rfl rfl rfl (by exact Nat.le_of_ble_eq_true rfl) ⟨by show _ ≤ d; omega, by show _ ≤ 40 * d; omega⟩ ⟨Nat.le_refl _, Nat.le_refl _⟩ (ct_machine11 s2 s3 ?_)
  show E_X11_voiced G d 10 [(0, vR 71), (1, vI l1), (2, vI l2)] [vI (mem 72 (5 + 3 * (mem 71 22) + 0)), vR 71] mem Q
  refine x_iloadn (q := 11) 1 rfl rfl dX11_voiced_10 rfl ?_
  refine x_iloadn (q := 12) 2 rfl rfl dX11_voiced_11 rfl ?_
  refine x_callV (q := 15) (d := d - 1) (as := [vI (mem 72 (5 + 3 * (mem 71 22) + 0)), vI l1, vI l2]) (st := []) dX11_voiced_12 rfl mv_X11_277 sh_71 rfl rfl rfl (by exact Nat.le_of_ble_eq_true rfl) ⟨by show _ ≤ d; omega, by show _ ≤ 40 * d; omega⟩ ⟨Nat.le_refl _, Nat.le_refl _⟩ (Ct.mono H (fun r9 m4 H => ?_))
  obtain ⟨z5, rfl, H⟩ := H
  show E_X11_voiced G d 15 [(0, vR 71), (1, vI l1), (2, vI l2)] [vI z5] m4 Q
  exact x_iret rfl dX11_voiced_15 H
set_option maxRecDepth 20000 in
set_option maxHeartbeats 4000000 in
theorem B_X11_bodyFrom {G : GT} {d : Nat} {l1 : Int} {l2 : Int} {l3 : Int} {mem : Mem} {Q : Option AV → Mem → Prop} (hd : 1 ≤ d) (H : E_X11_bodyFrom G d 3 [(0, vR 71), (2, vI l2), (3, vI l3), (4, vI l1)] [] mem Q) : C_X11_bodyFrom G d [vR 71, vI l1, vI l2, vI l3] mem Q := by
  refine Ct_of_Ex (by decide +kernel) (by exact Nat.le_of_ble_eq_true rfl) (ls := [(0, vR 71), (1, vI l1), (2, vI l2), (3, vI l3)]) rfl ?_
  show E_X11_bodyFrom G d 0 [(0, vR 71), (1, vI l1), (2, vI l2), (3, vI l3)] [] mem Q
  refine x_iloadn (q := 1) 1 rfl rfl dX11_bodyFrom_0 rfl ?_
  refine x_istore (q := 3) (ls' := [(4, vI l1), (0, vR 71), (1, vI l1), (2, vI l2), (3, vI l3)]) (by decide) rfl dX11_bodyFrom_1 rfl ?_
  refine x_sub [1, 3, 4, 0] rfl ?_
  exact H
set_option maxRecDepth 20000 in
set_option maxHeartbeats 4000000 in
theorem B_X11_bodyFrom_3 {G : GT} {d : Nat} {l2 : Int} {l3 : Int} {l4 : Int} {mem : Mem} {Q : Option AV → Mem → Prop} (hd : 1 ≤ d) (H : C_X11_hasOwn G (d - 1) [vI l4, vI l2] mem (fun r9 m1 => ∃ z2 : Int, r9 = some (vI z2) ∧ ((inr z2) ∧ (((z2 ≠ 0) → (((m1 71 23 = 0) → (C_X11_body G (d - 1) [vR 71, vI l4, vI l2, vI l3] m1 (fun r9 m9 => ∃ z10 : Int, r9 = some (vI z10) ∧ (Q (some (vI z10)) m9)))) ∧ (¬ (m1 71 23 = 0) → (Q (some (vI 0)) m1)))) ∧ (¬ (z2 ≠ 0) → (C_X11_above G (d - 1) [vI l4] m1 (fun r9 m11 => ∃ z12 : Int, r9 = some (vI z12) ∧ (E_X11_bodyFrom G d 3 [(0, vR 71), (2, vI l2), (3, vI l3), (4, vI z12)] [] m11 Q)))))))) : E_X11_bodyFrom G d 3 [(0, vR 71), (2, vI l2), (3, vI l3), (4, vI l4)] [] mem Q := by
  refine x_iload (q := 5) 3 rfl dX11_bodyFrom_3 rfl ?_
  refine x_iloadn (q := 6) 1 rfl rfl dX11_bodyFrom_5 rfl ?_
  refine x_callS (q := 9) (d := d - 1) (as := [vI l4, vI l2]) (st := []) dX11_bodyFrom_6 rfl ms_X11_281 rfl rfl (by exact Nat.le_of_ble_eq_true rfl) ⟨by show _ ≤ d; omega, by show _ ≤ 40 * d; omega⟩ ⟨Nat.le_refl _, Nat.le_refl _⟩ (Ct.mono H (fun r9 m1 H => ?_))
  obtain ⟨z2, rfl, H⟩ := H
  show E_X11_bodyFrom G d 9 [(0, vR 71), (2, vI l2), (3, vI l3), (4, vI l4)] [vI z2] m1 Q
  obtain ⟨s3, H⟩ := H
  obtain ⟨H1, H2⟩ := H
  refine x_if_ne (tgt := 22) (q := 12) dX11_bodyFrom_9 (by decide) rfl s3 (fun hB => ?_) (fun hB => ?_)
  · have H := H1 (hB)
    refine x_aloadn (q := 23) 0 rfl rfl rfl dX11_bodyFrom_22 rfl ?_
    refine x_geti (q := 26) (ji := 23) dX11_bodyFrom_23 rfl fa_X11_284 sh_71 rfl rfl (fun r6 => ?_)
    obtain ⟨H1, H2⟩ := H
    refine x_if_eq (tgt := 33) (q := 29) dX11_bodyFrom_26 (by decide) rfl r6 (fun hB => ?_) (fun hB => ?_)
    · have H := H1 (hB)
      refine x_aloadn (q := 34) 0 rfl rfl rfl dX11_bodyFrom_33 rfl ?_
      refine x_iload (q := 36) 3 rfl dX11_bodyFrom_34 rfl ?_
      refine x_iloadn (q := 37) 1 rfl rfl dX11_bodyFrom_36 rfl ?_
      refine x_iloadn (q := 38) 2 rfl rfl dX11_bodyFrom_37 rfl ?_
      refine x_callV (q := 41) (d := d - 1) (as := [vI l4, vI l2, vI l3]) (st := []) dX11_bodyFrom_38 rfl mv_X11_287 sh_71 rfl rfl rfl (by exact Nat.le_of_ble_eq_true rfl) ⟨by show _ ≤ d; omega, by show _ ≤ 40 * d; omega⟩ ⟨Nat.le_refl _, Nat.le_refl _⟩ (Ct.mono H (fun r9 m9 H => ?_))
      obtain ⟨z10, rfl, H⟩ := H
      show E_X11_bodyFrom G d 41 [(0, vR 71), (2, vI l2), (3, vI l3), (4, vI l4)] [vI z10] m9 Q
      exact x_iret rfl dX11_bodyFrom_41 H
    · have H := H2 (hB)
      refine x_iconst (q := 30) dX11_bodyFrom_29 rfl ?_
      refine x_goto (tgt := 41) dX11_bodyFrom_30 (by decide) ?_
      exact x_iret rfl dX11_bodyFrom_41 H
  · have H := H2 (hB)
    refine x_iload (q := 14) 3 rfl dX11_bodyFrom_12 rfl ?_
    refine x_callS (q := 17) (d := d - 1) (as := [vI l4]) (st := []) dX11_bodyFrom_14 rfl ms_X11_115 rfl rfl (by exact Nat.le_of_ble_eq_true rfl) ⟨by show _ ≤ d; omega, by show _ ≤ 40 * d; omega⟩ ⟨Nat.le_refl _, Nat.le_refl _⟩ (Ct.mono H (fun r9 m11 H => ?_))
    obtain ⟨z12, rfl, H⟩ := H
    show E_X11_bodyFrom G d 17 [(0, vR 71), (2, vI l2), (3, vI l3), (4, vI l4)] [vI z12] m11 Q
    refine x_istore (q := 19) (ls' := [(4, vI z12), (0, vR 71), (2, vI l2), (3, vI l3)]) (by decide) rfl dX11_bodyFrom_17 rfl ?_
    refine x_goto (tgt := 3) dX11_bodyFrom_19 (by decide) ?_
    refine x_sub [1, 2, 3, 0] rfl ?_
    exact H
set_option maxRecDepth 20000 in
set_option maxHeartbeats 4000000 in
theorem B_X11_body {G : GT} {d : Nat} {l1 : Int} {l2 : Int} {l3 : Int} {mem : Mem} {Q : Option AV → Mem → Prop} (hd : 1 ≤ d) (H : (0 ≤ 5 + 3 * (mem 71 22) + 1 ∧ 5 + 3 * (mem 71 22) + 1 < 553) ∧ ((inr ((4 * l1) + l2)) ∧ (((4 * l1) + l2 = 0 → ((0 ≤ mem 71 21) ∧ (∀ m6 : Mem, m6 = bgM mem 10 → ((0 ≤ 5 + 3 * (m6 71 22) + 2 ∧ 5 + 3 * (m6 71 22) + 2 < 553) ∧ (Q (some (vI (l3 + (m6 72 (5 + 3 * (m6 71 22) + 2))))) m6))))) ∧ ((4 * l1) + l2 = 1 → ((0 ≤ mem 71 21) ∧ (∀ m11 : Mem, m11 = bgM mem 11 → (C_X11_voiced G (d - 1) [vR 71, vI 0, vI l3] m11 (fun r9 m12 => ∃ z13 : Int, r9 = some (vI z13) ∧ (Q (some (vI (z13 * 3))) m12)))))) ∧ ((4 * l1) + l2 = 2 → ((0 ≤ mem 71 21) ∧ (∀ m15 : Mem, m15 = bgM mem 12 → (C_X11_voiced G (d - 1) [vR 71, vI 1, vI l3] m15 (fun r9 m16 => ∃ z17 : Int, r9 = some (vI z17) ∧ (Q (some (vI (z17 - (mem 72 (5 + 3 * (mem 71 22) + 1))))) m16)))))) ∧ ((4 * l1) + l2 = 3 → ((0 ≤ mem 71 21) ∧ (∀ m19 : Mem, m19 = bgM mem 13 → ((inr (mem 72 (5 + 3 * (mem 71 22) + 1))) ∧ (((mem 72 (5 + 3 * (mem 71 22) + 1) ≠ m19 71 22) → (∀ m24 : Mem, m24 = upM m19 71 23 0 → (((m24 71 23 = 0) → ((inr l3 ∧ inr ((mem 72 (5 + 3 * (mem 71 22) + 1)) - (m24 71 22))) ∧ (((mem 72 (5 + 3 * (mem 71 22) + 1)) - (m24 71 22) ≠ 0) ∧ (Q (some (vI (Int.tdiv l3 ((mem 72 (5 + 3 * (mem 71 22) + 1)) - (m24 71 22))))) m24)))) ∧ (¬ (m24 71 23 = 0) → (Q (some (vI 0)) m24))))) ∧ (¬ (mem 72 (5 + 3 * (mem 71 22) + 1) ≠ m19 71 22) → (∀ m32 : Mem, m32 = upM m19 71 23 1 → (((m32 71 23 = 0) → ((inr l3 ∧ inr ((mem 72 (5 + 3 * (mem 71 22) + 1)) - (m32 71 22))) ∧ (((mem 72 (5 + 3 * (mem 71 22) + 1)) - (m32 71 22) ≠ 0) ∧ (Q (some (vI (Int.tdiv l3 ((mem 72 (5 + 3 * (mem 71 22) + 1)) - (m32 71 22))))) m32)))) ∧ (¬ (m32 71 23 = 0) → (Q (some (vI 0)) m32)))))))))) ∧ ((4 * l1) + l2 = 4 → ((0 ≤ mem 71 21) ∧ (∀ m41 : Mem, m41 = bgM mem 20 → (C_X11_bodyFrom G (d - 1) [vR 71, vI 0, vI 0, vI l3] m41 (fun r9 m42 => ∃ z43 : Int, r9 = some (vI z43) ∧ (Q (some (vI (z43 + 1))) m42)))))) ∧ ((4 * l1) + l2 = 5 → ((0 ≤ mem 71 21) ∧ (∀ m45 : Mem, m45 = bgM mem 61 → (C_X11_voiced G (d - 1) [vR 71, vI 2, vI l3] m45 (fun r9 m46 => ∃ z47 : Int, r9 = some (vI z47) ∧ (C_X11_bodyFrom G (d - 1) [vR 71, vI 3, vI 3, vI l3] m46 (fun r9 m48 => ∃ z49 : Int, r9 = some (vI z49) ∧ (Q (some (vI (z47 - z49))) m48)))))))) ∧ ((4 * l1) + l2 = 6 → ((0 ≤ mem 71 21) ∧ (∀ m51 : Mem, m51 = bgM mem 21 → (C_X11_bodyFrom G (d - 1) [vR 71, vI 0, vI 2, vI l3] m51 (fun r9 m52 => ∃ z53 : Int, r9 = some (vI z53) ∧ (Q (some (vI (ixor z53 (mem 72 (5 + 3 * (mem 71 22) + 1))))) m52)))))) ∧ ((4 * l1) + l2 = 7 → ((0 ≤ mem 71 21) ∧ (∀ m55 : Mem, m55 = bgM mem 61 → (C_X11_voiced G (d - 1) [vR 71, vI 2, vI l3] m55 (fun r9 m56 => ∃ z57 : Int, r9 = some (vI z57) ∧ (C_X11_bodyFrom G (d - 1) [vR 71, vI 3, vI 3, vI l3] m56 (fun r9 m58 => ∃ z59 : Int, r9 = some (vI z59) ∧ (Q (some (vI (z57 - z59))) m58)))))))) ∧ ((4 * l1) + l2 = 8 → ((0 ≤ mem 71 21) ∧ (∀ m61 : Mem, m61 = bgM mem 61 → (C_X11_voiced G (d - 1) [vR 71, vI 2, vI l3] m61 (fun r9 m62 => ∃ z63 : Int, r9 = some (vI z63) ∧ (C_X11_bodyFrom G (d - 1) [vR 71, vI 3, vI 3, vI l3] m62 (fun r9 m64 => ∃ z65 : Int, r9 = some (vI z65) ∧ (Q (some (vI (z63 - z65))) m64)))))))) ∧ ((4 * l1) + l2 = 9 → ((0 ≤ mem 71 21) ∧ (∀ m67 : Mem, m67 = bgM mem 30 → (C_X11_bodyFrom G (d - 1) [vR 71, vI 0, vI 1, vI l3] m67 (fun r9 m68 => ∃ z69 : Int, r9 = some (vI z69) ∧ (Q (some (vI (-z69))) m68)))))) ∧ ((4 * l1) + l2 = 10 → ((0 ≤ mem 71 21) ∧ (∀ m71 : Mem, m71 = bgM mem 61 → (C_X11_voiced G (d - 1) [vR 71, vI 2, vI l3] m71 (fun r9 m72 => ∃ z73 : Int, r9 = some (vI z73) ∧ (C_X11_bodyFrom G (d - 1) [vR 71, vI 3, vI 3, vI l3] m72 (fun r9 m74 => ∃ z75 : Int, r9 = some (vI z75) ∧ (Q (some (vI (z73 - z75))) m74)))))))) ∧ ((4 * l1) + l2 = 11 → ((0 ≤ mem 71 21) ∧ (∀ m77 : Mem, m77 = bgM mem 31 → (C_X11_bodyFrom G (d - 1) [vR 71, vI 0, vI 3, vI l3] m77 (fun r9 m78 => ∃ z79 : Int, r9 = some (vI z79) ∧ (C_X11_voiced G (d - 1) [vR 71, vI 0, vI (m78 71 22)] m78 (fun r9 m81 => ∃ z82 : Int, r9 = some (vI z82) ∧ (Q (some (vI (z79 + z82))) m81)))))))) ∧ ((4 * l1) + l2 = 12 → ((0 ≤ mem 71 21) ∧ (∀ m84 : Mem, m84 = bgM mem 40 → ((inr l3) ∧ (C_X11_bodyFrom G (d - 1) [vR 71, vI 0, vI 0, vI (Int.tdiv l3 2)] m84 (fun r9 m86 => ∃ z87 : Int, r9 = some (vI z87) ∧ (Q (some (vI z87)) m86))))))) ∧ ((4 * l1) + l2 = 13 → ((0 ≤ mem 71 21) ∧ (∀ m89 : Mem, m89 = bgM mem 61 → (C_X11_voiced G (d - 1) [vR 71, vI 2, vI l3] m89 (fun r9 m90 => ∃ z91 : Int, r9 = some (vI z91) ∧ (C_X11_bodyFrom G (d - 1) [vR 71, vI 3, vI 3, vI l3] m90 (fun r9 m92 => ∃ z93 : Int, r9 = some (vI z93) ∧ (Q (some (vI (z91 - z93))) m92)))))))) ∧ ((4 * l1) + l2 = 14 → ((0 ≤ mem 71 21) ∧ (∀ m95 : Mem, m95 = bgM mem 41 → (C_X11_bodyFrom G (d - 1) [vR 71, vI 0, vI 2, vI l3] m95 (fun r9 m96 => ∃ z97 : Int, r9 = some (vI z97) ∧ (C_X11_voiced G (d - 1) [vR 71, vI 1, vI 1] m96 (fun r9 m98 => ∃ z99 : Int, r9 = some (vI z99) ∧ (Q (some (vI (z97 + z99))) m98)))))))) ∧ ((4 * l1) + l2 = 15 → ((0 ≤ mem 71 21) ∧ (∀ m101 : Mem, m101 = bgM mem 61 → (C_X11_voiced G (d - 1) [vR 71, vI 2, vI l3] m101 (fun r9 m102 => ∃ z103 : Int, r9 = some (vI z103) ∧ (C_X11_bodyFrom G (d - 1) [vR 71, vI 3, vI 3, vI l3] m102 (fun r9 m104 => ∃ z105 : Int, r9 = some (vI z105) ∧ (Q (some (vI (z103 - z105))) m104)))))))) ∧ ((4 * l1) + l2 = 16 → ((0 ≤ mem 71 21) ∧ (∀ m107 : Mem, m107 = bgM mem 61 → (C_X11_voiced G (d - 1) [vR 71, vI 2, vI l3] m107 (fun r9 m108 => ∃ z109 : Int, r9 = some (vI z109) ∧ (C_X11_bodyFrom G (d - 1) [vR 71, vI 3, vI 3, vI l3] m108 (fun r9 m110 => ∃ z111 : Int, r9 = some (vI z111) ∧ (Q (some (vI (z109 - z111))) m110)))))))) ∧ ((4 * l1) + l2 = 17 → ((0 ≤ mem 71 21) ∧ (∀ m113 : Mem, m113 = bgM mem 50 → (C_X11_bodyFrom G (d - 1) [vR 71, vI 2, vI 1, vI (l3 + 1)] m113 (fun r9 m114 => ∃ z115 : Int, r9 = some (vI z115) ∧ (Q (some (vI z115)) m114)))))) ∧ ((4 * l1) + l2 = 18 → ((0 ≤ mem 71 21) ∧ (∀ m117 : Mem, m117 = bgM mem 51 → (C_X11_bodyFrom G (d - 1) [vR 71, vI 2, vI 2, vI l3] m117 (fun r9 m118 => ∃ z119 : Int, r9 = some (vI z119) ∧ (C_X11_bodyFrom G (d - 1) [vR 71, vI 2, vI 1, vI 0] m118 (fun r9 m120 => ∃ z121 : Int, r9 = some (vI z121) ∧ (Q (some (vI (z119 - z121))) m120)))))))) ∧ ((4 * l1) + l2 = 19 → ((0 ≤ mem 71 21) ∧ (∀ m123 : Mem, m123 = bgM mem 61 → (C_X11_voiced G (d - 1) [vR 71, vI 2, vI l3] m123 (fun r9 m124 => ∃ z125 : Int, r9 = some (vI z125) ∧ (C_X11_bodyFrom G (d - 1) [vR 71, vI 3, vI 3, vI l3] m124 (fun r9 m126 => ∃ z127 : Int, r9 = some (vI z127) ∧ (Q (some (vI (z125 - z127))) m126)))))))) ∧ ((4 * l1) + l2 = 20 → ((0 ≤ mem 71 21) ∧ (∀ m129 : Mem, m129 = bgM mem 60 → (Q (some (vI 0)) m129)))) ∧ (((4 * l1) + l2 < 0 ∨ 20 < (4 * l1) + l2) → ((0 ≤ mem 71 21) ∧ (∀ m131 : Mem, m131 = bgM mem 61 → (C_X11_voiced G (d - 1) [vR 71, vI 2, vI l3] m131 (fun r9 m132 => ∃ z133 : Int, r9 = some (vI z133) ∧ (C_X11_bodyFrom G (d - 1) [vR 71, vI 3, vI 3, vI l3] m132 (fun r9 m134 => ∃ z135 : Int, r9 = some (vI z135) ∧ (Q (some (vI (z133 - z135))) m134))))))))))) : C_X11_body G d [vR 71, vI l1, vI l2, vI l3] mem Q := by
  refine Ct_of_Ex (by decide +kernel) (by exact Nat.le_of_ble_eq_true rfl) (ls := [(0, vR 71), (1, vI l1), (2, vI l2), (3, vI l3)]) rfl ?_
  show E_X11_body G d 0 [(0, vR 71), (1, vI l1), (2, vI l2), (3, vI l3)] [] mem Q
  refine x_aloadn (q := 1) 0 rfl rfl rfl dX11_body_0 rfl ?_
  refine x_aloadn (q := 2) 0 rfl rfl rfl dX11_body_1 rfl ?_
  refine x_geti (q := 5) (ji := 22) dX11_body_2 rfl fa_X11_274 sh_71 rfl rfl (fun r1 => ?_)
  refine x_iconst (q := 6) dX11_body_5 rfl ?_
  obtain ⟨⟨s2, s3⟩, H⟩ := H
  refine x_callV (q := 9) (d := d - 1) (as := [vI (mem 71 22), vI 1]) (st := []) dX11_body_6 rfl mv_X11_105 sh_71 rfl rfl rfl (by exact Nat.le_of_ble_eq_true rfl) ⟨by show _ ≤ d; omega, by show _ ≤ 40 * d; omega⟩ ⟨Nat.le_refl _, Nat.le_refl _⟩ (ct_machine11 s2 s3 ?_)
  show E_X11_body G d 9 [(0, vR 71), (1, vI l1), (2, vI l2), (3, vI l3)] [vI (mem 72 (5 + 3 * (mem 71 22) + 1))] mem Q
  refine x_istore (q := 11) (ls' := [(4, vI (mem 72 (5 + 3 * (mem 71 22) + 1))), (0, vR 71), (1, vI l1), (2, vI l2), (3, vI l3)]) (by decide) rfl dX11_body_9 rfl ?_
  refine x_iconst (q := 12) dX11_body_11 rfl ?_
  refine x_iloadn (q := 13) 2 rfl rfl dX11_body_12 rfl ?_
  refine x_imul (q := 14) dX11_body_13 rfl ?_
  refine x_iloadn (q := 15) 3 rfl rfl dX11_body_14 rfl ?_
  refine x_iadd (q := 16) dX11_body_15 rfl ?_
  obtain ⟨s4, H⟩ := H
  obtain ⟨H0, H1, H2, H3, H4, H5, H6, H7, H8, H9, H10, H11, H12, H13, H14, H15, H16, H17, H18, H19, H20, H21⟩ := H
  rcases (show (4 * l1) + l2 = 0 ∨ (4 * l1) + l2 = 1 ∨ (4 * l1) + l2 = 2 ∨ (4 * l1) + l2 = 3 ∨ (4 * l1) + l2 = 4 ∨ (4 * l1) + l2 = 5 ∨ (4 * l1) + l2 = 6 ∨ (4 * l1) + l2 = 7 ∨ (4 * l1) + l2 = 8 ∨ (4 * l1) + l2 = 9 ∨ (4 * l1) + l2 = 10 ∨ (4 * l1) + l2 = 11 ∨ (4 * l1) + l2 = 12 ∨ (4 * l1) + l2 = 13 ∨ (4 * l1) + l2 = 14 ∨ (4 * l1) + l2 = 15 ∨ (4 * l1) + l2 = 16 ∨ (4 * l1) + l2 = 17 ∨ (4 * l1) + l2 = 18 ∨ (4 * l1) + l2 = 19 ∨ (4 * l1) + l2 = 20 ∨ ((4 * l1) + l2 < 0 ∨ 20 < (4 * l1) + l2) by omega) with hB | hB | hB | hB | hB | hB | hB | hB | hB | hB | hB | hB | hB | hB | hB | hB | hB | hB | hB | hB | hB | hB
  · have H := H0 hB
    refine x_tswIn (z := 0) (tgt := 116) dX11_body_16 hB (by decide) (by decide) (by decide) rfl (by decide) ?_
    refine x_aloadn (q := 117) 1 rfl rfl rfl dX11_body_116 rfl ?_
    refine x_bipush (q := 119) rfl dX11_body_117 rfl ?_
    obtain ⟨s5, H⟩ := H
    obtain ⟨m6, em6⟩ : ∃ m9 : Mem, m9 = bgM mem 10 := ⟨_, rfl⟩
    have H := H m6 em6
    refine x_callV (q := 122) (d := d - 1) (as := [vI 10]) (st := []) dX11_body_119 rfl mv_X11_290 sh_71 rfl rfl rfl (by exact Nat.le_of_ble_eq_true rfl) ⟨by show _ ≤ d; omega, by show _ ≤ 40 * d; omega⟩ ⟨Nat.le_refl _, Nat.le_refl _⟩ (ct_began (by decide) s5 ?_)
    rw [← em6]
    show E_X11_body G d 122 [(4, vI (mem 72 (5 + 3 * (mem 71 22) + 1))), (0, vR 71), (1, vI l1), (2, vI l2), (3, vI l3)] [] m6 Q
    refine x_iloadn (q := 123) 4 rfl rfl dX11_body_122 rfl ?_
    refine x_aloadn (q := 124) 1 rfl rfl rfl dX11_body_123 rfl ?_
    refine x_aloadn (q := 125) 1 rfl rfl rfl dX11_body_124 rfl ?_
    refine x_geti (q := 128) (ji := 22) dX11_body_125 rfl fa_X11_274 sh_71 rfl rfl (fun r7 => ?_)
    refine x_iconst (q := 129) dX11_body_128 rfl ?_
    obtain ⟨⟨s8, s9⟩, H⟩ := H
    refine x_callV (q := 132) (d := d - 1) (as := [vI (m6 71 22), vI 2]) (st := [vI l3]) dX11_body_129 rfl mv_X11_105 sh_71 rfl rfl rfl (by exact Nat.le_of_ble_eq_true rfl) ⟨by show _ ≤ d; omega, by show _ ≤ 40 * d; omega⟩ ⟨Nat.le_refl _, Nat.le_refl _⟩ (ct_machine11 s8 s9 ?_)
    show E_X11_body G d 132 [(4, vI (mem 72 (5 + 3 * (mem 71 22) + 1))), (0, vR 71), (1, vI l1), (2, vI l2), (3, vI l3)] [vI (m6 72 (5 + 3 * (m6 71 22) + 2)), vI l3] m6 Q
    refine x_iadd (q := 133) dX11_body_132 rfl ?_
    exact x_iret rfl dX11_body_133 H
  · have H := H1 hB
    refine x_tswIn (z := 1) (tgt := 134) dX11_body_16 hB (by decide) (by decide) (by decide) rfl (by decide) ?_
    refine x_aloadn (q := 135) 1 rfl rfl rfl dX11_body_134 rfl ?_
    refine x_bipush (q := 137) rfl dX11_body_135 rfl ?_
    obtain ⟨s10, H⟩ := H
    obtain ⟨m11, em11⟩ : ∃ m9 : Mem, m9 = bgM mem 11 := ⟨_, rfl⟩
    have H := H m11 em11
    refine x_callV (q := 140) (d := d - 1) (as := [vI 11]) (st := []) dX11_body_137 rfl mv_X11_290 sh_71 rfl rfl rfl (by exact Nat.le_of_ble_eq_true rfl) ⟨by show _ ≤ d; omega, by show _ ≤ 40 * d; omega⟩ ⟨Nat.le_refl _, Nat.le_refl _⟩ (ct_began (by decide) s10 ?_)
    rw [← em11]
    show E_X11_body G d 140 [(4, vI (mem 72 (5 + 3 * (mem 71 22) + 1))), (0, vR 71), (1, vI l1), (2, vI l2), (3, vI l3)] [] m11 Q
    refine x_aloadn (q := 141) 1 rfl rfl rfl dX11_body_140 rfl ?_
    refine x_iconst (q := 142) dX11_body_141 rfl ?_
    refine x_iloadn (q := 143) 4 rfl rfl dX11_body_142 rfl ?_
    refine x_callV (q := 146) (d := d - 1) (as := [vI 0, vI l3]) (st := []) dX11_body_143 rfl mv_X11_294 sh_71 rfl rfl rfl (by exact Nat.le_of_ble_eq_true rfl) ⟨by show _ ≤ d; omega, by show _ ≤ 40 * d; omega⟩ ⟨Nat.le_refl _, Nat.le_refl _⟩ (Ct.mono H (fun r9 m12 H => ?_))
    obtain ⟨z13, rfl, H⟩ := H
    show E_X11_body G d 146 [(4, vI (mem 72 (5 + 3 * (mem 71 22) + 1))), (0, vR 71), (1, vI l1), (2, vI l2), (3, vI l3)] [vI z13] m12 Q
    refine x_iconst (q := 147) dX11_body_146 rfl ?_
    refine x_imul (q := 148) dX11_body_147 rfl ?_
    exact x_iret rfl dX11_body_148 H
  · have H := H2 hB
    refine x_tswIn (z := 2) (tgt := 149) dX11_body_16 hB (by decide) (by decide) (by decide) rfl (by decide) ?_
    refine x_aloadn (q := 150) 1 rfl rfl rfl dX11_body_149 rfl ?_
    refine x_bipush (q := 152) rfl dX11_body_150 rfl ?_
    obtain ⟨s14, H⟩ := H
    obtain ⟨m15, em15⟩ : ∃ m9 : Mem, m9 = bgM mem 12 := ⟨_, rfl⟩
    have H := H m15 em15
    refine x_callV (q := 155) (d := d - 1) (as := [vI 12]) (st := []) dX11_body_152 rfl mv_X11_290 sh_71 rfl rfl rfl (by exact Nat.le_of_ble_eq_true rfl) ⟨by show _ ≤ d; omega, by show _ ≤ 40 * d; omega⟩ ⟨Nat.le_refl _, Nat.le_refl _⟩ (ct_began (by decide) s14 ?_)
    rw [← em15]
    show E_X11_body G d 155 [(4, vI (mem 72 (5 + 3 * (mem 71 22) + 1))), (0, vR 71), (1, vI l1), (2, vI l2), (3, vI l3)] [] m15 Q
    refine x_aloadn (q := 156) 1 rfl rfl rfl dX11_body_155 rfl ?_
    refine x_iconst (q := 157) dX11_body_156 rfl ?_
    refine x_iloadn (q := 158) 4 rfl rfl dX11_body_157 rfl ?_
    refine x_callV (q := 161) (d := d - 1) (as := [vI 1, vI l3]) (st := []) dX11_body_158 rfl mv_X11_294 sh_71 rfl rfl rfl (by exact Nat.le_of_ble_eq_true rfl) ⟨by show _ ≤ d; omega, by show _ ≤ 40 * d; omega⟩ ⟨Nat.le_refl _, Nat.le_refl _⟩ (Ct.mono H (fun r9 m16 H => ?_))
    obtain ⟨z17, rfl, H⟩ := H
    show E_X11_body G d 161 [(4, vI (mem 72 (5 + 3 * (mem 71 22) + 1))), (0, vR 71), (1, vI l1), (2, vI l2), (3, vI l3)] [vI z17] m16 Q
    refine x_iload (q := 163) 0 rfl dX11_body_161 rfl ?_
    refine x_isub (q := 164) dX11_body_163 rfl ?_
    exact x_iret rfl dX11_body_164 H
  · have H := H3 hB
    refine x_tswIn (z := 3) (tgt := 165) dX11_body_16 hB (by decide) (by decide) (by decide) rfl (by decide) ?_
    refine x_aloadn (q := 166) 1 rfl rfl rfl dX11_body_165 rfl ?_
    refine x_bipush (q := 168) rfl dX11_body_166 rfl ?_
    obtain ⟨s18, H⟩ := H
    obtain ⟨m19, em19⟩ : ∃ m9 : Mem, m9 = bgM mem 13 := ⟨_, rfl⟩
    have H := H m19 em19
    refine x_callV (q := 171) (d := d - 1) (as := [vI 13]) (st := []) dX11_body_168 rfl mv_X11_290 sh_71 rfl rfl rfl (by exact Nat.le_of_ble_eq_true rfl) ⟨by show _ ≤ d; omega, by show _ ≤ 40 * d; omega⟩ ⟨Nat.le_refl _, Nat.le_refl _⟩ (ct_began (by decide) s18 ?_)
    rw [← em19]
    show E_X11_body G d 171 [(4, vI (mem 72 (5 + 3 * (mem 71 22) + 1))), (0, vR 71), (1, vI l1), (2, vI l2), (3, vI l3)] [] m19 Q
    refine x_aloadn (q := 172) 1 rfl rfl rfl dX11_body_171 rfl ?_
    refine x_iload (q := 174) 0 rfl dX11_body_172 rfl ?_
    refine x_aloadn (q := 175) 1 rfl rfl rfl dX11_body_174 rfl ?_
    refine x_geti (q := 178) (ji := 22) dX11_body_175 rfl fa_X11_274 sh_71 rfl rfl (fun r20 => ?_)
    obtain ⟨s21, H⟩ := H
    obtain ⟨H1, H2⟩ := H
    refine x_icmp_ne (tgt := 185) (q := 181) dX11_body_178 (by decide) rfl s21 r20 (fun hB => ?_) (fun hB => ?_)
    · have H := H1 (hB)
      refine x_iconst (q := 186) dX11_body_185 rfl ?_
      refine x_putz (q := 189) (ji := 23) dX11_body_186 rfl fp_X11_284 sh_71 rfl rfl (by decide) (fun m24 em24 => ?_)
      have H := H m24 em24
      refine x_aloadn (q := 190) 1 rfl rfl rfl dX11_body_189 rfl ?_
      refine x_geti (q := 193) (ji := 23) dX11_body_190 rfl fa_X11_284 sh_71 rfl rfl (fun r25 => ?_)
      obtain ⟨H1, H2⟩ := H
      refine x_if_eq (tgt := 200) (q := 196) dX11_body_193 (by decide) rfl r25 (fun hB => ?_) (fun hB => ?_)
      · have H := H1 (hB)
        refine x_iloadn (q := 201) 4 rfl rfl dX11_body_200 rfl ?_
        refine x_iload (q := 203) 0 rfl dX11_body_201 rfl ?_
        refine x_aloadn (q := 204) 1 rfl rfl rfl dX11_body_203 rfl ?_
        refine x_geti (q := 207) (ji := 22) dX11_body_204 rfl fa_X11_274 sh_71 rfl rfl (fun r28 => ?_)
        refine x_isub (q := 208) dX11_body_207 rfl ?_
        obtain ⟨⟨s29, s30⟩, H⟩ := H
        obtain ⟨s31, H⟩ := H
        refine x_idiv (q := 209) s29 s30 s31 dX11_body_208 rfl ?_
        exact x_iret rfl dX11_body_209 H
      · have H := H2 (hB)
        refine x_iconst (q := 197) dX11_body_196 rfl ?_
        refine x_goto (tgt := 209) dX11_body_197 (by decide) ?_
        exact x_iret rfl dX11_body_209 H
    · have H := H2 (hB)
      refine x_iconst (q := 182) dX11_body_181 rfl ?_
      refine x_goto (tgt := 186) dX11_body_182 (by decide) ?_
      refine x_putz (q := 189) (ji := 23) dX11_body_186 rfl fp_X11_284 sh_71 rfl rfl (by decide) (fun m32 em32 => ?_)
      have H := H m32 em32
      refine x_aloadn (q := 190) 1 rfl rfl rfl dX11_body_189 rfl ?_
      refine x_geti (q := 193) (ji := 23) dX11_body_190 rfl fa_X11_284 sh_71 rfl rfl (fun r33 => ?_)
      obtain ⟨H1, H2⟩ := H
      refine x_if_eq (tgt := 200) (q := 196) dX11_body_193 (by decide) rfl r33 (fun hB => ?_) (fun hB => ?_)
      · have H := H1 (hB)
        refine x_iloadn (q := 201) 4 rfl rfl dX11_body_200 rfl ?_
        refine x_iload (q := 203) 0 rfl dX11_body_201 rfl ?_
        refine x_aloadn (q := 204) 1 rfl rfl rfl dX11_body_203 rfl ?_
        refine x_geti (q := 207) (ji := 22) dX11_body_204 rfl fa_X11_274 sh_71 rfl rfl (fun r36 => ?_)
        refine x_isub (q := 208) dX11_body_207 rfl ?_
        obtain ⟨⟨s37, s38⟩, H⟩ := H
        obtain ⟨s39, H⟩ := H
        refine x_idiv (q := 209) s37 s38 s39 dX11_body_208 rfl ?_
        exact x_iret rfl dX11_body_209 H
      · have H := H2 (hB)
        refine x_iconst (q := 197) dX11_body_196 rfl ?_
        refine x_goto (tgt := 209) dX11_body_197 (by decide) ?_
        exact x_iret rfl dX11_body_209 H
  · have H := H4 hB
    refine x_tswIn (z := 4) (tgt := 210) dX11_body_16 hB (by decide) (by decide) (by decide) rfl (by decide) ?_
    refine x_aloadn (q := 211) 1 rfl rfl rfl dX11_body_210 rfl ?_
    refine x_bipush (q := 213) rfl dX11_body_211 rfl ?_
    obtain ⟨s40, H⟩ := H
    obtain ⟨m41, em41⟩ : ∃ m9 : Mem, m9 = bgM mem 20 := ⟨_, rfl⟩
    have H := H m41 em41
    refine x_callV (q := 216) (d := d - 1) (as := [vI 20]) (st := []) dX11_body_213 rfl mv_X11_290 sh_71 rfl rfl rfl (by exact Nat.le_of_ble_eq_true rfl) ⟨by show _ ≤ d; omega, by show _ ≤ 40 * d; omega⟩ ⟨Nat.le_refl _, Nat.le_refl _⟩ (ct_began (by decide) s40 ?_)
    rw [← em41]
    show E_X11_body G d 216 [(4, vI (mem 72 (5 + 3 * (mem 71 22) + 1))), (0, vR 71), (1, vI l1), (2, vI l2), (3, vI l3)] [] m41 Q
    refine x_aloadn (q := 217) 1 rfl rfl rfl dX11_body_216 rfl ?_
    refine x_iconst (q := 218) dX11_body_217 rfl ?_
    refine x_iconst (q := 219) dX11_body_218 rfl ?_
    refine x_iloadn (q := 220) 4 rfl rfl dX11_body_219 rfl ?_
    refine x_callV (q := 223) (d := d - 1) (as := [vI 0, vI 0, vI l3]) (st := []) dX11_body_220 rfl mv_X11_277 sh_71 rfl rfl rfl (by exact Nat.le_of_ble_eq_true rfl) ⟨by show _ ≤ d; omega, by show _ ≤ 40 * d; omega⟩ ⟨Nat.le_refl _, Nat.le_refl _⟩ (Ct.mono H (fun r9 m42 H => ?_))
    obtain ⟨z43, rfl, H⟩ := H
    show E_X11_body G d 223 [(4, vI (mem 72 (5 + 3 * (mem 71 22) + 1))), (0, vR 71), (1, vI l1), (2, vI l2), (3, vI l3)] [vI z43] m42 Q
    refine x_iconst (q := 224) dX11_body_223 rfl ?_
    refine x_iadd (q := 225) dX11_body_224 rfl ?_
    exact x_iret rfl dX11_body_225 H
  · have H := H5 hB
    refine x_tswIn (z := 5) (tgt := 377) dX11_body_16 hB (by decide) (by decide) (by decide) rfl (by decide) ?_
    refine x_aloadn (q := 378) 1 rfl rfl rfl dX11_body_377 rfl ?_
    refine x_bipush (q := 380) rfl dX11_body_378 rfl ?_
    obtain ⟨s44, H⟩ := H
    obtain ⟨m45, em45⟩ : ∃ m9 : Mem, m9 = bgM mem 61 := ⟨_, rfl⟩
    have H := H m45 em45
    refine x_callV (q := 383) (d := d - 1) (as := [vI 61]) (st := []) dX11_body_380 rfl mv_X11_290 sh_71 rfl rfl rfl (by exact Nat.le_of_ble_eq_true rfl) ⟨by show _ ≤ d; omega, by show _ ≤ 40 * d; omega⟩ ⟨Nat.le_refl _, Nat.le_refl _⟩ (ct_began (by decide) s44 ?_)
    rw [← em45]
    show E_X11_body G d 383 [(4, vI (mem 72 (5 + 3 * (mem 71 22) + 1))), (0, vR 71), (1, vI l1), (2, vI l2), (3, vI l3)] [] m45 Q
    refine x_aloadn (q := 384) 1 rfl rfl rfl dX11_body_383 rfl ?_
    refine x_iconst (q := 385) dX11_body_384 rfl ?_
    refine x_iloadn (q := 386) 4 rfl rfl dX11_body_385 rfl ?_
    refine x_callV (q := 389) (d := d - 1) (as := [vI 2, vI l3]) (st := []) dX11_body_386 rfl mv_X11_294 sh_71 rfl rfl rfl (by exact Nat.le_of_ble_eq_true rfl) ⟨by show _ ≤ d; omega, by show _ ≤ 40 * d; omega⟩ ⟨Nat.le_refl _, Nat.le_refl _⟩ (Ct.mono H (fun r9 m46 H => ?_))
    obtain ⟨z47, rfl, H⟩ := H
    show E_X11_body G d 389 [(4, vI (mem 72 (5 + 3 * (mem 71 22) + 1))), (0, vR 71), (1, vI l1), (2, vI l2), (3, vI l3)] [vI z47] m46 Q
    refine x_istore (q := 391) (ls' := [(5, vI z47), (4, vI (mem 72 (5 + 3 * (mem 71 22) + 1))), (0, vR 71), (1, vI l1), (2, vI l2), (3, vI l3)]) (by decide) rfl dX11_body_389 rfl ?_
    refine x_iload (q := 393) 0 rfl dX11_body_391 rfl ?_
    refine x_aloadn (q := 394) 2 rfl rfl rfl dX11_body_393 rfl ?_
    refine x_iconst (q := 395) dX11_body_394 rfl ?_
    refine x_iconst (q := 396) dX11_body_395 rfl ?_
    refine x_iloadn (q := 397) 5 rfl rfl dX11_body_396 rfl ?_
    refine x_callV (q := 400) (d := d - 1) (as := [vI 3, vI 3, vI l3]) (st := [vI z47]) dX11_body_397 rfl mv_X11_277 sh_71 rfl rfl rfl (by exact Nat.le_of_ble_eq_true rfl) ⟨by show _ ≤ d; omega, by show _ ≤ 40 * d; omega⟩ ⟨Nat.le_refl _, Nat.le_refl _⟩ (Ct.mono H (fun r9 m48 H => ?_))
    obtain ⟨z49, rfl, H⟩ := H
    show E_X11_body G d 400 [(5, vI z47), (4, vI (mem 72 (5 + 3 * (mem 71 22) + 1))), (0, vR 71), (1, vI l1), (2, vI l2), (3, vI l3)] [vI z49, vI z47] m48 Q
    refine x_isub (q := 401) dX11_body_400 rfl ?_
    exact x_iret rfl dX11_body_401 H
  · have H := H6 hB
    refine x_tswIn (z := 6) (tgt := 226) dX11_body_16 hB (by decide) (by decide) (by decide) rfl (by decide) ?_
    refine x_aloadn (q := 227) 1 rfl rfl rfl dX11_body_226 rfl ?_
    refine x_bipush (q := 229) rfl dX11_body_227 rfl ?_
    obtain ⟨s50, H⟩ := H
    obtain ⟨m51, em51⟩ : ∃ m9 : Mem, m9 = bgM mem 21 := ⟨_, rfl⟩
    have H := H m51 em51
    refine x_callV (q := 232) (d := d - 1) (as := [vI 21]) (st := []) dX11_body_229 rfl mv_X11_290 sh_71 rfl rfl rfl (by exact Nat.le_of_ble_eq_true rfl) ⟨by show _ ≤ d; omega, by show _ ≤ 40 * d; omega⟩ ⟨Nat.le_refl _, Nat.le_refl _⟩ (ct_began (by decide) s50 ?_)
    rw [← em51]
    show E_X11_body G d 232 [(4, vI (mem 72 (5 + 3 * (mem 71 22) + 1))), (0, vR 71), (1, vI l1), (2, vI l2), (3, vI l3)] [] m51 Q
    refine x_aloadn (q := 233) 1 rfl rfl rfl dX11_body_232 rfl ?_
    refine x_iconst (q := 234) dX11_body_233 rfl ?_
    refine x_iconst (q := 235) dX11_body_234 rfl ?_
    refine x_iloadn (q := 236) 4 rfl rfl dX11_body_235 rfl ?_
    refine x_callV (q := 239) (d := d - 1) (as := [vI 0, vI 2, vI l3]) (st := []) dX11_body_236 rfl mv_X11_277 sh_71 rfl rfl rfl (by exact Nat.le_of_ble_eq_true rfl) ⟨by show _ ≤ d; omega, by show _ ≤ 40 * d; omega⟩ ⟨Nat.le_refl _, Nat.le_refl _⟩ (Ct.mono H (fun r9 m52 H => ?_))
    obtain ⟨z53, rfl, H⟩ := H
    show E_X11_body G d 239 [(4, vI (mem 72 (5 + 3 * (mem 71 22) + 1))), (0, vR 71), (1, vI l1), (2, vI l2), (3, vI l3)] [vI z53] m52 Q
    refine x_iload (q := 241) 0 rfl dX11_body_239 rfl ?_
    refine x_ixor (q := 242) dX11_body_241 rfl ?_
    exact x_iret rfl dX11_body_242 H
  · have H := H7 hB
    refine x_tswIn (z := 7) (tgt := 377) dX11_body_16 hB (by decide) (by decide) (by decide) rfl (by decide) ?_
    refine x_aloadn (q := 378) 1 rfl rfl rfl dX11_body_377 rfl ?_
    refine x_bipush (q := 380) rfl dX11_body_378 rfl ?_
    obtain ⟨s54, H⟩ := H
    obtain ⟨m55, em55⟩ : ∃ m9 : Mem, m9 = bgM mem 61 := ⟨_, rfl⟩
    have H := H m55 em55
    refine x_callV (q := 383) (d := d - 1) (as := [vI 61]) (st := []) dX11_body_380 rfl mv_X11_290 sh_71 rfl rfl rfl (by exact Nat.le_of_ble_eq_true rfl) ⟨by show _ ≤ d; omega, by show _ ≤ 40 * d; omega⟩ ⟨Nat.le_refl _, Nat.le_refl _⟩ (ct_began (by decide) s54 ?_)
    rw [← em55]
    show E_X11_body G d 383 [(4, vI (mem 72 (5 + 3 * (mem 71 22) + 1))), (0, vR 71), (1, vI l1), (2, vI l2), (3, vI l3)] [] m55 Q
    refine x_aloadn (q := 384) 1 rfl rfl rfl dX11_body_383 rfl ?_
    refine x_iconst (q := 385) dX11_body_384 rfl ?_
    refine x_iloadn (q := 386) 4 rfl rfl dX11_body_385 rfl ?_
    refine x_callV (q := 389) (d := d - 1) (as := [vI 2, vI l3]) (st := []) dX11_body_386 rfl mv_X11_294 sh_71 rfl rfl rfl (by exact Nat.le_of_ble_eq_true rfl) ⟨by show _ ≤ d; omega, by show _ ≤ 40 * d; omega⟩ ⟨Nat.le_refl _, Nat.le_refl _⟩ (Ct.mono H (fun r9 m56 H => ?_))
    obtain ⟨z57, rfl, H⟩ := H
    show E_X11_body G d 389 [(4, vI (mem 72 (5 + 3 * (mem 71 22) + 1))), (0, vR 71), (1, vI l1), (2, vI l2), (3, vI l3)] [vI z57] m56 Q
    refine x_istore (q := 391) (ls' := [(5, vI z57), (4, vI (mem 72 (5 + 3 * (mem 71 22) + 1))), (0, vR 71), (1, vI l1), (2, vI l2), (3, vI l3)]) (by decide) rfl dX11_body_389 rfl ?_
    refine x_iload (q := 393) 0 rfl dX11_body_391 rfl ?_
    refine x_aloadn (q := 394) 2 rfl rfl rfl dX11_body_393 rfl ?_
    refine x_iconst (q := 395) dX11_body_394 rfl ?_
    refine x_iconst (q := 396) dX11_body_395 rfl ?_
    refine x_iloadn (q := 397) 5 rfl rfl dX11_body_396 rfl ?_
    refine x_callV (q := 400) (d := d - 1) (as := [vI 3, vI 3, vI l3]) (st := [vI z57]) dX11_body_397 rfl mv_X11_277 sh_71 rfl rfl rfl (by exact Nat.le_of_ble_eq_true rfl) ⟨by show _ ≤ d; omega, by show _ ≤ 40 * d; omega⟩ ⟨Nat.le_refl _, Nat.le_refl _⟩ (Ct.mono H (fun r9 m58 H => ?_))
    obtain ⟨z59, rfl, H⟩ := H
    show E_X11_body G d 400 [(5, vI z57), (4, vI (mem 72 (5 + 3 * (mem 71 22) + 1))), (0, vR 71), (1, vI l1), (2, vI l2), (3, vI l3)] [vI z59, vI z57] m58 Q
    refine x_isub (q := 401) dX11_body_400 rfl ?_
    exact x_iret rfl dX11_body_401 H
  · have H := H8 hB
    refine x_tswIn (z := 8) (tgt := 377) dX11_body_16 hB (by decide) (by decide) (by decide) rfl (by decide) ?_
    refine x_aloadn (q := 378) 1 rfl rfl rfl dX11_body_377 rfl ?_
    refine x_bipush (q := 380) rfl dX11_body_378 rfl ?_
    obtain ⟨s60, H⟩ := H
    obtain ⟨m61, em61⟩ : ∃ m9 : Mem, m9 = bgM mem 61 := ⟨_, rfl⟩
    have H := H m61 em61
    refine x_callV (q := 383) (d := d - 1) (as := [vI 61]) (st := []) dX11_body_380 rfl mv_X11_290 sh_71 rfl rfl rfl (by exact Nat.le_of_ble_eq_true rfl) ⟨by show _ ≤ d; omega, by show _ ≤ 40 * d; omega⟩ ⟨Nat.le_refl _, Nat.le_refl _⟩ (ct_began (by decide) s60 ?_)
    rw [← em61]
    show E_X11_body G d 383 [(4, vI (mem 72 (5 + 3 * (mem 71 22) + 1))), (0, vR 71), (1, vI l1), (2, vI l2), (3, vI l3)] [] m61 Q
    refine x_aloadn (q := 384) 1 rfl rfl rfl dX11_body_383 rfl ?_
    refine x_iconst (q := 385) dX11_body_384 rfl ?_
    refine x_iloadn (q := 386) 4 rfl rfl dX11_body_385 rfl ?_
    refine x_callV (q := 389) (d := d - 1) (as := [vI 2, vI l3]) (st := []) dX11_body_386 rfl mv_X11_294 sh_71 rfl rfl rfl (by exact Nat.le_of_ble_eq_true rfl) ⟨by show _ ≤ d; omega, by show _ ≤ 40 * d; omega⟩ ⟨Nat.le_refl _, Nat.le_refl _⟩ (Ct.mono H (fun r9 m62 H => ?_))
    obtain ⟨z63, rfl, H⟩ := H
    show E_X11_body G d 389 [(4, vI (mem 72 (5 + 3 * (mem 71 22) + 1))), (0, vR 71), (1, vI l1), (2, vI l2), (3, vI l3)] [vI z63] m62 Q
    refine x_istore (q := 391) (ls' := [(5, vI z63), (4, vI (mem 72 (5 + 3 * (mem 71 22) + 1))), (0, vR 71), (1, vI l1), (2, vI l2), (3, vI l3)]) (by decide) rfl dX11_body_389 rfl ?_
    refine x_iload (q := 393) 0 rfl dX11_body_391 rfl ?_
    refine x_aloadn (q := 394) 2 rfl rfl rfl dX11_body_393 rfl ?_
    refine x_iconst (q := 395) dX11_body_394 rfl ?_
    refine x_iconst (q := 396) dX11_body_395 rfl ?_
    refine x_iloadn (q := 397) 5 rfl rfl dX11_body_396 rfl ?_
    refine x_callV (q := 400) (d := d - 1) (as := [vI 3, vI 3, vI l3]) (st := [vI z63]) dX11_body_397 rfl mv_X11_277 sh_71 rfl rfl rfl (by exact Nat.le_of_ble_eq_true rfl) ⟨by show _ ≤ d; omega, by show _ ≤ 40 * d; omega⟩ ⟨Nat.le_refl _, Nat.le_refl _⟩ (Ct.mono H (fun r9 m64 H => ?_))
    obtain ⟨z65, rfl, H⟩ := H
    show E_X11_body G d 400 [(5, vI z63), (4, vI (mem 72 (5 + 3 * (mem 71 22) + 1))), (0, vR 71), (1, vI l1), (2, vI l2), (3, vI l3)] [vI z65, vI z63] m64 Q
    refine x_isub (q := 401) dX11_body_400 rfl ?_
    exact x_iret rfl dX11_body_401 H
  · have H := H9 hB
    refine x_tswIn (z := 9) (tgt := 243) dX11_body_16 hB (by decide) (by decide) (by decide) rfl (by decide) ?_
    refine x_aloadn (q := 244) 1 rfl rfl rfl dX11_body_243 rfl ?_
    refine x_bipush (q := 246) rfl dX11_body_244 rfl ?_
    obtain ⟨s66, H⟩ := H
    obtain ⟨m67, em67⟩ : ∃ m9 : Mem, m9 = bgM mem 30 := ⟨_, rfl⟩
    have H := H m67 em67
    refine x_callV (q := 249) (d := d - 1) (as := [vI 30]) (st := []) dX11_body_246 rfl mv_X11_290 sh_71 rfl rfl rfl (by exact Nat.le_of_ble_eq_true rfl) ⟨by show _ ≤ d; omega, by show _ ≤ 40 * d; omega⟩ ⟨Nat.le_refl _, Nat.le_refl _⟩ (ct_began (by decide) s66 ?_)
    rw [← em67]
    show E_X11_body G d 249 [(4, vI (mem 72 (5 + 3 * (mem 71 22) + 1))), (0, vR 71), (1, vI l1), (2, vI l2), (3, vI l3)] [] m67 Q
    refine x_aloadn (q := 250) 1 rfl rfl rfl dX11_body_249 rfl ?_
    refine x_iconst (q := 251) dX11_body_250 rfl ?_
    refine x_iconst (q := 252) dX11_body_251 rfl ?_
    refine x_iloadn (q := 253) 4 rfl rfl dX11_body_252 rfl ?_
    refine x_callV (q := 256) (d := d - 1) (as := [vI 0, vI 1, vI l3]) (st := []) dX11_body_253 rfl mv_X11_277 sh_71 rfl rfl rfl (by exact Nat.le_of_ble_eq_true rfl) ⟨by show _ ≤ d; omega, by show _ ≤ 40 * d; omega⟩ ⟨Nat.le_refl _, Nat.le_refl _⟩ (Ct.mono H (fun r9 m68 H => ?_))
    obtain ⟨z69, rfl, H⟩ := H
    show E_X11_body G d 256 [(4, vI (mem 72 (5 + 3 * (mem 71 22) + 1))), (0, vR 71), (1, vI l1), (2, vI l2), (3, vI l3)] [vI z69] m68 Q
    refine x_ineg (q := 257) dX11_body_256 rfl ?_
    exact x_iret rfl dX11_body_257 H
  · have H := H10 hB
    refine x_tswIn (z := 10) (tgt := 377) dX11_body_16 hB (by decide) (by decide) (by decide) rfl (by decide) ?_
    refine x_aloadn (q := 378) 1 rfl rfl rfl dX11_body_377 rfl ?_
    refine x_bipush (q := 380) rfl dX11_body_378 rfl ?_
    obtain ⟨s70, H⟩ := H
    obtain ⟨m71, em71⟩ : ∃ m9 : Mem, m9 = bgM mem 61 := ⟨_, rfl⟩
    have H := H m71 em71
    refine x_callV (q := 383) (d := d - 1) (as := [vI 61]) (st := []) dX11_body_380 rfl mv_X11_290 sh_71 rfl rfl rfl (by exact Nat.le_of_ble_eq_true rfl) ⟨by show _ ≤ d; omega, by show _ ≤ 40 * d; omega⟩ ⟨Nat.le_refl _, Nat.le_refl _⟩ (ct_began (by decide) s70 ?_)
    rw [← em71]
    show E_X11_body G d 383 [(4, vI (mem 72 (5 + 3 * (mem 71 22) + 1))), (0, vR 71), (1, vI l1), (2, vI l2), (3, vI l3)] [] m71 Q
    refine x_aloadn (q := 384) 1 rfl rfl rfl dX11_body_383 rfl ?_
    refine x_iconst (q := 385) dX11_body_384 rfl ?_
    refine x_iloadn (q := 386) 4 rfl rfl dX11_body_385 rfl ?_
    refine x_callV (q := 389) (d := d - 1) (as := [vI 2, vI l3]) (st := []) dX11_body_386 rfl mv_X11_294 sh_71 rfl rfl rfl (by exact Nat.le_of_ble_eq_true rfl) ⟨by show _ ≤ d; omega, by show _ ≤ 40 * d; omega⟩ ⟨Nat.le_refl _, Nat.le_refl _⟩ (Ct.mono H (fun r9 m72 H => ?_))
    obtain ⟨z73, rfl, H⟩ := H
    show E_X11_body G d 389 [(4, vI (mem 72 (5 + 3 * (mem 71 22) + 1))), (0, vR 71), (1, vI l1), (2, vI l2), (3, vI l3)] [vI z73] m72 Q
    refine x_istore (q := 391) (ls' := [(5, vI z73), (4, vI (mem 72 (5 + 3 * (mem 71 22) + 1))), (0, vR 71), (1, vI l1), (2, vI l2), (3, vI l3)]) (by decide) rfl dX11_body_389 rfl ?_
    refine x_iload (q := 393) 0 rfl dX11_body_391 rfl ?_
    refine x_aloadn (q := 394) 2 rfl rfl rfl dX11_body_393 rfl ?_
    refine x_iconst (q := 395) dX11_body_394 rfl ?_
    refine x_iconst (q := 396) dX11_body_395 rfl ?_
    refine x_iloadn (q := 397) 5 rfl rfl dX11_body_396 rfl ?_
    refine x_callV (q := 400) (d := d - 1) (as := [vI 3, vI 3, vI l3]) (st := [vI z73]) dX11_body_397 rfl mv_X11_277 sh_71 rfl rfl rfl (by exact Nat.le_of_ble_eq_true rfl) ⟨by show _ ≤ d; omega, by show _ ≤ 40 * d; omega⟩ ⟨Nat.le_refl _, Nat.le_refl _⟩ (Ct.mono H (fun r9 m74 H => ?_))
    obtain ⟨z75, rfl, H⟩ := H
    show E_X11_body G d 400 [(5, vI z73), (4, vI (mem 72 (5 + 3 * (mem 71 22) + 1))), (0, vR 71), (1, vI l1), (2, vI l2), (3, vI l3)] [vI z75, vI z73] m74 Q
    refine x_isub (q := 401) dX11_body_400 rfl ?_
    exact x_iret rfl dX11_body_401 H
  · have H := H11 hB
    refine x_tswIn (z := 11) (tgt := 258) dX11_body_16 hB (by decide) (by decide) (by decide) rfl (by decide) ?_
    refine x_aloadn (q := 259) 1 rfl rfl rfl dX11_body_258 rfl ?_
    refine x_bipush (q := 261) rfl dX11_body_259 rfl ?_
    obtain ⟨s76, H⟩ := H
    obtain ⟨m77, em77⟩ : ∃ m9 : Mem, m9 = bgM mem 31 := ⟨_, rfl⟩
    have H := H m77 em77
    refine x_callV (q := 264) (d := d - 1) (as := [vI 31]) (st := []) dX11_body_261 rfl mv_X11_290 sh_71 rfl rfl rfl (by exact Nat.le_of_ble_eq_true rfl) ⟨by show _ ≤ d; omega, by show _ ≤ 40 * d; omega⟩ ⟨Nat.le_refl _, Nat.le_refl _⟩ (ct_began (by decide) s76 ?_)
    rw [← em77]
    show E_X11_body G d 264 [(4, vI (mem 72 (5 + 3 * (mem 71 22) + 1))), (0, vR 71), (1, vI l1), (2, vI l2), (3, vI l3)] [] m77 Q
    refine x_aloadn (q := 265) 1 rfl rfl rfl dX11_body_264 rfl ?_
    refine x_iconst (q := 266) dX11_body_265 rfl ?_
    refine x_iconst (q := 267) dX11_body_266 rfl ?_
    refine x_iloadn (q := 268) 4 rfl rfl dX11_body_267 rfl ?_
    refine x_callV (q := 271) (d := d - 1) (as := [vI 0, vI 3, vI l3]) (st := []) dX11_body_268 rfl mv_X11_277 sh_71 rfl rfl rfl (by exact Nat.le_of_ble_eq_true rfl) ⟨by show _ ≤ d; omega, by show _ ≤ 40 * d; omega⟩ ⟨Nat.le_refl _, Nat.le_refl _⟩ (Ct.mono H (fun r9 m78 H => ?_))
    obtain ⟨z79, rfl, H⟩ := H
    show E_X11_body G d 271 [(4, vI (mem 72 (5 + 3 * (mem 71 22) + 1))), (0, vR 71), (1, vI l1), (2, vI l2), (3, vI l3)] [vI z79] m78 Q
    refine x_istore (q := 273) (ls' := [(5, vI z79), (4, vI (mem 72 (5 + 3 * (mem 71 22) + 1))), (0, vR 71), (1, vI l1), (2, vI l2), (3, vI l3)]) (by decide) rfl dX11_body_271 rfl ?_
    refine x_iload (q := 275) 0 rfl dX11_body_273 rfl ?_
    refine x_aloadn (q := 276) 2 rfl rfl rfl dX11_body_275 rfl ?_
    refine x_iconst (q := 277) dX11_body_276 rfl ?_
    refine x_aloadn (q := 278) 2 rfl rfl rfl dX11_body_277 rfl ?_
    refine x_geti (q := 281) (ji := 22) dX11_body_278 rfl fa_X11_274 sh_71 rfl rfl (fun r80 => ?_)
    refine x_callV (q := 284) (d := d - 1) (as := [vI 0, vI (m78 71 22)]) (st := [vI z79]) dX11_body_281 rfl mv_X11_294 sh_71 rfl rfl rfl (by exact Nat.le_of_ble_eq_true rfl) ⟨by show _ ≤ d; omega, by show _ ≤ 40 * d; omega⟩ ⟨Nat.le_refl _, Nat.le_refl _⟩ (Ct.mono H (fun r9 m81 H => ?_))
    obtain ⟨z82, rfl, H⟩ := H
    show E_X11_body G d 284 [(5, vI z79), (4, vI (mem 72 (5 + 3 * (mem 71 22) + 1))), (0, vR 71), (1, vI l1), (2, vI l2), (3, vI l3)] [vI z82, vI z79] m81 Q
    refine x_iadd (q := 285) dX11_body_284 rfl ?_
    exact x_iret rfl dX11_body_285 H
  · have H := H12 hB
    refine x_tswIn (z := 12) (tgt := 286) dX11_body_16 hB (by decide) (by decide) (by decide) rfl (by decide) ?_
    refine x_aloadn (q := 287) 1 rfl rfl rfl dX11_body_286 rfl ?_
    refine x_bipush (q := 289) rfl dX11_body_287 rfl ?_
    obtain ⟨s83, H⟩ := H
    obtain ⟨m84, em84⟩ : ∃ m9 : Mem, m9 = bgM mem 40 := ⟨_, rfl⟩
    have H := H m84 em84
    refine x_callV (q := 292) (d := d - 1) (as := [vI 40]) (st := []) dX11_body_289 rfl mv_X11_290 sh_71 rfl rfl rfl (by exact Nat.le_of_ble_eq_true rfl) ⟨by show _ ≤ d; omega, by show _ ≤ 40 * d; omega⟩ ⟨Nat.le_refl _, Nat.le_refl _⟩ (ct_began (by decide) s83 ?_)
    rw [← em84]
    show E_X11_body G d 292 [(4, vI (mem 72 (5 + 3 * (mem 71 22) + 1))), (0, vR 71), (1, vI l1), (2, vI l2), (3, vI l3)] [] m84 Q
    refine x_aloadn (q := 293) 1 rfl rfl rfl dX11_body_292 rfl ?_
    refine x_iconst (q := 294) dX11_body_293 rfl ?_
    refine x_iconst (q := 295) dX11_body_294 rfl ?_
    refine x_iloadn (q := 296) 4 rfl rfl dX11_body_295 rfl ?_
    refine x_iconst (q := 297) dX11_body_296 rfl ?_
    obtain ⟨s85, H⟩ := H
    refine x_idiv (q := 298) s85 (by decide) (by decide) dX11_body_297 rfl ?_
    refine x_callV (q := 301) (d := d - 1) (as := [vI 0, vI 0, vI (Int.tdiv l3 2)]) (st := []) dX11_body_298 rfl mv_X11_277 sh_71 rfl rfl rfl (by exact Nat.le_of_ble_eq_true rfl) ⟨by show _ ≤ d; omega, by show _ ≤ 40 * d; omega⟩ ⟨Nat.le_refl _, Nat.le_refl _⟩ (Ct.mono H (fun r9 m86 H => ?_))
    obtain ⟨z87, rfl, H⟩ := H
    show E_X11_body G d 301 [(4, vI (mem 72 (5 + 3 * (mem 71 22) + 1))), (0, vR 71), (1, vI l1), (2, vI l2), (3, vI l3)] [vI z87] m86 Q
    exact x_iret rfl dX11_body_301 H
  · have H := H13 hB
    refine x_tswIn (z := 13) (tgt := 377) dX11_body_16 hB (by decide) (by decide) (by decide) rfl (by decide) ?_
    refine x_aloadn (q := 378) 1 rfl rfl rfl dX11_body_377 rfl ?_
    refine x_bipush (q := 380) rfl dX11_body_378 rfl ?_
    obtain ⟨s88, H⟩ := H
    obtain ⟨m89, em89⟩ : ∃ m9 : Mem, m9 = bgM mem 61 := ⟨_, rfl⟩
    have H := H m89 em89
    refine x_callV (q := 383) (d := d - 1) (as := [vI 61]) (st := []) dX11_body_380 rfl mv_X11_290 sh_71 rfl rfl rfl (by exact Nat.le_of_ble_eq_true rfl) ⟨by show _ ≤ d; omega, by show _ ≤ 40 * d; omega⟩ ⟨Nat.le_refl _, Nat.le_refl _⟩ (ct_began (by decide) s88 ?_)
    rw [← em89]
    show E_X11_body G d 383 [(4, vI (mem 72 (5 + 3 * (mem 71 22) + 1))), (0, vR 71), (1, vI l1), (2, vI l2), (3, vI l3)] [] m89 Q
    refine x_aloadn (q := 384) 1 rfl rfl rfl dX11_body_383 rfl ?_
    refine x_iconst (q := 385) dX11_body_384 rfl ?_
    refine x_iloadn (q := 386) 4 rfl rfl dX11_body_385 rfl ?_
    refine x_callV (q := 389) (d := d - 1) (as := [vI 2, vI l3]) (st := []) dX11_body_386 rfl mv_X11_294 sh_71 rfl rfl rfl (by exact Nat.le_of_ble_eq_true rfl) ⟨by show _ ≤ d; omega, by show _ ≤ 40 * d; omega⟩ ⟨Nat.le_refl _, Nat.le_refl _⟩ (Ct.mono H (fun r9 m90 H => ?_))
    obtain ⟨z91, rfl, H⟩ := H
    show E_X11_body G d 389 [(4, vI (mem 72 (5 + 3 * (mem 71 22) + 1))), (0, vR 71), (1, vI l1), (2, vI l2), (3, vI l3)] [vI z91] m90 Q
    refine x_istore (q := 391) (ls' := [(5, vI z91), (4, vI (mem 72 (5 + 3 * (mem 71 22) + 1))), (0, vR 71), (1, vI l1), (2, vI l2), (3, vI l3)]) (by decide) rfl dX11_body_389 rfl ?_
    refine x_iload (q := 393) 0 rfl dX11_body_391 rfl ?_
    refine x_aloadn (q := 394) 2 rfl rfl rfl dX11_body_393 rfl ?_
    refine x_iconst (q := 395) dX11_body_394 rfl ?_
    refine x_iconst (q := 396) dX11_body_395 rfl ?_
    refine x_iloadn (q := 397) 5 rfl rfl dX11_body_396 rfl ?_
    refine x_callV (q := 400) (d := d - 1) (as := [vI 3, vI 3, vI l3]) (st := [vI z91]) dX11_body_397 rfl mv_X11_277 sh_71 rfl rfl rfl (by exact Nat.le_of_ble_eq_true rfl) ⟨by show _ ≤ d; omega, by show _ ≤ 40 * d; omega⟩ ⟨Nat.le_refl _, Nat.le_refl _⟩ (Ct.mono H (fun r9 m92 H => ?_))
    obtain ⟨z93, rfl, H⟩ := H
    show E_X11_body G d 400 [(5, vI z91), (4, vI (mem 72 (5 + 3 * (mem 71 22) + 1))), (0, vR 71), (1, vI l1), (2, vI l2), (3, vI l3)] [vI z93, vI z91] m92 Q
    refine x_isub (q := 401) dX11_body_400 rfl ?_
    exact x_iret rfl dX11_body_401 H
  · have H := H14 hB
    refine x_tswIn (z := 14) (tgt := 302) dX11_body_16 hB (by decide) (by decide) (by decide) rfl (by decide) ?_
    refine x_aloadn (q := 303) 1 rfl rfl rfl dX11_body_302 rfl ?_
    refine x_bipush (q := 305) rfl dX11_body_303 rfl ?_
    obtain ⟨s94, H⟩ := H
    obtain ⟨m95, em95⟩ : ∃ m9 : Mem, m9 = bgM mem 41 := ⟨_, rfl⟩
    have H := H m95 em95
    refine x_callV (q := 308) (d := d - 1) (as := [vI 41]) (st := []) dX11_body_305 rfl mv_X11_290 sh_71 rfl rfl rfl (by exact Nat.le_of_ble_eq_true rfl) ⟨by show _ ≤ d; omega, by show _ ≤ 40 * d; omega⟩ ⟨Nat.le_refl _, Nat.le_refl _⟩ (ct_began (by decide) s94 ?_)
    rw [← em95]
    show E_X11_body G d 308 [(4, vI (mem 72 (5 + 3 * (mem 71 22) + 1))), (0, vR 71), (1, vI l1), (2, vI l2), (3, vI l3)] [] m95 Q
    refine x_aloadn (q := 309) 1 rfl rfl rfl dX11_body_308 rfl ?_
    refine x_iconst (q := 310) dX11_body_309 rfl ?_
    refine x_iconst (q := 311) dX11_body_310 rfl ?_
    refine x_iloadn (q := 312) 4 rfl rfl dX11_body_311 rfl ?_
    refine x_callV (q := 315) (d := d - 1) (as := [vI 0, vI 2, vI l3]) (st := []) dX11_body_312 rfl mv_X11_277 sh_71 rfl rfl rfl (by exact Nat.le_of_ble_eq_true rfl) ⟨by show _ ≤ d; omega, by show _ ≤ 40 * d; omega⟩ ⟨Nat.le_refl _, Nat.le_refl _⟩ (Ct.mono H (fun r9 m96 H => ?_))
    obtain ⟨z97, rfl, H⟩ := H
    show E_X11_body G d 315 [(4, vI (mem 72 (5 + 3 * (mem 71 22) + 1))), (0, vR 71), (1, vI l1), (2, vI l2), (3, vI l3)] [vI z97] m96 Q
    refine x_istore (q := 317) (ls' := [(5, vI z97), (4, vI (mem 72 (5 + 3 * (mem 71 22) + 1))), (0, vR 71), (1, vI l1), (2, vI l2), (3, vI l3)]) (by decide) rfl dX11_body_315 rfl ?_
    refine x_iload (q := 319) 0 rfl dX11_body_317 rfl ?_
    refine x_aloadn (q := 320) 2 rfl rfl rfl dX11_body_319 rfl ?_
    refine x_iconst (q := 321) dX11_body_320 rfl ?_
    refine x_iconst (q := 322) dX11_body_321 rfl ?_
    refine x_callV (q := 325) (d := d - 1) (as := [vI 1, vI 1]) (st := [vI z97]) dX11_body_322 rfl mv_X11_294 sh_71 rfl rfl rfl (by exact Nat.le_of_ble_eq_true rfl) ⟨by show _ ≤ d; omega, by show _ ≤ 40 * d; omega⟩ ⟨Nat.le_refl _, Nat.le_refl _⟩ (Ct.mono H (fun r9 m98 H => ?_))
    obtain ⟨z99, rfl, H⟩ := H
    show E_X11_body G d 325 [(5, vI z97), (4, vI (mem 72 (5 + 3 * (mem 71 22) + 1))), (0, vR 71), (1, vI l1), (2, vI l2), (3, vI l3)] [vI z99, vI z97] m98 Q
    refine x_iadd (q := 326) dX11_body_325 rfl ?_
    exact x_iret rfl dX11_body_326 H
  · have H := H15 hB
    refine x_tswIn (z := 15) (tgt := 377) dX11_body_16 hB (by decide) (by decide) (by decide) rfl (by decide) ?_
    refine x_aloadn (q := 378) 1 rfl rfl rfl dX11_body_377 rfl ?_
    refine x_bipush (q := 380) rfl dX11_body_378 rfl ?_
    obtain ⟨s100, H⟩ := H
    obtain ⟨m101, em101⟩ : ∃ m9 : Mem, m9 = bgM mem 61 := ⟨_, rfl⟩
    have H := H m101 em101
    refine x_callV (q := 383) (d := d - 1) (as := [vI 61]) (st := []) dX11_body_380 rfl mv_X11_290 sh_71 rfl rfl rfl (by exact Nat.le_of_ble_eq_true rfl) ⟨by show _ ≤ d; omega, by show _ ≤ 40 * d; omega⟩ ⟨Nat.le_refl _, Nat.le_refl _⟩ (ct_began (by decide) s100 ?_)
    rw [← em101]
    show E_X11_body G d 383 [(4, vI (mem 72 (5 + 3 * (mem 71 22) + 1))), (0, vR 71), (1, vI l1), (2, vI l2), (3, vI l3)] [] m101 Q
    refine x_aloadn (q := 384) 1 rfl rfl rfl dX11_body_383 rfl ?_
    refine x_iconst (q := 385) dX11_body_384 rfl ?_
    refine x_iloadn (q := 386) 4 rfl rfl dX11_body_385 rfl ?_
    refine x_callV (q := 389) (d := d - 1) (as := [vI 2, vI l3]) (st := []) dX11_body_386 rfl mv_X11_294 sh_71 rfl rfl rfl (by exact Nat.le_of_ble_eq_true rfl) ⟨by show _ ≤ d; omega, by show _ ≤ 40 * d; omega⟩ ⟨Nat.le_refl _, Nat.le_refl _⟩ (Ct.mono H (fun r9 m102 H => ?_))
    obtain ⟨z103, rfl, H⟩ := H
    show E_X11_body G d 389 [(4, vI (mem 72 (5 + 3 * (mem 71 22) + 1))), (0, vR 71), (1, vI l1), (2, vI l2), (3, vI l3)] [vI z103] m102 Q
    refine x_istore (q := 391) (ls' := [(5, vI z103), (4, vI (mem 72 (5 + 3 * (mem 71 22) + 1))), (0, vR 71), (1, vI l1), (2, vI l2), (3, vI l3)]) (by decide) rfl dX11_body_389 rfl ?_
    refine x_iload (q := 393) 0 rfl dX11_body_391 rfl ?_
    refine x_aloadn (q := 394) 2 rfl rfl rfl dX11_body_393 rfl ?_
    refine x_iconst (q := 395) dX11_body_394 rfl ?_
    refine x_iconst (q := 396) dX11_body_395 rfl ?_
    refine x_iloadn (q := 397) 5 rfl rfl dX11_body_396 rfl ?_
    refine x_callV (q := 400) (d := d - 1) (as := [vI 3, vI 3, vI l3]) (st := [vI z103]) dX11_body_397 rfl mv_X11_277 sh_71 rfl rfl rfl (by exact Nat.le_of_ble_eq_true rfl) ⟨by show _ ≤ d; omega, by show _ ≤ 40 * d; omega⟩ ⟨Nat.le_refl _, Nat.le_refl _⟩ (Ct.mono H (fun r9 m104 H => ?_))
    obtain ⟨z105, rfl, H⟩ := H
    show E_X11_body G d 400 [(5, vI z103), (4, vI (mem 72 (5 + 3 * (mem 71 22) + 1))), (0, vR 71), (1, vI l1), (2, vI l2), (3, vI l3)] [vI z105, vI z103] m104 Q
    refine x_isub (q := 401) dX11_body_400 rfl ?_
    exact x_iret rfl dX11_body_401 H
  · have H := H16 hB
    refine x_tswIn (z := 16) (tgt := 377) dX11_body_16 hB (by decide) (by decide) (by decide) rfl (by decide) ?_
    refine x_aloadn (q := 378) 1 rfl rfl rfl dX11_body_377 rfl ?_
    refine x_bipush (q := 380) rfl dX11_body_378 rfl ?_
    obtain ⟨s106, H⟩ := H
    obtain ⟨m107, em107⟩ : ∃ m9 : Mem, m9 = bgM mem 61 := ⟨_, rfl⟩
    have H := H m107 em107
    refine x_callV (q := 383) (d := d - 1) (as := [vI 61]) (st := []) dX11_body_380 rfl mv_X11_290 sh_71 rfl rfl rfl (by exact Nat.le_of_ble_eq_true rfl) ⟨by show _ ≤ d; omega, by show _ ≤ 40 * d; omega⟩ ⟨Nat.le_refl _, Nat.le_refl _⟩ (ct_began (by decide) s106 ?_)
    rw [← em107]
    show E_X11_body G d 383 [(4, vI (mem 72 (5 + 3 * (mem 71 22) + 1))), (0, vR 71), (1, vI l1), (2, vI l2), (3, vI l3)] [] m107 Q
    refine x_aloadn (q := 384) 1 rfl rfl rfl dX11_body_383 rfl ?_
    refine x_iconst (q := 385) dX11_body_384 rfl ?_
    refine x_iloadn (q := 386) 4 rfl rfl dX11_body_385 rfl ?_
    refine x_callV (q := 389) (d := d - 1) (as := [vI 2, vI l3]) (st := []) dX11_body_386 rfl mv_X11_294 sh_71 rfl rfl rfl (by exact Nat.le_of_ble_eq_true rfl) ⟨by show _ ≤ d; omega, by show _ ≤ 40 * d; omega⟩ ⟨Nat.le_refl _, Nat.le_refl _⟩ (Ct.mono H (fun r9 m108 H => ?_))
    obtain ⟨z109, rfl, H⟩ := H
    show E_X11_body G d 389 [(4, vI (mem 72 (5 + 3 * (mem 71 22) + 1))), (0, vR 71), (1, vI l1), (2, vI l2), (3, vI l3)] [vI z109] m108 Q
    refine x_istore (q := 391) (ls' := [(5, vI z109), (4, vI (mem 72 (5 + 3 * (mem 71 22) + 1))), (0, vR 71), (1, vI l1), (2, vI l2), (3, vI l3)]) (by decide) rfl dX11_body_389 rfl ?_
    refine x_iload (q := 393) 0 rfl dX11_body_391 rfl ?_
    refine x_aloadn (q := 394) 2 rfl rfl rfl dX11_body_393 rfl ?_
    refine x_iconst (q := 395) dX11_body_394 rfl ?_
    refine x_iconst (q := 396) dX11_body_395 rfl ?_
    refine x_iloadn (q := 397) 5 rfl rfl dX11_body_396 rfl ?_
    refine x_callV (q := 400) (d := d - 1) (as := [vI 3, vI 3, vI l3]) (st := [vI z109]) dX11_body_397 rfl mv_X11_277 sh_71 rfl rfl rfl (by exact Nat.le_of_ble_eq_true rfl) ⟨by show _ ≤ d; omega, by show _ ≤ 40 * d; omega⟩ ⟨Nat.le_refl _, Nat.le_refl _⟩ (Ct.mono H (fun r9 m110 H => ?_))
    obtain ⟨z111, rfl, H⟩ := H
    show E_X11_body G d 400 [(5, vI z109), (4, vI (mem 72 (5 + 3 * (mem 71 22) + 1))), (0, vR 71), (1, vI l1), (2, vI l2), (3, vI l3)] [vI z111, vI z109] m110 Q
    refine x_isub (q := 401) dX11_body_400 rfl ?_
    exact x_iret rfl dX11_body_401 H
  · have H := H17 hB
    refine x_tswIn (z := 17) (tgt := 327) dX11_body_16 hB (by decide) (by decide) (by decide) rfl (by decide) ?_
    refine x_aloadn (q := 328) 1 rfl rfl rfl dX11_body_327 rfl ?_
    refine x_bipush (q := 330) rfl dX11_body_328 rfl ?_
    obtain ⟨s112, H⟩ := H
    obtain ⟨m113, em113⟩ : ∃ m9 : Mem, m9 = bgM mem 50 := ⟨_, rfl⟩
    have H := H m113 em113
    refine x_callV (q := 333) (d := d - 1) (as := [vI 50]) (st := []) dX11_body_330 rfl mv_X11_290 sh_71 rfl rfl rfl (by exact Nat.le_of_ble_eq_true rfl) ⟨by show _ ≤ d; omega, by show _ ≤ 40 * d; omega⟩ ⟨Nat.le_refl _, Nat.le_refl _⟩ (ct_began (by decide) s112 ?_)
    rw [← em113]
    show E_X11_body G d 333 [(4, vI (mem 72 (5 + 3 * (mem 71 22) + 1))), (0, vR 71), (1, vI l1), (2, vI l2), (3, vI l3)] [] m113 Q
    refine x_aloadn (q := 334) 1 rfl rfl rfl dX11_body_333 rfl ?_
    refine x_iconst (q := 335) dX11_body_334 rfl ?_
    refine x_iconst (q := 336) dX11_body_335 rfl ?_
    refine x_iloadn (q := 337) 4 rfl rfl dX11_body_336 rfl ?_
    refine x_iconst (q := 338) dX11_body_337 rfl ?_
    refine x_iadd (q := 339) dX11_body_338 rfl ?_
    refine x_callV (q := 342) (d := d - 1) (as := [vI 2, vI 1, vI (l3 + 1)]) (st := []) dX11_body_339 rfl mv_X11_277 sh_71 rfl rfl rfl (by exact Nat.le_of_ble_eq_true rfl) ⟨by show _ ≤ d; omega, by show _ ≤ 40 * d; omega⟩ ⟨Nat.le_refl _, Nat.le_refl _⟩ (Ct.mono H (fun r9 m114 H => ?_))
    obtain ⟨z115, rfl, H⟩ := H
    show E_X11_body G d 342 [(4, vI (mem 72 (5 + 3 * (mem 71 22) + 1))), (0, vR 71), (1, vI l1), (2, vI l2), (3, vI l3)] [vI z115] m114 Q
    exact x_iret rfl dX11_body_342 H
  · have H := H18 hB
    refine x_tswIn (z := 18) (tgt := 343) dX11_body_16 hB (by decide) (by decide) (by decide) rfl (by decide) ?_
    refine x_aloadn (q := 344) 1 rfl rfl rfl dX11_body_343 rfl ?_
    refine x_bipush (q := 346) rfl dX11_body_344 rfl ?_
    obtain ⟨s116, H⟩ := H
    obtain ⟨m117, em117⟩ : ∃ m9 : Mem, m9 = bgM mem 51 := ⟨_, rfl⟩
    have H := H m117 em117
    refine x_callV (q := 349) (d := d - 1) (as := [vI 51]) (st := []) dX11_body_346 rfl mv_X11_290 sh_71 rfl rfl rfl (by exact Nat.le_of_ble_eq_true rfl) ⟨by show _ ≤ d; omega, by show _ ≤ 40 * d; omega⟩ ⟨Nat.le_refl _, Nat.le_refl _⟩ (ct_began (by decide) s116 ?_)
    rw [← em117]
    show E_X11_body G d 349 [(4, vI (mem 72 (5 + 3 * (mem 71 22) + 1))), (0, vR 71), (1, vI l1), (2, vI l2), (3, vI l3)] [] m117 Q
    refine x_aloadn (q := 350) 1 rfl rfl rfl dX11_body_349 rfl ?_
    refine x_iconst (q := 351) dX11_body_350 rfl ?_
    refine x_iconst (q := 352) dX11_body_351 rfl ?_
    refine x_iloadn (q := 353) 4 rfl rfl dX11_body_352 rfl ?_
    refine x_callV (q := 356) (d := d - 1) (as := [vI 2, vI 2, vI l3]) (st := []) dX11_body_353 rfl mv_X11_277 sh_71 rfl rfl rfl (by exact Nat.le_of_ble_eq_true rfl) ⟨by show _ ≤ d; omega, by show _ ≤ 40 * d; omega⟩ ⟨Nat.le_refl _, Nat.le_refl _⟩ (Ct.mono H (fun r9 m118 H => ?_))
    obtain ⟨z119, rfl, H⟩ := H
    show E_X11_body G d 356 [(4, vI (mem 72 (5 + 3 * (mem 71 22) + 1))), (0, vR 71), (1, vI l1), (2, vI l2), (3, vI l3)] [vI z119] m118 Q
    refine x_istore (q := 358) (ls' := [(5, vI z119), (4, vI (mem 72 (5 + 3 * (mem 71 22) + 1))), (0, vR 71), (1, vI l1), (2, vI l2), (3, vI l3)]) (by decide) rfl dX11_body_356 rfl ?_
    refine x_iload (q := 360) 0 rfl dX11_body_358 rfl ?_
    refine x_aloadn (q := 361) 2 rfl rfl rfl dX11_body_360 rfl ?_
    refine x_iconst (q := 362) dX11_body_361 rfl ?_
    refine x_iconst (q := 363) dX11_body_362 rfl ?_
    refine x_iconst (q := 364) dX11_body_363 rfl ?_
    refine x_callV (q := 367) (d := d - 1) (as := [vI 2, vI 1, vI 0]) (st := [vI z119]) dX11_body_364 rfl mv_X11_277 sh_71 rfl rfl rfl (by exact Nat.le_of_ble_eq_true rfl) ⟨by show _ ≤ d; omega, by show _ ≤ 40 * d; omega⟩ ⟨Nat.le_refl _, Nat.le_refl _⟩ (Ct.mono H (fun r9 m120 H => ?_))
    obtain ⟨z121, rfl, H⟩ := H
    show E_X11_body G d 367 [(5, vI z119), (4, vI (mem 72 (5 + 3 * (mem 71 22) + 1))), (0, vR 71), (1, vI l1), (2, vI l2), (3, vI l3)] [vI z121, vI z119] m120 Q
    refine x_isub (q := 368) dX11_body_367 rfl ?_
    exact x_iret rfl dX11_body_368 H
  · have H := H19 hB
    refine x_tswIn (z := 19) (tgt := 377) dX11_body_16 hB (by decide) (by decide) (by decide) rfl (by decide) ?_
    refine x_aloadn (q := 378) 1 rfl rfl rfl dX11_body_377 rfl ?_
    refine x_bipush (q := 380) rfl dX11_body_378 rfl ?_
    obtain ⟨s122, H⟩ := H
    obtain ⟨m123, em123⟩ : ∃ m9 : Mem, m9 = bgM mem 61 := ⟨_, rfl⟩
    have H := H m123 em123
    refine x_callV (q := 383) (d := d - 1) (as := [vI 61]) (st := []) dX11_body_380 rfl mv_X11_290 sh_71 rfl rfl rfl (by exact Nat.le_of_ble_eq_true rfl) ⟨by show _ ≤ d; omega, by show _ ≤ 40 * d; omega⟩ ⟨Nat.le_refl _, Nat.le_refl _⟩ (ct_began (by decide) s122 ?_)
    rw [← em123]
    show E_X11_body G d 383 [(4, vI (mem 72 (5 + 3 * (mem 71 22) + 1))), (0, vR 71), (1, vI l1), (2, vI l2), (3, vI l3)] [] m123 Q
    refine x_aloadn (q := 384) 1 rfl rfl rfl dX11_body_383 rfl ?_
    refine x_iconst (q := 385) dX11_body_384 rfl ?_
    refine x_iloadn (q := 386) 4 rfl rfl dX11_body_385 rfl ?_
    refine x_callV (q := 389) (d := d - 1) (as := [vI 2, vI l3]) (st := []) dX11_body_386 rfl mv_X11_294 sh_71 rfl rfl rfl (by exact Nat.le_of_ble_eq_true rfl) ⟨by show _ ≤ d; omega, by show _ ≤ 40 * d; omega⟩ ⟨Nat.le_refl _, Nat.le_refl _⟩ (Ct.mono H (fun r9 m124 H => ?_))
    obtain ⟨z125, rfl, H⟩ := H
    show E_X11_body G d 389 [(4, vI (mem 72 (5 + 3 * (mem 71 22) + 1))), (0, vR 71), (1, vI l1), (2, vI l2), (3, vI l3)] [vI z125] m124 Q
    refine x_istore (q := 391) (ls' := [(5, vI z125), (4, vI (mem 72 (5 + 3 * (mem 71 22) + 1))), (0, vR 71), (1, vI l1), (2, vI l2), (3, vI l3)]) (by decide) rfl dX11_body_389 rfl ?_
    refine x_iload (q := 393) 0 rfl dX11_body_391 rfl ?_
    refine x_aloadn (q := 394) 2 rfl rfl rfl dX11_body_393 rfl ?_
    refine x_iconst (q := 395) dX11_body_394 rfl ?_
    refine x_iconst (q := 396) dX11_body_395 rfl ?_
    refine x_iloadn (q := 397) 5 rfl rfl dX11_body_396 rfl ?_
    refine x_callV (q := 400) (d := d - 1) (as := [vI 3, vI 3, vI l3]) (st := [vI z125]) dX11_body_397 rfl mv_X11_277 sh_71 rfl rfl rfl (by exact Nat.le_of_ble_eq_true rfl) ⟨by show _ ≤ d; omega, by show _ ≤ 40 * d; omega⟩ ⟨Nat.le_refl _, Nat.le_refl _⟩ (Ct.mono H (fun r9 m126 H => ?_))
    obtain ⟨z127, rfl, H⟩ := H
    show E_X11_body G d 400 [(5, vI z125), (4, vI (mem 72 (5 + 3 * (mem 71 22) + 1))), (0, vR 71), (1, vI l1), (2, vI l2), (3, vI l3)] [vI z127, vI z125] m126 Q
    refine x_isub (q := 401) dX11_body_400 rfl ?_
    exact x_iret rfl dX11_body_401 H
  · have H := H20 hB
    refine x_tswIn (z := 20) (tgt := 369) dX11_body_16 hB (by decide) (by decide) (by decide) rfl (by decide) ?_
    refine x_aloadn (q := 370) 1 rfl rfl rfl dX11_body_369 rfl ?_
    refine x_bipush (q := 372) rfl dX11_body_370 rfl ?_
    obtain ⟨s128, H⟩ := H
    obtain ⟨m129, em129⟩ : ∃ m9 : Mem, m9 = bgM mem 60 := ⟨_, rfl⟩
    have H := H m129 em129
    refine x_callV (q := 375) (d := d - 1) (as := [vI 60]) (st := []) dX11_body_372 rfl mv_X11_290 sh_71 rfl rfl rfl (by exact Nat.le_of_ble_eq_true rfl) ⟨by show _ ≤ d; omega, by show _ ≤ 40 * d; omega⟩ ⟨Nat.le_refl _, Nat.le_refl _⟩ (ct_began (by decide) s128 ?_)
    rw [← em129]
    show E_X11_body G d 375 [(4, vI (mem 72 (5 + 3 * (mem 71 22) + 1))), (0, vR 71), (1, vI l1), (2, vI l2), (3, vI l3)] [] m129 Q
    refine x_iconst (q := 376) dX11_body_375 rfl ?_
    exact x_iret rfl dX11_body_376 H
  · have H := H21 hB
    refine x_tswOut (tgt := 377) dX11_body_16 s4 hB (by decide) ?_
    refine x_aloadn (q := 378) 1 rfl rfl rfl dX11_body_377 rfl ?_
    refine x_bipush (q := 380) rfl dX11_body_378 rfl ?_
    obtain ⟨s130, H⟩ := H
    obtain ⟨m131, em131⟩ : ∃ m9 : Mem, m9 = bgM mem 61 := ⟨_, rfl⟩
    have H := H m131 em131
    refine x_callV (q := 383) (d := d - 1) (as := [vI 61]) (st := []) dX11_body_380 rfl mv_X11_290 sh_71 rfl rfl rfl (by exact Nat.le_of_ble_eq_true rfl) ⟨by show _ ≤ d; omega, by show _ ≤ 40 * d; omega⟩ ⟨Nat.le_refl _, Nat.le_refl _⟩ (ct_began (by decide) s130 ?_)
    rw [← em131]
    show E_X11_body G d 383 [(4, vI (mem 72 (5 + 3 * (mem 71 22) + 1))), (0, vR 71), (1, vI l1), (2, vI l2), (3, vI l3)] [] m131 Q
    refine x_aloadn (q := 384) 1 rfl rfl rfl dX11_body_383 rfl ?_
    refine x_iconst (q := 385) dX11_body_384 rfl ?_
    refine x_iloadn (q := 386) 4 rfl rfl dX11_body_385 rfl ?_
    refine x_callV (q := 389) (d := d - 1) (as := [vI 2, vI l3]) (st := []) dX11_body_386 rfl mv_X11_294 sh_71 rfl rfl rfl (by exact Nat.le_of_ble_eq_true rfl) ⟨by show _ ≤ d; omega, by show _ ≤ 40 * d; omega⟩ ⟨Nat.le_refl _, Nat.le_refl _⟩ (Ct.mono H (fun r9 m132 H => ?_))
    obtain ⟨z133, rfl, H⟩ := H
    show E_X11_body G d 389 [(4, vI (mem 72 (5 + 3 * (mem 71 22) + 1))), (0, vR 71), (1, vI l1), (2, vI l2), (3, vI l3)] [vI z133] m132 Q
    refine x_istore (q := 391) (ls' := [(5, vI z133), (4, vI (mem 72 (5 + 3 * (mem 71 22) + 1))), (0, vR 71), (1, vI l1), (2, vI l2), (3, vI l3)]) (by decide) rfl dX11_body_389 rfl ?_
    refine x_iload (q := 393) 0 rfl dX11_body_391 rfl ?_
    refine x_aloadn (q := 394) 2 rfl rfl rfl dX11_body_393 rfl ?_
    refine x_iconst (q := 395) dX11_body_394 rfl ?_
    refine x_iconst (q := 396) dX11_body_395 rfl ?_
    refine x_iloadn (q := 397) 5 rfl rfl dX11_body_396 rfl ?_
    refine x_callV (q := 400) (d := d - 1) (as := [vI 3, vI 3, vI l3]) (st := [vI z133]) dX11_body_397 rfl mv_X11_277 sh_71 rfl rfl rfl (by exact Nat.le_of_ble_eq_true rfl) ⟨by show _ ≤ d; omega, by show _ ≤ 40 * d; omega⟩ ⟨Nat.le_refl _, Nat.le_refl _⟩ (Ct.mono H (fun r9 m134 H => ?_))
    obtain ⟨z135, rfl, H⟩ := H
    show E_X11_body G d 400 [(5, vI z133), (4, vI (mem 72 (5 + 3 * (mem 71 22) + 1))), (0, vR 71), (1, vI l1), (2, vI l2), (3, vI l3)] [vI z135, vI z133] m134 Q
    refine x_isub (q := 401) dX11_body_400 rfl ?_
    exact x_iret rfl dX11_body_401 H
