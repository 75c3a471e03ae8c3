abbrev E_X1_sort (G : GT) (d pc : Nat) (ls : List (Nat × AV)) (st : List AV) (mem : Mem) (Q : Option AV → Mem → Prop) : Prop := Ex G RX1 cX1_sort 4 none d pc ls st mem Q
abbrev C_X1_sort (G : GT) (d : Nat) (as : List AV) (mem : Mem) (Q : Option AV → Mem → Prop) : Prop := Ct G yX1_sort cX1_sort 4 none d as mem Q
set_option maxRecDepth 20000 in
set_option maxHeartbeats 4000000 in
theorem B_X1_sort {G : GT} {d : Nat}  {mem : Mem} {Q : Option AV → Mem → Prop} (hd : 1 ≤ d) (H : E_X1_sort G d 2 [(0, vR 32), (1, vI 0)] [] mem Q) : C_X1_sort G d [vR 32] mem Q := by
  refine Ct_of_Ex (by decide +kernel) (by exact Nat.le_of_ble_eq_true rfl) (ls := [(0, vR 32)]) rfl ?_
  show E_X1_sort G d 0 [(0, vR 32)] [] mem Q
  refine x_iconst (q := 1) dX1_sort_0 rfl ?_
  refine x_istoren (q := 2) (ls' := [(1, vI 0), (0, vR 32)]) rfl (by decide) rfl dX1_sort_1 rfl ?_
  refine x_sub [1, 0] rfl ?_
  exact H
set_option maxRecDepth 20000 in
set_option maxHeartbeats 4000000 in
theorem B_X1_sort_2 {G : GT} {d : Nat} {l1 : Int} {mem : Mem} {Q : Option AV → Mem → Prop} (hd : 1 ≤ d) (H : (inr l1) ∧ (((14 ≤ l1) → (E_X1_sort G d 36 [(0, vR 32), (1, vI (ishl 1 (mem 1 0))), (2, vI 0)] [] mem Q)) ∧ (¬ (14 ≤ l1) → ((0 ≤ l1 ∧ l1 < 14) ∧ (∀ m7 : Mem, m7 = upM mem 38 l1 0 → (E_X1_sort G d 2 [(0, vR 32), (1, vI (l1 + 1))] [] m7 Q)))))) : E_X1_sort G d 2 [(0, vR 32), (1, vI l1)] [] mem Q := by
  refine x_iloadn (q := 3) 1 rfl rfl dX1_sort_2 rfl ?_
  refine x_aloadn (q := 4) 0 rfl rfl rfl dX1_sort_3 rfl ?_
  refine x_getr (q := 7) dX1_sort_4 rfl fa_X1_22 sh_32 rfl ?_
  refine x_alen (q := 8) (t := 14) dX1_sort_7 rfl sh_38 (by decide) rfl ?_
  obtain ⟨s1, H⟩ := H
  obtain ⟨H1, H2⟩ := H
  refine x_icmp_ge (tgt := 24) (q := 11) dX1_sort_8 (by decide) rfl s1 (by decide) (fun hB => ?_) (fun hB => ?_)
  · have H := H1 (hB)
    refine x_iconst (q := 25) dX1_sort_24 rfl ?_
    refine x_aloadn (q := 26) 0 rfl rfl rfl dX1_sort_25 rfl ?_
    refine x_getr (q := 29) dX1_sort_26 rfl fa_X1_35 sh_32 rfl ?_
    refine x_geti (q := 32) (ji := 0) dX1_sort_29 rfl fa_X1_78 sh_1 rfl rfl (fun r4 => ?_)
    refine x_ishl (q := 33) dX1_sort_32 rfl ?_
    refine x_istoren (q := 34) (ls' := [(1, vI (ishl 1 (mem 1 0))), (0, vR 32)]) rfl (by decide) rfl dX1_sort_33 rfl ?_
    refine x_iconst (q := 35) dX1_sort_34 rfl ?_
    refine x_istoren (q := 36) (ls' := [(2, vI 0), (1, vI (ishl 1 (mem 1 0))), (0, vR 32)]) rfl (by decide) rfl dX1_sort_35 rfl ?_
    refine x_sub [2, 1, 0] rfl ?_
    exact H
  · have H := H2 (hB)
    refine x_aloadn (q := 12) 0 rfl rfl rfl dX1_sort_11 rfl ?_
    refine x_getr (q := 15) dX1_sort_12 rfl fa_X1_22 sh_32 rfl ?_
    refine x_iloadn (q := 16) 1 rfl rfl dX1_sort_15 rfl ?_
    refine x_iconst (q := 17) dX1_sort_16 rfl ?_
    obtain ⟨⟨s5, s6⟩, H⟩ := H
    refine x_iast (q := 18) dX1_sort_17 rfl sh_38 s5 s6 (by decide) (fun m7 em7 => ?_)
    have H := H m7 em7
    refine x_iinc (q := 21) (ls' := [(1, vI (l1 + 1)), (0, vR 32)]) 1 rfl (by decide) rfl dX1_sort_18 rfl ?_
    refine x_goto (tgt := 2) dX1_sort_21 (by decide) ?_
    refine x_sub [1, 0] rfl ?_
    exact H
set_option maxRecDepth 20000 in
set_option maxHeartbeats 4000000 in
theorem B_X1_sort_36 {G : GT} {d : Nat} {l1 : Int} {l2 : Int} {mem : Mem} {Q : Option AV → Mem → Prop} (hd : 2 ≤ d) (H : (inr l2 ∧ inr l1) ∧ (((l1 ≤ l2) → (E_X1_sort G d 72 [(0, vR 32), (1, vI l1), (2, vI 1)] [] mem Q)) ∧ (¬ (l1 ≤ l2) → ((0 ≤ l2 ∧ l2 < 4096) ∧ ((¬ (mem 34 l2 = 0 ∧ bitc l2 ≤ mem 1 11) → (E_X1_sort G d 36 [(0, vR 32), (1, vI l1), (2, vI (l2 + 1))] [] mem Q)) ∧ ((mem 34 l2 = 0 ∧ bitc l2 ≤ mem 1 11) → ((0 ≤ (bitc l2) + 1 ∧ (bitc l2) + 1 < 14) ∧ ((inr ((mem 38 ((bitc l2) + 1)) + 1)) ∧ (∀ m19 : Mem, m19 = upM mem 38 ((bitc l2) + 1) ((mem 38 ((bitc l2) + 1)) + 1) → (E_X1_sort G d 36 [(0, vR 32), (1, vI l1), (2, vI (l2 + 1))] [] m19 Q)))))))))) : E_X1_sort G d 36 [(0, vR 32), (1, vI l1), (2, vI l2)] [] mem Q := by
  refine x_iloadn (q := 37) 2 rfl rfl dX1_sort_36 rfl ?_
  refine x_iloadn (q := 38) 1 rfl rfl dX1_sort_37 rfl ?_
  obtain ⟨⟨s8, s9⟩, H⟩ := H
  obtain ⟨H1, H2⟩ := H
  refine x_icmp_ge (tgt := 70) (q := 41) dX1_sort_38 (by decide) rfl s8 s9 (fun hB => ?_) (fun hB => ?_)
  · have H := H1 (hB)
    refine x_iconst (q := 71) dX1_sort_70 rfl ?_
    refine x_istoren (q := 72) (ls' := [(2, vI 1), (0, vR 32), (1, vI l1)]) rfl (by decide) rfl dX1_sort_71 rfl ?_
    refine x_sub [1, 2, 0] rfl ?_
    exact H
  · have H := H2 (hB)
    refine x_aloadn (q := 42) 0 rfl rfl rfl dX1_sort_41 rfl ?_
    refine x_iloadn (q := 43) 2 rfl rfl dX1_sort_42 rfl ?_
    obtain ⟨⟨s12, s13⟩, H⟩ := H
    refine x_callV (q := 46) (d := d - 1) (as := [vI l2]) (st := []) dX1_sort_43 rfl mv_X1_88 sh_32 rfl rfl rfl (by exact Nat.le_of_ble_eq_true rfl) ⟨by show _ ≤ d; omega, by show _ ≤ 40 * d; omega⟩ ⟨Nat.le_refl _, Nat.le_refl _⟩ (ct_holds (by omega) s12 s13 ?_)
    show E_X1_sort G d 46 [(0, vR 32), (1, vI l1), (2, vI l2)] [vI (bz (mem 34 l2 = 0 ∧ bitc l2 ≤ mem 1 11))] mem Q
    obtain ⟨H1, H2⟩ := H
    refine x_if_eq (tgt := 64) (q := 49) dX1_sort_46 (by decide) rfl (bz_inr _) (fun hB => ?_) (fun hB => ?_)
    · have H := H1 (bz_0.mp hB)
      refine x_iinc (q := 67) (ls' := [(2, vI (l2 + 1)), (0, vR 32), (1, vI l1)]) 2 rfl (by decide) rfl dX1_sort_64 rfl ?_
      refine x_goto (tgt := 36) dX1_sort_67 (by decide) ?_
      refine x_sub [1, 2, 0] rfl ?_
      exact H
    · have H := H2 (Classical.byContradiction (fun z => hB (bz_0.mpr z)))
      refine x_aloadn (q := 50) 0 rfl rfl rfl dX1_sort_49 rfl ?_
      refine x_getr (q := 53) dX1_sort_50 rfl fa_X1_22 sh_32 rfl ?_
      refine x_iloadn (q := 54) 2 rfl rfl dX1_sort_53 rfl ?_
      refine x_callS (q := 57) (d := d - 1) (as := [vI l2]) (st := [vR 38]) dX1_sort_54 rfl ms_X1_91 rfl rfl (by exact Nat.le_of_ble_eq_true rfl) ⟨by show _ ≤ d; omega, by show _ ≤ 40 * d; omega⟩ ⟨Nat.le_refl _, Nat.le_refl _⟩ (ct_bitc ?_)
      show E_X1_sort G d 57 [(0, vR 32), (1, vI l1), (2, vI l2)] [vI (bitc l2), vR 38] mem Q
      refine x_iconst (q := 58) dX1_sort_57 rfl ?_
      refine x_iadd (q := 59) dX1_sort_58 rfl ?_
      refine x_dup2 (q := 60) (by exact Nat.ne_of_beq_eq_false rfl) (by exact Nat.ne_of_beq_eq_false rfl) dX1_sort_59 rfl ?_
      obtain ⟨⟨s16, s17⟩, H⟩ := H
      refine x_iald (q := 61) dX1_sort_60 rfl sh_38 s16 s17 (fun r18 => ?_)
      refine x_iconst (q := 62) dX1_sort_61 rfl ?_
      refine x_iadd (q := 63) dX1_sort_62 rfl ?_
      obtain ⟨s20, H⟩ := H
      refine x_iast (q := 64) dX1_sort_63 rfl sh_38 s16 s17 s20 (fun m19 em19 => ?_)
      have H := H m19 em19
      refine x_iinc (q := 67) (ls' := [(2, vI (l2 + 1)), (0, vR 32), (1, vI l1)]) 2 rfl (by decide) rfl dX1_sort_64 rfl ?_
      refine x_goto (tgt := 36) dX1_sort_67 (by decide) ?_
      refine x_sub [1, 2, 0] rfl ?_
      exact H
set_option maxRecDepth 20000 in
set_option maxHeartbeats 4000000 in
theorem B_X1_sort_72 {G : GT} {d : Nat} {l1 : Int} {l2 : Int} {mem : Mem} {Q : Option AV → Mem → Prop} (hd : 2 ≤ d) (H : (inr l2) ∧ (((14 ≤ l2) → (∀ m25 : Mem, m25 = upM mem 32 7 (mem 38 13) → (E_X1_sort G d 117 [(0, vR 32), (1, vI l1), (2, vI 0)] [] m25 Q))) ∧ (¬ (14 ≤ l2) → ((0 ≤ l2 ∧ l2 < 14) ∧ ((0 ≤ l2 - 1 ∧ l2 - 1 < 14) ∧ ((inr ((mem 38 l2) + (mem 38 (l2 - 1)))) ∧ (∀ m32 : Mem, m32 = upM mem 38 l2 ((mem 38 l2) + (mem 38 (l2 - 1))) → (E_X1_sort G d 72 [(0, vR 32), (1, vI l1), (2, vI (l2 + 1))] [] m32 Q)))))))) : E_X1_sort G d 72 [(0, vR 32), (1, vI l1), (2, vI l2)] [] mem Q := by
  refine x_iloadn (q := 73) 2 rfl rfl dX1_sort_72 rfl ?_
  refine x_aloadn (q := 74) 0 rfl rfl rfl dX1_sort_73 rfl ?_
  refine x_getr (q := 77) dX1_sort_74 rfl fa_X1_22 sh_32 rfl ?_
  refine x_alen (q := 78) (t := 14) dX1_sort_77 rfl sh_38 (by decide) rfl ?_
  obtain ⟨s21, H⟩ := H
  obtain ⟨H1, H2⟩ := H
  refine x_icmp_ge (tgt := 104) (q := 81) dX1_sort_78 (by decide) rfl s21 (by decide) (fun hB => ?_) (fun hB => ?_)
  · have H := H1 (hB)
    refine x_aloadn (q := 105) 0 rfl rfl rfl dX1_sort_104 rfl ?_
    refine x_aloadn (q := 106) 0 rfl rfl rfl dX1_sort_105 rfl ?_
    refine x_getr (q := 109) dX1_sort_106 rfl fa_X1_22 sh_32 rfl ?_
    refine x_bipush (q := 111) rfl dX1_sort_109 rfl ?_
    refine x_iald (q := 112) dX1_sort_111 rfl sh_38 (by decide) (by decide) (fun r24 => ?_)
    refine x_puti (q := 115) (ji := 7) dX1_sort_112 rfl fp_X1_97 sh_32 rfl rfl r24 (fun m25 em25 => ?_)
    have H := H m25 em25
    refine x_iconst (q := 116) dX1_sort_115 rfl ?_
    refine x_istoren (q := 117) (ls' := [(2, vI 0), (0, vR 32), (1, vI l1)]) rfl (by decide) rfl dX1_sort_116 rfl ?_
    refine x_sub [1, 2, 0] rfl ?_
    exact H
  · have H := H2 (hB)
    refine x_aloadn (q := 82) 0 rfl rfl rfl dX1_sort_81 rfl ?_
    refine x_getr (q := 85) dX1_sort_82 rfl fa_X1_22 sh_32 rfl ?_
    refine x_iloadn (q := 86) 2 rfl rfl dX1_sort_85 rfl ?_
    refine x_dup2 (q := 87) (by exact Nat.ne_of_beq_eq_false rfl) (by exact Nat.ne_of_beq_eq_false rfl) dX1_sort_86 rfl ?_
    obtain ⟨⟨s26, s27⟩, H⟩ := H
    refine x_iald (q := 88) dX1_sort_87 rfl sh_38 s26 s27 (fun r28 => ?_)
    refine x_aloadn (q := 89) 0 rfl rfl rfl dX1_sort_88 rfl ?_
    refine x_getr (q := 92) dX1_sort_89 rfl fa_X1_22 sh_32 rfl ?_
    refine x_iloadn (q := 93) 2 rfl rfl dX1_sort_92 rfl ?_
    refine x_iconst (q := 94) dX1_sort_93 rfl ?_
    refine x_isub (q := 95) dX1_sort_94 rfl ?_
    obtain ⟨⟨s29, s30⟩, H⟩ := H
    refine x_iald (q := 96) dX1_sort_95 rfl sh_38 s29 s30 (fun r31 => ?_)
    refine x_iadd (q := 97) dX1_sort_96 rfl ?_
    obtain ⟨s33, H⟩ := H
    refine x_iast (q := 98) dX1_sort_97 rfl sh_38 s26 s27 s33 (fun m32 em32 => ?_)
    have H := H m32 em32
    refine x_iinc (q := 101) (ls' := [(2, vI (l2 + 1)), (0, vR 32), (1, vI l1)]) 2 rfl (by decide) rfl dX1_sort_98 rfl ?_
    refine x_goto (tgt := 72) dX1_sort_101 (by decide) ?_
    refine x_sub [1, 2, 0] rfl ?_
    exact H
set_option maxRecDepth 20000 in
set_option maxHeartbeats 4000000 in
theorem B_X1_sort_117 {G : GT} {d : Nat} {l1 : Int} {l2 : Int} {mem : Mem} {Q : Option AV → Mem → Prop} (hd : 2 ≤ d) (H : (inr l2 ∧ inr l1) ∧ (((l1 ≤ l2) → (Q none mem)) ∧ (¬ (l1 ≤ l2) → ((0 ≤ l2 ∧ l2 < 4096) ∧ ((¬ (mem 34 l2 = 0 ∧ bitc l2 ≤ mem 1 11) → (E_X1_sort G d 117 [(0, vR 32), (1, vI l1), (2, vI (l2 + 1))] [] mem Q)) ∧ ((mem 34 l2 = 0 ∧ bitc l2 ≤ mem 1 11) → ((0 ≤ bitc l2 ∧ bitc l2 < 14) ∧ ((0 ≤ mem 38 (bitc l2) ∧ mem 38 (bitc l2) < 4096) ∧ (∀ m47 : Mem, m47 = upM mem 37 (mem 38 (bitc l2)) l2 → ((inr ((m47 38 (bitc l2)) + 1)) ∧ (∀ m49 : Mem, m49 = upM m47 38 (bitc l2) ((m47 38 (bitc l2)) + 1) → (E_X1_sort G d 117 [(0, vR 32), (1, vI l1), (2, vI (l2 + 1))] [] m49 Q)))))))))))) : E_X1_sort G d 117 [(0, vR 32), (1, vI l1), (2, vI l2)] [] mem Q := by
  refine x_iloadn (q := 118) 2 rfl rfl dX1_sort_117 rfl ?_
  refine x_iloadn (q := 119) 1 rfl rfl dX1_sort_118 rfl ?_
  obtain ⟨⟨s34, s35⟩, H⟩ := H
  obtain ⟨H1, H2⟩ := H
  refine x_icmp_ge (tgt := 163) (q := 122) dX1_sort_119 (by decide) rfl s34 s35 (fun hB => ?_) (fun hB => ?_)
  · have H := H1 (hB)
    exact x_vret rfl dX1_sort_163 H
  · have H := H2 (hB)
    refine x_aloadn (q := 123) 0 rfl rfl rfl dX1_sort_122 rfl ?_
    refine x_iloadn (q := 124) 2 rfl rfl dX1_sort_123 rfl ?_
    obtain ⟨⟨s38, s39⟩, H⟩ := H
    refine x_callV (q := 127) (d := d - 1) (as := [vI l2]) (st := []) dX1_sort_124 rfl mv_X1_88 sh_32 rfl rfl rfl (by exact Nat.le_of_ble_eq_true rfl) ⟨by show _ ≤ d; omega, by show _ ≤ 40 * d; omega⟩ ⟨Nat.le_refl _, Nat.le_refl _⟩ (ct_holds (by omega) s38 s39 ?_)
    show E_X1_sort G d 127 [(0, vR 32), (1, vI l1), (2, vI l2)] [vI (bz (mem 34 l2 = 0 ∧ bitc l2 ≤ mem 1 11))] mem Q
    obtain ⟨H1, H2⟩ := H
    refine x_if_eq (tgt := 157) (q := 130) dX1_sort_127 (by decide) rfl (bz_inr _) (fun hB => ?_) (fun hB => ?_)
    · have H := H1 (bz_0.mp hB)
      refine x_iinc (q := 160) (ls' := [(2, vI (l2 + 1)), (0, vR 32), (1, vI l1)]) 2 rfl (by decide) rfl dX1_sort_157 rfl ?_
      refine x_goto (tgt := 117) dX1_sort_160 (by decide) ?_
      refine x_sub [1, 2, 0] rfl ?_
      exact H
    · have H := H2 (Classical.byContradiction (fun z => hB (bz_0.mpr z)))
      refine x_iloadn (q := 131) 2 rfl rfl dX1_sort_130 rfl ?_
      refine x_callS (q := 134) (d := d - 1) (as := [vI l2]) (st := []) dX1_sort_131 rfl ms_X1_91 rfl rfl (by exact Nat.le_of_ble_eq_true rfl) ⟨by show _ ≤ d; omega, by show _ ≤ 40 * d; omega⟩ ⟨Nat.le_refl _, Nat.le_refl _⟩ (ct_bitc ?_)
      show E_X1_sort G d 134 [(0, vR 32), (1, vI l1), (2, vI l2)] [vI (bitc l2)] mem Q
      refine x_istoren (q := 135) (ls' := [(3, vI (bitc l2)), (0, vR 32), (1, vI l1), (2, vI l2)]) rfl (by decide) rfl dX1_sort_134 rfl ?_
      refine x_aloadn (q := 136) 1 rfl rfl rfl dX1_sort_135 rfl ?_
      refine x_getr (q := 139) dX1_sort_136 rfl fa_X1_18 sh_32 rfl ?_
      refine x_aloadn (q := 140) 1 rfl rfl rfl dX1_sort_139 rfl ?_
      refine x_getr (q := 143) dX1_sort_140 rfl fa_X1_22 sh_32 rfl ?_
      refine x_iloadn (q := 144) 0 rfl rfl dX1_sort_143 rfl ?_
      obtain ⟨⟨s42, s43⟩, H⟩ := H
      refine x_iald (q := 145) dX1_sort_144 rfl sh_38 s42 s43 (fun r44 => ?_)
      refine x_iloadn (q := 146) 3 rfl rfl dX1_sort_145 rfl ?_
      obtain ⟨⟨s45, s46⟩, H⟩ := H
      refine x_iast (q := 147) dX1_sort_146 rfl sh_37 s45 s46 s34 (fun m47 em47 => ?_)
      have H := H m47 em47
      refine x_aloadn (q := 148) 1 rfl rfl rfl dX1_sort_147 rfl ?_
      refine x_getr (q := 151) dX1_sort_148 rfl fa_X1_22 sh_32 rfl ?_
      refine x_iloadn (q := 152) 0 rfl rfl dX1_sort_151 rfl ?_
      refine x_dup2 (q := 153) (by exact Nat.ne_of_beq_eq_false rfl) (by exact Nat.ne_of_beq_eq_false rfl) dX1_sort_152 rfl ?_
      refine x_iald (q := 154) dX1_sort_153 rfl sh_38 s42 s43 (fun r48 => ?_)
      refine x_iconst (q := 155) dX1_sort_154 rfl ?_
      refine x_iadd (q := 156) dX1_sort_155 rfl ?_
      obtain ⟨s50, H⟩ := H
      refine x_iast (q := 157) dX1_sort_156 rfl sh_38 s42 s43 s50 (fun m49 em49 => ?_)
      have H := H m49 em49
      refine x_iinc (q := 160) (ls' := [(2, vI (l2 + 1)), (3, vI (bitc l2)), (0, vR 32), (1, vI l1)]) 3 rfl (by decide) rfl dX1_sort_157 rfl ?_
      refine x_goto (tgt := 117) dX1_sort_160 (by decide) ?_
      refine x_sub [2, 3, 0] rfl ?_
      exact H
abbrev E_X1_refresh (G : GT) (d pc : Nat) (ls : List (Nat × AV)) (st : List AV) (mem : Mem) (Q : Option AV → Mem → Prop) : Prop := Ex G RX1 cX1_refresh 3 none d pc ls st mem Q
abbrev C_X1_refresh (G : GT) (d : Nat) (as : List AV) (mem : Mem) (Q : Option AV → Mem → Prop) : Prop := Ct G yX1_refresh cX1_refresh 3 none d as mem Q
set_option maxRecDepth 20000 in
set_option maxHeartbeats 4000000 in
theorem B_X1_refresh {G : GT} {d : Nat}  {mem : Mem} {Q : Option AV → Mem → Prop} (hd : 1 ≤ d) (H : ((mem 1 16 ≠ 0) → (C_X7_clear G (d - 1) [vR 33] mem (fun r9 m4 => r9 = none ∧ (E_X1_refresh G d 20 [(0, vR 32), (1, vI 0)] [] m4 Q)))) ∧ (¬ (mem 1 16 ≠ 0) → (Q none mem))) : C_X1_refresh G d [vR 32] mem Q := by
  refine Ct_of_Ex (by decide +kernel) (by exact Nat.le_of_ble_eq_true rfl) (ls := [(0, vR 32)]) rfl ?_
  show E_X1_refresh G d 0 [(0, vR 32)] [] mem Q
  refine x_aloadn (q := 1) 0 rfl rfl rfl dX1_refresh_0 rfl ?_
  refine x_getr (q := 4) dX1_refresh_1 rfl fa_X1_35 sh_32 rfl ?_
  refine x_geti (q := 7) (ji := 16) dX1_refresh_4 rfl fa_X1_39 sh_1 rfl rfl (fun r1 => ?_)
  obtain ⟨H1, H2⟩ := H
  refine x_if_ne (tgt := 11) (q := 10) dX1_refresh_7 (by decide) rfl r1 (fun hB => ?_) (fun hB => ?_)
  · have H := H1 (hB)
    refine x_aloadn (q := 12) 0 rfl rfl rfl dX1_refresh_11 rfl ?_
    refine x_getr (q := 15) dX1_refresh_12 rfl fa_X1_12 sh_32 rfl ?_
    refine x_callV (q := 18) (d := d - 1) (as := []) (st := []) dX1_refresh_15 rfl mv_X1_45 sh_33 rfl rfl rfl (by exact Nat.le_of_ble_eq_true rfl) ⟨by show _ ≤ d; omega, by show _ ≤ 40 * d; omega⟩ ⟨Nat.le_refl _, Nat.le_refl _⟩ (Ct.mono H (fun r9 m4 H => ?_))
    obtain ⟨rfl, H⟩ := H
    show E_X1_refresh G d 18 [(0, vR 32)] [] m4 Q
    refine x_iconst (q := 19) dX1_refresh_18 rfl ?_
    refine x_istoren (q := 20) (ls' := [(1, vI 0), (0, vR 32)]) rfl (by decide) rfl dX1_refresh_19 rfl ?_
    refine x_sub [1, 0] rfl ?_
    exact H
  · have H := H2 (hB)
    exact x_vret rfl dX1_refresh_10 H
set_option maxRecDepth 20000 in
set_option maxHeartbeats 4000000 in
theorem B_X1_refresh_20 {G : GT} {d : Nat} {l1 : Int} {mem : Mem} {Q : Option AV → Mem → Prop} (hd : 4 ≤ d) (H : (inr l1) ∧ (((mem 1 6 ≤ l1) → (C_X7_fill G (d - 1) [vR 33, vI (mem 1 0)] mem (fun r9 m10 => r9 = none ∧ (C_X1_sort G (d - 1) [vR 32] m10 (fun r9 m11 => r9 = none ∧ (∀ m12 : Mem, m12 = upM m11 1 16 0 → (Q none m12))))))) ∧ (¬ (mem 1 6 ≤ l1) → ((¬ (land (lshr (mem 1 10) l1) 1 ≠ 0) → (E_X1_refresh G d 20 [(0, vR 32), (1, vI (l1 + 1))] [] mem Q)) ∧ ((land (lshr (mem 1 10) l1) 1 ≠ 0) → ((0 ≤ l1 ∧ l1 < 60) ∧ ((0 ≤ mem 7 l1 ∧ mem 7 l1 < 12) ∧ ((0 ≤ mem 2 (mem 7 l1) ∧ mem 2 (mem 7 l1) < 6) ∧ (C_X7_add G (d - 1) [vR 33, vI (lcs (mem 2 (mem 7 l1)) (nz (bz (land (lshr (mem 1 9) l1) 1 ≠ 0)))), vI (mem 7 l1), vI (mem 8 l1)] mem (fun r9 m25 => r9 = none ∧ (E_X1_refresh G d 20 [(0, vR 32), (1, vI (l1 + 1))] [] m25 Q))))))))))) : E_X1_refresh G d 20 [(0, vR 32), (1, vI l1)] [] mem Q := by
  refine x_iloadn (q := 21) 1 rfl rfl dX1_refresh_20 rfl ?_
  refine x_aloadn (q := 22) 0 rfl rfl rfl dX1_refresh_21 rfl ?_
  refine x_getr (q := 25) dX1_refresh_22 rfl fa_X1_35 sh_32 rfl ?_
  refine x_geti (q := 28) (ji := 6) dX1_refresh_25 rfl fa_X1_48 sh_1 rfl rfl (fun r5 => ?_)
  obtain ⟨s6, H⟩ := H
  obtain ⟨H1, H2⟩ := H
  refine x_icmp_ge (tgt := 103) (q := 31) dX1_refresh_28 (by decide) rfl s6 r5 (fun hB => ?_) (fun hB => ?_)
  · have H := H1 (hB)
    refine x_aloadn (q := 104) 0 rfl rfl rfl dX1_refresh_103 rfl ?_
    refine x_getr (q := 107) dX1_refresh_104 rfl fa_X1_12 sh_32 rfl ?_
    refine x_aloadn (q := 108) 0 rfl rfl rfl dX1_refresh_107 rfl ?_
    refine x_getr (q := 111) dX1_refresh_108 rfl fa_X1_35 sh_32 rfl ?_
    refine x_geti (q := 114) (ji := 0) dX1_refresh_111 rfl fa_X1_78 sh_1 rfl rfl (fun r9 => ?_)
    refine x_callV (q := 117) (d := d - 1) (as := [vI (mem 1 0)]) (st := []) dX1_refresh_114 rfl mv_X1_81 sh_33 rfl rfl rfl (by exact Nat.le_of_ble_eq_true rfl) ⟨by show _ ≤ d; omega, by show _ ≤ 40 * d; omega⟩ ⟨Nat.le_refl _, Nat.le_refl _⟩ (Ct.mono H (fun r9 m10 H => ?_))
    obtain ⟨rfl, H⟩ := H
    show E_X1_refresh G d 117 [(0, vR 32), (1, vI l1)] [] m10 Q
    refine x_aloadn (q := 118) 0 rfl rfl rfl dX1_refresh_117 rfl ?_
    refine x_callV (q := 121) (d := d - 1) (as := []) (st := []) dX1_refresh_118 rfl mv_X1_85 sh_32 rfl rfl rfl (by exact Nat.le_of_ble_eq_true rfl) ⟨by show _ ≤ d; omega, by show _ ≤ 40 * d; omega⟩ ⟨Nat.le_refl _, Nat.le_refl _⟩ (Ct.mono H (fun r9 m11 H => ?_))
    obtain ⟨rfl, H⟩ := H
    show E_X1_refresh G d 121 [(0, vR 32), (1, vI l1)] [] m11 Q
    refine x_aloadn (q := 122) 0 rfl rfl rfl dX1_refresh_121 rfl ?_
    refine x_getr (q := 125) dX1_refresh_122 rfl fa_X1_35 sh_32 rfl ?_
    refine x_iconst (q := 126) dX1_refresh_125 rfl ?_
    refine x_putz (q := 129) (ji := 16) dX1_refresh_126 rfl fp_X1_39 sh_1 rfl rfl (by decide) (fun m12 em12 => ?_)
    have H := H m12 em12
    exact x_vret rfl dX1_refresh_129 H
  · have H := H2 (hB)
    refine x_aloadn (q := 32) 0 rfl rfl rfl dX1_refresh_31 rfl ?_
    refine x_getr (q := 35) dX1_refresh_32 rfl fa_X1_35 sh_32 rfl ?_
    refine x_iloadn (q := 36) 1 rfl rfl dX1_refresh_35 rfl ?_
    refine x_callV (q := 39) (d := d - 1) (as := [vI l1]) (st := []) dX1_refresh_36 rfl mv_X1_52 sh_1 rfl rfl rfl (by exact Nat.le_of_ble_eq_true rfl) ⟨by show _ ≤ d; omega, by show _ ≤ 40 * d; omega⟩ ⟨Nat.le_refl _, Nat.le_refl _⟩ (ct_isValid (by decide) ?_)
    show E_X1_refresh G d 39 [(0, vR 32), (1, vI l1)] [vI (bz (land (lshr (mem 1 10) l1) 1 ≠ 0))] mem Q
    obtain ⟨H1, H2⟩ := H
    refine x_if_eq (tgt := 97) (q := 42) dX1_refresh_39 (by decide) rfl (bz_inr _) (fun hB => ?_) (fun hB => ?_)
    · have H := H1 (bz_0.mp hB)
      refine x_iinc (q := 100) (ls' := [(1, vI (l1 + 1)), (0, vR 32)]) 1 rfl (by decide) rfl dX1_refresh_97 rfl ?_
      refine x_goto (tgt := 20) dX1_refresh_100 (by decide) ?_
      refine x_sub [1, 0] rfl ?_
      exact H
    · have H := H2 (Classical.byContradiction (fun z => hB (bz_0.mpr z)))
      refine x_aloadn (q := 43) 0 rfl rfl rfl dX1_refresh_42 rfl ?_
      refine x_getr (q := 46) dX1_refresh_43 rfl fa_X1_35 sh_32 rfl ?_
      refine x_getr (q := 49) dX1_refresh_46 rfl fa_X1_56 sh_1 rfl ?_
      refine x_aloadn (q := 50) 0 rfl rfl rfl dX1_refresh_49 rfl ?_
      refine x_getr (q := 53) dX1_refresh_50 rfl fa_X1_35 sh_32 rfl ?_
      refine x_getr (q := 56) dX1_refresh_53 rfl fa_X1_59 sh_1 rfl ?_
      refine x_iloadn (q := 57) 1 rfl rfl dX1_refresh_56 rfl ?_
      obtain ⟨⟨s15, s16⟩, H⟩ := H
      refine x_iald (q := 58) dX1_refresh_57 rfl sh_7 s15 s16 (fun r17 => ?_)
      obtain ⟨⟨s18, s19⟩, H⟩ := H
      refine x_iald (q := 59) dX1_refresh_58 rfl sh_2 s18 s19 (fun r20 => ?_)
      refine x_aloadn (q := 60) 0 rfl rfl rfl dX1_refresh_59 rfl ?_
      refine x_getr (q := 63) dX1_refresh_60 rfl fa_X1_35 sh_32 rfl ?_
      refine x_iloadn (q := 64) 1 rfl rfl dX1_refresh_63 rfl ?_
      refine x_callV (q := 67) (d := d - 1) (as := [vI l1]) (st := [vI (mem 2 (mem 7 l1))]) dX1_refresh_64 rfl mv_X1_62 sh_1 rfl rfl rfl (by exact Nat.le_of_ble_eq_true rfl) ⟨by show _ ≤ d; omega, by show _ ≤ 40 * d; omega⟩ ⟨Nat.le_refl _, Nat.le_refl _⟩ (ct_saidWhole (by decide) ?_)
      show E_X1_refresh G d 67 [(0, vR 32), (1, vI l1)] [vI (bz (land (lshr (mem 1 9) l1) 1 ≠ 0)), vI (mem 2 (mem 7 l1))] mem Q
      obtain ⟨⟨s21, s22⟩, H⟩ := H
      refine x_callS (q := 70) (d := d - 1) (as := [vI (mem 2 (mem 7 l1)), vI (bz (land (lshr (mem 1 9) l1) 1 ≠ 0))]) (st := []) dX1_refresh_67 rfl ms_X1_65 rfl rfl (by exact Nat.le_of_ble_eq_true rfl) ⟨by show _ ≤ d; omega, by show _ ≤ 40 * d; omega⟩ ⟨Nat.le_refl _, Nat.le_refl _⟩ (ct_letCases (by omega) s21 s22 (bz_01 _) ?_)
      show E_X1_refresh G d 70 [(0, vR 32), (1, vI l1)] [vI (lcs (mem 2 (mem 7 l1)) (nz (bz (land (lshr (mem 1 9) l1) 1 ≠ 0))))] mem Q
      refine x_istoren (q := 71) (ls' := [(2, vI (lcs (mem 2 (mem 7 l1)) (nz (bz (land (lshr (mem 1 9) l1) 1 ≠ 0))))), (0, vR 32), (1, vI l1)]) rfl (by decide) rfl dX1_refresh_70 rfl ?_
      refine x_aloadn (q := 72) 1 rfl rfl rfl dX1_refresh_71 rfl ?_
      refine x_getr (q := 75) dX1_refresh_72 rfl fa_X1_12 sh_32 rfl ?_
      refine x_iloadn (q := 76) 0 rfl rfl dX1_refresh_75 rfl ?_
      refine x_aloadn (q := 77) 1 rfl rfl rfl dX1_refresh_76 rfl ?_
      refine x_getr (q := 80) dX1_refresh_77 rfl fa_X1_35 sh_32 rfl ?_
      refine x_getr (q := 83) dX1_refresh_80 rfl fa_X1_59 sh_1 rfl ?_
      refine x_iloadn (q := 84) 2 rfl rfl dX1_refresh_83 rfl ?_
      refine x_iald (q := 85) dX1_refresh_84 rfl sh_7 s15 s16 (fun r23 => ?_)
      refine x_aloadn (q := 86) 1 rfl rfl rfl dX1_refresh_85 rfl ?_
      refine x_getr (q := 89) dX1_refresh_86 rfl fa_X1_35 sh_32 rfl ?_
      refine x_getr (q := 92) dX1_refresh_89 rfl fa_X1_71 sh_1 rfl ?_
      refine x_iloadn (q := 93) 2 rfl rfl dX1_refresh_92 rfl ?_
      refine x_iald (q := 94) dX1_refresh_93 rfl sh_8 s15 s16 (fun r24 => ?_)
      refine x_callV (q := 97) (d := d - 1) (as := [vI (lcs (mem 2 (mem 7 l1)) (nz (bz (land (lshr (mem 1 9) l1) 1 ≠ 0)))), vI (mem 7 l1), vI (mem 8 l1)]) (st := []) dX1_refresh_94 rfl mv_X1_74 sh_33 rfl rfl rfl (by exact Nat.le_of_ble_eq_true rfl) ⟨by show _ ≤ d; omega, by show _ ≤ 40 * d; omega⟩ ⟨Nat.le_refl _, Nat.le_refl _⟩ (Ct.mono H (fun r9 m25 H => ?_))
      obtain ⟨rfl, H⟩ := H
      show E_X1_refresh G d 97 [(2, vI (lcs (mem 2 (mem 7 l1)) (nz (bz (land (lshr (mem 1 9) l1) 1 ≠ 0))))), (0, vR 32), (1, vI l1)] [] m25 Q
      refine x_iinc (q := 100) (ls' := [(1, vI (l1 + 1)), (2, vI (lcs (mem 2 (mem 7 l1)) (nz (bz (land (lshr (mem 1 9) l1) 1 ≠ 0))))), (0, vR 32)]) 2 rfl (by decide) rfl dX1_refresh_97 rfl ?_
      refine x_goto (tgt := 20) dX1_refresh_100 (by decide) ?_
      refine x_sub [2, 0] rfl ?_
      exact H
abbrev E_X1_inAll (G : GT) (d pc : Nat) (ls : List (Nat × AV)) (st : List AV) (mem : Mem) (Q : Option AV → Mem → Prop) : Prop := Ex G RX1 cX1_inAll 3 (some .int) d pc ls st mem Q
abbrev C_X1_inAll (G : GT) (d : Nat) (as : List AV) (mem : Mem) (Q : Option AV → Mem → Prop) : Prop := Ct G yX1_inAll cX1_inAll 3 (some .int) d as mem Q
set_option maxRecDepth 20000 in
set_option maxHeartbeats 4000000 in
theorem B_X1_inAll {G : GT} {d : Nat}  {mem : Mem} {Q : Option AV → Mem → Prop} (hd : 1 ≤ d) (H : E_X1_inAll G d 10 [(0, vR 32), (1, vI (ishl 1 (mem 1 0) - 1)), (2, vI 0)] [] mem Q) : C_X1_inAll G d [vR 32] mem Q := by
  refine Ct_of_Ex (by decide +kernel) (by exact Nat.le_of_ble_eq_true rfl) (ls := [(0, vR 32)]) rfl ?_
  show E_X1_inAll G d 0 [(0, vR 32)] [] mem Q
  refine x_aloadn (q := 1) 0 rfl rfl rfl dX1_inAll_0 rfl ?_
  refine x_getr (q := 4) dX1_inAll_1 rfl fa_X1_35 sh_32 rfl ?_
  refine x_callV (q := 7) (d := d - 1) (as := []) (st := []) dX1_inAll_4 rfl mv_X1_106 sh_1 rfl rfl rfl (by exact Nat.le_of_ble_eq_true rfl) ⟨by show _ ≤ d; omega, by show _ ≤ 40 * d; omega⟩ ⟨Nat.le_refl _, Nat.le_refl _⟩ (ct_everyone (by decide) ?_)
  show E_X1_inAll G d 7 [(0, vR 32)] [vI (ishl 1 (mem 1 0) - 1)] mem Q
  refine x_istoren (q := 8) (ls' := [(1, vI (ishl 1 (mem 1 0) - 1)), (0, vR 32)]) rfl (by decide) rfl dX1_inAll_7 rfl ?_
  refine x_iconst (q := 9) dX1_inAll_8 rfl ?_
  refine x_istoren (q := 10) (ls' := [(2, vI 0), (1, vI (ishl 1 (mem 1 0) - 1)), (0, vR 32)]) rfl (by decide) rfl dX1_inAll_9 rfl ?_
  refine x_sub [2, 1, 0] rfl ?_
  exact H
set_option maxRecDepth 20000 in
set_option maxHeartbeats 4000000 in
theorem B_X1_inAll_10 {G : GT} {d : Nat} {l1 : Int} {l2 : Int} {mem : Mem} {Q : Option AV → Mem → Prop} (hd : 1 ≤ d) (H : (inr l2) ∧ (((mem 32 7 ≤ l2) → (Q (some (vI l1)) mem)) ∧ (¬ (mem 32 7 ≤ l2) → ((0 ≤ l2 ∧ l2 < 4096) ∧ (E_X1_inAll G d 10 [(0, vR 32), (1, vI (iand l1 (mem 37 l2))), (2, vI (l2 + 1))] [] mem Q))))) : E_X1_inAll G d 10 [(0, vR 32), (1, vI l1), (2, vI l2)] [] mem Q := by
  refine x_iloadn (q := 11) 2 rfl rfl dX1_inAll_10 rfl ?_
  refine x_aloadn (q := 12) 0 rfl rfl rfl dX1_inAll_11 rfl ?_
  refine x_geti (q := 15) (ji := 7) dX1_inAll_12 rfl fa_X1_97 sh_32 rfl rfl (fun r1 => ?_)
  obtain ⟨s2, H⟩ := H
  obtain ⟨H1, H2⟩ := H
  refine x_icmp_ge (tgt := 33) (q := 18) dX1_inAll_15 (by decide) rfl s2 r1 (fun hB => ?_) (fun hB => ?_)
  · have H := H1 (hB)
    refine x_iloadn (q := 34) 1 rfl rfl dX1_inAll_33 rfl ?_
    exact x_iret rfl dX1_inAll_34 H
  · have H := H2 (hB)
    refine x_iloadn (q := 19) 1 rfl rfl dX1_inAll_18 rfl ?_
    refine x_aloadn (q := 20) 0 rfl rfl rfl dX1_inAll_19 rfl ?_
    refine x_getr (q := 23) dX1_inAll_20 rfl fa_X1_18 sh_32 rfl ?_
    refine x_iloadn (q := 24) 2 rfl rfl dX1_inAll_23 rfl ?_
    obtain ⟨⟨s5, s6⟩, H⟩ := H
    refine x_iald (q := 25) dX1_inAll_24 rfl sh_37 s5 s6 (fun r7 => ?_)
    refine x_iand (q := 26) dX1_inAll_25 rfl ?_
    refine x_istoren (q := 27) (ls' := [(1, vI (iand l1 (mem 37 l2))), (0, vR 32), (2, vI l2)]) rfl (by decide) rfl dX1_inAll_26 rfl ?_
    refine x_iinc (q := 30) (ls' := [(2, vI (l2 + 1)), (1, vI (iand l1 (mem 37 l2))), (0, vR 32)]) 2 rfl (by decide) rfl dX1_inAll_27 rfl ?_
    refine x_goto (tgt := 10) dX1_inAll_30 (by decide) ?_
    refine x_sub [2, 1, 0] rfl ?_
    exact H
abbrev E_X1_inNone (G : GT) (d pc : Nat) (ls : List (Nat × AV)) (st : List AV) (mem : Mem) (Q : Option AV → Mem → Prop) : Prop := Ex G RX1 cX1_inNone 3 (some .int) d pc ls st mem Q
abbrev C_X1_inNone (G : GT) (d : Nat) (as : List AV) (mem : Mem) (Q : Option AV → Mem → Prop) : Prop := Ct G yX1_inNone cX1_inNone 3 (some .int) d as mem Q
set_option maxRecDepth 20000 in
set_option maxHeartbeats 4000000 in
theorem B_X1_inNone {G : GT} {d : Nat}  {mem : Mem} {Q : Option AV → Mem → Prop} (hd : 1 ≤ d) (H : E_X1_inNone G d 4 [(0, vR 32), (1, vI 0), (2, vI 0)] [] mem Q) : C_X1_inNone G d [vR 32] mem Q := by
  refine Ct_of_Ex (by decide +kernel) (by exact Nat.le_of_ble_eq_true rfl) (ls := [(0, vR 32)]) rfl ?_
  show E_X1_inNone G d 0 [(0, vR 32)] [] mem Q
  refine x_iconst (q := 1) dX1_inNone_0 rfl ?_
  refine x_istoren (q := 2) (ls' := [(1, vI 0), (0, vR 32)]) rfl (by decide) rfl dX1_inNone_1 rfl ?_
  refine x_iconst (q := 3) dX1_inNone_2 rfl ?_
  refine x_istoren (q := 4) (ls' := [(2, vI 0), (1, vI 0), (0, vR 32)]) rfl (by decide) rfl dX1_inNone_3 rfl ?_
  refine x_sub [2, 1, 0] rfl ?_
  exact H
set_option maxRecDepth 20000 in
set_option maxHeartbeats 4000000 in
theorem B_X1_inNone_4 {G : GT} {d : Nat} {l1 : Int} {l2 : Int} {mem : Mem} {Q : Option AV → Mem → Prop} (hd : 1 ≤ d) (H : (inr l2) ∧ (((mem 32 7 ≤ l2) → (Q (some (vI (iand (ishl 1 (mem 1 0) - 1) (ixor l1 (-1))))) mem)) ∧ (¬ (mem 32 7 ≤ l2) → ((0 ≤ l2 ∧ l2 < 4096) ∧ (E_X1_inNone G d 4 [(0, vR 32), (1, vI (ior l1 (mem 37 l2))), (2, vI (l2 + 1))] [] mem Q))))) : E_X1_inNone G d 4 [(0, vR 32), (1, vI l1), (2, vI l2)] [] mem Q := by
  refine x_iloadn (q := 5) 2 rfl rfl dX1_inNone_4 rfl ?_
  refine x_aloadn (q := 6) 0 rfl rfl rfl dX1_inNone_5 rfl ?_
  refine x_geti (q := 9) (ji := 7) dX1_inNone_6 rfl fa_X1_97 sh_32 rfl rfl (fun r1 => ?_)
  obtain ⟨s2, H⟩ := H
  obtain ⟨H1, H2⟩ := H
  refine x_icmp_ge (tgt := 27) (q := 12) dX1_inNone_9 (by decide) rfl s2 r1 (fun hB => ?_) (fun hB => ?_)
  · have H := H1 (hB)
    refine x_aloadn (q := 28) 0 rfl rfl rfl dX1_inNone_27 rfl ?_
    refine x_getr (q := 31) dX1_inNone_28 rfl fa_X1_35 sh_32 rfl ?_
    refine x_callV (q := 34) (d := d - 1) (as := []) (st := []) dX1_inNone_31 rfl mv_X1_106 sh_1 rfl rfl rfl (by exact Nat.le_of_ble_eq_true rfl) ⟨by show _ ≤ d; omega, by show _ ≤ 40 * d; omega⟩ ⟨Nat.le_refl _, Nat.le_refl _⟩ (ct_everyone (by decide) ?_)
    show E_X1_inNone G d 34 [(0, vR 32), (1, vI l1), (2, vI l2)] [vI (ishl 1 (mem 1 0) - 1)] mem Q
    refine x_iloadn (q := 35) 1 rfl rfl dX1_inNone_34 rfl ?_
    refine x_iconst (q := 36) dX1_inNone_35 rfl ?_
    refine x_ixor (q := 37) dX1_inNone_36 rfl ?_
    refine x_iand (q := 38) dX1_inNone_37 rfl ?_
    exact x_iret rfl dX1_inNone_38 H
  · have H := H2 (hB)
    refine x_iloadn (q := 13) 1 rfl rfl dX1_inNone_12 rfl ?_
    refine x_aloadn (q := 14) 0 rfl rfl rfl dX1_inNone_13 rfl ?_
    refine x_getr (q := 17) dX1_inNone_14 rfl fa_X1_18 sh_32 rfl ?_
    refine x_iloadn (q := 18) 2 rfl rfl dX1_inNone_17 rfl ?_
    obtain ⟨⟨s5, s6⟩, H⟩ := H
    refine x_iald (q := 19) dX1_inNone_18 rfl sh_37 s5 s6 (fun r7 => ?_)
    refine x_ior (q := 20) dX1_inNone_19 rfl ?_
    refine x_istoren (q := 21) (ls' := [(1, vI (ior l1 (mem 37 l2))), (0, vR 32), (2, vI l2)]) rfl (by decide) rfl dX1_inNone_20 rfl ?_
    refine x_iinc (q := 24) (ls' := [(2, vI (l2 + 1)), (1, vI (ior l1 (mem 37 l2))), (0, vR 32)]) 2 rfl (by decide) rfl dX1_inNone_21 rfl ?_
    refine x_goto (tgt := 4) dX1_inNone_24 (by decide) ?_
    refine x_sub [2, 1, 0] rfl ?_
    exact H
abbrev E_X1_leastNotLet (G : GT) (d pc : Nat) (ls : List (Nat × AV)) (st : List AV) (mem : Mem) (Q : Option AV → Mem → Prop) : Prop := Ex G RX1 cX1_leastNotLet 6 (some .int) d pc ls st mem Q
abbrev C_X1_leastNotLet (G : GT) (d : Nat) (as : List AV) (mem : Mem) (Q : Option AV → Mem → Prop) : Prop := Ct G yX1_leastNotLet cX1_leastNotLet 6 (some .int) d as mem Q
set_option maxRecDepth 20000 in
set_option maxHeartbeats 4000000 in
theorem B_X1_leastNotLet {G : GT} {d : Nat}  {mem : Mem} {Q : Option AV → Mem → Prop} (hd : 1 ≤ d) (H : E_X1_leastNotLet G d 14 [(0, vR 32), (1, vI 0), (2, vI (ishl 1 (mem 1 0))), (3, vI 1)] [] mem Q) : C_X1_leastNotLet G d [vR 32] mem Q := by
  refine Ct_of_Ex (by decide +kernel) (by exact Nat.le_of_ble_eq_true rfl) (ls := [(0, vR 32)]) rfl ?_
  show E_X1_leastNotLet G d 0 [(0, vR 32)] [] mem Q
  refine x_iconst (q := 1) dX1_leastNotLet_0 rfl ?_
  refine x_istoren (q := 2) (ls' := [(1, vI 0), (0, vR 32)]) rfl (by decide) rfl dX1_leastNotLet_1 rfl ?_
  refine x_iconst (q := 3) dX1_leastNotLet_2 rfl ?_
  refine x_aloadn (q := 4) 1 rfl rfl rfl dX1_leastNotLet_3 rfl ?_
  refine x_getr (q := 7) dX1_leastNotLet_4 rfl fa_X1_35 sh_32 rfl ?_
  refine x_geti (q := 10) (ji := 0) dX1_leastNotLet_7 rfl fa_X1_78 sh_1 rfl rfl (fun r1 => ?_)
  refine x_ishl (q := 11) dX1_leastNotLet_10 rfl ?_
  refine x_istoren (q := 12) (ls' := [(2, vI (ishl 1 (mem 1 0))), (1, vI 0), (0, vR 32)]) rfl (by decide) rfl dX1_leastNotLet_11 rfl ?_
  refine x_iconst (q := 13) dX1_leastNotLet_12 rfl ?_
  refine x_istoren (q := 14) (ls' := [(3, vI 1), (2, vI (ishl 1 (mem 1 0))), (1, vI 0), (0, vR 32)]) rfl (by decide) rfl dX1_leastNotLet_13 rfl ?_
  refine x_sub [3, 2, 1, 0] rfl ?_
  exact H
set_option maxRecDepth 20000 in
set_option maxHeartbeats 4000000 in
theorem B_X1_leastNotLet_14 {G : GT} {d : Nat} {l1 : Int} {l2 : Int} {l3 : Int} {mem : Mem} {Q : Option AV → Mem → Prop} (hd : 1 ≤ d) (H : (inr l3 ∧ inr l2) ∧ (((l2 ≤ l3) → (Q (some (vI l1)) mem)) ∧ (¬ (l2 ≤ l3) → ((0 ≤ l3 ∧ l3 < 4096) ∧ ((0 ≤ l1 ∧ l1 < 4096) ∧ ((inr ((mem 34 l3) - (mem 34 l1))) ∧ (((0 < (mem 34 l3) - (mem 34 l1)) → (E_X1_leastNotLet G d 14 [(0, vR 32), (1, vI l1), (2, vI l2), (3, vI (l3 + 1))] [] mem Q)) ∧ (¬ (0 < (mem 34 l3) - (mem 34 l1)) → (((mem 1 11 < bitc l3) → (E_X1_leastNotLet G d 14 [(0, vR 32), (1, vI l1), (2, vI l2), (3, vI (l3 + 1))] [] mem Q)) ∧ (¬ (mem 1 11 < bitc l3) → ((((mem 34 l3) - (mem 34 l1) < 0) → (E_X1_leastNotLet G d 14 [(0, vR 32), (1, vI l3), (2, vI l2), (3, vI (l3 + 1))] [] mem Q)) ∧ (¬ ((mem 34 l3) - (mem 34 l1) < 0) → (((bitc l1 ≤ bitc l3) → (E_X1_leastNotLet G d 14 [(0, vR 32), (1, vI l1), (2, vI l2), (3, vI (l3 + 1))] [] mem Q)) ∧ (¬ (bitc l1 ≤ bitc l3) → (E_X1_leastNotLet G d 14 [(0, vR 32), (1, vI l3), (2, vI l2), (3, vI (l3 + 1))] [] mem Q))))))))))))))) : E_X1_leastNotLet G d 14 [(0, vR 32), (1, vI l1), (2, vI l2), (3, vI l3)] [] mem Q := by
  refine x_iloadn (q := 15) 3 rfl rfl dX1_leastNotLet_14 rfl ?_
  refine x_iloadn (q := 16) 2 rfl rfl dX1_leastNotLet_15 rfl ?_
  obtain ⟨⟨s2, s3⟩, H⟩ := H
  obtain ⟨H1, H2⟩ := H
  refine x_icmp_ge (tgt := 99) (q := 19) dX1_leastNotLet_16 (by decide) rfl s2 s3 (fun hB => ?_) (fun hB => ?_)
  · have H := H1 (hB)
    refine x_iloadn (q := 100) 1 rfl rfl dX1_leastNotLet_99 rfl ?_
    exact x_iret rfl dX1_leastNotLet_100 H
  · have H := H2 (hB)
    refine x_aloadn (q := 20) 0 rfl rfl rfl dX1_leastNotLet_19 rfl ?_
    refine x_getr (q := 23) dX1_leastNotLet_20 rfl fa_X1_12 sh_32 rfl ?_
    refine x_getr (q := 26) dX1_leastNotLet_23 rfl fa_X1_100 sh_33 rfl ?_
    refine x_iloadn (q := 27) 3 rfl rfl dX1_leastNotLet_26 rfl ?_
    obtain ⟨⟨s6, s7⟩, H⟩ := H
    refine x_iald (q := 28) dX1_leastNotLet_27 rfl sh_34 s6 s7 (fun r8 => ?_)
    refine x_aloadn (q := 29) 0 rfl rfl rfl dX1_leastNotLet_28 rfl ?_
    refine x_getr (q := 32) dX1_leastNotLet_29 rfl fa_X1_12 sh_32 rfl ?_
    refine x_getr (q := 35) dX1_leastNotLet_32 rfl fa_X1_100 sh_33 rfl ?_
    refine x_iloadn (q := 36) 1 rfl rfl dX1_leastNotLet_35 rfl ?_
    obtain ⟨⟨s9, s10⟩, H⟩ := H
    refine x_iald (q := 37) dX1_leastNotLet_36 rfl sh_34 s9 s10 (fun r11 => ?_)
    refine x_isub (q := 38) dX1_leastNotLet_37 rfl ?_
    refine x_istore (q := 40) (ls' := [(4, vI ((mem 34 l3) - (mem 34 l1))), (0, vR 32), (1, vI l1), (2, vI l2), (3, vI l3)]) (by decide) rfl dX1_leastNotLet_38 rfl ?_
    refine x_iload (q := 42) 0 rfl dX1_leastNotLet_40 rfl ?_
    obtain ⟨s12, H⟩ := H
    obtain ⟨H1, H2⟩ := H
    refine x_if_gt (tgt := 93) (q := 45) dX1_leastNotLet_42 (by decide) rfl s12 (fun hB => ?_) (fun hB => ?_)
    · have H := H1 (hB)
      refine x_iinc (q := 96) (ls' := [(3, vI (l3 + 1)), (4, vI ((mem 34 l3) - (mem 34 l1))), (0, vR 32), (1, vI l1), (2, vI l2)]) 4 rfl (by decide) rfl dX1_leastNotLet_93 rfl ?_
      refine x_goto (tgt := 14) dX1_leastNotLet_96 (by decide) ?_
      refine x_sub [2, 3, 4, 0] rfl ?_
      exact H
    · have H := H2 (hB)
      refine x_iloadn (q := 46) 4 rfl rfl dX1_leastNotLet_45 rfl ?_
      refine x_callS (q := 49) (d := d - 1) (as := [vI l3]) (st := []) dX1_leastNotLet_46 rfl ms_X1_91 rfl rfl (by exact Nat.le_of_ble_eq_true rfl) ⟨by show _ ≤ d; omega, by show _ ≤ 40 * d; omega⟩ ⟨Nat.le_refl _, Nat.le_refl _⟩ (ct_bitc ?_)
      show E_X1_leastNotLet G d 49 [(4, vI ((mem 34 l3) - (mem 34 l1))), (0, vR 32), (1, vI l1), (2, vI l2), (3, vI l3)] [vI (bitc l3)] mem Q
      refine x_aloadn (q := 50) 1 rfl rfl rfl dX1_leastNotLet_49 rfl ?_
      refine x_getr (q := 53) dX1_leastNotLet_50 rfl fa_X1_35 sh_32 rfl ?_
      refine x_geti (q := 56) (ji := 11) dX1_leastNotLet_53 rfl fa_X1_103 sh_1 rfl rfl (fun r15 => ?_)
      obtain ⟨H1, H2⟩ := H
      refine x_icmp_gt (tgt := 93) (q := 59) dX1_leastNotLet_56 (by decide) rfl (bitc_inr _) r15 (fun hB => ?_) (fun hB => ?_)
      · have H := H1 (hB)
        refine x_iinc (q := 96) (ls' := [(3, vI (l3 + 1)), (4, vI ((mem 34 l3) - (mem 34 l1))), (0, vR 32), (1, vI l1), (2, vI l2)]) 4 rfl (by decide) rfl dX1_leastNotLet_93 rfl ?_
        refine x_goto (tgt := 14) dX1_leastNotLet_96 (by decide) ?_
        refine x_sub [2, 3, 4, 0] rfl ?_
        exact H
      · have H := H2 (hB)
        refine x_iload (q := 61) 0 rfl dX1_leastNotLet_59 rfl ?_
        obtain ⟨H1, H2⟩ := H
        refine x_if_lt (tgt := 75) (q := 64) dX1_leastNotLet_61 (by decide) rfl s12 (fun hB => ?_) (fun hB => ?_)
        · have H := H1 (hB)
          refine x_iconst (q := 76) dX1_leastNotLet_75 rfl ?_
          refine x_goto (tgt := 80) dX1_leastNotLet_76 (by decide) ?_
          refine x_istore (q := 82) (ls' := [(5, vI 1), (4, vI ((mem 34 l3) - (mem 34 l1))), (0, vR 32), (1, vI l1), (2, vI l2), (3, vI l3)]) (by decide) rfl dX1_leastNotLet_80 rfl ?_
          refine x_iload (q := 84) 0 rfl dX1_leastNotLet_82 rfl ?_
          refine x_if_eq (tgt := 91) (q := 87) dX1_leastNotLet_84 (by decide) rfl (by decide) (fun h => absurd h (by decide)) (fun _ => ?_)
          refine x_iloadn (q := 88) 5 rfl rfl dX1_leastNotLet_87 rfl ?_
          refine x_goto (tgt := 92) dX1_leastNotLet_88 (by decide) ?_
          refine x_istoren (q := 93) (ls' := [(1, vI l3), (5, vI 1), (4, vI ((mem 34 l3) - (mem 34 l1))), (0, vR 32), (2, vI l2), (3, vI l3)]) rfl (by decide) rfl dX1_leastNotLet_92 rfl ?_
          refine x_iinc (q := 96) (ls' := [(3, vI (l3 + 1)), (1, vI l3), (5, vI 1), (4, vI ((mem 34 l3) - (mem 34 l1))), (0, vR 32), (2, vI l2)]) 5 rfl (by decide) rfl dX1_leastNotLet_93 rfl ?_
          refine x_goto (tgt := 14) dX1_leastNotLet_96 (by decide) ?_
          refine x_sub [4, 1, 5, 0] rfl ?_
          exact H
        · have H := H2 (hB)
          refine x_iloadn (q := 65) 4 rfl rfl dX1_leastNotLet_64 rfl ?_
          refine x_callS (q := 68) (d := d - 1) (as := [vI l3]) (st := []) dX1_leastNotLet_65 rfl ms_X1_91 rfl rfl (by exact Nat.le_of_ble_eq_true rfl) ⟨by show _ ≤ d; omega, by show _ ≤ 40 * d; omega⟩ ⟨Nat.le_refl _, Nat.le_refl _⟩ (ct_bitc ?_)
          show E_X1_leastNotLet G d 68 [(4, vI ((mem 34 l3) - (mem 34 l1))), (0, vR 32), (1, vI l1), (2, vI l2), (3, vI l3)] [vI (bitc l3)] mem Q
          refine x_iloadn (q := 69) 2 rfl rfl dX1_leastNotLet_68 rfl ?_
          refine x_callS (q := 72) (d := d - 1) (as := [vI l1]) (st := [vI (bitc l3)]) dX1_leastNotLet_69 rfl ms_X1_91 rfl rfl (by exact Nat.le_of_ble_eq_true rfl) ⟨by show _ ≤ d; omega, by show _ ≤ 40 * d; omega⟩ ⟨Nat.le_refl _, Nat.le_refl _⟩ (ct_bitc ?_)
          show E_X1_leastNotLet G d 72 [(4, vI ((mem 34 l3) - (mem 34 l1))), (0, vR 32), (1, vI l1), (2, vI l2), (3, vI l3)] [vI (bitc l1), vI (bitc l3)] mem Q
          obtain ⟨H1, H2⟩ := H
          refine x_icmp_ge (tgt := 79) (q := 75) dX1_leastNotLet_72 (by decide) rfl (bitc_inr _) (bitc_inr _) (fun hB => ?_) (fun hB => ?_)
          · have H := H1 (hB)
            refine x_iconst (q := 80) dX1_leastNotLet_79 rfl ?_
            refine x_istore (q := 82) (ls' := [(5, vI 0), (4, vI ((mem 34 l3) - (mem 34 l1))), (0, vR 32), (1, vI l1), (2, vI l2), (3, vI l3)]) (by decide) rfl dX1_leastNotLet_80 rfl ?_
            refine x_iload (q := 84) 0 rfl dX1_leastNotLet_82 rfl ?_
            refine x_if_eq (tgt := 91) (q := 87) dX1_leastNotLet_84 (by decide) rfl (by decide) (fun _ => ?_) (fun h => absurd (by decide) h)
            refine x_iloadn (q := 92) 3 rfl rfl dX1_leastNotLet_91 rfl ?_
            refine x_istoren (q := 93) (ls' := [(1, vI l1), (5, vI 0), (4, vI ((mem 34 l3) - (mem 34 l1))), (0, vR 32), (2, vI l2), (3, vI l3)]) rfl (by decide) rfl dX1_leastNotLet_92 rfl ?_
            refine x_iinc (q := 96) (ls' := [(3, vI (l3 + 1)), (1, vI l1), (5, vI 0), (4, vI ((mem 34 l3) - (mem 34 l1))), (0, vR 32), (2, vI l2)]) 5 rfl (by decide) rfl dX1_leastNotLet_93 rfl ?_
            refine x_goto (tgt := 14) dX1_leastNotLet_96 (by decide) ?_
            refine x_sub [4, 1, 5, 0] rfl ?_
            exact H
          · have H := H2 (hB)
            refine x_iconst (q := 76) dX1_leastNotLet_75 rfl ?_
            refine x_goto (tgt := 80) dX1_leastNotLet_76 (by decide) ?_
            refine x_istore (q := 82) (ls' := [(5, vI 1), (4, vI ((mem 34 l3) - (mem 34 l1))), (0, vR 32), (1, vI l1), (2, vI l2), (3, vI l3)]) (by decide) rfl dX1_leastNotLet_80 rfl ?_
            refine x_iload (q := 84) 0 rfl dX1_leastNotLet_82 rfl ?_
            refine x_if_eq (tgt := 91) (q := 87) dX1_leastNotLet_84 (by decide) rfl (by decide) (fun h => absurd h (by decide)) (fun _ => ?_)
            refine x_iloadn (q := 88) 5 rfl rfl dX1_leastNotLet_87 rfl ?_
            refine x_goto (tgt := 92) dX1_leastNotLet_88 (by decide) ?_
            refine x_istoren (q := 93) (ls' := [(1, vI l3), (5, vI 1), (4, vI ((mem 34 l3) - (mem 34 l1))), (0, vR 32), (2, vI l2), (3, vI l3)]) rfl (by decide) rfl dX1_leastNotLet_92 rfl ?_
            refine x_iinc (q := 96) (ls' := [(3, vI (l3 + 1)), (1, vI l3), (5, vI 1), (4, vI ((mem 34 l3) - (mem 34 l1))), (0, vR 32), (2, vI l2)]) 5 rfl (by decide) rfl dX1_leastNotLet_93 rfl ?_
            refine x_goto (tgt := 14) dX1_leastNotLet_96 (by decide) ?_
            refine x_sub [4, 1, 5, 0] rfl ?_
            exact H
abbrev E_X1_weigh (G : GT) (d pc : Nat) (ls : List (Nat × AV)) (st : List AV) (mem : Mem) (Q : Option AV → Mem → Prop) : Prop := Ex G RX1 cX1_weigh 4 none d pc ls st mem Q
abbrev C_X1_weigh (G : GT) (d : Nat) (as : List AV) (mem : Mem) (Q : Option AV → Mem → Prop) : Prop := Ct G yX1_weigh cX1_weigh 4 none d as mem Q
set_option maxRecDepth 20000 in
set_option maxHeartbeats 4000000 in
theorem B_X1_weigh {G : GT} {d : Nat}  {mem : Mem} {Q : Option AV → Mem → Prop} (H : ∀ m1 : Mem, m1 = upM mem 41 0 1 → (E_X1_weigh G d 9 [(0, vR 32), (1, vI 0)] [] m1 Q)) : C_X1_weigh G d [vR 32] mem Q := by
  refine Ct_of_Ex (by decide +kernel) (by exact Nat.le_of_ble_eq_true rfl) (ls := [(0, vR 32)]) rfl ?_
  show E_X1_weigh G d 0 [(0, vR 32)] [] mem Q
  refine x_aloadn (q := 1) 0 rfl rfl rfl dX1_weigh_0 rfl ?_
  refine x_getr (q := 4) dX1_weigh_1 rfl fa_X1_31 sh_32 rfl ?_
  refine x_iconst (q := 5) dX1_weigh_4 rfl ?_
  refine x_lconst (q := 6) (v := 1) rfl dX1_weigh_5 rfl ?_
  refine x_last (q := 7) dX1_weigh_6 rfl sh_41 (by decide) (by decide) (by decide) (fun m1 em1 => ?_)
  have H := H m1 em1
  refine x_iconst (q := 8) dX1_weigh_7 rfl ?_
  refine x_istoren (q := 9) (ls' := [(1, vI 0), (0, vR 32)]) rfl (by decide) rfl dX1_weigh_8 rfl ?_
  refine x_sub [1, 0] rfl ?_
  exact H
set_option maxRecDepth 20000 in
set_option maxHeartbeats 4000000 in
theorem B_X1_weigh_9 {G : GT} {d : Nat} {l1 : Int} {mem : Mem} {Q : Option AV → Mem → Prop} (H : (inr l1) ∧ (((mem 1 0 ≤ l1) → (Q none mem)) ∧ (¬ (mem 1 0 ≤ l1) → (E_X1_weigh G d 26 [(0, vR 32), (1, vI l1), (2, vI (ishl 1 l1)), (3, vI 0)] [] mem Q)))) : E_X1_weigh G d 9 [(0, vR 32), (1, vI l1)] [] mem Q := by
  refine x_iloadn (q := 10) 1 rfl rfl dX1_weigh_9 rfl ?_
  refine x_aloadn (q := 11) 0 rfl rfl rfl dX1_weigh_10 rfl ?_
  refine x_getr (q := 14) dX1_weigh_11 rfl fa_X1_35 sh_32 rfl ?_
  refine x_geti (q := 17) (ji := 0) dX1_weigh_14 rfl fa_X1_78 sh_1 rfl rfl (fun r2 => ?_)
  obtain ⟨s3, H⟩ := H
  obtain ⟨H1, H2⟩ := H
  refine x_icmp_ge (tgt := 90) (q := 20) dX1_weigh_17 (by decide) rfl s3 r2 (fun hB => ?_) (fun hB => ?_)
  · have H := H1 (hB)
    exact x_vret rfl dX1_weigh_90 H
  · have H := H2 (hB)
    refine x_iconst (q := 21) dX1_weigh_20 rfl ?_
    refine x_iloadn (q := 22) 1 rfl rfl dX1_weigh_21 rfl ?_
    refine x_ishl (q := 23) dX1_weigh_22 rfl ?_
    refine x_istoren (q := 24) (ls' := [(2, vI (ishl 1 l1)), (0, vR 32), (1, vI l1)]) rfl (by decide) rfl dX1_weigh_23 rfl ?_
    refine x_iconst (q := 25) dX1_weigh_24 rfl ?_
    refine x_istoren (q := 26) (ls' := [(3, vI 0), (2, vI (ishl 1 l1)), (0, vR 32), (1, vI l1)]) rfl (by decide) rfl dX1_weigh_25 rfl ?_
    refine x_sub [2, 3, 1, 0] rfl ?_
    exact H
set_option maxRecDepth 20000 in
set_option maxHeartbeats 4000000 in
theorem B_X1_weigh_26 {G : GT} {d : Nat} {l1 : Int} {l2 : Int} {l3 : Int} {mem : Mem} {Q : Option AV → Mem → Prop} (H : (inr l3 ∧ inr l2) ∧ (((l2 ≤ l3) → (E_X1_weigh G d 9 [(0, vR 32), (1, vI (l1 + 1))] [] mem Q)) ∧ (¬ (l2 ≤ l3) → ((0 ≤ l3 ∧ l3 < 4096) ∧ ((0 ≤ l1 ∧ l1 < 12) ∧ ((0 ≤ l2 + l3 ∧ l2 + l3 < 4096) ∧ ((inl ((mem 41 l3) * (mem 4 l1))) ∧ (∀ m18 : Mem, m18 = upM mem 41 (l2 + l3) ((mem 41 l3) * (mem 4 l1)) → ((inr (10 - (m18 4 l1))) ∧ ((inl ((m18 41 l3) * (10 - (m18 4 l1)))) ∧ (∀ m23 : Mem, m23 = upM m18 41 l3 ((m18 41 l3) * (10 - (m18 4 l1))) → (E_X1_weigh G d 26 [(0, vR 32), (1, vI l1), (2, vI l2), (3, vI (l3 + 1))] [] m23 Q)))))))))))) : E_X1_weigh G d 26 [(0, vR 32), (1, vI l1), (2, vI l2), (3, vI l3)] [] mem Q := by
  refine x_iloadn (q := 27) 3 rfl rfl dX1_weigh_26 rfl ?_
  refine x_iloadn (q := 28) 2 rfl rfl dX1_weigh_27 rfl ?_
  obtain ⟨⟨s6, s7⟩, H⟩ := H
  obtain ⟨H1, H2⟩ := H
  refine x_icmp_ge (tgt := 84) (q := 31) dX1_weigh_28 (by decide) rfl s6 s7 (fun hB => ?_) (fun hB => ?_)
  · have H := H1 (hB)
    refine x_iinc (q := 87) (ls' := [(1, vI (l1 + 1)), (0, vR 32), (2, vI l2), (3, vI l3)]) 1 rfl (by decide) rfl dX1_weigh_84 rfl ?_
    refine x_goto (tgt := 9) dX1_weigh_87 (by decide) ?_
    refine x_sub [1, 0] rfl ?_
    exact H
  · have H := H2 (hB)
    refine x_aloadn (q := 32) 0 rfl rfl rfl dX1_weigh_31 rfl ?_
    refine x_getr (q := 35) dX1_weigh_32 rfl fa_X1_31 sh_32 rfl ?_
    refine x_iloadn (q := 36) 2 rfl rfl dX1_weigh_35 rfl ?_
    refine x_iloadn (q := 37) 3 rfl rfl dX1_weigh_36 rfl ?_
    refine x_iadd (q := 38) dX1_weigh_37 rfl ?_
    refine x_aloadn (q := 39) 0 rfl rfl rfl dX1_weigh_38 rfl ?_
    refine x_getr (q := 42) dX1_weigh_39 rfl fa_X1_31 sh_32 rfl ?_
    refine x_iloadn (q := 43) 3 rfl rfl dX1_weigh_42 rfl ?_
    obtain ⟨⟨s10, s11⟩, H⟩ := H
    refine x_lald (q := 44) dX1_weigh_43 rfl sh_41 s10 s11 (fun r12 => ?_)
    refine x_aloadn (q := 45) 0 rfl rfl rfl dX1_weigh_44 rfl ?_
    refine x_getr (q := 48) dX1_weigh_45 rfl fa_X1_35 sh_32 rfl ?_
    refine x_getr (q := 51) dX1_weigh_48 rfl fa_X1_110 sh_1 rfl ?_
    refine x_iloadn (q := 52) 1 rfl rfl dX1_weigh_51 rfl ?_
    obtain ⟨⟨s13, s14⟩, H⟩ := H
    refine x_iald (q := 53) dX1_weigh_52 rfl sh_4 s13 s14 (fun r15 => ?_)
    refine x_i2l (q := 54) r15 dX1_weigh_53 rfl ?_
    refine x_lmul (q := 55) dX1_weigh_54 rfl ?_
    obtain ⟨⟨s16, s17⟩, H⟩ := H
    obtain ⟨s19, H⟩ := H
    refine x_last (q := 56) dX1_weigh_55 rfl sh_41 s16 s17 s19 (fun m18 em18 => ?_)
    have H := H m18 em18
    refine x_aloadn (q := 57) 0 rfl rfl rfl dX1_weigh_56 rfl ?_
    refine x_getr (q := 60) dX1_weigh_57 rfl fa_X1_31 sh_32 rfl ?_
    refine x_iloadn (q := 61) 3 rfl rfl dX1_weigh_60 rfl ?_
    refine x_dup2 (q := 62) (by exact Nat.ne_of_beq_eq_false rfl) (by exact Nat.ne_of_beq_eq_false rfl) dX1_weigh_61 rfl ?_
    refine x_lald (q := 63) dX1_weigh_62 rfl sh_41 s10 s11 (fun r20 => ?_)
    refine x_bipush (q := 65) rfl dX1_weigh_63 rfl ?_
    refine x_aloadn (q := 66) 0 rfl rfl rfl dX1_weigh_65 rfl ?_
    refine x_getr (q := 69) dX1_weigh_66 rfl fa_X1_35 sh_32 rfl ?_
    refine x_getr (q := 72) dX1_weigh_69 rfl fa_X1_110 sh_1 rfl ?_
    refine x_iloadn (q := 73) 1 rfl rfl dX1_weigh_72 rfl ?_
    refine x_iald (q := 74) dX1_weigh_73 rfl sh_4 s13 s14 (fun r21 => ?_)
    refine x_isub (q := 75) dX1_weigh_74 rfl ?_
    obtain ⟨s22, H⟩ := H
    refine x_i2l (q := 76) s22 dX1_weigh_75 rfl ?_
    refine x_lmul (q := 77) dX1_weigh_76 rfl ?_
    obtain ⟨s24, H⟩ := H
    refine x_last (q := 78) dX1_weigh_77 rfl sh_41 s10 s11 s24 (fun m23 em23 => ?_)
    have H := H m23 em23
    refine x_iinc (q := 81) (ls' := [(3, vI (l3 + 1)), (0, vR 32), (1, vI l1), (2, vI l2)]) 3 rfl (by decide) rfl dX1_weigh_78 rfl ?_
    refine x_goto (tgt := 26) dX1_weigh_81 (by decide) ?_
    refine x_sub [1, 2, 3, 0] rfl ?_
    exact H
abbrev E_X1_weightiest (G : GT) (d pc : Nat) (ls : List (Nat × AV)) (st : List AV) (mem : Mem) (Q : Option AV → Mem → Prop) : Prop := Ex G RX1 cX1_weightiest 3 (some .int) d pc ls st mem Q
abbrev C_X1_weightiest (G : GT) (d : Nat) (as : List AV) (mem : Mem) (Q : Option AV → Mem → Prop) : Prop := Ct G yX1_weightiest cX1_weightiest 3 (some .int) d as mem Q
set_option maxRecDepth 20000 in
set_option maxHeartbeats 4000000 in
theorem B_X1_weightiest {G : GT} {d : Nat}  {mem : Mem} {Q : Option AV → Mem → Prop} (hd : 1 ≤ d) (H : C_X1_weigh G (d - 1) [vR 32] mem (fun r9 m1 => r9 = none ∧ (E_X1_weightiest G d 13 [(0, vR 32), (1, vI (m1 37 0)), (2, vI 1)] [] m1 Q))) : C_X1_weightiest G d [vR 32] mem Q := by
  refine Ct_of_Ex (by decide +kernel) (by exact Nat.le_of_ble_eq_true rfl) (ls := [(0, vR 32)]) rfl ?_
  show E_X1_weightiest G d 0 [(0, vR 32)] [] mem Q
  refine x_aloadn (q := 1) 0 rfl rfl rfl dX1_weightiest_0 rfl ?_
  refine x_callV (q := 4) (d := d - 1) (as := []) (st := []) dX1_weightiest_1 rfl mv_X1_113 sh_32 rfl rfl rfl (by exact Nat.le_of_ble_eq_true rfl) ⟨by show _ ≤ d; omega, by show _ ≤ 40 * d; omega⟩ ⟨Nat.le_refl _, Nat.le_refl _⟩ (Ct.mono H (fun r9 m1 H => ?_))
  obtain ⟨rfl, H⟩ := H
  show E_X1_weightiest G d 4 [(0, vR 32)] [] m1 Q
  refine x_aloadn (q := 5) 0 rfl rfl rfl dX1_weightiest_4 rfl ?_
  refine x_getr (q := 8) dX1_weightiest_5 rfl fa_X1_18 sh_32 rfl ?_
  refine x_iconst (q := 9) dX1_weightiest_8 rfl ?_
  refine x_iald (q := 10) dX1_weightiest_9 rfl sh_37 (by decide) (by decide) (fun r2 => ?_)
  refine x_istoren (q := 11) (ls' := [(1, vI (m1 37 0)), (0, vR 32)]) rfl (by decide) rfl dX1_weightiest_10 rfl ?_
  refine x_iconst (q := 12) dX1_weightiest_11 rfl ?_
  refine x_istoren (q := 13) (ls' := [(2, vI 1), (1, vI (m1 37 0)), (0, vR 32)]) rfl (by decide) rfl dX1_weightiest_12 rfl ?_
  refine x_sub [2, 1, 0] rfl ?_
  exact H
set_option maxRecDepth 20000 in
set_option maxHeartbeats 4000000 in
theorem B_X1_weightiest_13 {G : GT} {d : Nat} {l1 : Int} {l2 : Int} {mem : Mem} {Q : Option AV → Mem → Prop} (hd : 1 ≤ d) (H : (inr l2) ∧ (((mem 32 7 ≤ l2) → (Q (some (vI l1)) mem)) ∧ (¬ (mem 32 7 ≤ l2) → ((0 ≤ l2 ∧ l2 < 4096) ∧ ((0 ≤ mem 37 l2 ∧ mem 37 l2 < 4096) ∧ ((0 ≤ l1 ∧ l1 < 4096) ∧ (((lcmp (mem 41 (mem 37 l2)) (mem 41 l1) ≤ 0) → (E_X1_weightiest G d 13 [(0, vR 32), (1, vI l1), (2, vI (l2 + 1))] [] mem Q)) ∧ (¬ (lcmp (mem 41 (mem 37 l2)) (mem 41 l1) ≤ 0) → (E_X1_weightiest G d 13 [(0, vR 32), (1, vI (mem 37 l2)), (2, vI (l2 + 1))] [] mem Q))))))))) : E_X1_weightiest G d 13 [(0, vR 32), (1, vI l1), (2, vI l2)] [] mem Q := by
  refine x_iloadn (q := 14) 2 rfl rfl dX1_weightiest_13 rfl ?_
  refine x_aloadn (q := 15) 0 rfl rfl rfl dX1_weightiest_14 rfl ?_
  refine x_geti (q := 18) (ji := 7) dX1_weightiest_15 rfl fa_X1_97 sh_32 rfl rfl (fun r3 => ?_)
  obtain ⟨s4, H⟩ := H
  obtain ⟨H1, H2⟩ := H
  refine x_icmp_ge (tgt := 55) (q := 21) dX1_weightiest_18 (by decide) rfl s4 r3 (fun hB => ?_) (fun hB => ?_)
  · have H := H1 (hB)
    refine x_iloadn (q := 56) 1 rfl rfl dX1_weightiest_55 rfl ?_
    exact x_iret rfl dX1_weightiest_56 H
  · have H := H2 (hB)
    refine x_aloadn (q := 22) 0 rfl rfl rfl dX1_weightiest_21 rfl ?_
    refine x_getr (q := 25) dX1_weightiest_22 rfl fa_X1_31 sh_32 rfl ?_
    refine x_aloadn (q := 26) 0 rfl rfl rfl dX1_weightiest_25 rfl ?_
    refine x_getr (q := 29) dX1_weightiest_26 rfl fa_X1_18 sh_32 rfl ?_
    refine x_iloadn (q := 30) 2 rfl rfl dX1_weightiest_29 rfl ?_
    obtain ⟨⟨s7, s8⟩, H⟩ := H
    refine x_iald (q := 31) dX1_weightiest_30 rfl sh_37 s7 s8 (fun r9 => ?_)
    obtain ⟨⟨s10, s11⟩, H⟩ := H
    refine x_lald (q := 32) dX1_weightiest_31 rfl sh_41 s10 s11 (fun r12 => ?_)
    refine x_aloadn (q := 33) 0 rfl rfl rfl dX1_weightiest_32 rfl ?_
    refine x_getr (q := 36) dX1_weightiest_33 rfl fa_X1_31 sh_32 rfl ?_
    refine x_iloadn (q := 37) 1 rfl rfl dX1_weightiest_36 rfl ?_
    obtain ⟨⟨s13, s14⟩, H⟩ := H
    refine x_lald (q := 38) dX1_weightiest_37 rfl sh_41 s13 s14 (fun r15 => ?_)
    refine x_lcmp (q := 39) r12 r15 dX1_weightiest_38 rfl ?_
    obtain ⟨H1, H2⟩ := H
    refine x_if_le (tgt := 49) (q := 42) dX1_weightiest_39 (by decide) rfl (lcmp_inr _ _) (fun hB => ?_) (fun hB => ?_)
    · have H := H1 (hB)
      refine x_iinc (q := 52) (ls' := [(2, vI (l2 + 1)), (0, vR 32), (1, vI l1)]) 2 rfl (by decide) rfl dX1_weightiest_49 rfl ?_
      refine x_goto (tgt := 13) dX1_weightiest_52 (by decide) ?_
      refine x_sub [1, 2, 0] rfl ?_
      exact H
    · have H := H2 (hB)
      refine x_aloadn (q := 43) 0 rfl rfl rfl dX1_weightiest_42 rfl ?_
      refine x_getr (q := 46) dX1_weightiest_43 rfl fa_X1_18 sh_32 rfl ?_
      refine x_iloadn (q := 47) 2 rfl rfl dX1_weightiest_46 rfl ?_
      refine x_iald (q := 48) dX1_weightiest_47 rfl sh_37 s7 s8 (fun r18 => ?_)
      refine x_istoren (q := 49) (ls' := [(1, vI (mem 37 l2)), (0, vR 32), (2, vI l2)]) rfl (by decide) rfl dX1_weightiest_48 rfl ?_
      refine x_iinc (q := 52) (ls' := [(2, vI (l2 + 1)), (1, vI (mem 37 l2)), (0, vR 32)]) 2 rfl (by decide) rfl dX1_weightiest_49 rfl ?_
      refine x_goto (tgt := 13) dX1_weightiest_52 (by decide) ?_
      refine x_sub [2, 1, 0] rfl ?_
      exact H
abbrev E_X1_weightOfThoseWith (G : GT) (d pc : Nat) (ls : List (Nat × AV)) (st : List AV) (mem : Mem) (Q : Option AV → Mem → Prop) : Prop := Ex G RX1 cX1_weightOfThoseWith 5 (some .long) d pc ls st mem Q
abbrev C_X1_weightOfThoseWith (G : GT) (d : Nat) (as : List AV) (mem : Mem) (Q : Option AV → Mem → Prop) : Prop := Ct G yX1_weightOfThoseWith cX1_weightOfThoseWith 5 (some .long) d as mem Q
set_option maxRecDepth 20000 in
set_option maxHeartbeats 4000000 in
theorem B_X1_weightOfThoseWith {G : GT} {d : Nat} {l1 : Int} {mem : Mem} {Q : Option AV → Mem → Prop} (hd : 1 ≤ d) (H : C_X1_weigh G (d - 1) [vR 32] mem (fun r9 m1 => r9 = none ∧ (E_X1_weightOfThoseWith G d 9 [(0, vR 32), (1, vI l1), (2, vL 0), (4, vI 0)] [] m1 Q))) : C_X1_weightOfThoseWith G d [vR 32, vI l1] mem Q := by
  refine Ct_of_Ex (by decide +kernel) (by exact Nat.le_of_ble_eq_true rfl) (ls := [(0, vR 32), (1, vI l1)]) rfl ?_
  show E_X1_weightOfThoseWith G d 0 [(0, vR 32), (1, vI l1)] [] mem Q
  refine x_aloadn (q := 1) 0 rfl rfl rfl dX1_weightOfThoseWith_0 rfl ?_
  refine x_callV (q := 4) (d := d - 1) (as := []) (st := []) dX1_weightOfThoseWith_1 rfl mv_X1_113 sh_32 rfl rfl rfl (by exact Nat.le_of_ble_eq_true rfl) ⟨by show _ ≤ d; omega, by show _ ≤ 40 * d; omega⟩ ⟨Nat.le_refl _, Nat.le_refl _⟩ (Ct.mono H (fun r9 m1 H => ?_))
  obtain ⟨rfl, H⟩ := H
  show E_X1_weightOfThoseWith G d 4 [(0, vR 32), (1, vI l1)] [] m1 Q
  refine x_lconst (q := 5) (v := 0) rfl dX1_weightOfThoseWith_4 rfl ?_
  refine x_lstoren (q := 6) (ls' := [(2, vL 0), (0, vR 32), (1, vI l1)]) rfl (by decide) rfl dX1_weightOfThoseWith_5 rfl ?_
  refine x_iconst (q := 7) dX1_weightOfThoseWith_6 rfl ?_
  refine x_istore (q := 9) (ls' := [(4, vI 0), (2, vL 0), (0, vR 32), (1, vI l1)]) (by decide) rfl dX1_weightOfThoseWith_7 rfl ?_
  refine x_sub [2, 3, 1, 0] rfl ?_
  exact H
set_option maxRecDepth 20000 in
set_option maxHeartbeats 4000000 in
theorem B_X1_weightOfThoseWith_9 {G : GT} {d : Nat} {l1 : Int} {l2 : Int} {l4 : Int} {mem : Mem} {Q : Option AV → Mem → Prop} (hd : 1 ≤ d) (H : (inr l4) ∧ (((mem 32 7 ≤ l4) → (Q (some (vL l2)) mem)) ∧ (¬ (mem 32 7 ≤ l4) → ((0 ≤ l4 ∧ l4 < 4096) ∧ ((inr l1) ∧ (((iand (mem 37 l4) l1 ≠ l1) → (E_X1_weightOfThoseWith G d 9 [(0, vR 32), (1, vI l1), (2, vL l2), (4, vI (l4 + 1))] [] mem Q)) ∧ (¬ (iand (mem 37 l4) l1 ≠ l1) → ((0 ≤ mem 37 l4 ∧ mem 37 l4 < 4096) ∧ (E_X1_weightOfThoseWith G d 9 [(0, vR 32), (1, vI l1), (2, vL (l2 + (mem 41 (mem 37 l4)))), (4, vI (l4 + 1))] [] mem Q))))))))) : E_X1_weightOfThoseWith G d 9 [(0, vR 32), (1, vI l1), (2, vL l2), (4, vI l4)] [] mem Q := by
  refine x_iload (q := 11) 3 rfl dX1_weightOfThoseWith_9 rfl ?_
  refine x_aloadn (q := 12) 0 rfl rfl rfl dX1_weightOfThoseWith_11 rfl ?_
  refine x_geti (q := 15) (ji := 7) dX1_weightOfThoseWith_12 rfl fa_X1_97 sh_32 rfl rfl (fun r2 => ?_)
  obtain ⟨s3, H⟩ := H
  obtain ⟨H1, H2⟩ := H
  refine x_icmp_ge (tgt := 52) (q := 18) dX1_weightOfThoseWith_15 (by decide) rfl s3 r2 (fun hB => ?_) (fun hB => ?_)
  · have H := H1 (hB)
    refine x_lloadn (q := 53) 2 rfl rfl dX1_weightOfThoseWith_52 rfl ?_
    exact x_lret rfl dX1_weightOfThoseWith_53 H
  · have H := H2 (hB)
    refine x_aloadn (q := 19) 0 rfl rfl rfl dX1_weightOfThoseWith_18 rfl ?_
    refine x_getr (q := 22) dX1_weightOfThoseWith_19 rfl fa_X1_18 sh_32 rfl ?_
    refine x_iload (q := 24) 3 rfl dX1_weightOfThoseWith_22 rfl ?_
    obtain ⟨⟨s6, s7⟩, H⟩ := H
    refine x_iald (q := 25) dX1_weightOfThoseWith_24 rfl sh_37 s6 s7 (fun r8 => ?_)
    refine x_iloadn (q := 26) 1 rfl rfl dX1_weightOfThoseWith_25 rfl ?_
    refine x_iand (q := 27) dX1_weightOfThoseWith_26 rfl ?_
    refine x_iloadn (q := 28) 1 rfl rfl dX1_weightOfThoseWith_27 rfl ?_
    obtain ⟨s9, H⟩ := H
    obtain ⟨H1, H2⟩ := H
    refine x_icmp_ne (tgt := 46) (q := 31) dX1_weightOfThoseWith_28 (by decide) rfl (iand_inr _ _) s9 (fun hB => ?_) (fun hB => ?_)
    · have H := H1 (hB)
      refine x_iinc (q := 49) (ls' := [(4, vI (l4 + 1)), (0, vR 32), (1, vI l1), (2, vL l2)]) 3 rfl (by decide) rfl dX1_weightOfThoseWith_46 rfl ?_
      refine x_goto (tgt := 9) dX1_weightOfThoseWith_49 (by decide) ?_
      refine x_sub [1, 2, 3, 0] rfl ?_
      exact H
    · have H := H2 (hB)
      refine x_lloadn (q := 32) 2 rfl rfl dX1_weightOfThoseWith_31 rfl ?_
      refine x_aloadn (q := 33) 0 rfl rfl rfl dX1_weightOfThoseWith_32 rfl ?_
      refine x_getr (q := 36) dX1_weightOfThoseWith_33 rfl fa_X1_31 sh_32 rfl ?_
      refine x_aloadn (q := 37) 0 rfl rfl rfl dX1_weightOfThoseWith_36 rfl ?_
      refine x_getr (q := 40) dX1_weightOfThoseWith_37 rfl fa_X1_18 sh_32 rfl ?_
      refine x_iload (q := 42) 3 rfl dX1_weightOfThoseWith_40 rfl ?_
      refine x_iald (q := 43) dX1_weightOfThoseWith_42 rfl sh_37 s6 s7 (fun r12 => ?_)
      obtain ⟨⟨s13, s14⟩, H⟩ := H
      refine x_lald (q := 44) dX1_weightOfThoseWith_43 rfl sh_41 s13 s14 (fun r15 => ?_)
      refine x_ladd (q := 45) dX1_weightOfThoseWith_44 rfl ?_
      refine x_lstoren (q := 46) (ls' := [(2, vL (l2 + (mem 41 (mem 37 l4)))), (0, vR 32), (1, vI l1), (4, vI l4)]) rfl (by decide) rfl dX1_weightOfThoseWith_45 rfl ?_
      refine x_iinc (q := 49) (ls' := [(4, vI (l4 + 1)), (2, vL (l2 + (mem 41 (mem 37 l4)))), (0, vR 32), (1, vI l1)]) 3 rfl (by decide) rfl dX1_weightOfThoseWith_46 rfl ?_
      refine x_goto (tgt := 9) dX1_weightOfThoseWith_49 (by decide) ?_
      refine x_sub [2, 3, 1, 0] rfl ?_
      exact H
abbrev E_X1_priceEach (G : GT) (d pc : Nat) (ls : List (Nat × AV)) (st : List AV) (mem : Mem) (Q : Option AV → Mem → Prop) : Prop := Ex G RX1 cX1_priceEach 4 none d pc ls st mem Q
abbrev C_X1_priceEach (G : GT) (d : Nat) (as : List AV) (mem : Mem) (Q : Option AV → Mem → Prop) : Prop := Ct G yX1_priceEach cX1_priceEach 4 none d as mem Q
set_option maxRecDepth 20000 in
set_option maxHeartbeats 4000000 in
theorem B_X1_priceEach {G : GT} {d : Nat}  {mem : Mem} {Q : Option AV → Mem → Prop} (H : ∀ m1 : Mem, m1 = upM mem 40 0 0 → (E_X1_priceEach G d 9 [(0, vR 32), (1, vI 0)] [] m1 Q)) : C_X1_priceEach G d [vR 32] mem Q := by
  refine Ct_of_Ex (by decide +kernel) (by exact Nat.le_of_ble_eq_true rfl) (ls := [(0, vR 32)]) rfl ?_
  show E_X1_priceEach G d 0 [(0, vR 32)] [] mem Q
  refine x_aloadn (q := 1) 0 rfl rfl rfl dX1_priceEach_0 rfl ?_
  refine x_getr (q := 4) dX1_priceEach_1 rfl fa_X1_28 sh_32 rfl ?_
  refine x_iconst (q := 5) dX1_priceEach_4 rfl ?_
  refine x_iconst (q := 6) dX1_priceEach_5 rfl ?_
  refine x_iast (q := 7) dX1_priceEach_6 rfl sh_40 (by decide) (by decide) (by decide) (fun m1 em1 => ?_)
  have H := H m1 em1
  refine x_iconst (q := 8) dX1_priceEach_7 rfl ?_
  refine x_istoren (q := 9) (ls' := [(1, vI 0), (0, vR 32)]) rfl (by decide) rfl dX1_priceEach_8 rfl ?_
  refine x_sub [1, 0] rfl ?_
  exact H
set_option maxRecDepth 20000 in
set_option maxHeartbeats 4000000 in
theorem B_X1_priceEach_9 {G : GT} {d : Nat} {l1 : Int} {mem : Mem} {Q : Option AV → Mem → Prop} (H : (inr l1) ∧ (((mem 1 0 ≤ l1) → (Q none mem)) ∧ (¬ (mem 1 0 ≤ l1) → (E_X1_priceEach G d 26 [(0, vR 32), (1, vI l1), (2, vI (ishl 1 l1)), (3, vI 0)] [] mem Q)))) : E_X1_priceEach G d 9 [(0, vR 32), (1, vI l1)] [] mem Q := by
  refine x_iloadn (q := 10) 1 rfl rfl dX1_priceEach_9 rfl ?_
  refine x_aloadn (q := 11) 0 rfl rfl rfl dX1_priceEach_10 rfl ?_
  refine x_getr (q := 14) dX1_priceEach_11 rfl fa_X1_35 sh_32 rfl ?_
  refine x_geti (q := 17) (ji := 0) dX1_priceEach_14 rfl fa_X1_78 sh_1 rfl rfl (fun r2 => ?_)
  obtain ⟨s3, H⟩ := H
  obtain ⟨H1, H2⟩ := H
  refine x_icmp_ge (tgt := 67) (q := 20) dX1_priceEach_17 (by decide) rfl s3 r2 (fun hB => ?_) (fun hB => ?_)
  · have H := H1 (hB)
    exact x_vret rfl dX1_priceEach_67 H
  · have H := H2 (hB)
    refine x_iconst (q := 21) dX1_priceEach_20 rfl ?_
    refine x_iloadn (q := 22) 1 rfl rfl dX1_priceEach_21 rfl ?_
    refine x_ishl (q := 23) dX1_priceEach_22 rfl ?_
    refine x_istoren (q := 24) (ls' := [(2, vI (ishl 1 l1)), (0, vR 32), (1, vI l1)]) rfl (by decide) rfl dX1_priceEach_23 rfl ?_
    refine x_iconst (q := 25) dX1_priceEach_24 rfl ?_
    refine x_istoren (q := 26) (ls' := [(3, vI 0), (2, vI (ishl 1 l1)), (0, vR 32), (1, vI l1)]) rfl (by decide) rfl dX1_priceEach_25 rfl ?_
    refine x_sub [2, 3, 1, 0] rfl ?_
    exact H
set_option maxRecDepth 20000 in
set_option maxHeartbeats 4000000 in
theorem B_X1_priceEach_26 {G : GT} {d : Nat} {l1 : Int} {l2 : Int} {l3 : Int} {mem : Mem} {Q : Option AV → Mem → Prop} (H : (inr l3 ∧ inr l2) ∧ (((l2 ≤ l3) → (E_X1_priceEach G d 9 [(0, vR 32), (1, vI (l1 + 1))] [] mem Q)) ∧ (¬ (l2 ≤ l3) → ((0 ≤ l3 ∧ l3 < 4096) ∧ ((0 ≤ l1 ∧ l1 < 12) ∧ ((0 ≤ l2 + l3 ∧ l2 + l3 < 4096) ∧ ((inr ((mem 40 l3) + (mem 3 l1))) ∧ (∀ m18 : Mem, m18 = upM mem 40 (l2 + l3) ((mem 40 l3) + (mem 3 l1)) → (E_X1_priceEach G d 26 [(0, vR 32), (1, vI l1), (2, vI l2), (3, vI (l3 + 1))] [] m18 Q))))))))) : E_X1_priceEach G d 26 [(0, vR 32), (1, vI l1), (2, vI l2), (3, vI l3)] [] mem Q := by
  refine x_iloadn (q := 27) 3 rfl rfl dX1_priceEach_26 rfl ?_
  refine x_iloadn (q := 28) 2 rfl rfl dX1_priceEach_27 rfl ?_
  obtain ⟨⟨s6, s7⟩, H⟩ := H
  obtain ⟨H1, H2⟩ := H
  refine x_icmp_ge (tgt := 61) (q := 31) dX1_priceEach_28 (by decide) rfl s6 s7 (fun hB => ?_) (fun hB => ?_)
  · have H := H1 (hB)
    refine x_iinc (q := 64) (ls' := [(1, vI (l1 + 1)), (0, vR 32), (2, vI l2), (3, vI l3)]) 1 rfl (by decide) rfl dX1_priceEach_61 rfl ?_
    refine x_goto (tgt := 9) dX1_priceEach_64 (by decide) ?_
    refine x_sub [1, 0] rfl ?_
    exact H
  · have H := H2 (hB)
    refine x_aloadn (q := 32) 0 rfl rfl rfl dX1_priceEach_31 rfl ?_
    refine x_getr (q := 35) dX1_priceEach_32 rfl fa_X1_28 sh_32 rfl ?_
    refine x_iloadn (q := 36) 2 rfl rfl dX1_priceEach_35 rfl ?_
    refine x_iloadn (q := 37) 3 rfl rfl dX1_priceEach_36 rfl ?_
    refine x_iadd (q := 38) dX1_priceEach_37 rfl ?_
    refine x_aloadn (q := 39) 0 rfl rfl rfl dX1_priceEach_38 rfl ?_
    refine x_getr (q := 42) dX1_priceEach_39 rfl fa_X1_28 sh_32 rfl ?_
    refine x_iloadn (q := 43) 3 rfl rfl dX1_priceEach_42 rfl ?_
    obtain ⟨⟨s10, s11⟩, H⟩ := H
    refine x_iald (q := 44) dX1_priceEach_43 rfl sh_40 s10 s11 (fun r12 => ?_)
    refine x_aloadn (q := 45) 0 rfl rfl rfl dX1_priceEach_44 rfl ?_
    refine x_getr (q := 48) dX1_priceEach_45 rfl fa_X1_35 sh_32 rfl ?_
    refine x_getr (q := 51) dX1_priceEach_48 rfl fa_X1_116 sh_1 rfl ?_
    refine x_iloadn (q := 52) 1 rfl rfl dX1_priceEach_51 rfl ?_
    obtain ⟨⟨s13, s14⟩, H⟩ := H
    refine x_iald (q := 53) dX1_priceEach_52 rfl sh_3 s13 s14 (fun r15 => ?_)
    refine x_iadd (q := 54) dX1_priceEach_53 rfl ?_
    obtain ⟨⟨s16, s17⟩, H⟩ := H
    obtain ⟨s19, H⟩ := H
    refine x_iast (q := 55) dX1_priceEach_54 rfl sh_40 s16 s17 s19 (fun m18 em18 => ?_)
    have H := H m18 em18
    refine x_iinc (q := 58) (ls' := [(3, vI (l3 + 1)), (0, vR 32), (1, vI l1), (2, vI l2)]) 3 rfl (by decide) rfl dX1_priceEach_55 rfl ?_
    refine x_goto (tgt := 26) dX1_priceEach_58 (by decide) ?_
    refine x_sub [1, 2, 3, 0] rfl ?_
    exact H
abbrev E_X1_markEach (G : GT) (d pc : Nat) (ls : List (Nat × AV)) (st : List AV) (mem : Mem) (Q : Option AV → Mem → Prop) : Prop := Ex G RX1 cX1_markEach 3 none d pc ls st mem Q
abbrev C_X1_markEach (G : GT) (d : Nat) (as : List AV) (mem : Mem) (Q : Option AV → Mem → Prop) : Prop := Ct G yX1_markEach cX1_markEach 3 none d as mem Q
set_option maxRecDepth 20000 in
set_option maxHeartbeats 4000000 in
theorem B_X1_markEach {G : GT} {d : Nat}  {mem : Mem} {Q : Option AV → Mem → Prop} (H : E_X1_markEach G d 12 [(0, vR 32), (1, vI (ishl 1 (mem 1 0))), (2, vI 0)] [] mem Q) : C_X1_markEach G d [vR 32] mem Q := by
  refine Ct_of_Ex (by decide +kernel) (by exact Nat.le_of_ble_eq_true rfl) (ls := [(0, vR 32)]) rfl ?_
  show E_X1_markEach G d 0 [(0, vR 32)] [] mem Q
  refine x_iconst (q := 1) dX1_markEach_0 rfl ?_
  refine x_aloadn (q := 2) 0 rfl rfl rfl dX1_markEach_1 rfl ?_
  refine x_getr (q := 5) dX1_markEach_2 rfl fa_X1_35 sh_32 rfl ?_
  refine x_geti (q := 8) (ji := 0) dX1_markEach_5 rfl fa_X1_78 sh_1 rfl rfl (fun r1 => ?_)
  refine x_ishl (q := 9) dX1_markEach_8 rfl ?_
  refine x_istoren (q := 10) (ls' := [(1, vI (ishl 1 (mem 1 0))), (0, vR 32)]) rfl (by decide) rfl dX1_markEach_9 rfl ?_
  refine x_iconst (q := 11) dX1_markEach_10 rfl ?_
  refine x_istoren (q := 12) (ls' := [(2, vI 0), (1, vI (ishl 1 (mem 1 0))), (0, vR 32)]) rfl (by decide) rfl dX1_markEach_11 rfl ?_
  refine x_sub [2, 1, 0] rfl ?_
  exact H
set_option maxRecDepth 20000 in
set_option maxHeartbeats 4000000 in
theorem B_X1_markEach_12 {G : GT} {d : Nat} {l1 : Int} {l2 : Int} {mem : Mem} {Q : Option AV → Mem → Prop} (H : (inr l2 ∧ inr l1) ∧ (((l1 ≤ l2) → (E_X1_markEach G d 32 [(0, vR 32), (2, vI 0)] [] mem Q)) ∧ (¬ (l1 ≤ l2) → ((0 ≤ l2 ∧ l2 < 4096) ∧ (∀ m8 : Mem, m8 = upM mem 39 l2 0 → (E_X1_markEach G d 12 [(0, vR 32), (1, vI l1), (2, vI (l2 + 1))] [] m8 Q)))))) : E_X1_markEach G d 12 [(0, vR 32), (1, vI l1), (2, vI l2)] [] mem Q := by
  refine x_iloadn (q := 13) 2 rfl rfl dX1_markEach_12 rfl ?_
  refine x_iloadn (q := 14) 1 rfl rfl dX1_markEach_13 rfl ?_
  obtain ⟨⟨s2, s3⟩, H⟩ := H
  obtain ⟨H1, H2⟩ := H
  refine x_icmp_ge (tgt := 30) (q := 17) dX1_markEach_14 (by decide) rfl s2 s3 (fun hB => ?_) (fun hB => ?_)
  · have H := H1 (hB)
    refine x_iconst (q := 31) dX1_markEach_30 rfl ?_
    refine x_istoren (q := 32) (ls' := [(2, vI 0), (0, vR 32), (1, vI l1)]) rfl (by decide) rfl dX1_markEach_31 rfl ?_
    refine x_sub [1, 0] rfl ?_
    exact H
  · have H := H2 (hB)
    refine x_aloadn (q := 18) 0 rfl rfl rfl dX1_markEach_17 rfl ?_
    refine x_getr (q := 21) dX1_markEach_18 rfl fa_X1_25 sh_32 rfl ?_
    refine x_iloadn (q := 22) 2 rfl rfl dX1_markEach_21 rfl ?_
    refine x_iconst (q := 23) dX1_markEach_22 rfl ?_
    obtain ⟨⟨s6, s7⟩, H⟩ := H
    refine x_iast (q := 24) dX1_markEach_23 rfl sh_39 s6 s7 (by decide) (fun m8 em8 => ?_)
    have H := H m8 em8
    refine x_iinc (q := 27) (ls' := [(2, vI (l2 + 1)), (0, vR 32), (1, vI l1)]) 2 rfl (by decide) rfl dX1_markEach_24 rfl ?_
    refine x_goto (tgt := 12) dX1_markEach_27 (by decide) ?_
    refine x_sub [1, 2, 0] rfl ?_
    exact H
set_option maxRecDepth 20000 in
set_option maxHeartbeats 4000000 in
theorem B_X1_markEach_32 {G : GT} {d : Nat} {l2 : Int} {mem : Mem} {Q : Option AV → Mem → Prop} (H : (inr l2) ∧ (((mem 32 7 ≤ l2) → (Q none mem)) ∧ (¬ (mem 32 7 ≤ l2) → ((0 ≤ l2 ∧ l2 < 4096) ∧ ((0 ≤ mem 37 l2 ∧ mem 37 l2 < 4096) ∧ (∀ m18 : Mem, m18 = upM mem 39 (mem 37 l2) 1 → (E_X1_markEach G d 32 [(0, vR 32), (2, vI (l2 + 1))] [] m18 Q))))))) : E_X1_markEach G d 32 [(0, vR 32), (2, vI l2)] [] mem Q := by
  refine x_iloadn (q := 33) 1 rfl rfl dX1_markEach_32 rfl ?_
  refine x_aloadn (q := 34) 0 rfl rfl rfl dX1_markEach_33 rfl ?_
  refine x_geti (q := 37) (ji := 7) dX1_markEach_34 rfl fa_X1_97 sh_32 rfl rfl (fun r9 => ?_)
  obtain ⟨s10, H⟩ := H
  obtain ⟨H1, H2⟩ := H
  refine x_icmp_ge (tgt := 58) (q := 40) dX1_markEach_37 (by decide) rfl s10 r9 (fun hB => ?_) (fun hB => ?_)
  · have H := H1 (hB)
    exact x_vret rfl dX1_markEach_58 H
  · have H := H2 (hB)
    refine x_aloadn (q := 41) 0 rfl rfl rfl dX1_markEach_40 rfl ?_
    refine x_getr (q := 44) dX1_markEach_41 rfl fa_X1_25 sh_32 rfl ?_
    refine x_aloadn (q := 45) 0 rfl rfl rfl dX1_markEach_44 rfl ?_
    refine x_getr (q := 48) dX1_markEach_45 rfl fa_X1_18 sh_32 rfl ?_
    refine x_iloadn (q := 49) 1 rfl rfl dX1_markEach_48 rfl ?_
    obtain ⟨⟨s13, s14⟩, H⟩ := H
    refine x_iald (q := 50) dX1_markEach_49 rfl sh_37 s13 s14 (fun r15 => ?_)
    refine x_iconst (q := 51) dX1_markEach_50 rfl ?_
    obtain ⟨⟨s16, s17⟩, H⟩ := H
    refine x_iast (q := 52) dX1_markEach_51 rfl sh_39 s16 s17 (by decide) (fun m18 em18 => ?_)
    have H := H m18 em18
    refine x_iinc (q := 55) (ls' := [(2, vI (l2 + 1)), (0, vR 32)]) 1 rfl (by decide) rfl dX1_markEach_52 rfl ?_
    refine x_goto (tgt := 32) dX1_markEach_55 (by decide) ?_
    refine x_sub [1, 0] rfl ?_
    exact H
abbrev E_X1_countThoseIn (G : GT) (d pc : Nat) (ls : List (Nat × AV)) (st : List AV) (mem : Mem) (Q : Option AV → Mem → Prop) : Prop := Ex G RX1 cX1_countThoseIn 5 none d pc ls st mem Q
abbrev C_X1_countThoseIn (G : GT) (d : Nat) (as : List AV) (mem : Mem) (Q : Option AV → Mem → Prop) : Prop := Ct G yX1_countThoseIn cX1_countThoseIn 5 none d as mem Q
set_option maxRecDepth 20000 in
set_option maxHeartbeats 4000000 in
theorem B_X1_countThoseIn {G : GT} {d : Nat}  {mem : Mem} {Q : Option AV → Mem → Prop} (hd : 1 ≤ d) (H : C_X1_markEach G (d - 1) [vR 32] mem (fun r9 m1 => r9 = none ∧ (E_X1_countThoseIn G d 16 [(0, vR 32), (1, vI (ishl 1 (m1 1 0))), (2, vI 1)] [] m1 Q))) : C_X1_countThoseIn G d [vR 32] mem Q := by
  refine Ct_of_Ex (by decide +kernel) (by exact Nat.le_of_ble_eq_true rfl) (ls := [(0, vR 32)]) rfl ?_
  show E_X1_countThoseIn G d 0 [(0, vR 32)] [] mem Q
  refine x_aloadn (q := 1) 0 rfl rfl rfl dX1_countThoseIn_0 rfl ?_
  refine x_callV (q := 4) (d := d - 1) (as := []) (st := []) dX1_countThoseIn_1 rfl mv_X1_117 sh_32 rfl rfl rfl (by exact Nat.le_of_ble_eq_true rfl) ⟨by show _ ≤ d; omega, by show _ ≤ 40 * d; omega⟩ ⟨Nat.le_refl _, Nat.le_refl _⟩ (Ct.mono H (fun r9 m1 H => ?_))
  obtain ⟨rfl, H⟩ := H
  show E_X1_countThoseIn G d 4 [(0, vR 32)] [] m1 Q
  refine x_iconst (q := 5) dX1_countThoseIn_4 rfl ?_
  refine x_aloadn (q := 6) 0 rfl rfl rfl dX1_countThoseIn_5 rfl ?_
  refine x_getr (q := 9) dX1_countThoseIn_6 rfl fa_X1_35 sh_32 rfl ?_
  refine x_geti (q := 12) (ji := 0) dX1_countThoseIn_9 rfl fa_X1_78 sh_1 rfl rfl (fun r2 => ?_)
  refine x_ishl (q := 13) dX1_countThoseIn_12 rfl ?_
  refine x_istoren (q := 14) (ls' := [(1, vI (ishl 1 (m1 1 0))), (0, vR 32)]) rfl (by decide) rfl dX1_countThoseIn_13 rfl ?_
  refine x_iconst (q := 15) dX1_countThoseIn_14 rfl ?_
  refine x_istoren (q := 16) (ls' := [(2, vI 1), (1, vI (ishl 1 (m1 1 0))), (0, vR 32)]) rfl (by decide) rfl dX1_countThoseIn_15 rfl ?_
  refine x_sub [2, 1, 0] rfl ?_
  exact H
set_option maxRecDepth 20000 in
set_option maxHeartbeats 4000000 in
theorem B_X1_countThoseIn_16 {G : GT} {d : Nat} {l1 : Int} {l2 : Int} {mem : Mem} {Q : Option AV → Mem → Prop} (hd : 1 ≤ d) (H : (inr l2 ∧ inr l1) ∧ (((l1 ≤ l2) → (Q none mem)) ∧ (¬ (l1 ≤ l2) → (E_X1_countThoseIn G d 23 [(0, vR 32), (1, vI l1), (2, vI l2), (3, vI 0)] [] mem Q)))) : E_X1_countThoseIn G d 16 [(0, vR 32), (1, vI l1), (2, vI l2)] [] mem Q := by
  refine x_iloadn (q := 17) 2 rfl rfl dX1_countThoseIn_16 rfl ?_
  refine x_iloadn (q := 18) 1 rfl rfl dX1_countThoseIn_17 rfl ?_
  obtain ⟨⟨s3, s4⟩, H⟩ := H
  obtain ⟨H1, H2⟩ := H
  refine x_icmp_ge (tgt := 80) (q := 21) dX1_countThoseIn_18 (by decide) rfl s3 s4 (fun hB => ?_) (fun hB => ?_)
  · have H := H1 (hB)
    exact x_vret rfl dX1_countThoseIn_80 H
  · have H := H2 (hB)
    refine x_iconst (q := 22) dX1_countThoseIn_21 rfl ?_
    refine x_istoren (q := 23) (ls' := [(3, vI 0), (0, vR 32), (1, vI l1), (2, vI l2)]) rfl (by decide) rfl dX1_countThoseIn_22 rfl ?_
    refine x_sub [1, 2, 3, 0] rfl ?_
    exact H
set_option maxRecDepth 20000 in
set_option maxHeartbeats 4000000 in
theorem B_X1_countThoseIn_23 {G : GT} {d : Nat} {l1 : Int} {l2 : Int} {l3 : Int} {mem : Mem} {Q : Option AV → Mem → Prop} (hd : 1 ≤ d) (H : (inr l3 ∧ inr l1) ∧ (((l1 ≤ l3) → (E_X1_countThoseIn G d 16 [(0, vR 32), (1, vI l1), (2, vI (l2 * 2))] [] mem Q)) ∧ (¬ (l1 ≤ l3) → (E_X1_countThoseIn G d 31 [(0, vR 32), (1, vI l1), (2, vI l2), (3, vI l3), (4, vI l3)] [] mem Q)))) : E_X1_countThoseIn G d 23 [(0, vR 32), (1, vI l1), (2, vI l2), (3, vI l3)] [] mem Q := by
  refine x_iloadn (q := 24) 3 rfl rfl dX1_countThoseIn_23 rfl ?_
  refine x_iloadn (q := 25) 1 rfl rfl dX1_countThoseIn_24 rfl ?_
  obtain ⟨⟨s7, s8⟩, H⟩ := H
  obtain ⟨H1, H2⟩ := H
  refine x_icmp_ge (tgt := 73) (q := 28) dX1_countThoseIn_25 (by decide) rfl s7 s8 (fun hB => ?_) (fun hB => ?_)
  · have H := H1 (hB)
    refine x_iloadn (q := 74) 2 rfl rfl dX1_countThoseIn_73 rfl ?_
    refine x_iconst (q := 75) dX1_countThoseIn_74 rfl ?_
    refine x_imul (q := 76) dX1_countThoseIn_75 rfl ?_
    refine x_istoren (q := 77) (ls' := [(2, vI (l2 * 2)), (0, vR 32), (1, vI l1), (3, vI l3)]) rfl (by decide) rfl dX1_countThoseIn_76 rfl ?_
    refine x_goto (tgt := 16) dX1_countThoseIn_77 (by decide) ?_
    refine x_sub [1, 2, 0] rfl ?_
    exact H
  · have H := H2 (hB)
    refine x_iloadn (q := 29) 3 rfl rfl dX1_countThoseIn_28 rfl ?_
    refine x_istore (q := 31) (ls' := [(4, vI l3), (0, vR 32), (1, vI l1), (2, vI l2), (3, vI l3)]) (by decide) rfl dX1_countThoseIn_29 rfl ?_
    refine x_sub [1, 2, 3, 4, 0] rfl ?_
    exact H
set_option maxRecDepth 20000 in
set_option maxHeartbeats 4000000 in
theorem B_X1_countThoseIn_31 {G : GT} {d : Nat} {l1 : Int} {l2 : Int} {l3 : Int} {l4 : Int} {mem : Mem} {Q : Option AV → Mem → Prop} (hd : 1 ≤ d) (H : (inr l4 ∧ inr (l3 + l2)) ∧ (((l3 + l2 ≤ l4) → (E_X1_countThoseIn G d 23 [(0, vR 32), (1, vI l1), (2, vI l2), (3, vI (l3 + (2 * l2)))] [] mem Q)) ∧ (¬ (l3 + l2 ≤ l4) → ((0 ≤ l4 + l2 ∧ l4 + l2 < 4096) ∧ ((0 ≤ l4 ∧ l4 < 4096) ∧ ((inr ((mem 39 (l4 + l2)) + (mem 39 l4))) ∧ (∀ m21 : Mem, m21 = upM mem 39 (l4 + l2) ((mem 39 (l4 + l2)) + (mem 39 l4)) → (E_X1_countThoseIn G d 31 [(0, vR 32), (1, vI l1), (2, vI l2), (3, vI l3), (4, vI (l4 + 1))] [] m21 Q)))))))) : E_X1_countThoseIn G d 31 [(0, vR 32), (1, vI l1), (2, vI l2), (3, vI l3), (4, vI l4)] [] mem Q := by
  refine x_iload (q := 33) 4 rfl dX1_countThoseIn_31 rfl ?_
  refine x_iloadn (q := 34) 3 rfl rfl dX1_countThoseIn_33 rfl ?_
  refine x_iloadn (q := 35) 2 rfl rfl dX1_countThoseIn_34 rfl ?_
  refine x_iadd (q := 36) dX1_countThoseIn_35 rfl ?_
  obtain ⟨⟨s11, s12⟩, H⟩ := H
  obtain ⟨H1, H2⟩ := H
  refine x_icmp_ge (tgt := 64) (q := 39) dX1_countThoseIn_36 (by decide) rfl s11 s12 (fun hB => ?_) (fun hB => ?_)
  · have H := H1 (hB)
    refine x_iloadn (q := 65) 3 rfl rfl dX1_countThoseIn_64 rfl ?_
    refine x_iconst (q := 66) dX1_countThoseIn_65 rfl ?_
    refine x_iloadn (q := 67) 2 rfl rfl dX1_countThoseIn_66 rfl ?_
    refine x_imul (q := 68) dX1_countThoseIn_67 rfl ?_
    refine x_iadd (q := 69) dX1_countThoseIn_68 rfl ?_
    refine x_istoren (q := 70) (ls' := [(3, vI (l3 + (2 * l2))), (0, vR 32), (1, vI l1), (2, vI l2), (4, vI l4)]) rfl (by decide) rfl dX1_countThoseIn_69 rfl ?_
    refine x_goto (tgt := 23) dX1_countThoseIn_70 (by decide) ?_
    refine x_sub [1, 2, 3, 0] rfl ?_
    exact H
  · have H := H2 (hB)
    refine x_aloadn (q := 40) 0 rfl rfl rfl dX1_countThoseIn_39 rfl ?_
    refine x_getr (q := 43) dX1_countThoseIn_40 rfl fa_X1_25 sh_32 rfl ?_
    refine x_iload (q := 45) 4 rfl dX1_countThoseIn_43 rfl ?_
    refine x_iloadn (q := 46) 2 rfl rfl dX1_countThoseIn_45 rfl ?_
    refine x_iadd (q := 47) dX1_countThoseIn_46 rfl ?_
    refine x_dup2 (q := 48) (by exact Nat.ne_of_beq_eq_false rfl) (by exact Nat.ne_of_beq_eq_false rfl) dX1_countThoseIn_47 rfl ?_
    obtain ⟨⟨s15, s16⟩, H⟩ := H
    refine x_iald (q := 49) dX1_countThoseIn_48 rfl sh_39 s15 s16 (fun r17 => ?_)
    refine x_aloadn (q := 50) 0 rfl rfl rfl dX1_countThoseIn_49 rfl ?_
    refine x_getr (q := 53) dX1_countThoseIn_50 rfl fa_X1_25 sh_32 rfl ?_
    refine x_iload (q := 55) 4 rfl dX1_countThoseIn_53 rfl ?_
    obtain ⟨⟨s18, s19⟩, H⟩ := H
    refine x_iald (q := 56) dX1_countThoseIn_55 rfl sh_39 s18 s19 (fun r20 => ?_)
    refine x_iadd (q := 57) dX1_countThoseIn_56 rfl ?_
    obtain ⟨s22, H⟩ := H
    refine x_iast (q := 58) dX1_countThoseIn_57 rfl sh_39 s15 s16 s22 (fun m21 em21 => ?_)
    have H := H m21 em21
    refine x_iinc (q := 61) (ls' := [(4, vI (l4 + 1)), (0, vR 32), (1, vI l1), (2, vI l2), (3, vI l3)]) 4 rfl (by decide) rfl dX1_countThoseIn_58 rfl ?_
    refine x_goto (tgt := 31) dX1_countThoseIn_61 (by decide) ?_
    refine x_sub [1, 2, 3, 4, 0] rfl ?_
    exact H
abbrev E_X1_countThoseWith (G : GT) (d pc : Nat) (ls : List (Nat × AV)) (st : List AV) (mem : Mem) (Q : Option AV → Mem → Prop) : Prop := Ex G RX1 cX1_countThoseWith 5 none d pc ls st mem Q
abbrev C_X1_countThoseWith (G : GT) (d : Nat) (as : List AV) (mem : Mem) (Q : Option AV → Mem → Prop) : Prop := Ct G yX1_countThoseWith cX1_countThoseWith 5 none d as mem Q
set_option maxRecDepth 20000 in
set_option maxHeartbeats 4000000 in
theorem B_X1_countThoseWith {G : GT} {d : Nat}  {mem : Mem} {Q : Option AV → Mem → Prop} (hd : 1 ≤ d) (H : C_X1_markEach G (d - 1) [vR 32] mem (fun r9 m1 => r9 = none ∧ (E_X1_countThoseWith G d 16 [(0, vR 32), (1, vI (ishl 1 (m1 1 0))), (2, vI 1)] [] m1 Q))) : C_X1_countThoseWith G d [vR 32] mem Q := by
  refine Ct_of_Ex (by decide +kernel) (by exact Nat.le_of_ble_eq_true rfl) (ls := [(0, vR 32)]) rfl ?_
  show E_X1_countThoseWith G d 0 [(0, vR 32)] [] mem Q
  refine x_aloadn (q := 1) 0 rfl rfl rfl dX1_countThoseWith_0 rfl ?_
  refine x_callV (q := 4) (d := d - 1) (as := []) (st := []) dX1_countThoseWith_1 rfl mv_X1_117 sh_32 rfl rfl rfl (by exact Nat.le_of_ble_eq_true rfl) ⟨by show _ ≤ d; omega, by show _ ≤ 40 * d; omega⟩ ⟨Nat.le_refl _, Nat.le_refl _⟩ (Ct.mono H (fun r9 m1 H => ?_))
  obtain ⟨rfl, H⟩ := H
  show E_X1_countThoseWith G d 4 [(0, vR 32)] [] m1 Q
  refine x_iconst (q := 5) dX1_countThoseWith_4 rfl ?_
  refine x_aloadn (q := 6) 0 rfl rfl rfl dX1_countThoseWith_5 rfl ?_
  refine x_getr (q := 9) dX1_countThoseWith_6 rfl fa_X1_35 sh_32 rfl ?_
  refine x_geti (q := 12) (ji := 0) dX1_countThoseWith_9 rfl fa_X1_78 sh_1 rfl rfl (fun r2 => ?_)
  refine x_ishl (q := 13) dX1_countThoseWith_12 rfl ?_
  refine x_istoren (q := 14) (ls' := [(1, vI (ishl 1 (m1 1 0))), (0, vR 32)]) rfl (by decide) rfl dX1_countThoseWith_13 rfl ?_
  refine x_iconst (q := 15) dX1_countThoseWith_14 rfl ?_
  refine x_istoren (q := 16) (ls' := [(2, vI 1), (1, vI (ishl 1 (m1 1 0))), (0, vR 32)]) rfl (by decide) rfl dX1_countThoseWith_15 rfl ?_
  refine x_sub [2, 1, 0] rfl ?_
  exact H
set_option maxRecDepth 20000 in
set_option maxHeartbeats 4000000 in
theorem B_X1_countThoseWith_16 {G : GT} {d : Nat} {l1 : Int} {l2 : Int} {mem : Mem} {Q : Option AV → Mem → Prop} (hd : 1 ≤ d) (H : (inr l2 ∧ inr l1) ∧ (((l1 ≤ l2) → (Q none mem)) ∧ (¬ (l1 ≤ l2) → (E_X1_countThoseWith G d 23 [(0, vR 32), (1, vI l1), (2, vI l2), (3, vI 0)] [] mem Q)))) : E_X1_countThoseWith G d 16 [(0, vR 32), (1, vI l1), (2, vI l2)] [] mem Q := by
  refine x_iloadn (q := 17) 2 rfl rfl dX1_countThoseWith_16 rfl ?_
  refine x_iloadn (q := 18) 1 rfl rfl dX1_countThoseWith_17 rfl ?_
  obtain ⟨⟨s3, s4⟩, H⟩ := H
  obtain ⟨H1, H2⟩ := H
  refine x_icmp_ge (tgt := 80) (q := 21) dX1_countThoseWith_18 (by decide) rfl s3 s4 (fun hB => ?_) (fun hB => ?_)
  · have H := H1 (hB)
    exact x_vret rfl dX1_countThoseWith_80 H
  · have H := H2 (hB)
    refine x_iconst (q := 22) dX1_countThoseWith_21 rfl ?_
    refine x_istoren (q := 23) (ls' := [(3, vI 0), (0, vR 32), (1, vI l1), (2, vI l2)]) rfl (by decide) rfl dX1_countThoseWith_22 rfl ?_
    refine x_sub [1, 2, 3, 0] rfl ?_
    exact H
set_option maxRecDepth 20000 in
set_option maxHeartbeats 4000000 in
theorem B_X1_countThoseWith_23 {G : GT} {d : Nat} {l1 : Int} {l2 : Int} {l3 : Int} {mem : Mem} {Q : Option AV → Mem → Prop} (hd : 1 ≤ d) (H : (inr l3 ∧ inr l1) ∧ (((l1 ≤ l3) → (E_X1_countThoseWith G d 16 [(0, vR 32), (1, vI l1), (2, vI (l2 * 2))] [] mem Q)) ∧ (¬ (l1 ≤ l3) → (E_X1_countThoseWith G d 31 [(0, vR 32), (1, vI l1), (2, vI l2), (3, vI l3), (4, vI l3)] [] mem Q)))) : E_X1_countThoseWith G d 23 [(0, vR 32), (1, vI l1), (2, vI l2), (3, vI l3)] [] mem Q := by
  refine x_iloadn (q := 24) 3 rfl rfl dX1_countThoseWith_23 rfl ?_
  refine x_iloadn (q := 25) 1 rfl rfl dX1_countThoseWith_24 rfl ?_
  obtain ⟨⟨s7, s8⟩, H⟩ := H
  obtain ⟨H1, H2⟩ := H
  refine x_icmp_ge (tgt := 73) (q := 28) dX1_countThoseWith_25 (by decide) rfl s7 s8 (fun hB => ?_) (fun hB => ?_)
  · have H := H1 (hB)
    refine x_iloadn (q := 74) 2 rfl rfl dX1_countThoseWith_73 rfl ?_
    refine x_iconst (q := 75) dX1_countThoseWith_74 rfl ?_
    refine x_imul (q := 76) dX1_countThoseWith_75 rfl ?_
    refine x_istoren (q := 77) (ls' := [(2, vI (l2 * 2)), (0, vR 32), (1, vI l1), (3, vI l3)]) rfl (by decide) rfl dX1_countThoseWith_76 rfl ?_
    refine x_goto (tgt := 16) dX1_countThoseWith_77 (by decide) ?_
    refine x_sub [1, 2, 0] rfl ?_
    exact H
  · have H := H2 (hB)
    refine x_iloadn (q := 29) 3 rfl rfl dX1_countThoseWith_28 rfl ?_
    refine x_istore (q := 31) (ls' := [(4, vI l3), (0, vR 32), (1, vI l1), (2, vI l2), (3, vI l3)]) (by decide) rfl dX1_countThoseWith_29 rfl ?_
    refine x_sub [1, 2, 3, 4, 0] rfl ?_
    exact H
set_option maxRecDepth 20000 in
set_option maxHeartbeats 4000000 in
theorem B_X1_countThoseWith_31 {G : GT} {d : Nat} {l1 : Int} {l2 : Int} {l3 : Int} {l4 : Int} {mem : Mem} {Q : Option AV → Mem → Prop} (hd : 1 ≤ d) (H : (inr l4 ∧ inr (l3 + l2)) ∧ (((l3 + l2 ≤ l4) → (E_X1_countThoseWith G d 23 [(0, vR 32), (1, vI l1), (2, vI l2), (3, vI (l3 + (2 * l2)))] [] mem Q)) ∧ (¬ (l3 + l2 ≤ l4) → ((0 ≤ l4 ∧ l4 < 4096) ∧ ((0 ≤ l4 + l2 ∧ l4 + l2 < 4096) ∧ ((inr ((mem 39 l4) + (mem 39 (l4 + l2)))) ∧ (∀ m21 : Mem, m21 = upM mem 39 l4 ((mem 39 l4) + (mem 39 (l4 + l2))) → (E_X1_countThoseWith G d 31 [(0, vR 32), (1, vI l1), (2, vI l2), (3, vI l3), (4, vI (l4 + 1))] [] m21 Q)))))))) : E_X1_countThoseWith G d 31 [(0, vR 32), (1, vI l1), (2, vI l2), (3, vI l3), (4, vI l4)] [] mem Q := by
  refine x_iload (q := 33) 4 rfl dX1_countThoseWith_31 rfl ?_
  refine x_iloadn (q := 34) 3 rfl rfl dX1_countThoseWith_33 rfl ?_
  refine x_iloadn (q := 35) 2 rfl rfl dX1_countThoseWith_34 rfl ?_
  refine x_iadd (q := 36) dX1_countThoseWith_35 rfl ?_
  obtain ⟨⟨s11, s12⟩, H⟩ := H
  obtain ⟨H1, H2⟩ := H
  refine x_icmp_ge (tgt := 64) (q := 39) dX1_countThoseWith_36 (by decide) rfl s11 s12 (fun hB => ?_) (fun hB => ?_)
  · have H := H1 (hB)
    refine x_iloadn (q := 65) 3 rfl rfl dX1_countThoseWith_64 rfl ?_
    refine x_iconst (q := 66) dX1_countThoseWith_65 rfl ?_
    refine x_iloadn (q := 67) 2 rfl rfl dX1_countThoseWith_66 rfl ?_
    refine x_imul (q := 68) dX1_countThoseWith_67 rfl ?_
    refine x_iadd (q := 69) dX1_countThoseWith_68 rfl ?_
    refine x_istoren (q := 70) (ls' := [(3, vI (l3 + (2 * l2))), (0, vR 32), (1, vI l1), (2, vI l2), (4, vI l4)]) rfl (by decide) rfl dX1_countThoseWith_69 rfl ?_
    refine x_goto (tgt := 23) dX1_countThoseWith_70 (by decide) ?_
    refine x_sub [1, 2, 3, 0] rfl ?_
    exact H
  · have H := H2 (hB)
    refine x_aloadn (q := 40) 0 rfl rfl rfl dX1_countThoseWith_39 rfl ?_
    refine x_getr (q := 43) dX1_countThoseWith_40 rfl fa_X1_25 sh_32 rfl ?_
    refine x_iload (q := 45) 4 rfl dX1_countThoseWith_43 rfl ?_
    refine x_dup2 (q := 46) (by exact Nat.ne_of_beq_eq_false rfl) (by exact Nat.ne_of_beq_eq_false rfl) dX1_countThoseWith_45 rfl ?_
    obtain ⟨⟨s15, s16⟩, H⟩ := H
    refine x_iald (q := 47) dX1_countThoseWith_46 rfl sh_39 s15 s16 (fun r17 => ?_)
    refine x_aloadn (q := 48) 0 rfl rfl rfl dX1_countThoseWith_47 rfl ?_
    refine x_getr (q := 51) dX1_countThoseWith_48 rfl fa_X1_25 sh_32 rfl ?_
    refine x_iload (q := 53) 4 rfl dX1_countThoseWith_51 rfl ?_
    refine x_iloadn (q := 54) 2 rfl rfl dX1_countThoseWith_53 rfl ?_
    refine x_iadd (q := 55) dX1_countThoseWith_54 rfl ?_
    obtain ⟨⟨s18, s19⟩, H⟩ := H
    refine x_iald (q := 56) dX1_countThoseWith_55 rfl sh_39 s18 s19 (fun r20 => ?_)
    refine x_iadd (q := 57) dX1_countThoseWith_56 rfl ?_
    obtain ⟨s22, H⟩ := H
    refine x_iast (q := 58) dX1_countThoseWith_57 rfl sh_39 s15 s16 s22 (fun m21 em21 => ?_)
    have H := H m21 em21
    refine x_iinc (q := 61) (ls' := [(4, vI (l4 + 1)), (0, vR 32), (1, vI l1), (2, vI l2), (3, vI l3)]) 4 rfl (by decide) rfl dX1_countThoseWith_58 rfl ?_
    refine x_goto (tgt := 31) dX1_countThoseWith_61 (by decide) ?_
    refine x_sub [1, 2, 3, 4, 0] rfl ?_
    exact H
abbrev E_X1_bestToMend (G : GT) (d pc : Nat) (ls : List (Nat × AV)) (st : List AV) (mem : Mem) (Q : Option AV → Mem → Prop) : Prop := Ex G RX1 cX1_bestToMend 6 (some .int) d pc ls st mem Q
abbrev C_X1_bestToMend (G : GT) (d : Nat) (as : List AV) (mem : Mem) (Q : Option AV → Mem → Prop) : Prop := Ct G yX1_bestToMend cX1_bestToMend 6 (some .int) d as mem Q
set_option maxRecDepth 20000 in
set_option maxHeartbeats 4000000 in
theorem B_X1_bestToMend {G : GT} {d : Nat} {l1 : Int} {mem : Mem} {Q : Option AV → Mem → Prop} (hd : 1 ≤ d) (H : C_X1_countThoseIn G (d - 1) [vR 32] mem (fun r9 m1 => r9 = none ∧ (C_X1_priceEach G (d - 1) [vR 32] m1 (fun r9 m2 => r9 = none ∧ (E_X1_bestToMend G d 23 [(0, vR 32), (1, vI l1), (2, vI 0), (3, vI (ishl 1 (m2 1 0))), (4, vI 1)] [] m2 Q))))) : C_X1_bestToMend G d [vR 32, vI l1] mem Q := by
  refine Ct_of_Ex (by decide +kernel) (by exact Nat.le_of_ble_eq_true rfl) (ls := [(0, vR 32), (1, vI l1)]) rfl ?_
  show E_X1_bestToMend G d 0 [(0, vR 32), (1, vI l1)] [] mem Q
  refine x_aloadn (q := 1) 0 rfl rfl rfl dX1_bestToMend_0 rfl ?_
  refine x_callV (q := 4) (d := d - 1) (as := []) (st := []) dX1_bestToMend_1 rfl mv_X1_120 sh_32 rfl rfl rfl (by exact Nat.le_of_ble_eq_true rfl) ⟨by show _ ≤ d; omega, by show _ ≤ 40 * d; omega⟩ ⟨Nat.le_refl _, Nat.le_refl _⟩ (Ct.mono H (fun r9 m1 H => ?_))
  obtain ⟨rfl, H⟩ := H
  show E_X1_bestToMend G d 4 [(0, vR 32), (1, vI l1)] [] m1 Q
  refine x_aloadn (q := 5) 0 rfl rfl rfl dX1_bestToMend_4 rfl ?_
  refine x_callV (q := 8) (d := d - 1) (as := []) (st := []) dX1_bestToMend_5 rfl mv_X1_123 sh_32 rfl rfl rfl (by exact Nat.le_of_ble_eq_true rfl) ⟨by show _ ≤ d; omega, by show _ ≤ 40 * d; omega⟩ ⟨Nat.le_refl _, Nat.le_refl _⟩ (Ct.mono H (fun r9 m2 H => ?_))
  obtain ⟨rfl, H⟩ := H
  show E_X1_bestToMend G d 8 [(0, vR 32), (1, vI l1)] [] m2 Q
  refine x_iconst (q := 9) dX1_bestToMend_8 rfl ?_
  refine x_istoren (q := 10) (ls' := [(2, vI 0), (0, vR 32), (1, vI l1)]) rfl (by decide) rfl dX1_bestToMend_9 rfl ?_
  refine x_iconst (q := 11) dX1_bestToMend_10 rfl ?_
  refine x_aloadn (q := 12) 1 rfl rfl rfl dX1_bestToMend_11 rfl ?_
  refine x_getr (q := 15) dX1_bestToMend_12 rfl fa_X1_35 sh_32 rfl ?_
  refine x_geti (q := 18) (ji := 0) dX1_bestToMend_15 rfl fa_X1_78 sh_1 rfl rfl (fun r3 => ?_)
  refine x_ishl (q := 19) dX1_bestToMend_18 rfl ?_
  refine x_istoren (q := 20) (ls' := [(3, vI (ishl 1 (m2 1 0))), (2, vI 0), (0, vR 32), (1, vI l1)]) rfl (by decide) rfl dX1_bestToMend_19 rfl ?_
  refine x_iconst (q := 21) dX1_bestToMend_20 rfl ?_
  refine x_istore (q := 23) (ls' := [(4, vI 1), (3, vI (ishl 1 (m2 1 0))), (2, vI 0), (0, vR 32), (1, vI l1)]) (by decide) rfl dX1_bestToMend_21 rfl ?_
  refine x_sub [3, 4, 2, 1, 0] rfl ?_
  exact H
set_option maxRecDepth 20000 in
set_option maxHeartbeats 4000000 in
theorem B_X1_bestToMend_23 {G : GT} {d : Nat} {l1 : Int} {l2 : Int} {l3 : Int} {l4 : Int} {mem : Mem} {Q : Option AV → Mem → Prop} (hd : 1 ≤ d) (H : (inr l4 ∧ inr l3) ∧ (((l3 ≤ l4) → (Q (some (vI l2)) mem)) ∧ (¬ (l3 ≤ l4) → ((0 ≤ l4 ∧ l4 < 4096) ∧ ((0 ≤ l2 ∧ l2 < 4096) ∧ (((mem 39 l4 ≠ mem 39 l2) → ((inr l1) ∧ (((l1 < mem 40 l4) → (E_X1_bestToMend G d 23 [(0, vR 32), (1, vI l1), (2, vI l2), (3, vI l3), (4, vI (l4 + 1))] [] mem Q)) ∧ (¬ (l1 < mem 40 l4) → (((mem 39 l2 < mem 39 l4) → (E_X1_bestToMend G d 23 [(0, vR 32), (1, vI l1), (2, vI l4), (3, vI l3), (4, vI (l4 + 1))] [] mem Q)) ∧ (¬ (mem 39 l2 < mem 39 l4) → (E_X1_bestToMend G d 23 [(0, vR 32), (1, vI l1), (2, vI l2), (3, vI l3), (4, vI (l4 + 1))] [] mem Q))))))) ∧ (¬ (mem 39 l4 ≠ mem 39 l2) → (((mem 40 l2 ≤ mem 40 l4) → ((inr l1) ∧ (((l1 < mem 40 l4) → (E_X1_bestToMend G d 23 [(0, vR 32), (1, vI l1), (2, vI l2), (3, vI l3), (4, vI (l4 + 1))] [] mem Q)) ∧ (¬ (l1 < mem 40 l4) → (((mem 39 l2 < mem 39 l4) → (E_X1_bestToMend G d 23 [(0, vR 32), (1, vI l1), (2, vI l4), (3, vI l3), (4, vI (l4 + 1))] [] mem Q)) ∧ (¬ (mem 39 l2 < mem 39 l4) → (E_X1_bestToMend G d 23 [(0, vR 32), (1, vI l1), (2, vI l2), (3, vI l3), (4, vI (l4 + 1))] [] mem Q))))))) ∧ (¬ (mem 40 l2 ≤ mem 40 l4) → ((inr l1) ∧ (((l1 < mem 40 l4) → (E_X1_bestToMend G d 23 [(0, vR 32), (1, vI l1), (2, vI l2), (3, vI l3), (4, vI (l4 + 1))] [] mem Q)) ∧ (¬ (l1 < mem 40 l4) → (((mem 39 l2 < mem 39 l4) → (E_X1_bestToMend G d 23 [(0, vR 32), (1, vI l1), (2, vI l4), (3, vI l3), (4, vI (l4 + 1))] [] mem Q)) ∧ (¬ (mem 39 l2 < mem 39 l4) → (E_X1_bestToMend G d 23 [(0, vR 32), (1, vI l1), (2, vI l4), (3, vI l3), (4, vI (l4 + 1))] [] mem Q))))))))))))))) : E_X1_bestToMend G d 23 [(0, vR 32), (1, vI l1), (2, vI l2), (3, vI l3), (4, vI l4)] [] mem Q := by
  refine x_iload (q := 25) 4 rfl dX1_bestToMend_23 rfl ?_
  refine x_iloadn (q := 26) 3 rfl rfl dX1_bestToMend_25 rfl ?_
  obtain ⟨⟨s4, s5⟩, H⟩ := H
  obtain ⟨H1, H2⟩ := H
  refine x_icmp_ge (tgt := 109) (q := 29) dX1_bestToMend_26 (by decide) rfl s4 s5 (fun hB => ?_) (fun hB => ?_)
  · have H := H1 (hB)
    refine x_iloadn (q := 110) 2 rfl rfl dX1_bestToMend_109 rfl ?_
    exact x_iret rfl dX1_bestToMend_110 H
  · have H := H2 (hB)
    refine x_aloadn (q := 30) 0 rfl rfl rfl dX1_bestToMend_29 rfl ?_
    refine x_getr (q := 33) dX1_bestToMend_30 rfl fa_X1_25 sh_32 rfl ?_
    refine x_iload (q := 35) 4 rfl dX1_bestToMend_33 rfl ?_
    obtain ⟨⟨s8, s9⟩, H⟩ := H
    refine x_iald (q := 36) dX1_bestToMend_35 rfl sh_39 s8 s9 (fun r10 => ?_)
    refine x_aloadn (q := 37) 0 rfl rfl rfl dX1_bestToMend_36 rfl ?_
    refine x_getr (q := 40) dX1_bestToMend_37 rfl fa_X1_25 sh_32 rfl ?_
    refine x_iloadn (q := 41) 2 rfl rfl dX1_bestToMend_40 rfl ?_
    obtain ⟨⟨s11, s12⟩, H⟩ := H
    refine x_iald (q := 42) dX1_bestToMend_41 rfl sh_39 s11 s12 (fun r13 => ?_)
    obtain ⟨H1, H2⟩ := H
    refine x_icmp_ne (tgt := 65) (q := 45) dX1_bestToMend_42 (by decide) rfl r10 r13 (fun hB => ?_) (fun hB => ?_)
    · have H := H1 (hB)
      refine x_iconst (q := 66) dX1_bestToMend_65 rfl ?_
      refine x_istore (q := 68) (ls' := [(5, vI 0), (0, vR 32), (1, vI l1), (2, vI l2), (3, vI l3), (4, vI l4)]) (by decide) rfl dX1_bestToMend_66 rfl ?_
      refine x_aloadn (q := 69) 1 rfl rfl rfl dX1_bestToMend_68 rfl ?_
      refine x_getr (q := 72) dX1_bestToMend_69 rfl fa_X1_28 sh_32 rfl ?_
      refine x_iload (q := 74) 5 rfl dX1_bestToMend_72 rfl ?_
      refine x_iald (q := 75) dX1_bestToMend_74 rfl sh_40 s8 s9 (fun r16 => ?_)
      refine x_iloadn (q := 76) 2 rfl rfl dX1_bestToMend_75 rfl ?_
      obtain ⟨s17, H⟩ := H
      obtain ⟨H1, H2⟩ := H
      refine x_icmp_gt (tgt := 103) (q := 79) dX1_bestToMend_76 (by decide) rfl r16 s17 (fun hB => ?_) (fun hB => ?_)
      · have H := H1 (hB)
        refine x_iinc (q := 106) (ls' := [(4, vI (l4 + 1)), (5, vI 0), (0, vR 32), (1, vI l1), (2, vI l2), (3, vI l3)]) 5 rfl (by decide) rfl dX1_bestToMend_103 rfl ?_
        refine x_goto (tgt := 23) dX1_bestToMend_106 (by decide) ?_
        refine x_sub [2, 3, 4, 5, 0] rfl ?_
        exact H
      · have H := H2 (hB)
        refine x_aloadn (q := 80) 1 rfl rfl rfl dX1_bestToMend_79 rfl ?_
        refine x_getr (q := 83) dX1_bestToMend_80 rfl fa_X1_25 sh_32 rfl ?_
        refine x_iload (q := 85) 5 rfl dX1_bestToMend_83 rfl ?_
        refine x_iald (q := 86) dX1_bestToMend_85 rfl sh_39 s8 s9 (fun r20 => ?_)
        refine x_aloadn (q := 87) 1 rfl rfl rfl dX1_bestToMend_86 rfl ?_
        refine x_getr (q := 90) dX1_bestToMend_87 rfl fa_X1_25 sh_32 rfl ?_
        refine x_iloadn (q := 91) 3 rfl rfl dX1_bestToMend_90 rfl ?_
        refine x_iald (q := 92) dX1_bestToMend_91 rfl sh_39 s11 s12 (fun r21 => ?_)
        obtain ⟨H1, H2⟩ := H
        refine x_icmp_gt (tgt := 100) (q := 95) dX1_bestToMend_92 (by decide) rfl r20 r21 (fun hB => ?_) (fun hB => ?_)
        · have H := H1 (hB)
          refine x_iload (q := 102) 5 rfl dX1_bestToMend_100 rfl ?_
          refine x_istoren (q := 103) (ls' := [(2, vI l4), (5, vI 0), (0, vR 32), (1, vI l1), (3, vI l3), (4, vI l4)]) rfl (by decide) rfl dX1_bestToMend_102 rfl ?_
          refine x_iinc (q := 106) (ls' := [(4, vI (l4 + 1)), (2, vI l4), (5, vI 0), (0, vR 32), (1, vI l1), (3, vI l3)]) 5 rfl (by decide) rfl dX1_bestToMend_103 rfl ?_
          refine x_goto (tgt := 23) dX1_bestToMend_106 (by decide) ?_
          refine x_sub [3, 4, 1, 5, 0] rfl ?_
          exact H
        · have H := H2 (hB)
          refine x_iload (q := 97) 0 rfl dX1_bestToMend_95 rfl ?_
          refine x_if_eq (tgt := 103) (q := 100) dX1_bestToMend_97 (by decide) rfl (by decide) (fun _ => ?_) (fun h => absurd (by decide) h)
          refine x_iinc (q := 106) (ls' := [(4, vI (l4 + 1)), (5, vI 0), (0, vR 32), (1, vI l1), (2, vI l2), (3, vI l3)]) 5 rfl (by decide) rfl dX1_bestToMend_103 rfl ?_
          refine x_goto (tgt := 23) dX1_bestToMend_106 (by decide) ?_
          refine x_sub [2, 3, 4, 5, 0] rfl ?_
          exact H
    · have H := H2 (hB)
      refine x_aloadn (q := 46) 0 rfl rfl rfl dX1_bestToMend_45 rfl ?_
      refine x_getr (q := 49) dX1_bestToMend_46 rfl fa_X1_28 sh_32 rfl ?_
      refine x_iload (q := 51) 4 rfl dX1_bestToMend_49 rfl ?_
      refine x_iald (q := 52) dX1_bestToMend_51 rfl sh_40 s8 s9 (fun r24 => ?_)
      refine x_aloadn (q := 53) 0 rfl rfl rfl dX1_bestToMend_52 rfl ?_
      refine x_getr (q := 56) dX1_bestToMend_53 rfl fa_X1_28 sh_32 rfl ?_
      refine x_iloadn (q := 57) 2 rfl rfl dX1_bestToMend_56 rfl ?_
      refine x_iald (q := 58) dX1_bestToMend_57 rfl sh_40 s11 s12 (fun r25 => ?_)
      obtain ⟨H1, H2⟩ := H
      refine x_icmp_ge (tgt := 65) (q := 61) dX1_bestToMend_58 (by decide) rfl r24 r25 (fun hB => ?_) (fun hB => ?_)
      · have H := H1 (hB)
        refine x_iconst (q := 66) dX1_bestToMend_65 rfl ?_
        refine x_istore (q := 68) (ls' := [(5, vI 0), (0, vR 32), (1, vI l1), (2, vI l2), (3, vI l3), (4, vI l4)]) (by decide) rfl dX1_bestToMend_66 rfl ?_
        refine x_aloadn (q := 69) 1 rfl rfl rfl dX1_bestToMend_68 rfl ?_
        refine x_getr (q := 72) dX1_bestToMend_69 rfl fa_X1_28 sh_32 rfl ?_
        refine x_iload (q := 74) 5 rfl dX1_bestToMend_72 rfl ?_
        refine x_iald (q := 75) dX1_bestToMend_74 rfl sh_40 s8 s9 (fun r28 => ?_)
        refine x_iloadn (q := 76) 2 rfl rfl dX1_bestToMend_75 rfl ?_
        obtain ⟨s29, H⟩ := H
        obtain ⟨H1, H2⟩ := H
        refine x_icmp_gt (tgt := 103) (q := 79) dX1_bestToMend_76 (by decide) rfl r28 s29 (fun hB => ?_) (fun hB => ?_)
        · have H := H1 (hB)
          refine x_iinc (q := 106) (ls' := [(4, vI (l4 + 1)), (5, vI 0), (0, vR 32), (1, vI l1), (2, vI l2), (3, vI l3)]) 5 rfl (by decide) rfl dX1_bestToMend_103 rfl ?_
          refine x_goto (tgt := 23) dX1_bestToMend_106 (by decide) ?_
          refine x_sub [2, 3, 4, 5, 0] rfl ?_
          exact H
        · have H := H2 (hB)
          refine x_aloadn (q := 80) 1 rfl rfl rfl dX1_bestToMend_79 rfl ?_
          refine x_getr (q := 83) dX1_bestToMend_80 rfl fa_X1_25 sh_32 rfl ?_
          refine x_iload (q := 85) 5 rfl dX1_bestToMend_83 rfl ?_
          refine x_iald (q := 86) dX1_bestToMend_85 rfl sh_39 s8 s9 (fun r32 => ?_)
          refine x_aloadn (q := 87) 1 rfl rfl rfl dX1_bestToMend_86 rfl ?_
          refine x_getr (q := 90) dX1_bestToMend_87 rfl fa_X1_25 sh_32 rfl ?_
          refine x_iloadn (q := 91) 3 rfl rfl dX1_bestToMend_90 rfl ?_
          refine x_iald (q := 92) dX1_bestToMend_91 rfl sh_39 s11 s12 (fun r33 => ?_)
          obtain ⟨H1, H2⟩ := H
          refine x_icmp_gt (tgt := 100) (q := 95) dX1_bestToMend_92 (by decide) rfl r32 r33 (fun hB => ?_) (fun hB => ?_)
          · have H := H1 (hB)
            refine x_iload (q := 102) 5 rfl dX1_bestToMend_100 rfl ?_
            refine x_istoren (q := 103) (ls' := [(2, vI l4), (5, vI 0), (0, vR 32), (1, vI l1), (3, vI l3), (4, vI l4)]) rfl (by decide) rfl dX1_bestToMend_102 rfl ?_
            refine x_iinc (q := 106) (ls' := [(4, vI (l4 + 1)), (2, vI l4), (5, vI 0), (0, vR 32), (1, vI l1), (3, vI l3)]) 5 rfl (by decide) rfl dX1_bestToMend_103 rfl ?_
            refine x_goto (tgt := 23) dX1_bestToMend_106 (by decide) ?_
            refine x_sub [3, 4, 1, 5, 0] rfl ?_
            exact H
          · have H := H2 (hB)
            refine x_iload (q := 97) 0 rfl dX1_bestToMend_95 rfl ?_
            refine x_if_eq (tgt := 103) (q := 100) dX1_bestToMend_97 (by decide) rfl (by decide) (fun _ => ?_) (fun h => absurd (by decide) h)
            refine x_iinc (q := 106) (ls' := [(4, vI (l4 + 1)), (5, vI 0), (0, vR 32), (1, vI l1), (2, vI l2), (3, vI l3)]) 5 rfl (by decide) rfl dX1_bestToMend_103 rfl ?_
            refine x_goto (tgt := 23) dX1_bestToMend_106 (by decide) ?_
            refine x_sub [2, 3, 4, 5, 0] rfl ?_
            exact H
      · have H := H2 (hB)
        refine x_iconst (q := 62) dX1_bestToMend_61 rfl ?_
        refine x_goto (tgt := 66) dX1_bestToMend_62 (by decide) ?_
        refine x_istore (q := 68) (ls' := [(5, vI 1), (0, vR 32), (1, vI l1), (2, vI l2), (3, vI l3), (4, vI l4)]) (by decide) rfl dX1_bestToMend_66 rfl ?_
        refine x_aloadn (q := 69) 1 rfl rfl rfl dX1_bestToMend_68 rfl ?_
        refine x_getr (q := 72) dX1_bestToMend_69 rfl fa_X1_28 sh_32 rfl ?_
        refine x_iload (q := 74) 5 rfl dX1_bestToMend_72 rfl ?_
        refine x_iald (q := 75) dX1_bestToMend_74 rfl sh_40 s8 s9 (fun r36 => ?_)
        refine x_iloadn (q := 76) 2 rfl rfl dX1_bestToMend_75 rfl ?_
        obtain ⟨s37, H⟩ := H
        obtain ⟨H1, H2⟩ := H
        refine x_icmp_gt (tgt := 103) (q := 79) dX1_bestToMend_76 (by decide) rfl r36 s37 (fun hB => ?_) (fun hB => ?_)
        · have H := H1 (hB)
          refine x_iinc (q := 106) (ls' := [(4, vI (l4 + 1)), (5, vI 1), (0, vR 32), (1, vI l1), (2, vI l2), (3, vI l3)]) 5 rfl (by decide) rfl dX1_bestToMend_103 rfl ?_
          refine x_goto (tgt := 23) dX1_bestToMend_106 (by decide) ?_
          refine x_sub [2, 3, 4, 5, 0] rfl ?_
          exact H
        · have H := H2 (hB)
          refine x_aloadn (q := 80) 1 rfl rfl rfl dX1_bestToMend_79 rfl ?_
          refine x_getr (q := 83) dX1_bestToMend_80 rfl fa_X1_25 sh_32 rfl ?_
          refine x_iload (q := 85) 5 rfl dX1_bestToMend_83 rfl ?_
          refine x_iald (q := 86) dX1_bestToMend_85 rfl sh_39 s8 s9 (fun r40 => ?_)
          refine x_aloadn (q := 87) 1 rfl rfl rfl dX1_bestToMend_86 rfl ?_
          refine x_getr (q := 90) dX1_bestToMend_87 rfl fa_X1_25 sh_32 rfl ?_
          refine x_iloadn (q := 91) 3 rfl rfl dX1_bestToMend_90 rfl ?_
          refine x_iald (q := 92) dX1_bestToMend_91 rfl sh_39 s11 s12 (fun r41 => ?_)
          obtain ⟨H1, H2⟩ := H
          refine x_icmp_gt (tgt := 100) (q := 95) dX1_bestToMend_92 (by decide) rfl r40 r41 (fun hB => ?_) (fun hB => ?_)
          · have H := H1 (hB)
            refine x_iload (q := 102) 5 rfl dX1_bestToMend_100 rfl ?_
            refine x_istoren (q := 103) (ls' := [(2, vI l4), (5, vI 1), (0, vR 32), (1, vI l1), (3, vI l3), (4, vI l4)]) rfl (by decide) rfl dX1_bestToMend_102 rfl ?_
            refine x_iinc (q := 106) (ls' := [(4, vI (l4 + 1)), (2, vI l4), (5, vI 1), (0, vR 32), (1, vI l1), (3, vI l3)]) 5 rfl (by decide) rfl dX1_bestToMend_103 rfl ?_
            refine x_goto (tgt := 23) dX1_bestToMend_106 (by decide) ?_
            refine x_sub [3, 4, 1, 5, 0] rfl ?_
            exact H
          · have H := H2 (hB)
            refine x_iload (q := 97) 0 rfl dX1_bestToMend_95 rfl ?_
            refine x_if_eq (tgt := 103) (q := 100) dX1_bestToMend_97 (by decide) rfl (by decide) (fun h => absurd h (by decide)) (fun _ => ?_)
            refine x_iload (q := 102) 5 rfl dX1_bestToMend_100 rfl ?_
            refine x_istoren (q := 103) (ls' := [(2, vI l4), (5, vI 1), (0, vR 32), (1, vI l1), (3, vI l3), (4, vI l4)]) rfl (by decide) rfl dX1_bestToMend_102 rfl ?_
            refine x_iinc (q := 106) (ls' := [(4, vI (l4 + 1)), (2, vI l4), (5, vI 1), (0, vR 32), (1, vI l1), (3, vI l3)]) 5 rfl (by decide) rfl dX1_bestToMend_103 rfl ?_
            refine x_goto (tgt := 23) dX1_bestToMend_106 (by decide) ?_
            refine x_sub [3, 4, 1, 5, 0] rfl ?_
            exact H
abbrev E_X11_findFitting (G : GT) (d pc : Nat) (ls : List (Nat × AV)) (st : List AV) (mem : Mem) (Q : Option AV → Mem → Prop) : Prop := Ex G RX11 cX11_findFitting 2 none d pc ls st mem Q
abbrev C_X11_findFitting (G : GT) (d : Nat) (as : List AV) (mem : Mem) (Q : Option AV → Mem → Prop) : Prop := Ct G yX11_findFitting cX11_findFitting 2 none d as mem Q
set_option maxRecDepth 20000 in
set_option maxHeartbeats 4000000 in
theorem B_X11_findFitting {G : GT} {d : Nat}  {mem : Mem} {Q : Option AV → Mem → Prop} (hd : 1 ≤ d) (H : E_X11_findFitting G d 2 [(0, vR 71), (1, vI 0)] [] mem Q) : C_X11_findFitting G d [vR 71] mem Q := by
  refine Ct_of_Ex (by decide +kernel) (by exact Nat.le_of_ble_eq_true rfl) (ls := [(0, vR 71)]) rfl ?_
  show E_X11_findFitting G d 0 [(0, vR 71)] [] mem Q
  refine x_iconst (q := 1) dX11_findFitting_0 rfl ?_
  refine x_istoren (q := 2) (ls' := [(1, vI 0), (0, vR 71)]) rfl (by decide) rfl dX11_findFitting_1 rfl ?_
  refine x_sub [1, 0] rfl ?_
  exact H
set_option maxRecDepth 20000 in
set_option maxHeartbeats 4000000 in
theorem B_X11_findFitting_2 {G : GT} {d : Nat} {l1 : Int} {mem : Mem} {Q : Option AV → Mem → Prop} (hd : 1 ≤ d) (H : (inr l1) ∧ (((14 ≤ l1) → (∀ m4 : Mem, m4 = upM mem 71 12 0 → (E_X11_findFitting G d 28 [(0, vR 71), (1, vI 0)] [] m4 Q))) ∧ (¬ (14 ≤ l1) → ((0 ≤ l1 ∧ l1 < 14) ∧ (∀ m7 : Mem, m7 = upM mem 79 l1 0 → (E_X11_findFitting G d 2 [(0, vR 71), (1, vI (l1 + 1))] [] m7 Q)))))) : E_X11_findFitting G d 2 [(0, vR 71), (1, vI l1)] [] mem Q := by
  refine x_iloadn (q := 3) 1 rfl rfl dX11_findFitting_2 rfl ?_
  refine x_bipush (q := 5) rfl dX11_findFitting_3 rfl ?_
  obtain ⟨s1, H⟩ := H
  obtain ⟨H1, H2⟩ := H
  refine x_icmp_ge (tgt := 21) (q := 8) dX11_findFitting_5 (by decide) rfl s1 (by decide) (fun hB => ?_) (fun hB => ?_)
  · have H := H1 (hB)
    refine x_aloadn (q := 22) 0 rfl rfl rfl dX11_findFitting_21 rfl ?_
    refine x_iconst (q := 23) dX11_findFitting_22 rfl ?_
    refine x_puti (q := 26) (ji := 12) dX11_findFitting_23 rfl fp_X11_213 sh_71 rfl rfl (by decide) (fun m4 em4 => ?_)
    have H := H m4 em4
    refine x_iconst (q := 27) dX11_findFitting_26 rfl ?_
    refine x_istoren (q := 28) (ls' := [(1, vI 0), (0, vR 71)]) rfl (by decide) rfl dX11_findFitting_27 rfl ?_
    refine x_sub [1, 0] rfl ?_
    exact H
  · have H := H2 (hB)
    refine x_aloadn (q := 9) 0 rfl rfl rfl dX11_findFitting_8 rfl ?_
    refine x_getr (q := 12) dX11_findFitting_9 rfl fa_X11_46 sh_71 rfl ?_
    refine x_iloadn (q := 13) 1 rfl rfl dX11_findFitting_12 rfl ?_
    refine x_iconst (q := 14) dX11_findFitting_13 rfl ?_
    obtain ⟨⟨s5, s6⟩, H⟩ := H
    refine x_iast (q := 15) dX11_findFitting_14 rfl sh_79 s5 s6 (by decide) (fun m7 em7 => ?_)
    have H := H m7 em7
    refine x_iinc (q := 18) (ls' := [(1, vI (l1 + 1)), (0, vR 71)]) 1 rfl (by decide) rfl dX11_findFitting_15 rfl ?_
    refine x_goto (tgt := 2) dX11_findFitting_18 (by decide) ?_
    refine x_sub [1, 0] rfl ?_
    exact H
set_option maxRecDepth 20000 in
set_option maxHeartbeats 4000000 in
theorem B_X11_findFitting_28 {G : GT} {d : Nat} {l1 : Int} {mem : Mem} {Q : Option AV → Mem → Prop} (hd : 1 ≤ d) (H : (inr l1 ∧ inr (ishl 1 (mem 72 0) - 1)) ∧ (((ishl 1 (mem 72 0) - 1 < l1) → (E_X11_findFitting G d 102 [(0, vR 71), (1, vI 1)] [] mem Q)) ∧ (¬ (ishl 1 (mem 72 0) - 1 < l1) → (C_X11_barsOf G (d - 1) [vR 71, vI l1] mem (fun r9 m12 => ∃ z13 : Int, r9 = some (vI z13) ∧ ((inr z13) ∧ (((0 ≤ z13) → ((0 ≤ l1 ∧ l1 < 4096) ∧ (∀ m19 : Mem, m19 = upM m12 78 l1 (-1) → (((m19 78 l1 < 0) → (E_X11_findFitting G d 28 [(0, vR 71), (1, vI (l1 + 1))] [] m19 Q)) ∧ (¬ (m19 78 l1 < 0) → ((0 ≤ (m19 78 l1) + 1 ∧ (m19 78 l1) + 1 < 14) ∧ ((inr ((m19 79 ((m19 78 l1) + 1)) + 1)) ∧ (∀ m27 : Mem, m27 = upM m19 79 ((m19 78 l1) + 1) ((m19 79 ((m19 78 l1) + 1)) + 1) → ((inr ((m27 71 12) + 1)) ∧ (∀ m30 : Mem, m30 = upM m27 71 12 ((m27 71 12) + 1) → (E_X11_findFitting G d 28 [(0, vR 71), (1, vI (l1 + 1))] [] m30 Q))))))))))) ∧ (¬ (0 ≤ z13) → ((0 ≤ l1 ∧ l1 < 4096) ∧ ((inr (sm 12 (fun k => iand (ishr l1 k) 1))) ∧ (∀ m34 : Mem, m34 = upM m12 78 l1 (sm 12 (fun k => iand (ishr l1 k) 1)) → (((m34 78 l1 < 0) → (E_X11_findFitting G d 28 [(0, vR 71), (1, vI (l1 + 1))] [] m34 Q)) ∧ (¬ (m34 78 l1 < 0) → ((0 ≤ (m34 78 l1) + 1 ∧ (m34 78 l1) + 1 < 14) ∧ ((inr ((m34 79 ((m34 78 l1) + 1)) + 1)) ∧ (∀ m43 : Mem, m43 = upM m34 79 ((m34 78 l1) + 1) ((m34 79 ((m34 78 l1) + 1)) + 1) → ((inr ((m43 71 12) + 1)) ∧ (∀ m46 : Mem, m46 = upM m43 71 12 ((m43 71 12) + 1) → (E_X11_findFitting G d 28 [(0, vR 71), (1, vI (l1 + 1))] [] m46 Q))))))))))))))))))) : E_X11_findFitting G d 28 [(0, vR 71), (1, vI l1)] [] mem Q := by
  refine x_iloadn (q := 29) 1 rfl rfl dX11_findFitting_28 rfl ?_
  refine x_aloadn (q := 30) 0 rfl rfl rfl dX11_findFitting_29 rfl ?_
  refine x_callV (q := 33) (d := d - 1) (as := []) (st := [vI l1]) dX11_findFitting_30 rfl mv_X11_192 sh_71 rfl rfl rfl (by exact Nat.le_of_ble_eq_true rfl) ⟨by show _ ≤ d; omega, by show _ ≤ 40 * d; omega⟩ ⟨Nat.le_refl _, Nat.le_refl _⟩ (ct_all ?_)
  show E_X11_findFitting G d 33 [(0, vR 71), (1, vI l1)] [vI (ishl 1 (mem 72 0) - 1), vI l1] mem Q
  obtain ⟨⟨s8, s9⟩, H⟩ := H
  obtain ⟨H1, H2⟩ := H
  refine x_icmp_gt (tgt := 100) (q := 36) dX11_findFitting_33 (by decide) rfl s8 s9 (fun hB => ?_) (fun hB => ?_)
  · have H := H1 (hB)
    refine x_iconst (q := 101) dX11_findFitting_100 rfl ?_
    refine x_istoren (q := 102) (ls' := [(1, vI 1), (0, vR 71)]) rfl (by decide) rfl dX11_findFitting_101 rfl ?_
    refine x_sub [1, 0] rfl ?_
    exact H
  · have H := H2 (hB)
    refine x_aloadn (q := 37) 0 rfl rfl rfl dX11_findFitting_36 rfl ?_
    refine x_getr (q := 40) dX11_findFitting_37 rfl fa_X11_43 sh_71 rfl ?_
    refine x_iloadn (q := 41) 1 rfl rfl dX11_findFitting_40 rfl ?_
    refine x_aloadn (q := 42) 0 rfl rfl rfl dX11_findFitting_41 rfl ?_
    refine x_iloadn (q := 43) 1 rfl rfl dX11_findFitting_42 rfl ?_
    refine x_callV (q := 46) (d := d - 1) (as := [vI l1]) (st := [vI l1, vR 78]) dX11_findFitting_43 rfl mv_X11_210 sh_71 rfl rfl rfl (by exact Nat.le_of_ble_eq_true rfl) ⟨by show _ ≤ d; omega, by show _ ≤ 40 * d; omega⟩ ⟨Nat.le_refl _, Nat.le_refl _⟩ (Ct.mono H (fun r9 m12 H => ?_))
    obtain ⟨z13, rfl, H⟩ := H
    show E_X11_findFitting G d 46 [(0, vR 71), (1, vI l1)] [vI z13, vI l1, vR 78] m12 Q
    obtain ⟨s14, H⟩ := H
    obtain ⟨H1, H2⟩ := H
    refine x_if_ge (tgt := 56) (q := 49) dX11_findFitting_46 (by decide) rfl s14 (fun hB => ?_) (fun hB => ?_)
    · have H := H1 (hB)
      refine x_iconst (q := 57) dX11_findFitting_56 rfl ?_
      obtain ⟨⟨s17, s18⟩, H⟩ := H
      refine x_iast (q := 58) dX11_findFitting_57 rfl sh_78 s17 s18 (by decide) (fun m19 em19 => ?_)
      have H := H m19 em19
      refine x_aloadn (q := 59) 0 rfl rfl rfl dX11_findFitting_58 rfl ?_
      refine x_getr (q := 62) dX11_findFitting_59 rfl fa_X11_43 sh_71 rfl ?_
      refine x_iloadn (q := 63) 1 rfl rfl dX11_findFitting_62 rfl ?_
      refine x_iald (q := 64) dX11_findFitting_63 rfl sh_78 s17 s18 (fun r20 => ?_)
      obtain ⟨H1, H2⟩ := H
      refine x_if_lt (tgt := 94) (q := 67) dX11_findFitting_64 (by decide) rfl r20 (fun hB => ?_) (fun hB => ?_)
      · have H := H1 (hB)
        refine x_iinc (q := 97) (ls' := [(1, vI (l1 + 1)), (0, vR 71)]) 1 rfl (by decide) rfl dX11_findFitting_94 rfl ?_
        refine x_goto (tgt := 28) dX11_findFitting_97 (by decide) ?_
        refine x_sub [1, 0] rfl ?_
        exact H
      · have H := H2 (hB)
        refine x_aloadn (q := 68) 0 rfl rfl rfl dX11_findFitting_67 rfl ?_
        refine x_getr (q := 71) dX11_findFitting_68 rfl fa_X11_46 sh_71 rfl ?_
        refine x_aloadn (q := 72) 0 rfl rfl rfl dX11_findFitting_71 rfl ?_
        refine x_getr (q := 75) dX11_findFitting_72 rfl fa_X11_43 sh_71 rfl ?_
        refine x_iloadn (q := 76) 1 rfl rfl dX11_findFitting_75 rfl ?_
        refine x_iald (q := 77) dX11_findFitting_76 rfl sh_78 s17 s18 (fun r23 => ?_)
        refine x_iconst (q := 78) dX11_findFitting_77 rfl ?_
        refine x_iadd (q := 79) dX11_findFitting_78 rfl ?_
        refine x_dup2 (q := 80) (by exact Nat.ne_of_beq_eq_false rfl) (by exact Nat.ne_of_beq_eq_false rfl) dX11_findFitting_79 rfl ?_
        obtain ⟨⟨s24, s25⟩, H⟩ := H
        refine x_iald (q := 81) dX11_findFitting_80 rfl sh_79 s24 s25 (fun r26 => ?_)
        refine x_iconst (q := 82) dX11_findFitting_81 rfl ?_
        refine x_iadd (q := 83) dX11_findFitting_82 rfl ?_
        obtain ⟨s28, H⟩ := H
        refine x_iast (q := 84) dX11_findFitting_83 rfl sh_79 s24 s25 s28 (fun m27 em27 => ?_)
        have H := H m27 em27
        refine x_aloadn (q := 85) 0 rfl rfl rfl dX11_findFitting_84 rfl ?_
        refine x_dup (q := 86) (by exact Nat.ne_of_beq_eq_false rfl) dX11_findFitting_85 rfl ?_
        refine x_geti (q := 89) (ji := 12) dX11_findFitting_86 rfl fa_X11_213 sh_71 rfl rfl (fun r29 => ?_)
        refine x_iconst (q := 90) dX11_findFitting_89 rfl ?_
        refine x_iadd (q := 91) dX11_findFitting_90 rfl ?_
        obtain ⟨s31, H⟩ := H
        refine x_puti (q := 94) (ji := 12) dX11_findFitting_91 rfl fp_X11_213 sh_71 rfl rfl s31 (fun m30 em30 => ?_)
        have H := H m30 em30
        refine x_iinc (q := 97) (ls' := [(1, vI (l1 + 1)), (0, vR 71)]) 1 rfl (by decide) rfl dX11_findFitting_94 rfl ?_
        refine x_goto (tgt := 28) dX11_findFitting_97 (by decide) ?_
        refine x_sub [1, 0] rfl ?_
        exact H
    · have H := H2 (hB)
      refine x_iloadn (q := 50) 1 rfl rfl dX11_findFitting_49 rfl ?_
      refine x_callS (q := 53) (d := d - 1) (as := [vI l1]) (st := [vI l1, vR 78]) dX11_findFitting_50 rfl ms_X11_202 rfl rfl (by exact Nat.le_of_ble_eq_true rfl) ⟨by show _ ≤ d; omega, by show _ ≤ 40 * d; omega⟩ ⟨Nat.le_refl _, Nat.le_refl _⟩ (ct_bits ?_)
      show E_X11_findFitting G d 53 [(0, vR 71), (1, vI l1)] [vI (sm 12 (fun k => iand (ishr l1 k) 1)), vI l1, vR 78] m12 Q
      refine x_goto (tgt := 57) dX11_findFitting_53 (by decide) ?_
      obtain ⟨⟨s32, s33⟩, H⟩ := H
      obtain ⟨s35, H⟩ := H
      refine x_iast (q := 58) dX11_findFitting_57 rfl sh_78 s32 s33 s35 (fun m34 em34 => ?_)
      have H := H m34 em34
      refine x_aloadn (q := 59) 0 rfl rfl rfl dX11_findFitting_58 rfl ?_
      refine x_getr (q := 62) dX11_findFitting_59 rfl fa_X11_43 sh_71 rfl ?_
      refine x_iloadn (q := 63) 1 rfl rfl dX11_findFitting_62 rfl ?_
      refine x_iald (q := 64) dX11_findFitting_63 rfl sh_78 s32 s33 (fun r36 => ?_)
      obtain ⟨H1, H2⟩ := H
      refine x_if_lt (tgt := 94) (q := 67) dX11_findFitting_64 (by decide) rfl r36 (fun hB => ?_) (fun hB => ?_)
      · have H := H1 (hB)
        refine x_iinc (q := 97) (ls' := [(1, vI (l1 + 1)), (0, vR 71)]) 1 rfl (by decide) rfl dX11_findFitting_94 rfl ?_
        refine x_goto (tgt := 28) dX11_findFitting_97 (by decide) ?_
        refine x_sub [1, 0] rfl ?_
        exact H
      · have H := H2 (hB)
        refine x_aloadn (q := 68) 0 rfl rfl rfl dX11_findFitting_67 rfl ?_
        refine x_getr (q := 71) dX11_findFitting_68 rfl fa_X11_46 sh_71 rfl ?_
        refine x_aloadn (q := 72) 0 rfl rfl rfl dX11_findFitting_71 rfl ?_
        refine x_getr (q := 75) dX11_findFitting_72 rfl fa_X11_43 sh_71 rfl ?_
        refine x_iloadn (q := 76) 1 rfl rfl dX11_findFitting_75 rfl ?_
        refine x_iald (q := 77) dX11_findFitting_76 rfl sh_78 s32 s33 (fun r39 => ?_)
        refine x_iconst (q := 78) dX11_findFitting_77 rfl ?_
        refine x_iadd (q := 79) dX11_findFitting_78 rfl ?_
        refine x_dup2 (q := 80) (by exact Nat.ne_of_beq_eq_false rfl) (by exact Nat.ne_of_beq_eq_false rfl) dX11_findFitting_79 rfl ?_
        obtain ⟨⟨s40, s41⟩, H⟩ := H
        refine x_iald (q := 81) dX11_findFitting_80 rfl sh_79 s40 s41 (fun r42 => ?_)
        refine x_iconst (q := 82) dX11_findFitting_81 rfl ?_
        refine x_iadd (q := 83) dX11_findFitting_82 rfl ?_
        obtain ⟨s44, H⟩ := H
        refine x_iast (q := 84) dX11_findFitting_83 rfl sh_79 s40 s41 s44 (fun m43 em43 => ?_)
        have H := H m43 em43
        refine x_aloadn (q := 85) 0 rfl rfl rfl dX11_findFitting_84 rfl ?_
        refine x_dup (q := 86) (by exact Nat.ne_of_beq_eq_false rfl) dX11_findFitting_85 rfl ?_
        refine x_geti (q := 89) (ji := 12) dX11_findFitting_86 rfl fa_X11_213 sh_71 rfl rfl (fun r45 => ?_)
        refine x_iconst (q := 90) dX11_findFitting_89 rfl ?_
        refine x_iadd (q := 91) dX11_findFitting_90 rfl ?_
        obtain ⟨s47, H⟩ := H
        refine x_puti (q := 94) (ji := 12) dX11_findFitting_91 rfl fp_X11_213 sh_71 rfl rfl s47 (fun m46 em46 => ?_)
        have H := H m46 em46
        refine x_iinc (q := 97) (ls' := [(1, vI (l1 + 1)), (0, vR 71)]) 1 rfl (by decide) rfl dX11_findFitting_94 rfl ?_
        refine x_goto (tgt := 28) dX11_findFitting_97 (by decide) ?_
        refine x_sub [1, 0] rfl ?_
        exact H
set_option maxRecDepth 20000 in
set_option maxHeartbeats 4000000 in
theorem B_X11_findFitting_102 {G : GT} {d : Nat} {l1 : Int} {mem : Mem} {Q : Option AV → Mem → Prop} (hd : 1 ≤ d) (H : (inr l1) ∧ (((14 ≤ l1) → (E_X11_findFitting G d 133 [(0, vR 71), (1, vI 0)] [] mem Q)) ∧ (¬ (14 ≤ l1) → ((0 ≤ l1 ∧ l1 < 14) ∧ ((0 ≤ l1 - 1 ∧ l1 - 1 < 14) ∧ ((inr ((mem 79 l1) + (mem 79 (l1 - 1)))) ∧ (∀ m57 : Mem, m57 = upM mem 79 l1 ((mem 79 l1) + (mem 79 (l1 - 1))) → (E_X11_findFitting G d 102 [(0, vR 71), (1, vI (l1 + 1))] [] m57 Q)))))))) : E_X11_findFitting G d 102 [(0, vR 71), (1, vI l1)] [] mem Q := by
  refine x_iloadn (q := 103) 1 rfl rfl dX11_findFitting_102 rfl ?_
  refine x_bipush (q := 105) rfl dX11_findFitting_103 rfl ?_
  obtain ⟨s48, H⟩ := H
  obtain ⟨H1, H2⟩ := H
  refine x_icmp_ge (tgt := 131) (q := 108) dX11_findFitting_105 (by decide) rfl s48 (by decide) (fun hB => ?_) (fun hB => ?_)
  · have H := H1 (hB)
    refine x_iconst (q := 132) dX11_findFitting_131 rfl ?_
    refine x_istoren (q := 133) (ls' := [(1, vI 0), (0, vR 71)]) rfl (by decide) rfl dX11_findFitting_132 rfl ?_
    refine x_sub [1, 0] rfl ?_
    exact H
  · have H := H2 (hB)
    refine x_aloadn (q := 109) 0 rfl rfl rfl dX11_findFitting_108 rfl ?_
    refine x_getr (q := 112) dX11_findFitting_109 rfl fa_X11_46 sh_71 rfl ?_
    refine x_iloadn (q := 113) 1 rfl rfl dX11_findFitting_112 rfl ?_
    refine x_dup2 (q := 114) (by exact Nat.ne_of_beq_eq_false rfl) (by exact Nat.ne_of_beq_eq_false rfl) dX11_findFitting_113 rfl ?_
    obtain ⟨⟨s51, s52⟩, H⟩ := H
    refine x_iald (q := 115) dX11_findFitting_114 rfl sh_79 s51 s52 (fun r53 => ?_)
    refine x_aloadn (q := 116) 0 rfl rfl rfl dX11_findFitting_115 rfl ?_
    refine x_getr (q := 119) dX11_findFitting_116 rfl fa_X11_46 sh_71 rfl ?_
    refine x_iloadn (q := 120) 1 rfl rfl dX11_findFitting_119 rfl ?_
    refine x_iconst (q := 121) dX11_findFitting_120 rfl ?_
    refine x_isub (q := 122) dX11_findFitting_121 rfl ?_
    obtain ⟨⟨s54, s55⟩, H⟩ := H
    refine x_iald (q := 123) dX11_findFitting_122 rfl sh_79 s54 s55 (fun r56 => ?_)
    refine x_iadd (q := 124) dX11_findFitting_123 rfl ?_
    obtain ⟨s58, H⟩ := H
    refine x_iast (q := 125) dX11_findFitting_124 rfl sh_79 s51 s52 s58 (fun m57 em57 => ?_)
    have H := H m57 em57
    refine x_iinc (q := 128) (ls' := [(1, vI (l1 + 1)), (0, vR 71)]) 1 rfl (by decide) rfl dX11_findFitting_125 rfl ?_
    refine x_goto (tgt := 102) dX11_findFitting_128 (by decide) ?_
    refine x_sub [1, 0] rfl ?_
    exact H
set_option maxRecDepth 20000 in
set_option maxHeartbeats 4000000 in
theorem B_X11_findFitting_133 {G : GT} {d : Nat} {l1 : Int} {mem : Mem} {Q : Option AV → Mem → Prop} (hd : 1 ≤ d) (H : (inr l1 ∧ inr (ishl 1 (mem 72 0) - 1)) ∧ (((ishl 1 (mem 72 0) - 1 < l1) → (Q none mem)) ∧ (¬ (ishl 1 (mem 72 0) - 1 < l1) → ((0 ≤ l1 ∧ l1 < 4096) ∧ (((mem 78 l1 < 0) → (E_X11_findFitting G d 133 [(0, vR 71), (1, vI (l1 + 1))] [] mem Q)) ∧ (¬ (mem 78 l1 < 0) → ((0 ≤ mem 78 l1 ∧ mem 78 l1 < 14) ∧ ((0 ≤ mem 79 (mem 78 l1) ∧ mem 79 (mem 78 l1) < 4096) ∧ (∀ m74 : Mem, m74 = upM mem 77 (mem 79 (mem 78 l1)) l1 → ((0 ≤ m74 78 l1 ∧ m74 78 l1 < 14) ∧ ((inr ((m74 79 (m74 78 l1)) + 1)) ∧ (∀ m79 : Mem, m79 = upM m74 79 (m74 78 l1) ((m74 79 (m74 78 l1)) + 1) → (E_X11_findFitting G d 133 [(0, vR 71), (1, vI (l1 + 1))] [] m79 Q))))))))))))) : E_X11_findFitting G d 133 [(0, vR 71), (1, vI l1)] [] mem Q := by
  refine x_iloadn (q := 134) 1 rfl rfl dX11_findFitting_133 rfl ?_
  refine x_aloadn (q := 135) 0 rfl rfl rfl dX11_findFitting_134 rfl ?_
  refine x_callV (q := 138) (d := d - 1) (as := []) (st := [vI l1]) dX11_findFitting_135 rfl mv_X11_192 sh_71 rfl rfl rfl (by exact Nat.le_of_ble_eq_true rfl) ⟨by show _ ≤ d; omega, by show _ ≤ 40 * d; omega⟩ ⟨Nat.le_refl _, Nat.le_refl _⟩ (ct_all ?_)
  show E_X11_findFitting G d 138 [(0, vR 71), (1, vI l1)] [vI (ishl 1 (mem 72 0) - 1), vI l1] mem Q
  obtain ⟨⟨s59, s60⟩, H⟩ := H
  obtain ⟨H1, H2⟩ := H
  refine x_icmp_gt (tgt := 188) (q := 141) dX11_findFitting_138 (by decide) rfl s59 s60 (fun hB => ?_) (fun hB => ?_)
  · have H := H1 (hB)
    exact x_vret rfl dX11_findFitting_188 H
  · have H := H2 (hB)
    refine x_aloadn (q := 142) 0 rfl rfl rfl dX11_findFitting_141 rfl ?_
    refine x_getr (q := 145) dX11_findFitting_142 rfl fa_X11_43 sh_71 rfl ?_
    refine x_iloadn (q := 146) 1 rfl rfl dX11_findFitting_145 rfl ?_
    obtain ⟨⟨s63, s64⟩, H⟩ := H
    refine x_iald (q := 147) dX11_findFitting_146 rfl sh_78 s63 s64 (fun r65 => ?_)
    obtain ⟨H1, H2⟩ := H
    refine x_if_lt (tgt := 182) (q := 150) dX11_findFitting_147 (by decide) rfl r65 (fun hB => ?_) (fun hB => ?_)
    · have H := H1 (hB)
      refine x_iinc (q := 185) (ls' := [(1, vI (l1 + 1)), (0, vR 71)]) 1 rfl (by decide) rfl dX11_findFitting_182 rfl ?_
      refine x_goto (tgt := 133) dX11_findFitting_185 (by decide) ?_
      refine x_sub [1, 0] rfl ?_
      exact H
    · have H := H2 (hB)
      refine x_aloadn (q := 151) 0 rfl rfl rfl dX11_findFitting_150 rfl ?_
      refine x_getr (q := 154) dX11_findFitting_151 rfl fa_X11_40 sh_71 rfl ?_
      refine x_aloadn (q := 155) 0 rfl rfl rfl dX11_findFitting_154 rfl ?_
      refine x_getr (q := 158) dX11_findFitting_155 rfl fa_X11_46 sh_71 rfl ?_
      refine x_aloadn (q := 159) 0 rfl rfl rfl dX11_findFitting_158 rfl ?_
      refine x_getr (q := 162) dX11_findFitting_159 rfl fa_X11_43 sh_71 rfl ?_
      refine x_iloadn (q := 163) 1 rfl rfl dX11_findFitting_162 rfl ?_
      refine x_iald (q := 164) dX11_findFitting_163 rfl sh_78 s63 s64 (fun r68 => ?_)
      obtain ⟨⟨s69, s70⟩, H⟩ := H
      refine x_iald (q := 165) dX11_findFitting_164 rfl sh_79 s69 s70 (fun r71 => ?_)
      refine x_iloadn (q := 166) 1 rfl rfl dX11_findFitting_165 rfl ?_
      obtain ⟨⟨s72, s73⟩, H⟩ := H
      refine x_iast (q := 167) dX11_findFitting_166 rfl sh_77 s72 s73 s59 (fun m74 em74 => ?_)
      have H := H m74 em74
      refine x_aloadn (q := 168) 0 rfl rfl rfl dX11_findFitting_167 rfl ?_
      refine x_getr (q := 171) dX11_findFitting_168 rfl fa_X11_46 sh_71 rfl ?_
      refine x_aloadn (q := 172) 0 rfl rfl rfl dX11_findFitting_171 rfl ?_
      refine x_getr (q := 175) dX11_findFitting_172 rfl fa_X11_43 sh_71 rfl ?_
      refine x_iloadn (q := 176) 1 rfl rfl dX11_findFitting_175 rfl ?_
      refine x_iald (q := 177) dX11_findFitting_176 rfl sh_78 s63 s64 (fun r75 => ?_)
      refine x_dup2 (q := 178) (by exact Nat.ne_of_beq_eq_false rfl) (by exact Nat.ne_of_beq_eq_false rfl) dX11_findFitting_177 rfl ?_
      obtain ⟨⟨s76, s77⟩, H⟩ := H
      refine x_iald (q := 179) dX11_findFitting_178 rfl sh_79 s76 s77 (fun r78 => ?_)
      refine x_iconst (q := 180) dX11_findFitting_179 rfl ?_
      refine x_iadd (q := 181) dX11_findFitting_180 rfl ?_
      obtain ⟨s80, H⟩ := H
      refine x_iast (q := 182) dX11_findFitting_181 rfl sh_79 s76 s77 s80 (fun m79 em79 => ?_)
      have H := H m79 em79
      refine x_iinc (q := 185) (ls' := [(1, vI (l1 + 1)), (0, vR 71)]) 1 rfl (by decide) rfl dX11_findFitting_182 rfl ?_
      refine x_goto (tgt := 133) dX11_findFitting_185 (by decide) ?_
      refine x_sub [1, 0] rfl ?_
      exact H
abbrev E_X11_weightOf (G : GT) (d pc : Nat) (ls : List (Nat × AV)) (st : List AV) (mem : Mem) (Q : Option AV → Mem → Prop) : Prop := Ex G RX11 cX11_weightOf 6 (some .long) d pc ls st mem Q
abbrev C_X11_weightOf (G : GT) (d : Nat) (as : List AV) (mem : Mem) (Q : Option AV → Mem → Prop) : Prop := Ct G yX11_weightOf cX11_weightOf 6 (some .long) d as mem Q
set_option maxRecDepth 20000 in
set_option maxHeartbeats 4000000 in
theorem B_X11_weightOf {G : GT} {d : Nat} {l1 : Int} {mem : Mem} {Q : Option AV → Mem → Prop} (hd : 1 ≤ d) (H : E_X11_weightOf G d 5 [(0, vR 71), (1, vI l1), (2, vL 1), (4, vI 0)] [] mem Q) : C_X11_weightOf G d [vR 71, vI l1] mem Q := by
  refine Ct_of_Ex (by decide +kernel) (by exact Nat.le_of_ble_eq_true rfl) (ls := [(0, vR 71), (1, vI l1)]) rfl ?_
  show E_X11_weightOf G d 0 [(0, vR 71), (1, vI l1)] [] mem Q
  refine x_lconst (q := 1) (v := 1) rfl dX11_weightOf_0 rfl ?_
  refine x_lstoren (q := 2) (ls' := [(2, vL 1), (0, vR 71), (1, vI l1)]) rfl (by decide) rfl dX11_weightOf_1 rfl ?_
  refine x_iconst (q := 3) dX11_weightOf_2 rfl ?_
  refine x_istore (q := 5) (ls' := [(4, vI 0), (2, vL 1), (0, vR 71), (1, vI l1)]) (by decide) rfl dX11_weightOf_3 rfl ?_
  refine x_sub [2, 3, 1, 0] rfl ?_
  exact H
set_option maxRecDepth 20000 in
set_option maxHeartbeats 4000000 in
theorem B_X11_weightOf_5 {G : GT} {d : Nat} {l1 : Int} {l2 : Int} {l4 : Int} {mem : Mem} {Q : Option AV → Mem → Prop} (hd : 1 ≤ d) (H : (inr l4) ∧ (((mem 72 0 ≤ l4) → (Q (some (vL l2)) mem)) ∧ (¬ (mem 72 0 ≤ l4) → ((0 ≤ 5 + 3 * l4 + 2 ∧ 5 + 3 * l4 + 2 < 553) ∧ ((¬ (iand (ishr l1 l4) 1 = 1) → ((inr (10 - (mem 72 (5 + 3 * l4 + 2)))) ∧ (E_X11_weightOf G d 5 [(0, vR 71), (1, vI l1), (2, vL (l2 * (10 - (mem 72 (5 + 3 * l4 + 2))))), (4, vI (l4 + 1))] [] mem Q))) ∧ ((iand (ishr l1 l4) 1 = 1) → (E_X11_weightOf G d 5 [(0, vR 71), (1, vI l1), (2, vL (l2 * (mem 72 (5 + 3 * l4 + 2)))), (4, vI (l4 + 1))] [] mem Q))))))) : E_X11_weightOf G d 5 [(0, vR 71), (1, vI l1), (2, vL l2), (4, vI l4)] [] mem Q := by
  refine x_iload (q := 7) 3 rfl dX11_weightOf_5 rfl ?_
  refine x_aloadn (q := 8) 0 rfl rfl rfl dX11_weightOf_7 rfl ?_
  refine x_getr (q := 11) dX11_weightOf_8 rfl fa_X11_9 sh_71 rfl ?_
  refine x_iconst (q := 12) dX11_weightOf_11 rfl ?_
  refine x_iald (q := 13) dX11_weightOf_12 rfl sh_72 (by decide) (by decide) (fun r1 => ?_)
  obtain ⟨s2, H⟩ := H
  obtain ⟨H1, H2⟩ := H
  refine x_icmp_ge (tgt := 55) (q := 16) dX11_weightOf_13 (by decide) rfl s2 r1 (fun hB => ?_) (fun hB => ?_)
  · have H := H1 (hB)
    refine x_lloadn (q := 56) 2 rfl rfl dX11_weightOf_55 rfl ?_
    exact x_lret rfl dX11_weightOf_56 H
  · have H := H2 (hB)
    refine x_aloadn (q := 17) 0 rfl rfl rfl dX11_weightOf_16 rfl ?_
    refine x_iload (q := 19) 3 rfl dX11_weightOf_17 rfl ?_
    refine x_iconst (q := 20) dX11_weightOf_19 rfl ?_
    obtain ⟨⟨s5, s6⟩, H⟩ := H
    refine x_callV (q := 23) (d := d - 1) (as := [vI l4, vI 2]) (st := []) dX11_weightOf_20 rfl mv_X11_105 sh_71 rfl rfl rfl (by exact Nat.le_of_ble_eq_true rfl) ⟨by show _ ≤ d; omega, by show _ ≤ 40 * d; omega⟩ ⟨Nat.le_refl _, Nat.le_refl _⟩ (ct_machine11 s5 s6 ?_)
    show E_X11_weightOf G d 23 [(0, vR 71), (1, vI l1), (2, vL l2), (4, vI l4)] [vI (mem 72 (5 + 3 * l4 + 2))] mem Q
    refine x_istore (q := 25) (ls' := [(5, vI (mem 72 (5 + 3 * l4 + 2))), (0, vR 71), (1, vI l1), (2, vL l2), (4, vI l4)]) (by decide) rfl dX11_weightOf_23 rfl ?_
    refine x_lloadn (q := 26) 3 rfl rfl dX11_weightOf_25 rfl ?_
    refine x_iloadn (q := 27) 2 rfl rfl dX11_weightOf_26 rfl ?_
    refine x_iload (q := 29) 4 rfl dX11_weightOf_27 rfl ?_
    refine x_callS (q := 32) (d := d - 1) (as := [vI l1, vI l4]) (st := [vL l2]) dX11_weightOf_29 rfl ms_X11_195 rfl rfl (by exact Nat.le_of_ble_eq_true rfl) ⟨by show _ ≤ d; omega, by show _ ≤ 40 * d; omega⟩ ⟨Nat.le_refl _, Nat.le_refl _⟩ (ct_hasb ?_)
    show E_X11_weightOf G d 32 [(5, vI (mem 72 (5 + 3 * l4 + 2))), (0, vR 71), (1, vI l1), (2, vL l2), (4, vI l4)] [vI (bz (iand (ishr l1 l4) 1 = 1)), vL l2] mem Q
    obtain ⟨H1, H2⟩ := H
    refine x_if_eq (tgt := 41) (q := 35) dX11_weightOf_32 (by decide) rfl (bz_inr _) (fun hB => ?_) (fun hB => ?_)
    · have H := H1 (bz_0.mp hB)
      refine x_bipush (q := 43) rfl dX11_weightOf_41 rfl ?_
      refine x_iload (q := 45) 0 rfl dX11_weightOf_43 rfl ?_
      refine x_isub (q := 46) dX11_weightOf_45 rfl ?_
      obtain ⟨s9, H⟩ := H
      refine x_i2l (q := 47) s9 dX11_weightOf_46 rfl ?_
      refine x_lmul (q := 48) dX11_weightOf_47 rfl ?_
      refine x_lstoren (q := 49) (ls' := [(2, vL (l2 * (10 - (mem 72 (5 + 3 * l4 + 2))))), (5, vI (mem 72 (5 + 3 * l4 + 2))), (0, vR 71), (1, vI l1), (4, vI l4)]) rfl (by decide) rfl dX11_weightOf_48 rfl ?_
      refine x_iinc (q := 52) (ls' := [(4, vI (l4 + 1)), (2, vL (l2 * (10 - (mem 72 (5 + 3 * l4 + 2))))), (5, vI (mem 72 (5 + 3 * l4 + 2))), (0, vR 71), (1, vI l1)]) 4 rfl (by decide) rfl dX11_weightOf_49 rfl ?_
      refine x_goto (tgt := 5) dX11_weightOf_52 (by decide) ?_
      refine x_sub [3, 4, 1, 0] rfl ?_
      exact H
    · have H := H2 (Classical.byContradiction (fun z => hB (bz_0.mpr z)))
      refine x_iload (q := 37) 0 rfl dX11_weightOf_35 rfl ?_
      refine x_ok (fun hm10 => ?_)
      refine x_i2l (q := 38) (ok_ai hm10 sh_72 (by decide) _) dX11_weightOf_37 rfl ?_
      refine x_goto (tgt := 47) dX11_weightOf_38 (by decide) ?_
      refine x_lmul (q := 48) dX11_weightOf_47 rfl ?_
      refine x_lstoren (q := 49) (ls' := [(2, vL (l2 * (mem 72 (5 + 3 * l4 + 2)))), (5, vI (mem 72 (5 + 3 * l4 + 2))), (0, vR 71), (1, vI l1), (4, vI l4)]) rfl (by decide) rfl dX11_weightOf_48 rfl ?_
      refine x_iinc (q := 52) (ls' := [(4, vI (l4 + 1)), (2, vL (l2 * (mem 72 (5 + 3 * l4 + 2)))), (5, vI (mem 72 (5 + 3 * l4 + 2))), (0, vR 71), (1, vI l1)]) 4 rfl (by decide) rfl dX11_weightOf_49 rfl ?_
      refine x_goto (tgt := 5) dX11_weightOf_52 (by decide) ?_
      refine x_sub [3, 4, 1, 0] rfl ?_
      exact H
abbrev E_X11_priceOf (G : GT) (d pc : Nat) (ls : List (Nat × AV)) (st : List AV) (mem : Mem) (Q : Option AV → Mem → Prop) : Prop := Ex G RX11 cX11_priceOf 4 (some .int) d pc ls st mem Q
abbrev C_X11_priceOf (G : GT) (d : Nat) (as : List AV) (mem : Mem) (Q : Option AV → Mem → Prop) : Prop := Ct G yX11_priceOf cX11_priceOf 4 (some .int) d as mem Q
set_option maxRecDepth 20000 in
set_option maxHeartbeats 4000000 in
theorem B_X11_priceOf {G : GT} {d : Nat} {l1 : Int} {mem : Mem} {Q : Option AV → Mem → Prop} (hd : 1 ≤ d) (H : E_X11_priceOf G d 4 [(0, vR 71), (1, vI l1), (2, vI 0), (3, vI 0)] [] mem Q) : C_X11_priceOf G d [vR 71, vI l1] mem Q := by
  refine Ct_of_Ex (by decide +kernel) (by exact Nat.le_of_ble_eq_true rfl) (ls := [(0, vR 71), (1, vI l1)]) rfl ?_
  show E_X11_priceOf G d 0 [(0, vR 71), (1, vI l1)] [] mem Q
  refine x_iconst (q := 1) dX11_priceOf_0 rfl ?_
  refine x_istoren (q := 2) (ls' := [(2, vI 0), (0, vR 71), (1, vI l1)]) rfl (by decide) rfl dX11_priceOf_1 rfl ?_
  refine x_iconst (q := 3) dX11_priceOf_2 rfl ?_
  refine x_istoren (q := 4) (ls' := [(3, vI 0), (2, vI 0), (0, vR 71), (1, vI l1)]) rfl (by decide) rfl dX11_priceOf_3 rfl ?_
  refine x_sub [2, 3, 1, 0] rfl ?_
  exact H
set_option maxRecDepth 20000 in
set_option maxHeartbeats 4000000 in
theorem B_X11_priceOf_4 {G : GT} {d : Nat} {l1 : Int} {l2 : Int} {l3 : Int} {mem : Mem} {Q : Option AV → Mem → Prop} (hd : 1 ≤ d) (H : (inr l3) ∧ (((mem 72 0 ≤ l3) → (Q (some (vI l2)) mem)) ∧ (¬ (mem 72 0 ≤ l3) → ((¬ (iand (ishr l1 l3) 1 = 1) → (E_X11_priceOf G d 4 [(0, vR 71), (1, vI l1), (2, vI (l2 + 0)), (3, vI (l3 + 1))] [] mem Q)) ∧ ((iand (ishr l1 l3) 1 = 1) → ((0 ≤ 5 + 3 * l3 + 1 ∧ 5 + 3 * l3 + 1 < 553) ∧ (E_X11_priceOf G d 4 [(0, vR 71), (1, vI l1), (2, vI (l2 + (mem 72 (5 + 3 * l3 + 1)))), (3, vI (l3 + 1))] [] mem Q))))))) : E_X11_priceOf G d 4 [(0, vR 71), (1, vI l1), (2, vI l2), (3, vI l3)] [] mem Q := by
  refine x_iloadn (q := 5) 3 rfl rfl dX11_priceOf_4 rfl ?_
  refine x_aloadn (q := 6) 0 rfl rfl rfl dX11_priceOf_5 rfl ?_
  refine x_getr (q := 9) dX11_priceOf_6 rfl fa_X11_9 sh_71 rfl ?_
  refine x_iconst (q := 10) dX11_priceOf_9 rfl ?_
  refine x_iald (q := 11) dX11_priceOf_10 rfl sh_72 (by decide) (by decide) (fun r1 => ?_)
  obtain ⟨s2, H⟩ := H
  obtain ⟨H1, H2⟩ := H
  refine x_icmp_ge (tgt := 41) (q := 14) dX11_priceOf_11 (by decide) rfl s2 r1 (fun hB => ?_) (fun hB => ?_)
  · have H := H1 (hB)
    refine x_iloadn (q := 42) 2 rfl rfl dX11_priceOf_41 rfl ?_
    exact x_iret rfl dX11_priceOf_42 H
  · have H := H2 (hB)
    refine x_iloadn (q := 15) 2 rfl rfl dX11_priceOf_14 rfl ?_
    refine x_iloadn (q := 16) 1 rfl rfl dX11_priceOf_15 rfl ?_
    refine x_iloadn (q := 17) 3 rfl rfl dX11_priceOf_16 rfl ?_
    refine x_callS (q := 20) (d := d - 1) (as := [vI l1, vI l3]) (st := [vI l2]) dX11_priceOf_17 rfl ms_X11_195 rfl rfl (by exact Nat.le_of_ble_eq_true rfl) ⟨by show _ ≤ d; omega, by show _ ≤ 40 * d; omega⟩ ⟨Nat.le_refl _, Nat.le_refl _⟩ (ct_hasb ?_)
    show E_X11_priceOf G d 20 [(0, vR 71), (1, vI l1), (2, vI l2), (3, vI l3)] [vI (bz (iand (ishr l1 l3) 1 = 1)), vI l2] mem Q
    obtain ⟨H1, H2⟩ := H
    refine x_if_eq (tgt := 32) (q := 23) dX11_priceOf_20 (by decide) rfl (bz_inr _) (fun hB => ?_) (fun hB => ?_)
    · have H := H1 (bz_0.mp hB)
      refine x_iconst (q := 33) dX11_priceOf_32 rfl ?_
      refine x_iadd (q := 34) dX11_priceOf_33 rfl ?_
      refine x_istoren (q := 35) (ls' := [(2, vI (l2 + 0)), (0, vR 71), (1, vI l1), (3, vI l3)]) rfl (by decide) rfl dX11_priceOf_34 rfl ?_
      refine x_iinc (q := 38) (ls' := [(3, vI (l3 + 1)), (2, vI (l2 + 0)), (0, vR 71), (1, vI l1)]) 3 rfl (by decide) rfl dX11_priceOf_35 rfl ?_
      refine x_goto (tgt := 4) dX11_priceOf_38 (by decide) ?_
      refine x_sub [2, 3, 1, 0] rfl ?_
      exact H
    · have H := H2 (Classical.byContradiction (fun z => hB (bz_0.mpr z)))
      refine x_aloadn (q := 24) 0 rfl rfl rfl dX11_priceOf_23 rfl ?_
      refine x_iloadn (q := 25) 3 rfl rfl dX11_priceOf_24 rfl ?_
      refine x_iconst (q := 26) dX11_priceOf_25 rfl ?_
      obtain ⟨⟨s7, s8⟩, H⟩ := H
      refine x_callV (q := 29) (d := d - 1) (as := [vI l3, vI 1]) (st := [vI l2]) dX11_priceOf_26 rfl mv_X11_105 sh_71 rfl rfl rfl (by exact Nat.le_of_ble_eq_true rfl) ⟨by show _ ≤ d; omega, by show _ ≤ 40 * d; omega⟩ ⟨Nat.le_refl _, Nat.le_refl _⟩ (ct_machine11 s7 s8 ?_)
      show E_X11_priceOf G d 29 [(0, vR 71), (1, vI l1), (2, vI l2), (3, vI l3)] [vI (mem 72 (5 + 3 * l3 + 1)), vI l2] mem Q
      refine x_goto (tgt := 33) dX11_priceOf_29 (by decide) ?_
      refine x_iadd (q := 34) dX11_priceOf_33 rfl ?_
      refine x_istoren (q := 35) (ls' := [(2, vI (l2 + (mem 72 (5 + 3 * l3 + 1)))), (0, vR 71), (1, vI l1), (3, vI l3)]) rfl (by decide) rfl dX11_priceOf_34 rfl ?_
      refine x_iinc (q := 38) (ls' := [(3, vI (l3 + 1)), (2, vI (l2 + (mem 72 (5 + 3 * l3 + 1)))), (0, vR 71), (1, vI l1)]) 3 rfl (by decide) rfl dX11_priceOf_35 rfl ?_
      refine x_goto (tgt := 4) dX11_priceOf_38 (by decide) ?_
      refine x_sub [2, 3, 1, 0] rfl ?_
      exact H
abbrev E_X10_commonDivisor (G : GT) (d pc : Nat) (ls : List (Nat × AV)) (st : List AV) (mem : Mem) (Q : Option AV → Mem → Prop) : Prop := Ex G RX10 cX10_commonDivisor 11 (some .long) d pc ls st mem Q
abbrev C_X10_commonDivisor (G : GT) (d : Nat) (as : List AV) (mem : Mem) (Q : Option AV → Mem → Prop) : Prop := Ct G yX10_commonDivisor cX10_commonDivisor 11 (some .long) d as mem Q
set_option maxRecDepth 20000 in
set_option maxHeartbeats 4000000 in
theorem B_X10_commonDivisor {G : GT} {d : Nat} {l0 : Int} {l2 : Int} {mem : Mem} {Q : Option AV → Mem → Prop} (H : E_X10_commonDivisor G d 9 [(4, vL l0), (6, vL l2), (8, vI 0)] [] mem Q) : C_X10_commonDivisor G d [vL l0, vL l2] mem Q := by
  refine Ct_of_Ex (by decide +kernel) (by exact Nat.le_of_ble_eq_true rfl) (ls := [(0, vL l0), (2, vL l2)]) rfl ?_
  show E_X10_commonDivisor G d 0 [(0, vL l0), (2, vL l2)] [] mem Q
  refine x_lloadn (q := 1) 0 rfl rfl dX10_commonDivisor_0 rfl ?_
  refine x_lstore (q := 3) (ls' := [(4, vL l0), (0, vL l0), (2, vL l2)]) (by decide) rfl dX10_commonDivisor_1 rfl ?_
  refine x_lloadn (q := 4) 2 rfl rfl dX10_commonDivisor_3 rfl ?_
  refine x_lstore (q := 6) (ls' := [(6, vL l2), (4, vL l0), (0, vL l0), (2, vL l2)]) (by decide) rfl dX10_commonDivisor_4 rfl ?_
  refine x_iconst (q := 7) dX10_commonDivisor_6 rfl ?_
  refine x_istore (q := 9) (ls' := [(8, vI 0), (6, vL l2), (4, vL l0), (0, vL l0), (2, vL l2)]) (by decide) rfl dX10_commonDivisor_7 rfl ?_
  refine x_sub [2, 1, 0] rfl ?_
  exact H
set_option maxRecDepth 20000 in
set_option maxHeartbeats 4000000 in
theorem B_X10_commonDivisor_9 {G : GT} {d : Nat} {l4 : Int} {l6 : Int} {l8 : Int} {mem : Mem} {Q : Option AV → Mem → Prop} (H : (inr l8) ∧ (((200 ≤ l8) → (Q (some (vL l4)) mem)) ∧ (¬ (200 ≤ l8) → ((inl l6) ∧ (((lcmp l6 0 = 0) → (Q (some (vL l4)) mem)) ∧ (¬ (lcmp l6 0 = 0) → ((inl l4) ∧ ((l6 ≠ 0) ∧ (E_X10_commonDivisor G d 9 [(4, vL l6), (6, vL (Int.tmod l4 l6)), (8, vI (l8 + 1))] [] mem Q))))))))) : E_X10_commonDivisor G d 9 [(4, vL l4), (6, vL l6), (8, vI l8)] [] mem Q := by
  refine x_iload (q := 11) 2 rfl dX10_commonDivisor_9 rfl ?_
  refine x_sipush (q := 14) rfl dX10_commonDivisor_11 rfl ?_
  obtain ⟨s1, H⟩ := H
  obtain ⟨H1, H2⟩ := H
  refine x_icmp_ge (tgt := 45) (q := 17) dX10_commonDivisor_14 (by decide) rfl s1 (by decide) (fun hB => ?_) (fun hB => ?_)
  · have H := H1 (hB)
    refine x_lload (q := 47) 0 rfl dX10_commonDivisor_45 rfl ?_
    exact x_lret rfl dX10_commonDivisor_47 H
  · have H := H2 (hB)
    refine x_lload (q := 19) 1 rfl dX10_commonDivisor_17 rfl ?_
    refine x_lconst (q := 20) (v := 0) rfl dX10_commonDivisor_19 rfl ?_
    obtain ⟨s4, H⟩ := H
    refine x_lcmp (q := 21) s4 (by decide) dX10_commonDivisor_20 rfl ?_
    obtain ⟨H1, H2⟩ := H
    refine x_if_eq (tgt := 45) (q := 24) dX10_commonDivisor_21 (by decide) rfl (lcmp_inr _ _) (fun hB => ?_) (fun hB => ?_)
    · have H := H1 (hB)
      refine x_lload (q := 47) 0 rfl dX10_commonDivisor_45 rfl ?_
      exact x_lret rfl dX10_commonDivisor_47 H
    · have H := H2 (hB)
      refine x_lload (q := 26) 0 rfl dX10_commonDivisor_24 rfl ?_
      refine x_lload (q := 28) 1 rfl dX10_commonDivisor_26 rfl ?_
      obtain ⟨s7, H⟩ := H
      obtain ⟨s8, H⟩ := H
      refine x_lrem (q := 29) s7 s4 s8 dX10_commonDivisor_28 rfl ?_
      refine x_lstore (q := 31) (ls' := [(9, vL (Int.tmod l4 l6)), (4, vL l4), (6, vL l6), (8, vI l8)]) (by decide) rfl dX10_commonDivisor_29 rfl ?_
      refine x_lload (q := 33) 2 rfl dX10_commonDivisor_31 rfl ?_
      refine x_lstore (q := 35) (ls' := [(4, vL l6), (9, vL (Int.tmod l4 l6)), (6, vL l6), (8, vI l8)]) (by decide) rfl dX10_commonDivisor_33 rfl ?_
      refine x_lload (q := 37) 1 rfl dX10_commonDivisor_35 rfl ?_
      refine x_lstore (q := 39) (ls' := [(6, vL (Int.tmod l4 l6)), (4, vL l6), (9, vL (Int.tmod l4 l6)), (8, vI l8)]) (by decide) rfl dX10_commonDivisor_37 rfl ?_
      refine x_iinc (q := 42) (ls' := [(8, vI (l8 + 1)), (6, vL (Int.tmod l4 l6)), (4, vL l6), (9, vL (Int.tmod l4 l6))]) 3 rfl (by decide) rfl dX10_commonDivisor_39 rfl ?_
      refine x_goto (tgt := 9) dX10_commonDivisor_42 (by decide) ?_
      refine x_sub [2, 1, 0] rfl ?_
      exact H
