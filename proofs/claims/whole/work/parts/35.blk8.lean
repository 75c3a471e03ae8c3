abbrev E_X8_readKinds (G : GT) (d pc : Nat) (ls : List (Nat × AV)) (st : List AV) (mem : Mem) (Q : Option AV → Mem → Prop) : Prop := Ex G RX8 cX8_readKinds 2 none d pc ls st mem Q
abbrev C_X8_readKinds (G : GT) (d : Nat) (as : List AV) (mem : Mem) (Q : Option AV → Mem → Prop) : Prop := Ct G yX8_readKinds cX8_readKinds 2 none d as mem Q
abbrev E_X8_setsLeft (G : GT) (d pc : Nat) (ls : List (Nat × AV)) (st : List AV) (mem : Mem) (Q : Option AV → Mem → Prop) : Prop := Ex G RX8 cX8_setsLeft 8 (some .int) d pc ls st mem Q
abbrev C_X8_setsLeft (G : GT) (d : Nat) (as : List AV) (mem : Mem) (Q : Option AV → Mem → Prop) : Prop := Ct G yX8_setsLeft cX8_setsLeft 8 (some .int) d as mem Q
abbrev E_X8_bestTie (G : GT) (d pc : Nat) (ls : List (Nat × AV)) (st : List AV) (mem : Mem) (Q : Option AV → Mem → Prop) : Prop := Ex G RX8 cX8_bestTie 7 (some .int) d pc ls st mem Q
abbrev C_X8_bestTie (G : GT) (d : Nat) (as : List AV) (mem : Mem) (Q : Option AV → Mem → Prop) : Prop := Ct G yX8_bestTie cX8_bestTie 7 (some .int) d as mem Q
abbrev E_X8_leavesAtMostOne (G : GT) (d pc : Nat) (ls : List (Nat × AV)) (st : List AV) (mem : Mem) (Q : Option AV → Mem → Prop) : Prop := Ex G RX8 cX8_leavesAtMostOne 8 (some .boolean) d pc ls st mem Q
abbrev C_X8_leavesAtMostOne (G : GT) (d : Nat) (as : List AV) (mem : Mem) (Q : Option AV → Mem → Prop) : Prop := Ct G yX8_leavesAtMostOne cX8_leavesAtMostOne 8 (some .boolean) d as mem Q
abbrev E_X8_oneTrialDoes (G : GT) (d pc : Nat) (ls : List (Nat × AV)) (st : List AV) (mem : Mem) (Q : Option AV → Mem → Prop) : Prop := Ex G RX8 cX8_oneTrialDoes 5 (some .boolean) d pc ls st mem Q
abbrev C_X8_oneTrialDoes (G : GT) (d : Nat) (as : List AV) (mem : Mem) (Q : Option AV → Mem → Prop) : Prop := Ct G yX8_oneTrialDoes cX8_oneTrialDoes 5 (some .boolean) d as mem Q
abbrev E_X8_oneMoreDoes (G : GT) (d pc : Nat) (ls : List (Nat × AV)) (st : List AV) (mem : Mem) (Q : Option AV → Mem → Prop) : Prop := Ex G RX8 cX8_oneMoreDoes 6 (some .boolean) d pc ls st mem Q
abbrev C_X8_oneMoreDoes (G : GT) (d : Nat) (as : List AV) (mem : Mem) (Q : Option AV → Mem → Prop) : Prop := Ct G yX8_oneMoreDoes cX8_oneMoreDoes 6 (some .boolean) d as mem Q
abbrev E_X8_roundsNeeded (G : GT) (d pc : Nat) (ls : List (Nat × AV)) (st : List AV) (mem : Mem) (Q : Option AV → Mem → Prop) : Prop := Ex G RX8 cX8_roundsNeeded 3 (some .int) d pc ls st mem Q
abbrev C_X8_roundsNeeded (G : GT) (d : Nat) (as : List AV) (mem : Mem) (Q : Option AV → Mem → Prop) : Prop := Ct G yX8_roundsNeeded cX8_roundsNeeded 3 (some .int) d as mem Q
abbrev E_X11_letting (G : GT) (d pc : Nat) (ls : List (Nat × AV)) (st : List AV) (mem : Mem) (Q : Option AV → Mem → Prop) : Prop := Ex G RX11 cX11_letting 6 (some .int) d pc ls st mem Q
abbrev C_X11_letting (G : GT) (d : Nat) (as : List AV) (mem : Mem) (Q : Option AV → Mem → Prop) : Prop := Ct G yX11_letting cX11_letting 6 (some .int) d as mem Q
abbrev E_X11_does (G : GT) (d pc : Nat) (ls : List (Nat × AV)) (st : List AV) (mem : Mem) (Q : Option AV → Mem → Prop) : Prop := Ex G RX11 cX11_does 5 (some .boolean) d pc ls st mem Q
abbrev C_X11_does (G : GT) (d : Nat) (as : List AV) (mem : Mem) (Q : Option AV → Mem → Prop) : Prop := Ct G yX11_does cX11_does 5 (some .boolean) d as mem Q
abbrev E_X11_doesWith (G : GT) (d pc : Nat) (ls : List (Nat × AV)) (st : List AV) (mem : Mem) (Q : Option AV → Mem → Prop) : Prop := Ex G RX11 cX11_doesWith 7 (some .boolean) d pc ls st mem Q
abbrev C_X11_doesWith (G : GT) (d : Nat) (as : List AV) (mem : Mem) (Q : Option AV → Mem → Prop) : Prop := Ct G yX11_doesWith cX11_doesWith 7 (some .boolean) d as mem Q
set_option maxRecDepth 20000 in
set_option maxHeartbeats 4000000 in
theorem B_X8_readKinds {G : GT} {d : Nat}  {mem : Mem} {Q : Option AV → Mem → Prop} (hd : 1 ≤ d) (H : E_X8_readKinds G d 2 [(0, vR 45), (1, vI 0)] [] mem Q) : C_X8_readKinds G d [vR 45] mem Q := by
  refine Ct_of_Ex (by decide +kernel) (by exact Nat.le_of_ble_eq_true rfl) (ls := [(0, vR 45)]) rfl ?_
  show E_X8_readKinds G d 0 [(0, vR 45)] [] mem Q
  refine x_iconst (q := 1) dX8_readKinds_0 rfl ?_
  refine x_istoren (q := 2) (ls' := [(1, vI 0), (0, vR 45)]) rfl (by decide) rfl dX8_readKinds_1 rfl ?_
  refine x_sub [1, 0] rfl ?_
  exact H
set_option maxRecDepth 20000 in
set_option maxHeartbeats 4000000 in
theorem B_X8_readKinds_2 {G : GT} {d : Nat} {l1 : Int} {mem : Mem} {Q : Option AV → Mem → Prop} (hd : 4 ≤ d) (H : (inr l1) ∧ (((mem 1 0 ≤ l1) → (Q none mem)) ∧ (¬ (mem 1 0 ≤ l1) → ((0 ≤ l1 ∧ l1 < 12) ∧ ((0 ≤ mem 2 l1 ∧ mem 2 l1 < 6) ∧ (∀ m10 : Mem, m10 = upM mem 46 l1 (lcs (mem 2 l1) (nz 1)) → ((0 ≤ m10 2 l1 ∧ m10 2 l1 < 6) ∧ (∀ m14 : Mem, m14 = upM m10 47 l1 (lcs (m10 2 l1) (nz 0)) → (E_X8_readKinds G d 2 [(0, vR 45), (1, vI (l1 + 1))] [] m14 Q))))))))) : E_X8_readKinds G d 2 [(0, vR 45), (1, vI l1)] [] mem Q := by
  refine x_iloadn (q := 3) 1 rfl rfl dX8_readKinds_2 rfl ?_
  refine x_aloadn (q := 4) 0 rfl rfl rfl dX8_readKinds_3 rfl ?_
  refine x_getr (q := 7) dX8_readKinds_4 rfl fa_X8_21 sh_45 rfl ?_
  refine x_geti (q := 10) (ji := 0) dX8_readKinds_7 rfl fa_X8_29 sh_1 rfl rfl (fun r1 => ?_)
  obtain ⟨s2, H⟩ := H
  obtain ⟨H1, H2⟩ := H
  refine x_icmp_ge (tgt := 57) (q := 13) dX8_readKinds_10 (by decide) rfl s2 r1 (fun hB => ?_) (fun hB => ?_)
  · have H := H1 (hB)
    exact x_vret rfl dX8_readKinds_57 H
  · have H := H2 (hB)
    refine x_aloadn (q := 14) 0 rfl rfl rfl dX8_readKinds_13 rfl ?_
    refine x_getr (q := 17) dX8_readKinds_14 rfl fa_X8_9 sh_45 rfl ?_
    refine x_iloadn (q := 18) 1 rfl rfl dX8_readKinds_17 rfl ?_
    refine x_aloadn (q := 19) 0 rfl rfl rfl dX8_readKinds_18 rfl ?_
    refine x_getr (q := 22) dX8_readKinds_19 rfl fa_X8_21 sh_45 rfl ?_
    refine x_getr (q := 25) dX8_readKinds_22 rfl fa_X8_35 sh_1 rfl ?_
    refine x_iloadn (q := 26) 1 rfl rfl dX8_readKinds_25 rfl ?_
    obtain ⟨⟨s5, s6⟩, H⟩ := H
    refine x_iald (q := 27) dX8_readKinds_26 rfl sh_2 s5 s6 (fun r7 => ?_)
    refine x_iconst (q := 28) dX8_readKinds_27 rfl ?_
    obtain ⟨⟨s8, s9⟩, H⟩ := H
    refine x_callS (q := 31) (d := d - 1) (as := [vI (mem 2 l1), vI 1]) (st := [vI l1, vR 46]) dX8_readKinds_28 rfl ms_X8_38 rfl rfl (by exact Nat.le_of_ble_eq_true rfl) ⟨by show _ ≤ d; omega, by show _ ≤ 40 * d; omega⟩ ⟨Nat.le_refl _, Nat.le_refl _⟩ (ct_letCases (by omega) s8 s9 (by decide) ?_)
    show E_X8_readKinds G d 31 [(0, vR 45), (1, vI l1)] [vI (lcs (mem 2 l1) (nz 1)), vI l1, vR 46] mem Q
    refine x_iast (q := 32) dX8_readKinds_31 rfl sh_46 s5 s6 (by have := lcs_r (mem 2 l1) (nz 1); omega) (fun m10 em10 => ?_)
    have H := H m10 em10
    refine x_aloadn (q := 33) 0 rfl rfl rfl dX8_readKinds_32 rfl ?_
    refine x_getr (q := 36) dX8_readKinds_33 rfl fa_X8_15 sh_45 rfl ?_
    refine x_iloadn (q := 37) 1 rfl rfl dX8_readKinds_36 rfl ?_
    refine x_aloadn (q := 38) 0 rfl rfl rfl dX8_readKinds_37 rfl ?_
    refine x_getr (q := 41) dX8_readKinds_38 rfl fa_X8_21 sh_45 rfl ?_
    refine x_getr (q := 44) dX8_readKinds_41 rfl fa_X8_35 sh_1 rfl ?_
    refine x_iloadn (q := 45) 1 rfl rfl dX8_readKinds_44 rfl ?_
    refine x_iald (q := 46) dX8_readKinds_45 rfl sh_2 s5 s6 (fun r11 => ?_)
    refine x_iconst (q := 47) dX8_readKinds_46 rfl ?_
    obtain ⟨⟨s12, s13⟩, H⟩ := H
    refine x_callS (q := 50) (d := d - 1) (as := [vI (m10 2 l1), vI 0]) (st := [vI l1, vR 47]) dX8_readKinds_47 rfl ms_X8_38 rfl rfl (by exact Nat.le_of_ble_eq_true rfl) ⟨by show _ ≤ d; omega, by show _ ≤ 40 * d; omega⟩ ⟨Nat.le_refl _, Nat.le_refl _⟩ (ct_letCases (by omega) s12 s13 (by decide) ?_)
    show E_X8_readKinds G d 50 [(0, vR 45), (1, vI l1)] [vI (lcs (m10 2 l1) (nz 0)), vI l1, vR 47] m10 Q
    refine x_iast (q := 51) dX8_readKinds_50 rfl sh_47 s5 s6 (by have := lcs_r (m10 2 l1) (nz 0); omega) (fun m14 em14 => ?_)
    have H := H m14 em14
    refine x_iinc (q := 54) (ls' := [(1, vI (l1 + 1)), (0, vR 45)]) 1 rfl (by decide) rfl dX8_readKinds_51 rfl ?_
    refine x_goto (tgt := 2) dX8_readKinds_54 (by decide) ?_
    refine x_sub [1, 0] rfl ?_
    exact H
set_option maxRecDepth 20000 in
set_option maxHeartbeats 4000000 in
theorem B_X8_setsLeft {G : GT} {d : Nat} {l1 : Int} {l2 : Int} {l3 : Int} {mem : Mem} {Q : Option AV → Mem → Prop} (H : (0 ≤ ior (ishl 1 l2) (ishl 1 l3) ∧ ior (ishl 1 l2) (ishl 1 l3) < 4096) ∧ ((0 ≤ ishl 1 l2 ∧ ishl 1 l2 < 4096) ∧ ((0 ≤ ishl 1 l3 ∧ ishl 1 l3 < 4096) ∧ (Q (some (vI (((((iand l1 1) * ((((mem 32 7) - (mem 39 (ior (ishl 1 l2) (ishl 1 l3)))) - ((mem 39 (ishl 1 l2)) - (mem 39 (ior (ishl 1 l2) (ishl 1 l3))))) - ((mem 39 (ishl 1 l3)) - (mem 39 (ior (ishl 1 l2) (ishl 1 l3)))))) + ((iand (ishr l1 1) 1) * ((mem 39 (ishl 1 l3)) - (mem 39 (ior (ishl 1 l2) (ishl 1 l3)))))) + ((iand (ishr l1 2) 1) * ((mem 39 (ishl 1 l2)) - (mem 39 (ior (ishl 1 l2) (ishl 1 l3)))))) + ((iand (ishr l1 3) 1) * (mem 39 (ior (ishl 1 l2) (ishl 1 l3))))))) mem)))) : C_X8_setsLeft G d [vR 45, vI l1, vI l2, vI l3] mem Q := by
  refine Ct_of_Ex (by decide +kernel) (by exact Nat.le_of_ble_eq_true rfl) (ls := [(0, vR 45), (1, vI l1), (2, vI l2), (3, vI l3)]) rfl ?_
  show E_X8_setsLeft G d 0 [(0, vR 45), (1, vI l1), (2, vI l2), (3, vI l3)] [] mem Q
  refine x_aloadn (q := 1) 0 rfl rfl rfl dX8_setsLeft_0 rfl ?_
  refine x_getr (q := 4) dX8_setsLeft_1 rfl fa_X8_25 sh_45 rfl ?_
  refine x_getr (q := 7) dX8_setsLeft_4 rfl fa_X8_44 sh_32 rfl ?_
  refine x_iconst (q := 8) dX8_setsLeft_7 rfl ?_
  refine x_iloadn (q := 9) 2 rfl rfl dX8_setsLeft_8 rfl ?_
  refine x_ishl (q := 10) dX8_setsLeft_9 rfl ?_
  refine x_iconst (q := 11) dX8_setsLeft_10 rfl ?_
  refine x_iloadn (q := 12) 3 rfl rfl dX8_setsLeft_11 rfl ?_
  refine x_ishl (q := 13) dX8_setsLeft_12 rfl ?_
  refine x_ior (q := 14) dX8_setsLeft_13 rfl ?_
  obtain ⟨⟨s1, s2⟩, H⟩ := H
  refine x_iald (q := 15) dX8_setsLeft_14 rfl sh_39 s1 s2 (fun r3 => ?_)
  refine x_istore (q := 17) (ls' := [(4, vI (mem 39 (ior (ishl 1 l2) (ishl 1 l3)))), (0, vR 45), (1, vI l1), (2, vI l2), (3, vI l3)]) (by decide) rfl dX8_setsLeft_15 rfl ?_
  refine x_aloadn (q := 18) 1 rfl rfl rfl dX8_setsLeft_17 rfl ?_
  refine x_getr (q := 21) dX8_setsLeft_18 rfl fa_X8_25 sh_45 rfl ?_
  refine x_getr (q := 24) dX8_setsLeft_21 rfl fa_X8_44 sh_32 rfl ?_
  refine x_iconst (q := 25) dX8_setsLeft_24 rfl ?_
  refine x_iloadn (q := 26) 3 rfl rfl dX8_setsLeft_25 rfl ?_
  refine x_ishl (q := 27) dX8_setsLeft_26 rfl ?_
  obtain ⟨⟨s4, s5⟩, H⟩ := H
  refine x_iald (q := 28) dX8_setsLeft_27 rfl sh_39 s4 s5 (fun r6 => ?_)
  refine x_iload (q := 30) 0 rfl dX8_setsLeft_28 rfl ?_
  refine x_isub (q := 31) dX8_setsLeft_30 rfl ?_
  refine x_istore (q := 33) (ls' := [(5, vI ((mem 39 (ishl 1 l2)) - (mem 39 (ior (ishl 1 l2) (ishl 1 l3))))), (4, vI (mem 39 (ior (ishl 1 l2) (ishl 1 l3)))), (0, vR 45), (1, vI l1), (2, vI l2), (3, vI l3)]) (by decide) rfl dX8_setsLeft_31 rfl ?_
  refine x_aloadn (q := 34) 2 rfl rfl rfl dX8_setsLeft_33 rfl ?_
  refine x_getr (q := 37) dX8_setsLeft_34 rfl fa_X8_25 sh_45 rfl ?_
  refine x_getr (q := 40) dX8_setsLeft_37 rfl fa_X8_44 sh_32 rfl ?_
  refine x_iconst (q := 41) dX8_setsLeft_40 rfl ?_
  refine x_iloadn (q := 42) 5 rfl rfl dX8_setsLeft_41 rfl ?_
  refine x_ishl (q := 43) dX8_setsLeft_42 rfl ?_
  obtain ⟨⟨s7, s8⟩, H⟩ := H
  refine x_iald (q := 44) dX8_setsLeft_43 rfl sh_39 s7 s8 (fun r9 => ?_)
  refine x_iload (q := 46) 1 rfl dX8_setsLeft_44 rfl ?_
  refine x_isub (q := 47) dX8_setsLeft_46 rfl ?_
  refine x_istore (q := 49) (ls' := [(6, vI ((mem 39 (ishl 1 l3)) - (mem 39 (ior (ishl 1 l2) (ishl 1 l3))))), (5, vI ((mem 39 (ishl 1 l2)) - (mem 39 (ior (ishl 1 l2) (ishl 1 l3))))), (4, vI (mem 39 (ior (ishl 1 l2) (ishl 1 l3)))), (0, vR 45), (1, vI l1), (2, vI l2), (3, vI l3)]) (by decide) rfl dX8_setsLeft_47 rfl ?_
  refine x_aloadn (q := 50) 3 rfl rfl rfl dX8_setsLeft_49 rfl ?_
  refine x_getr (q := 53) dX8_setsLeft_50 rfl fa_X8_25 sh_45 rfl ?_
  refine x_geti (q := 56) (ji := 7) dX8_setsLeft_53 rfl fa_X8_49 sh_32 rfl rfl (fun r10 => ?_)
  refine x_iload (q := 58) 2 rfl dX8_setsLeft_56 rfl ?_
  refine x_isub (q := 59) dX8_setsLeft_58 rfl ?_
  refine x_iload (q := 61) 1 rfl dX8_setsLeft_59 rfl ?_
  refine x_isub (q := 62) dX8_setsLeft_61 rfl ?_
  refine x_iload (q := 64) 0 rfl dX8_setsLeft_62 rfl ?_
  refine x_isub (q := 65) dX8_setsLeft_64 rfl ?_
  refine x_istore (q := 67) (ls' := [(7, vI ((((mem 32 7) - (mem 39 (ior (ishl 1 l2) (ishl 1 l3)))) - ((mem 39 (ishl 1 l2)) - (mem 39 (ior (ishl 1 l2) (ishl 1 l3))))) - ((mem 39 (ishl 1 l3)) - (mem 39 (ior (ishl 1 l2) (ishl 1 l3)))))), (6, vI ((mem 39 (ishl 1 l3)) - (mem 39 (ior (ishl 1 l2) (ishl 1 l3))))), (5, vI ((mem 39 (ishl 1 l2)) - (mem 39 (ior (ishl 1 l2) (ishl 1 l3))))), (4, vI (mem 39 (ior (ishl 1 l2) (ishl 1 l3)))), (0, vR 45), (1, vI l1), (2, vI l2), (3, vI l3)]) (by decide) rfl dX8_setsLeft_65 rfl ?_
  refine x_iloadn (q := 68) 5 rfl rfl dX8_setsLeft_67 rfl ?_
  refine x_iconst (q := 69) dX8_setsLeft_68 rfl ?_
  refine x_iand (q := 70) dX8_setsLeft_69 rfl ?_
  refine x_iload (q := 72) 0 rfl dX8_setsLeft_70 rfl ?_
  refine x_imul (q := 73) dX8_setsLeft_72 rfl ?_
  refine x_iloadn (q := 74) 5 rfl rfl dX8_setsLeft_73 rfl ?_
  refine x_iconst (q := 75) dX8_setsLeft_74 rfl ?_
  refine x_ishr (q := 76) dX8_setsLeft_75 rfl ?_
  refine x_iconst (q := 77) dX8_setsLeft_76 rfl ?_
  refine x_iand (q := 78) dX8_setsLeft_77 rfl ?_
  refine x_iload (q := 80) 1 rfl dX8_setsLeft_78 rfl ?_
  refine x_imul (q := 81) dX8_setsLeft_80 rfl ?_
  refine x_iadd (q := 82) dX8_setsLeft_81 rfl ?_
  refine x_iloadn (q := 83) 5 rfl rfl dX8_setsLeft_82 rfl ?_
  refine x_iconst (q := 84) dX8_setsLeft_83 rfl ?_
  refine x_ishr (q := 85) dX8_setsLeft_84 rfl ?_
  refine x_iconst (q := 86) dX8_setsLeft_85 rfl ?_
  refine x_iand (q := 87) dX8_setsLeft_86 rfl ?_
  refine x_iload (q := 89) 2 rfl dX8_setsLeft_87 rfl ?_
  refine x_imul (q := 90) dX8_setsLeft_89 rfl ?_
  refine x_iadd (q := 91) dX8_setsLeft_90 rfl ?_
  refine x_iloadn (q := 92) 5 rfl rfl dX8_setsLeft_91 rfl ?_
  refine x_iconst (q := 93) dX8_setsLeft_92 rfl ?_
  refine x_ishr (q := 94) dX8_setsLeft_93 rfl ?_
  refine x_iconst (q := 95) dX8_setsLeft_94 rfl ?_
  refine x_iand (q := 96) dX8_setsLeft_95 rfl ?_
  refine x_iload (q := 98) 3 rfl dX8_setsLeft_96 rfl ?_
  refine x_imul (q := 99) dX8_setsLeft_98 rfl ?_
  refine x_iadd (q := 100) dX8_setsLeft_99 rfl ?_
  exact x_iret rfl dX8_setsLeft_100 H
set_option maxRecDepth 20000 in
set_option maxHeartbeats 4000000 in
theorem B_X8_bestTie {G : GT} {d : Nat}  {mem : Mem} {Q : Option AV → Mem → Prop} (hd : 1 ≤ d) (H : C_X8_readKinds G (d - 1) [vR 45] mem (fun r9 m1 => r9 = none ∧ (C_X1_countThoseWith G (d - 1) [vR 32] m1 (fun r9 m2 => r9 = none ∧ (E_X8_bestTie G d 17 [(0, vR 45), (1, vI (-1)), (2, vI 0), (3, vI 0)] [] m2 Q))))) : C_X8_bestTie G d [vR 45] mem Q := by
  refine Ct_of_Ex (by decide +kernel) (by exact Nat.le_of_ble_eq_true rfl) (ls := [(0, vR 45)]) rfl ?_
  show E_X8_bestTie G d 0 [(0, vR 45)] [] mem Q
  refine x_aloadn (q := 1) 0 rfl rfl rfl dX8_bestTie_0 rfl ?_
  refine x_callV (q := 4) (d := d - 1) (as := []) (st := []) dX8_bestTie_1 rfl mv_X8_52 sh_45 rfl rfl rfl (by exact Nat.le_of_ble_eq_true rfl) ⟨by show _ ≤ d; omega, by show _ ≤ 40 * d; omega⟩ ⟨Nat.le_refl _, Nat.le_refl _⟩ (Ct.mono H (fun r9 m1 H => ?_))
  obtain ⟨rfl, H⟩ := H
  show E_X8_bestTie G d 4 [(0, vR 45)] [] m1 Q
  refine x_aloadn (q := 5) 0 rfl rfl rfl dX8_bestTie_4 rfl ?_
  refine x_getr (q := 8) dX8_bestTie_5 rfl fa_X8_25 sh_45 rfl ?_
  refine x_callV (q := 11) (d := d - 1) (as := []) (st := []) dX8_bestTie_8 rfl mv_X8_55 sh_32 rfl rfl rfl (by exact Nat.le_of_ble_eq_true rfl) ⟨by show _ ≤ d; omega, by show _ ≤ 40 * d; omega⟩ ⟨Nat.le_refl _, Nat.le_refl _⟩ (Ct.mono H (fun r9 m2 H => ?_))
  obtain ⟨rfl, H⟩ := H
  show E_X8_bestTie G d 11 [(0, vR 45)] [] m2 Q
  refine x_iconst (q := 12) dX8_bestTie_11 rfl ?_
  refine x_istoren (q := 13) (ls' := [(1, vI (-1)), (0, vR 45)]) rfl (by decide) rfl dX8_bestTie_12 rfl ?_
  refine x_iconst (q := 14) dX8_bestTie_13 rfl ?_
  refine x_istoren (q := 15) (ls' := [(2, vI 0), (1, vI (-1)), (0, vR 45)]) rfl (by decide) rfl dX8_bestTie_14 rfl ?_
  refine x_iconst (q := 16) dX8_bestTie_15 rfl ?_
  refine x_istoren (q := 17) (ls' := [(3, vI 0), (2, vI 0), (1, vI (-1)), (0, vR 45)]) rfl (by decide) rfl dX8_bestTie_16 rfl ?_
  refine x_sub [3, 2, 1, 0] rfl ?_
  exact H
set_option maxRecDepth 20000 in
set_option maxHeartbeats 4000000 in
theorem B_X8_bestTie_17 {G : GT} {d : Nat} {l1 : Int} {l2 : Int} {l3 : Int} {mem : Mem} {Q : Option AV → Mem → Prop} (hd : 1 ≤ d) (H : (inr l3) ∧ (((mem 1 0 ≤ l3) → (Q (some (vI l1)) mem)) ∧ (¬ (mem 1 0 ≤ l3) → (E_X8_bestTie G d 31 [(0, vR 45), (1, vI l1), (2, vI l2), (3, vI l3), (4, vI 0)] [] mem Q)))) : E_X8_bestTie G d 17 [(0, vR 45), (1, vI l1), (2, vI l2), (3, vI l3)] [] mem Q := by
  refine x_iloadn (q := 18) 3 rfl rfl dX8_bestTie_17 rfl ?_
  refine x_aloadn (q := 19) 0 rfl rfl rfl dX8_bestTie_18 rfl ?_
  refine x_getr (q := 22) dX8_bestTie_19 rfl fa_X8_21 sh_45 rfl ?_
  refine x_geti (q := 25) (ji := 0) dX8_bestTie_22 rfl fa_X8_29 sh_1 rfl rfl (fun r3 => ?_)
  obtain ⟨s4, H⟩ := H
  obtain ⟨H1, H2⟩ := H
  refine x_icmp_ge (tgt := 156) (q := 28) dX8_bestTie_25 (by decide) rfl s4 r3 (fun hB => ?_) (fun hB => ?_)
  · have H := H1 (hB)
    refine x_iloadn (q := 157) 1 rfl rfl dX8_bestTie_156 rfl ?_
    exact x_iret rfl dX8_bestTie_157 H
  · have H := H2 (hB)
    refine x_iconst (q := 29) dX8_bestTie_28 rfl ?_
    refine x_istore (q := 31) (ls' := [(4, vI 0), (0, vR 45), (1, vI l1), (2, vI l2), (3, vI l3)]) (by decide) rfl dX8_bestTie_29 rfl ?_
    refine x_sub [1, 2, 3, 4, 0] rfl ?_
    exact H
set_option maxRecDepth 20000 in
set_option maxHeartbeats 4000000 in
theorem B_X8_bestTie_31 {G : GT} {d : Nat} {l1 : Int} {l2 : Int} {l3 : Int} {l4 : Int} {mem : Mem} {Q : Option AV → Mem → Prop} (hd : 1 ≤ d) (H : (inr l4) ∧ (((mem 1 0 ≤ l4) → (E_X8_bestTie G d 17 [(0, vR 45), (1, vI l1), (2, vI l2), (3, vI (l3 + 1))] [] mem Q)) ∧ (¬ (mem 1 0 ≤ l4) → ((0 ≤ l3 ∧ l3 < 12) ∧ ((¬ (iand (ishr (mem 5 l3) l4) 1 ≠ 0) → (E_X8_bestTie G d 31 [(0, vR 45), (1, vI l1), (2, vI l2), (3, vI l3), (4, vI (l4 + 1))] [] mem Q)) ∧ ((iand (ishr (mem 5 l3) l4) 1 ≠ 0) → ((0 ≤ l3 ∧ l3 < 12) ∧ (C_X8_setsLeft G (d - 1) [vR 45, vI (mem 46 l3), vI l3, vI l4] mem (fun r9 m18 => ∃ z19 : Int, r9 = some (vI z19) ∧ (C_X8_setsLeft G (d - 1) [vR 45, vI (m18 47 l3), vI l3, vI l4] m18 (fun r9 m21 => ∃ z22 : Int, r9 = some (vI z22) ∧ ((inr z19 ∧ inr z22) ∧ ((0 ≤ l3 * 12 + l4 ∧ l3 * 12 + l4 < 144) ∧ ((inr l1) ∧ (((l1 < 0) → (∀ m30 : Mem, m30 = upM m21 45 5 (tmax z19 z22) → (E_X8_bestTie G d 31 [(0, vR 45), (1, vI ((100 * l3) + l4)), (2, vI (m21 6 (l3 * 12 + l4))), (3, vI l3), (4, vI (l4 + 1))] [] m30 Q))) ∧ (¬ (l1 < 0) → (((tmax z19 z22 < m21 45 5) → (∀ m34 : Mem, m34 = upM m21 45 5 (tmax z19 z22) → (E_X8_bestTie G d 31 [(0, vR 45), (1, vI ((100 * l3) + l4)), (2, vI (m21 6 (l3 * 12 + l4))), (3, vI l3), (4, vI (l4 + 1))] [] m34 Q))) ∧ (¬ (tmax z19 z22 < m21 45 5) → (((tmax z19 z22 ≠ m21 45 5) → (E_X8_bestTie G d 31 [(0, vR 45), (1, vI l1), (2, vI l2), (3, vI l3), (4, vI (l4 + 1))] [] m21 Q)) ∧ (¬ (tmax z19 z22 ≠ m21 45 5) → ((inr l2) ∧ (((l2 ≤ m21 6 (l3 * 12 + l4)) → (E_X8_bestTie G d 31 [(0, vR 45), (1, vI l1), (2, vI l2), (3, vI l3), (4, vI (l4 + 1))] [] m21 Q)) ∧ (¬ (l2 ≤ m21 6 (l3 * 12 + l4)) → (∀ m42 : Mem, m42 = upM m21 45 5 (tmax z19 z22) → (E_X8_bestTie G d 31 [(0, vR 45), (1, vI ((100 * l3) + l4)), (2, vI (m21 6 (l3 * 12 + l4))), (3, vI l3), (4, vI (l4 + 1))] [] m42 Q))))))))))))))))))))))))) : E_X8_bestTie G d 31 [(0, vR 45), (1, vI l1), (2, vI l2), (3, vI l3), (4, vI l4)] [] mem Q := by
  refine x_iload (q := 33) 4 rfl dX8_bestTie_31 rfl ?_
  refine x_aloadn (q := 34) 0 rfl rfl rfl dX8_bestTie_33 rfl ?_
  refine x_getr (q := 37) dX8_bestTie_34 rfl fa_X8_21 sh_45 rfl ?_
  refine x_geti (q := 40) (ji := 0) dX8_bestTie_37 rfl fa_X8_29 sh_1 rfl rfl (fun r7 => ?_)
  obtain ⟨s8, H⟩ := H
  obtain ⟨H1, H2⟩ := H
  refine x_icmp_ge (tgt := 150) (q := 43) dX8_bestTie_40 (by decide) rfl s8 r7 (fun hB => ?_) (fun hB => ?_)
  · have H := H1 (hB)
    refine x_iinc (q := 153) (ls' := [(3, vI (l3 + 1)), (0, vR 45), (1, vI l1), (2, vI l2), (4, vI l4)]) 3 rfl (by decide) rfl dX8_bestTie_150 rfl ?_
    refine x_goto (tgt := 17) dX8_bestTie_153 (by decide) ?_
    refine x_sub [1, 2, 3, 0] rfl ?_
    exact H
  · have H := H2 (hB)
    refine x_aloadn (q := 44) 0 rfl rfl rfl dX8_bestTie_43 rfl ?_
    refine x_getr (q := 47) dX8_bestTie_44 rfl fa_X8_21 sh_45 rfl ?_
    refine x_iloadn (q := 48) 3 rfl rfl dX8_bestTie_47 rfl ?_
    refine x_iload (q := 50) 4 rfl dX8_bestTie_48 rfl ?_
    obtain ⟨⟨s11, s12⟩, H⟩ := H
    refine x_callV (q := 53) (d := d - 1) (as := [vI l3, vI l4]) (st := []) dX8_bestTie_50 rfl mv_X8_58 sh_1 rfl rfl rfl (by exact Nat.le_of_ble_eq_true rfl) ⟨by show _ ≤ d; omega, by show _ ≤ 40 * d; omega⟩ ⟨Nat.le_refl _, Nat.le_refl _⟩ (ct_tied (by decide) s11 s12 ?_)
    show E_X8_bestTie G d 53 [(0, vR 45), (1, vI l1), (2, vI l2), (3, vI l3), (4, vI l4)] [vI (bz (iand (ishr (mem 5 l3) l4) 1 ≠ 0))] mem Q
    obtain ⟨H1, H2⟩ := H
    refine x_if_eq (tgt := 144) (q := 56) dX8_bestTie_53 (by decide) rfl (bz_inr _) (fun hB => ?_) (fun hB => ?_)
    · have H := H1 (bz_0.mp hB)
      refine x_iinc (q := 147) (ls' := [(4, vI (l4 + 1)), (0, vR 45), (1, vI l1), (2, vI l2), (3, vI l3)]) 4 rfl (by decide) rfl dX8_bestTie_144 rfl ?_
      refine x_goto (tgt := 31) dX8_bestTie_147 (by decide) ?_
      refine x_sub [1, 2, 3, 4, 0] rfl ?_
      exact H
    · have H := H2 (Classical.byContradiction (fun z => hB (bz_0.mpr z)))
      refine x_aloadn (q := 57) 0 rfl rfl rfl dX8_bestTie_56 rfl ?_
      refine x_aloadn (q := 58) 0 rfl rfl rfl dX8_bestTie_57 rfl ?_
      refine x_getr (q := 61) dX8_bestTie_58 rfl fa_X8_9 sh_45 rfl ?_
      refine x_iloadn (q := 62) 3 rfl rfl dX8_bestTie_61 rfl ?_
      obtain ⟨⟨s15, s16⟩, H⟩ := H
      refine x_iald (q := 63) dX8_bestTie_62 rfl sh_46 s15 s16 (fun r17 => ?_)
      refine x_iloadn (q := 64) 3 rfl rfl dX8_bestTie_63 rfl ?_
      refine x_iload (q := 66) 4 rfl dX8_bestTie_64 rfl ?_
      refine x_callV (q := 69) (d := d - 1) (as := [vI (mem 46 l3), vI l3, vI l4]) (st := []) dX8_bestTie_66 rfl mv_X8_62 sh_45 rfl rfl rfl (by exact Nat.le_of_ble_eq_true rfl) ⟨by show _ ≤ d; omega, by show _ ≤ 40 * d; omega⟩ ⟨Nat.le_refl _, Nat.le_refl _⟩ (Ct.mono H (fun r9 m18 H => ?_))
      obtain ⟨z19, rfl, H⟩ := H
      show E_X8_bestTie G d 69 [(0, vR 45), (1, vI l1), (2, vI l2), (3, vI l3), (4, vI l4)] [vI z19] m18 Q
      refine x_aloadn (q := 70) 0 rfl rfl rfl dX8_bestTie_69 rfl ?_
      refine x_aloadn (q := 71) 0 rfl rfl rfl dX8_bestTie_70 rfl ?_
      refine x_getr (q := 74) dX8_bestTie_71 rfl fa_X8_15 sh_45 rfl ?_
      refine x_iloadn (q := 75) 3 rfl rfl dX8_bestTie_74 rfl ?_
      refine x_iald (q := 76) dX8_bestTie_75 rfl sh_47 s15 s16 (fun r20 => ?_)
      refine x_iloadn (q := 77) 3 rfl rfl dX8_bestTie_76 rfl ?_
      refine x_iload (q := 79) 4 rfl dX8_bestTie_77 rfl ?_
      refine x_callV (q := 82) (d := d - 1) (as := [vI (m18 47 l3), vI l3, vI l4]) (st := [vI z19]) dX8_bestTie_79 rfl mv_X8_62 sh_45 rfl rfl rfl (by exact Nat.le_of_ble_eq_true rfl) ⟨by show _ ≤ d; omega, by show _ ≤ 40 * d; omega⟩ ⟨Nat.le_refl _, Nat.le_refl _⟩ (Ct.mono H (fun r9 m21 H => ?_))
      obtain ⟨z22, rfl, H⟩ := H
      show E_X8_bestTie G d 82 [(0, vR 45), (1, vI l1), (2, vI l2), (3, vI l3), (4, vI l4)] [vI z22, vI z19] m21 Q
      obtain ⟨⟨s23, s24⟩, H⟩ := H
      refine x_mmax (q := 85) dX8_bestTie_82 rfl ml_X8_66 mm_st_max mm_ini mm_cd_max (by exact Nat.le_of_ble_eq_true rfl) ⟨by show 1 ≤ d; omega, by show 21 ≤ 40 * d; omega⟩ ⟨Nat.le_refl _, Nat.le_refl _⟩ s23 s24 ?_
      refine x_istore (q := 87) (ls' := [(5, vI (tmax z19 z22)), (0, vR 45), (1, vI l1), (2, vI l2), (3, vI l3), (4, vI l4)]) (by decide) rfl dX8_bestTie_85 rfl ?_
      refine x_aloadn (q := 88) 1 rfl rfl rfl dX8_bestTie_87 rfl ?_
      refine x_getr (q := 91) dX8_bestTie_88 rfl fa_X8_21 sh_45 rfl ?_
      refine x_iloadn (q := 92) 4 rfl rfl dX8_bestTie_91 rfl ?_
      refine x_iload (q := 94) 5 rfl dX8_bestTie_92 rfl ?_
      obtain ⟨⟨s25, s26⟩, H⟩ := H
      refine x_callV (q := 97) (d := d - 1) (as := [vI l3, vI l4]) (st := []) dX8_bestTie_94 rfl mv_X8_72 sh_1 rfl rfl rfl (by exact Nat.le_of_ble_eq_true rfl) ⟨by show _ ≤ d; omega, by show _ ≤ 40 * d; omega⟩ ⟨Nat.le_refl _, Nat.le_refl _⟩ (ct_costOf (by decide) s25 s26 ?_)
      show E_X8_bestTie G d 97 [(5, vI (tmax z19 z22)), (0, vR 45), (1, vI l1), (2, vI l2), (3, vI l3), (4, vI l4)] [vI (m21 6 (l3 * 12 + l4))] m21 Q
      refine x_istore (q := 99) (ls' := [(6, vI (m21 6 (l3 * 12 + l4))), (5, vI (tmax z19 z22)), (0, vR 45), (1, vI l1), (2, vI l2), (3, vI l3), (4, vI l4)]) (by decide) rfl dX8_bestTie_97 rfl ?_
      refine x_iloadn (q := 100) 3 rfl rfl dX8_bestTie_99 rfl ?_
      obtain ⟨s27, H⟩ := H
      obtain ⟨H1, H2⟩ := H
      refine x_if_lt (tgt := 127) (q := 103) dX8_bestTie_100 (by decide) rfl s27 (fun hB => ?_) (fun hB => ?_)
      · have H := H1 (hB)
        refine x_bipush (q := 129) rfl dX8_bestTie_127 rfl ?_
        refine x_iloadn (q := 130) 5 rfl rfl dX8_bestTie_129 rfl ?_
        refine x_imul (q := 131) dX8_bestTie_130 rfl ?_
        refine x_iload (q := 133) 6 rfl dX8_bestTie_131 rfl ?_
        refine x_iadd (q := 134) dX8_bestTie_133 rfl ?_
        refine x_istoren (q := 135) (ls' := [(1, vI ((100 * l3) + l4)), (6, vI (m21 6 (l3 * 12 + l4))), (5, vI (tmax z19 z22)), (0, vR 45), (2, vI l2), (3, vI l3), (4, vI l4)]) rfl (by decide) rfl dX8_bestTie_134 rfl ?_
        refine x_aloadn (q := 136) 3 rfl rfl rfl dX8_bestTie_135 rfl ?_
        refine x_iload (q := 138) 2 rfl dX8_bestTie_136 rfl ?_
        refine x_puti (q := 141) (ji := 5) dX8_bestTie_138 rfl fp_X8_75 sh_45 rfl rfl (tmax_inr s23 s24) (fun m30 em30 => ?_)
        have H := H m30 em30
        refine x_iload (q := 143) 1 rfl dX8_bestTie_141 rfl ?_
        refine x_istoren (q := 144) (ls' := [(2, vI (m21 6 (l3 * 12 + l4))), (1, vI ((100 * l3) + l4)), (6, vI (m21 6 (l3 * 12 + l4))), (5, vI (tmax z19 z22)), (0, vR 45), (3, vI l3), (4, vI l4)]) rfl (by decide) rfl dX8_bestTie_143 rfl ?_
        refine x_iinc (q := 147) (ls' := [(4, vI (l4 + 1)), (2, vI (m21 6 (l3 * 12 + l4))), (1, vI ((100 * l3) + l4)), (6, vI (m21 6 (l3 * 12 + l4))), (5, vI (tmax z19 z22)), (0, vR 45), (3, vI l3)]) 6 rfl (by decide) rfl dX8_bestTie_144 rfl ?_
        refine x_goto (tgt := 31) dX8_bestTie_147 (by decide) ?_
        refine x_sub [5, 2, 1, 6, 0] rfl ?_
        exact H
      · have H := H2 (hB)
        refine x_iload (q := 105) 1 rfl dX8_bestTie_103 rfl ?_
        refine x_aloadn (q := 106) 2 rfl rfl rfl dX8_bestTie_105 rfl ?_
        refine x_geti (q := 109) (ji := 5) dX8_bestTie_106 rfl fa_X8_75 sh_45 rfl rfl (fun r31 => ?_)
        obtain ⟨H1, H2⟩ := H
        refine x_icmp_lt (tgt := 127) (q := 112) dX8_bestTie_109 (by decide) rfl (tmax_inr s23 s24) r31 (fun hB => ?_) (fun hB => ?_)
        · have H := H1 (hB)
          refine x_bipush (q := 129) rfl dX8_bestTie_127 rfl ?_
          refine x_iloadn (q := 130) 5 rfl rfl dX8_bestTie_129 rfl ?_
          refine x_imul (q := 131) dX8_bestTie_130 rfl ?_
          refine x_iload (q := 133) 6 rfl dX8_bestTie_131 rfl ?_
          refine x_iadd (q := 134) dX8_bestTie_133 rfl ?_
          refine x_istoren (q := 135) (ls' := [(1, vI ((100 * l3) + l4)), (6, vI (m21 6 (l3 * 12 + l4))), (5, vI (tmax z19 z22)), (0, vR 45), (2, vI l2), (3, vI l3), (4, vI l4)]) rfl (by decide) rfl dX8_bestTie_134 rfl ?_
          refine x_aloadn (q := 136) 3 rfl rfl rfl dX8_bestTie_135 rfl ?_
          refine x_iload (q := 138) 2 rfl dX8_bestTie_136 rfl ?_
          refine x_puti (q := 141) (ji := 5) dX8_bestTie_138 rfl fp_X8_75 sh_45 rfl rfl (tmax_inr s23 s24) (fun m34 em34 => ?_)
          have H := H m34 em34
          refine x_iload (q := 143) 1 rfl dX8_bestTie_141 rfl ?_
          refine x_istoren (q := 144) (ls' := [(2, vI (m21 6 (l3 * 12 + l4))), (1, vI ((100 * l3) + l4)), (6, vI (m21 6 (l3 * 12 + l4))), (5, vI (tmax z19 z22)), (0, vR 45), (3, vI l3), (4, vI l4)]) rfl (by decide) rfl dX8_bestTie_143 rfl ?_
          refine x_iinc (q := 147) (ls' := [(4, vI (l4 + 1)), (2, vI (m21 6 (l3 * 12 + l4))), (1, vI ((100 * l3) + l4)), (6, vI (m21 6 (l3 * 12 + l4))), (5, vI (tmax z19 z22)), (0, vR 45), (3, vI l3)]) 6 rfl (by decide) rfl dX8_bestTie_144 rfl ?_
          refine x_goto (tgt := 31) dX8_bestTie_147 (by decide) ?_
          refine x_sub [5, 2, 1, 6, 0] rfl ?_
          exact H
        · have H := H2 (hB)
          refine x_iload (q := 114) 1 rfl dX8_bestTie_112 rfl ?_
          refine x_aloadn (q := 115) 2 rfl rfl rfl dX8_bestTie_114 rfl ?_
          refine x_geti (q := 118) (ji := 5) dX8_bestTie_115 rfl fa_X8_75 sh_45 rfl rfl (fun r35 => ?_)
          obtain ⟨H1, H2⟩ := H
          refine x_icmp_ne (tgt := 144) (q := 121) dX8_bestTie_118 (by decide) rfl (tmax_inr s23 s24) r35 (fun hB => ?_) (fun hB => ?_)
          · have H := H1 (hB)
            refine x_iinc (q := 147) (ls' := [(4, vI (l4 + 1)), (6, vI (m21 6 (l3 * 12 + l4))), (5, vI (tmax z19 z22)), (0, vR 45), (1, vI l1), (2, vI l2), (3, vI l3)]) 6 rfl (by decide) rfl dX8_bestTie_144 rfl ?_
            refine x_goto (tgt := 31) dX8_bestTie_147 (by decide) ?_
            refine x_sub [3, 4, 5, 6, 0] rfl ?_
            exact H
          · have H := H2 (hB)
            refine x_iload (q := 123) 0 rfl dX8_bestTie_121 rfl ?_
            refine x_iloadn (q := 124) 4 rfl rfl dX8_bestTie_123 rfl ?_
            refine x_ok (fun hm38 => ?_)
            obtain ⟨s39, H⟩ := H
            obtain ⟨H1, H2⟩ := H
            refine x_icmp_ge (tgt := 144) (q := 127) dX8_bestTie_124 (by decide) rfl (ok_ai hm38 sh_6 (by decide) _) s39 (fun hB => ?_) (fun hB => ?_)
            · have H := H1 (hB)
              refine x_iinc (q := 147) (ls' := [(4, vI (l4 + 1)), (6, vI (m21 6 (l3 * 12 + l4))), (5, vI (tmax z19 z22)), (0, vR 45), (1, vI l1), (2, vI l2), (3, vI l3)]) 6 rfl (by decide) rfl dX8_bestTie_144 rfl ?_
              refine x_goto (tgt := 31) dX8_bestTie_147 (by decide) ?_
              refine x_sub [3, 4, 5, 6, 0] rfl ?_
              exact H
            · have H := H2 (hB)
              refine x_bipush (q := 129) rfl dX8_bestTie_127 rfl ?_
              refine x_iloadn (q := 130) 5 rfl rfl dX8_bestTie_129 rfl ?_
              refine x_imul (q := 131) dX8_bestTie_130 rfl ?_
              refine x_iload (q := 133) 6 rfl dX8_bestTie_131 rfl ?_
              refine x_iadd (q := 134) dX8_bestTie_133 rfl ?_
              refine x_istoren (q := 135) (ls' := [(1, vI ((100 * l3) + l4)), (6, vI (m21 6 (l3 * 12 + l4))), (5, vI (tmax z19 z22)), (0, vR 45), (2, vI l2), (3, vI l3), (4, vI l4)]) rfl (by decide) rfl dX8_bestTie_134 rfl ?_
              refine x_aloadn (q := 136) 3 rfl rfl rfl dX8_bestTie_135 rfl ?_
              refine x_iload (q := 138) 2 rfl dX8_bestTie_136 rfl ?_
              refine x_puti (q := 141) (ji := 5) dX8_bestTie_138 rfl fp_X8_75 sh_45 rfl rfl (tmax_inr s23 s24) (fun m42 em42 => ?_)
              have H := H m42 em42
              refine x_iload (q := 143) 1 rfl dX8_bestTie_141 rfl ?_
              refine x_istoren (q := 144) (ls' := [(2, vI (m21 6 (l3 * 12 + l4))), (1, vI ((100 * l3) + l4)), (6, vI (m21 6 (l3 * 12 + l4))), (5, vI (tmax z19 z22)), (0, vR 45), (3, vI l3), (4, vI l4)]) rfl (by decide) rfl dX8_bestTie_143 rfl ?_
              refine x_iinc (q := 147) (ls' := [(4, vI (l4 + 1)), (2, vI (m21 6 (l3 * 12 + l4))), (1, vI ((100 * l3) + l4)), (6, vI (m21 6 (l3 * 12 + l4))), (5, vI (tmax z19 z22)), (0, vR 45), (3, vI l3)]) 6 rfl (by decide) rfl dX8_bestTie_144 rfl ?_
              refine x_goto (tgt := 31) dX8_bestTie_147 (by decide) ?_
              refine x_sub [5, 2, 1, 6, 0] rfl ?_
              exact H
set_option maxRecDepth 20000 in
set_option maxHeartbeats 4000000 in
theorem B_X8_leavesAtMostOne {G : GT} {d : Nat} {ka nk : Nat} (ska : shp ka = .inl (0, nk)) {l2 : Int} {l3 : Int} {l4 : Int} {mem : Mem} {Q : Option AV → Mem → Prop} (hd : 1 ≤ d) (H : E_X8_leavesAtMostOne G d 9 [(0, vR 45), (1, vR ka), (2, vI l2), (3, vI l3), (4, vI l4), (5, vI 0), (6, vI 0), (7, vI 0)] [] mem Q) : C_X8_leavesAtMostOne G d [vR 45, vR ka, vI l2, vI l3, vI l4] mem Q := by
  refine Ct_of_Ex (by decide +kernel) (by exact Nat.le_of_ble_eq_true rfl) (ls := [(0, vR 45), (1, vR ka), (2, vI l2), (3, vI l3), (4, vI l4)]) rfl ?_
  show E_X8_leavesAtMostOne G d 0 [(0, vR 45), (1, vR ka), (2, vI l2), (3, vI l3), (4, vI l4)] [] mem Q
  refine x_iconst (q := 1) dX8_leavesAtMostOne_0 rfl ?_
  refine x_istore (q := 3) (ls' := [(5, vI 0), (0, vR 45), (1, vR ka), (2, vI l2), (3, vI l3), (4, vI l4)]) (by decide) rfl dX8_leavesAtMostOne_1 rfl ?_
  refine x_iconst (q := 4) dX8_leavesAtMostOne_3 rfl ?_
  refine x_istore (q := 6) (ls' := [(6, vI 0), (5, vI 0), (0, vR 45), (1, vR ka), (2, vI l2), (3, vI l3), (4, vI l4)]) (by decide) rfl dX8_leavesAtMostOne_4 rfl ?_
  refine x_iconst (q := 7) dX8_leavesAtMostOne_6 rfl ?_
  refine x_istore (q := 9) (ls' := [(7, vI 0), (6, vI 0), (5, vI 0), (0, vR 45), (1, vR ka), (2, vI l2), (3, vI l3), (4, vI l4)]) (by decide) rfl dX8_leavesAtMostOne_7 rfl ?_
  refine x_sub [3, 4, 5, 6, 7, 2, 1, 0] rfl ?_
  exact H
set_option maxRecDepth 20000 in
set_option maxHeartbeats 4000000 in
theorem B_X8_leavesAtMostOne_9 {G : GT} {d : Nat} {ka nk : Nat} (ska : shp ka = .inl (0, nk)) {l2 : Int} {l3 : Int} {l4 : Int} {l5 : Int} {l6 : Int} {l7 : Int} {mem : Mem} {Q : Option AV → Mem → Prop} (hd : 1 ≤ d) (H : (inr l7 ∧ inr l2) ∧ (((l2 ≤ l7) → ((inr l5) ∧ (((1 < l5) → (Q (some (vI 0)) mem)) ∧ (¬ (1 < l5) → ((inr l6) ∧ (((1 < l6) → (Q (some (vI 0)) mem)) ∧ (¬ (1 < l6) → (Q (some (vI 1)) mem)))))))) ∧ (¬ (l2 ≤ l7) → ((inr l5) ∧ (((1 < l5) → (((1 < l5) → (Q (some (vI 0)) mem)) ∧ (¬ (1 < l5) → ((inr l6) ∧ (((1 < l6) → (Q (some (vI 0)) mem)) ∧ (¬ (1 < l6) → (Q (some (vI 1)) mem))))))) ∧ (¬ (1 < l5) → ((inr l6) ∧ (((1 < l6) → (((1 < l5) → (Q (some (vI 0)) mem)) ∧ (¬ (1 < l5) → (((1 < l6) → (Q (some (vI 0)) mem)) ∧ (¬ (1 < l6) → (Q (some (vI 1)) mem)))))) ∧ (¬ (1 < l6) → ((0 ≤ l3 ∧ l3 < 12) ∧ ((0 ≤ l7 ∧ l7 < nk) ∧ ((¬ (iand (ishr (mem 46 l3) (2 * iand (ishr (mem ka l7) l3) 1 + iand (ishr (mem ka l7) l4) 1)) 1 ≠ 0) → ((¬ (iand (ishr (mem 47 l3) (2 * iand (ishr (mem ka l7) l3) 1 + iand (ishr (mem ka l7) l4) 1)) 1 ≠ 0) → (E_X8_leavesAtMostOne G d 9 [(0, vR 45), (1, vR ka), (2, vI l2), (3, vI l3), (4, vI l4), (5, vI (l5 + 0)), (6, vI (l6 + 0)), (7, vI (l7 + 1))] [] mem Q)) ∧ ((iand (ishr (mem 47 l3) (2 * iand (ishr (mem ka l7) l3) 1 + iand (ishr (mem ka l7) l4) 1)) 1 ≠ 0) → (E_X8_leavesAtMostOne G d 9 [(0, vR 45), (1, vR ka), (2, vI l2), (3, vI l3), (4, vI l4), (5, vI (l5 + 0)), (6, vI (l6 + 1)), (7, vI (l7 + 1))] [] mem Q)))) ∧ ((iand (ishr (mem 46 l3) (2 * iand (ishr (mem ka l7) l3) 1 + iand (ishr (mem ka l7) l4) 1)) 1 ≠ 0) → ((¬ (iand (ishr (mem 47 l3) (2 * iand (ishr (mem ka l7) l3) 1 + iand (ishr (mem ka l7) l4) 1)) 1 ≠ 0) → (E_X8_leavesAtMostOne G d 9 [(0, vR 45), (1, vR ka), (2, vI l2), (3, vI l3), (4, vI l4), (5, vI (l5 + 1)), (6, vI (l6 + 0)), (7, vI (l7 + 1))] [] mem Q)) ∧ ((iand (ishr (mem 47 l3) (2 * iand (ishr (mem ka l7) l3) 1 + iand (ishr (mem ka l7) l4) 1)) 1 ≠ 0) → (E_X8_leavesAtMostOne G d 9 [(0, vR 45), (1, vR ka), (2, vI l2), (3, vI l3), (4, vI l4), (5, vI (l5 + 1)), (6, vI (l6 + 1)), (7, vI (l7 + 1))] [] mem Q)))))))))))))))) : E_X8_leavesAtMostOne G d 9 [(0, vR 45), (1, vR ka), (2, vI l2), (3, vI l3), (4, vI l4), (5, vI l5), (6, vI l6), (7, vI l7)] [] mem Q := by
  refine x_iload (q := 11) 7 rfl dX8_leavesAtMostOne_9 rfl ?_
  refine x_iloadn (q := 12) 2 rfl rfl dX8_leavesAtMostOne_11 rfl ?_
  obtain ⟨⟨s1, s2⟩, H⟩ := H
  obtain ⟨H1, H2⟩ := H
  refine x_icmp_ge (tgt := 91) (q := 15) dX8_leavesAtMostOne_12 (by decide) rfl s1 s2 (fun hB => ?_) (fun hB => ?_)
  · have H := H1 (hB)
    refine x_iload (q := 93) 5 rfl dX8_leavesAtMostOne_91 rfl ?_
    refine x_iconst (q := 94) dX8_leavesAtMostOne_93 rfl ?_
    obtain ⟨s5, H⟩ := H
    obtain ⟨H1, H2⟩ := H
    refine x_icmp_gt (tgt := 107) (q := 97) dX8_leavesAtMostOne_94 (by decide) rfl s5 (by decide) (fun hB => ?_) (fun hB => ?_)
    · have H := H1 (hB)
      refine x_iconst (q := 108) dX8_leavesAtMostOne_107 rfl ?_
      exact x_zret rfl dX8_leavesAtMostOne_108 (by decide) H
    · have H := H2 (hB)
      refine x_iload (q := 99) 6 rfl dX8_leavesAtMostOne_97 rfl ?_
      refine x_iconst (q := 100) dX8_leavesAtMostOne_99 rfl ?_
      obtain ⟨s8, H⟩ := H
      obtain ⟨H1, H2⟩ := H
      refine x_icmp_gt (tgt := 107) (q := 103) dX8_leavesAtMostOne_100 (by decide) rfl s8 (by decide) (fun hB => ?_) (fun hB => ?_)
      · have H := H1 (hB)
        refine x_iconst (q := 108) dX8_leavesAtMostOne_107 rfl ?_
        exact x_zret rfl dX8_leavesAtMostOne_108 (by decide) H
      · have H := H2 (hB)
        refine x_iconst (q := 104) dX8_leavesAtMostOne_103 rfl ?_
        refine x_goto (tgt := 108) dX8_leavesAtMostOne_104 (by decide) ?_
        exact x_zret rfl dX8_leavesAtMostOne_108 (by decide) H
  · have H := H2 (hB)
    refine x_iload (q := 17) 5 rfl dX8_leavesAtMostOne_15 rfl ?_
    refine x_iconst (q := 18) dX8_leavesAtMostOne_17 rfl ?_
    obtain ⟨s11, H⟩ := H
    obtain ⟨H1, H2⟩ := H
    refine x_icmp_gt (tgt := 91) (q := 21) dX8_leavesAtMostOne_18 (by decide) rfl s11 (by decide) (fun hB => ?_) (fun hB => ?_)
    · have H := H1 (hB)
      refine x_iload (q := 93) 5 rfl dX8_leavesAtMostOne_91 rfl ?_
      refine x_iconst (q := 94) dX8_leavesAtMostOne_93 rfl ?_
      obtain ⟨H1, H2⟩ := H
      refine x_icmp_gt (tgt := 107) (q := 97) dX8_leavesAtMostOne_94 (by decide) rfl s11 (by decide) (fun hB => ?_) (fun hB => ?_)
      · have H := H1 (hB)
        refine x_iconst (q := 108) dX8_leavesAtMostOne_107 rfl ?_
        exact x_zret rfl dX8_leavesAtMostOne_108 (by decide) H
      · have H := H2 (hB)
        refine x_iload (q := 99) 6 rfl dX8_leavesAtMostOne_97 rfl ?_
        refine x_iconst (q := 100) dX8_leavesAtMostOne_99 rfl ?_
        obtain ⟨s16, H⟩ := H
        obtain ⟨H1, H2⟩ := H
        refine x_icmp_gt (tgt := 107) (q := 103) dX8_leavesAtMostOne_100 (by decide) rfl s16 (by decide) (fun hB => ?_) (fun hB => ?_)
        · have H := H1 (hB)
          refine x_iconst (q := 108) dX8_leavesAtMostOne_107 rfl ?_
          exact x_zret rfl dX8_leavesAtMostOne_108 (by decide) H
        · have H := H2 (hB)
          refine x_iconst (q := 104) dX8_leavesAtMostOne_103 rfl ?_
          refine x_goto (tgt := 108) dX8_leavesAtMostOne_104 (by decide) ?_
          exact x_zret rfl dX8_leavesAtMostOne_108 (by decide) H
    · have H := H2 (hB)
      refine x_iload (q := 23) 6 rfl dX8_leavesAtMostOne_21 rfl ?_
      refine x_iconst (q := 24) dX8_leavesAtMostOne_23 rfl ?_
      obtain ⟨s19, H⟩ := H
      obtain ⟨H1, H2⟩ := H
      refine x_icmp_gt (tgt := 91) (q := 27) dX8_leavesAtMostOne_24 (by decide) rfl s19 (by decide) (fun hB => ?_) (fun hB => ?_)
      · have H := H1 (hB)
        refine x_iload (q := 93) 5 rfl dX8_leavesAtMostOne_91 rfl ?_
        refine x_iconst (q := 94) dX8_leavesAtMostOne_93 rfl ?_
        obtain ⟨H1, H2⟩ := H
        refine x_icmp_gt (tgt := 107) (q := 97) dX8_leavesAtMostOne_94 (by decide) rfl s11 (by decide) (fun hB => ?_) (fun hB => ?_)
        · have H := H1 (hB)
          refine x_iconst (q := 108) dX8_leavesAtMostOne_107 rfl ?_
          exact x_zret rfl dX8_leavesAtMostOne_108 (by decide) H
        · have H := H2 (hB)
          refine x_iload (q := 99) 6 rfl dX8_leavesAtMostOne_97 rfl ?_
          refine x_iconst (q := 100) dX8_leavesAtMostOne_99 rfl ?_
          obtain ⟨H1, H2⟩ := H
          refine x_icmp_gt (tgt := 107) (q := 103) dX8_leavesAtMostOne_100 (by decide) rfl s19 (by decide) (fun hB => ?_) (fun hB => ?_)
          · have H := H1 (hB)
            refine x_iconst (q := 108) dX8_leavesAtMostOne_107 rfl ?_
            exact x_zret rfl dX8_leavesAtMostOne_108 (by decide) H
          · have H := H2 (hB)
            refine x_iconst (q := 104) dX8_leavesAtMostOne_103 rfl ?_
            refine x_goto (tgt := 108) dX8_leavesAtMostOne_104 (by decide) ?_
            exact x_zret rfl dX8_leavesAtMostOne_108 (by decide) H
      · have H := H2 (hB)
        refine x_iload (q := 29) 5 rfl dX8_leavesAtMostOne_27 rfl ?_
        refine x_aloadn (q := 30) 0 rfl rfl rfl dX8_leavesAtMostOne_29 rfl ?_
        refine x_getr (q := 33) dX8_leavesAtMostOne_30 rfl fa_X8_9 sh_45 rfl ?_
        refine x_iloadn (q := 34) 3 rfl rfl dX8_leavesAtMostOne_33 rfl ?_
        obtain ⟨⟨s26, s27⟩, H⟩ := H
        refine x_iald (q := 35) dX8_leavesAtMostOne_34 rfl sh_46 s26 s27 (fun r28 => ?_)
        refine x_aloadn (q := 36) 1 rfl rfl rfl dX8_leavesAtMostOne_35 rfl ?_
        refine x_iload (q := 38) 7 rfl dX8_leavesAtMostOne_36 rfl ?_
        obtain ⟨⟨s29, s30⟩, H⟩ := H
        refine x_iald (q := 39) dX8_leavesAtMostOne_38 rfl ska s29 s30 (fun r31 => ?_)
        refine x_iloadn (q := 40) 3 rfl rfl dX8_leavesAtMostOne_39 rfl ?_
        refine x_iload (q := 42) 4 rfl dX8_leavesAtMostOne_40 rfl ?_
        refine x_callS (q := 45) (d := d - 1) (as := [vI (mem 46 l3), vI (mem ka l7), vI l3, vI l4]) (st := [vI l5]) dX8_leavesAtMostOne_42 rfl ms_X8_89 rfl rfl (by exact Nat.le_of_ble_eq_true rfl) ⟨by show _ ≤ d; omega, by show _ ≤ 40 * d; omega⟩ ⟨Nat.le_refl _, Nat.le_refl _⟩ (ct_areLet ?_)
        show E_X8_leavesAtMostOne G d 45 [(0, vR 45), (1, vR ka), (2, vI l2), (3, vI l3), (4, vI l4), (5, vI l5), (6, vI l6), (7, vI l7)] [vI (bz (iand (ishr (mem 46 l3) (2 * iand (ishr (mem ka l7) l3) 1 + iand (ishr (mem ka l7) l4) 1)) 1 ≠ 0)), vI l5] mem Q
        obtain ⟨H1, H2⟩ := H
        refine x_if_eq (tgt := 52) (q := 48) dX8_leavesAtMostOne_45 (by decide) rfl (bz_inr _) (fun hB => ?_) (fun hB => ?_)
        · have H := H1 (bz_0.mp hB)
          refine x_iconst (q := 53) dX8_leavesAtMostOne_52 rfl ?_
          refine x_iadd (q := 54) dX8_leavesAtMostOne_53 rfl ?_
          refine x_istore (q := 56) (ls' := [(5, vI (l5 + 0)), (0, vR 45), (1, vR ka), (2, vI l2), (3, vI l3), (4, vI l4), (6, vI l6), (7, vI l7)]) (by decide) rfl dX8_leavesAtMostOne_54 rfl ?_
          refine x_iload (q := 58) 6 rfl dX8_leavesAtMostOne_56 rfl ?_
          refine x_aloadn (q := 59) 1 rfl rfl rfl dX8_leavesAtMostOne_58 rfl ?_
          refine x_getr (q := 62) dX8_leavesAtMostOne_59 rfl fa_X8_15 sh_45 rfl ?_
          refine x_iloadn (q := 63) 4 rfl rfl dX8_leavesAtMostOne_62 rfl ?_
          refine x_iald (q := 64) dX8_leavesAtMostOne_63 rfl sh_47 s26 s27 (fun r34 => ?_)
          refine x_aloadn (q := 65) 2 rfl rfl rfl dX8_leavesAtMostOne_64 rfl ?_
          refine x_iload (q := 67) 7 rfl dX8_leavesAtMostOne_65 rfl ?_
          refine x_iald (q := 68) dX8_leavesAtMostOne_67 rfl ska s29 s30 (fun r35 => ?_)
          refine x_iloadn (q := 69) 4 rfl rfl dX8_leavesAtMostOne_68 rfl ?_
          refine x_iload (q := 71) 5 rfl dX8_leavesAtMostOne_69 rfl ?_
          refine x_callS (q := 74) (d := d - 1) (as := [vI (mem 47 l3), vI (mem ka l7), vI l3, vI l4]) (st := [vI l6]) dX8_leavesAtMostOne_71 rfl ms_X8_89 rfl rfl (by exact Nat.le_of_ble_eq_true rfl) ⟨by show _ ≤ d; omega, by show _ ≤ 40 * d; omega⟩ ⟨Nat.le_refl _, Nat.le_refl _⟩ (ct_areLet ?_)
          show E_X8_leavesAtMostOne G d 74 [(5, vI (l5 + 0)), (0, vR 45), (1, vR ka), (2, vI l2), (3, vI l3), (4, vI l4), (6, vI l6), (7, vI l7)] [vI (bz (iand (ishr (mem 47 l3) (2 * iand (ishr (mem ka l7) l3) 1 + iand (ishr (mem ka l7) l4) 1)) 1 ≠ 0)), vI l6] mem Q
          obtain ⟨H1, H2⟩ := H
          refine x_if_eq (tgt := 81) (q := 77) dX8_leavesAtMostOne_74 (by decide) rfl (bz_inr _) (fun hB => ?_) (fun hB => ?_)
          · have H := H1 (bz_0.mp hB)
            refine x_iconst (q := 82) dX8_leavesAtMostOne_81 rfl ?_
            refine x_iadd (q := 83) dX8_leavesAtMostOne_82 rfl ?_
            refine x_istore (q := 85) (ls' := [(6, vI (l6 + 0)), (5, vI (l5 + 0)), (0, vR 45), (1, vR ka), (2, vI l2), (3, vI l3), (4, vI l4), (7, vI l7)]) (by decide) rfl dX8_leavesAtMostOne_83 rfl ?_
            refine x_iinc (q := 88) (ls' := [(7, vI (l7 + 1)), (6, vI (l6 + 0)), (5, vI (l5 + 0)), (0, vR 45), (1, vR ka), (2, vI l2), (3, vI l3), (4, vI l4)]) 7 rfl (by decide) rfl dX8_leavesAtMostOne_85 rfl ?_
            refine x_goto (tgt := 9) dX8_leavesAtMostOne_88 (by decide) ?_
            refine x_sub [3, 4, 5, 6, 7, 2, 1, 0] rfl ?_
            exact H
          · have H := H2 (Classical.byContradiction (fun z => hB (bz_0.mpr z)))
            refine x_iconst (q := 78) dX8_leavesAtMostOne_77 rfl ?_
            refine x_goto (tgt := 82) dX8_leavesAtMostOne_78 (by decide) ?_
            refine x_iadd (q := 83) dX8_leavesAtMostOne_82 rfl ?_
            refine x_istore (q := 85) (ls' := [(6, vI (l6 + 1)), (5, vI (l5 + 0)), (0, vR 45), (1, vR ka), (2, vI l2), (3, vI l3), (4, vI l4), (7, vI l7)]) (by decide) rfl dX8_leavesAtMostOne_83 rfl ?_
            refine x_iinc (q := 88) (ls' := [(7, vI (l7 + 1)), (6, vI (l6 + 1)), (5, vI (l5 + 0)), (0, vR 45), (1, vR ka), (2, vI l2), (3, vI l3), (4, vI l4)]) 7 rfl (by decide) rfl dX8_leavesAtMostOne_85 rfl ?_
            refine x_goto (tgt := 9) dX8_leavesAtMostOne_88 (by decide) ?_
            refine x_sub [3, 4, 5, 6, 7, 2, 1, 0] rfl ?_
            exact H
        · have H := H2 (Classical.byContradiction (fun z => hB (bz_0.mpr z)))
          refine x_iconst (q := 49) dX8_leavesAtMostOne_48 rfl ?_
          refine x_goto (tgt := 53) dX8_leavesAtMostOne_49 (by decide) ?_
          refine x_iadd (q := 54) dX8_leavesAtMostOne_53 rfl ?_
          refine x_istore (q := 56) (ls' := [(5, vI (l5 + 1)), (0, vR 45), (1, vR ka), (2, vI l2), (3, vI l3), (4, vI l4), (6, vI l6), (7, vI l7)]) (by decide) rfl dX8_leavesAtMostOne_54 rfl ?_
          refine x_iload (q := 58) 6 rfl dX8_leavesAtMostOne_56 rfl ?_
          refine x_aloadn (q := 59) 1 rfl rfl rfl dX8_leavesAtMostOne_58 rfl ?_
          refine x_getr (q := 62) dX8_leavesAtMostOne_59 rfl fa_X8_15 sh_45 rfl ?_
          refine x_iloadn (q := 63) 4 rfl rfl dX8_leavesAtMostOne_62 rfl ?_
          refine x_iald (q := 64) dX8_leavesAtMostOne_63 rfl sh_47 s26 s27 (fun r38 => ?_)
          refine x_aloadn (q := 65) 2 rfl rfl rfl dX8_leavesAtMostOne_64 rfl ?_
          refine x_iload (q := 67) 7 rfl dX8_leavesAtMostOne_65 rfl ?_
          refine x_iald (q := 68) dX8_leavesAtMostOne_67 rfl ska s29 s30 (fun r39 => ?_)
          refine x_iloadn (q := 69) 4 rfl rfl dX8_leavesAtMostOne_68 rfl ?_
          refine x_iload (q := 71) 5 rfl dX8_leavesAtMostOne_69 rfl ?_
          refine x_callS (q := 74) (d := d - 1) (as := [vI (mem 47 l3), vI (mem ka l7), vI l3, vI l4]) (st := [vI l6]) dX8_leavesAtMostOne_71 rfl ms_X8_89 rfl rfl (by exact Nat.le_of_ble_eq_true rfl) ⟨by show _ ≤ d; omega, by show _ ≤ 40 * d; omega⟩ ⟨Nat.le_refl _, Nat.le_refl _⟩ (ct_areLet ?_)
          show E_X8_leavesAtMostOne G d 74 [(5, vI (l5 + 1)), (0, vR 45), (1, vR ka), (2, vI l2), (3, vI l3), (4, vI l4), (6, vI l6), (7, vI l7)] [vI (bz (iand (ishr (mem 47 l3) (2 * iand (ishr (mem ka l7) l3) 1 + iand (ishr (mem ka l7) l4) 1)) 1 ≠ 0)), vI l6] mem Q
          obtain ⟨H1, H2⟩ := H
          refine x_if_eq (tgt := 81) (q := 77) dX8_leavesAtMostOne_74 (by decide) rfl (bz_inr _) (fun hB => ?_) (fun hB => ?_)
          · have H := H1 (bz_0.mp hB)
            refine x_iconst (q := 82) dX8_leavesAtMostOne_81 rfl ?_
            refine x_iadd (q := 83) dX8_leavesAtMostOne_82 rfl ?_
            refine x_istore (q := 85) (ls' := [(6, vI (l6 + 0)), (5, vI (l5 + 1)), (0, vR 45), (1, vR ka), (2, vI l2), (3, vI l3), (4, vI l4), (7, vI l7)]) (by decide) rfl dX8_leavesAtMostOne_83 rfl ?_
            refine x_iinc (q := 88) (ls' := [(7, vI (l7 + 1)), (6, vI (l6 + 0)), (5, vI (l5 + 1)), (0, vR 45), (1, vR ka), (2, vI l2), (3, vI l3), (4, vI l4)]) 7 rfl (by decide) rfl dX8_leavesAtMostOne_85 rfl ?_
            refine x_goto (tgt := 9) dX8_leavesAtMostOne_88 (by decide) ?_
            refine x_sub [3, 4, 5, 6, 7, 2, 1, 0] rfl ?_
            exact H
          · have H := H2 (Classical.byContradiction (fun z => hB (bz_0.mpr z)))
            refine x_iconst (q := 78) dX8_leavesAtMostOne_77 rfl ?_
            refine x_goto (tgt := 82) dX8_leavesAtMostOne_78 (by decide) ?_
            refine x_iadd (q := 83) dX8_leavesAtMostOne_82 rfl ?_
            refine x_istore (q := 85) (ls' := [(6, vI (l6 + 1)), (5, vI (l5 + 1)), (0, vR 45), (1, vR ka), (2, vI l2), (3, vI l3), (4, vI l4), (7, vI l7)]) (by decide) rfl dX8_leavesAtMostOne_83 rfl ?_
            refine x_iinc (q := 88) (ls' := [(7, vI (l7 + 1)), (6, vI (l6 + 1)), (5, vI (l5 + 1)), (0, vR 45), (1, vR ka), (2, vI l2), (3, vI l3), (4, vI l4)]) 7 rfl (by decide) rfl dX8_leavesAtMostOne_85 rfl ?_
            refine x_goto (tgt := 9) dX8_leavesAtMostOne_88 (by decide) ?_
            refine x_sub [3, 4, 5, 6, 7, 2, 1, 0] rfl ?_
            exact H
set_option maxRecDepth 20000 in
set_option maxHeartbeats 4000000 in
theorem B_X8_oneTrialDoes {G : GT} {d : Nat} {ka nk : Nat} (ska : shp ka = .inl (0, nk)) {l2 : Int} {mem : Mem} {Q : Option AV → Mem → Prop} (hd : 1 ≤ d) (H : E_X8_oneTrialDoes G d 2 [(0, vR 45), (1, vR ka), (2, vI l2), (3, vI 0)] [] mem Q) : C_X8_oneTrialDoes G d [vR 45, vR ka, vI l2] mem Q := by
  refine Ct_of_Ex (by decide +kernel) (by exact Nat.le_of_ble_eq_true rfl) (ls := [(0, vR 45), (1, vR ka), (2, vI l2)]) rfl ?_
  show E_X8_oneTrialDoes G d 0 [(0, vR 45), (1, vR ka), (2, vI l2)] [] mem Q
  refine x_iconst (q := 1) dX8_oneTrialDoes_0 rfl ?_
  refine x_istoren (q := 2) (ls' := [(3, vI 0), (0, vR 45), (1, vR ka), (2, vI l2)]) rfl (by decide) rfl dX8_oneTrialDoes_1 rfl ?_
  refine x_sub [1, 2, 3, 0] rfl ?_
  exact H
set_option maxRecDepth 20000 in
set_option maxHeartbeats 4000000 in
theorem B_X8_oneTrialDoes_2 {G : GT} {d : Nat} {ka nk : Nat} (ska : shp ka = .inl (0, nk)) {l2 : Int} {l3 : Int} {mem : Mem} {Q : Option AV → Mem → Prop} (hd : 1 ≤ d) (H : (inr l3) ∧ (((mem 1 0 ≤ l3) → (Q (some (vI 0)) mem)) ∧ (¬ (mem 1 0 ≤ l3) → (E_X8_oneTrialDoes G d 16 [(0, vR 45), (1, vR ka), (2, vI l2), (3, vI l3), (4, vI 0)] [] mem Q)))) : E_X8_oneTrialDoes G d 2 [(0, vR 45), (1, vR ka), (2, vI l2), (3, vI l3)] [] mem Q := by
  refine x_iloadn (q := 3) 3 rfl rfl dX8_oneTrialDoes_2 rfl ?_
  refine x_aloadn (q := 4) 0 rfl rfl rfl dX8_oneTrialDoes_3 rfl ?_
  refine x_getr (q := 7) dX8_oneTrialDoes_4 rfl fa_X8_21 sh_45 rfl ?_
  refine x_geti (q := 10) (ji := 0) dX8_oneTrialDoes_7 rfl fa_X8_29 sh_1 rfl rfl (fun r1 => ?_)
  obtain ⟨s2, H⟩ := H
  obtain ⟨H1, H2⟩ := H
  refine x_icmp_ge (tgt := 67) (q := 13) dX8_oneTrialDoes_10 (by decide) rfl s2 r1 (fun hB => ?_) (fun hB => ?_)
  · have H := H1 (hB)
    refine x_iconst (q := 68) dX8_oneTrialDoes_67 rfl ?_
    exact x_zret rfl dX8_oneTrialDoes_68 (by decide) H
  · have H := H2 (hB)
    refine x_iconst (q := 14) dX8_oneTrialDoes_13 rfl ?_
    refine x_istore (q := 16) (ls' := [(4, vI 0), (0, vR 45), (1, vR ka), (2, vI l2), (3, vI l3)]) (by decide) rfl dX8_oneTrialDoes_14 rfl ?_
    refine x_sub [1, 2, 3, 4, 0] rfl ?_
    exact H
set_option maxRecDepth 20000 in
set_option maxHeartbeats 4000000 in
theorem B_X8_oneTrialDoes_16 {G : GT} {d : Nat} {ka nk : Nat} (ska : shp ka = .inl (0, nk)) {l2 : Int} {l3 : Int} {l4 : Int} {mem : Mem} {Q : Option AV → Mem → Prop} (hd : 1 ≤ d) (H : (inr l4) ∧ (((mem 1 0 ≤ l4) → (E_X8_oneTrialDoes G d 2 [(0, vR 45), (1, vR ka), (2, vI l2), (3, vI (l3 + 1))] [] mem Q)) ∧ (¬ (mem 1 0 ≤ l4) → ((0 ≤ l3 ∧ l3 < 12) ∧ ((¬ (iand (ishr (mem 5 l3) l4) 1 ≠ 0) → (E_X8_oneTrialDoes G d 16 [(0, vR 45), (1, vR ka), (2, vI l2), (3, vI l3), (4, vI (l4 + 1))] [] mem Q)) ∧ ((iand (ishr (mem 5 l3) l4) 1 ≠ 0) → (C_X8_leavesAtMostOne G (d - 1) [vR 45, vR ka, vI l2, vI l3, vI l4] mem (fun r9 m13 => ∃ z14 : Int, r9 = some (vI z14) ∧ ((inr z14) ∧ (((z14 = 0) → (E_X8_oneTrialDoes G d 16 [(0, vR 45), (1, vR ka), (2, vI l2), (3, vI l3), (4, vI (l4 + 1))] [] m13 Q)) ∧ (¬ (z14 = 0) → (Q (some (vI 1)) m13)))))))))))) : E_X8_oneTrialDoes G d 16 [(0, vR 45), (1, vR ka), (2, vI l2), (3, vI l3), (4, vI l4)] [] mem Q := by
  refine x_iload (q := 18) 4 rfl dX8_oneTrialDoes_16 rfl ?_
  refine x_aloadn (q := 19) 0 rfl rfl rfl dX8_oneTrialDoes_18 rfl ?_
  refine x_getr (q := 22) dX8_oneTrialDoes_19 rfl fa_X8_21 sh_45 rfl ?_
  refine x_geti (q := 25) (ji := 0) dX8_oneTrialDoes_22 rfl fa_X8_29 sh_1 rfl rfl (fun r5 => ?_)
  obtain ⟨s6, H⟩ := H
  obtain ⟨H1, H2⟩ := H
  refine x_icmp_ge (tgt := 61) (q := 28) dX8_oneTrialDoes_25 (by decide) rfl s6 r5 (fun hB => ?_) (fun hB => ?_)
  · have H := H1 (hB)
    refine x_iinc (q := 64) (ls' := [(3, vI (l3 + 1)), (0, vR 45), (1, vR ka), (2, vI l2), (4, vI l4)]) 3 rfl (by decide) rfl dX8_oneTrialDoes_61 rfl ?_
    refine x_goto (tgt := 2) dX8_oneTrialDoes_64 (by decide) ?_
    refine x_sub [1, 2, 3, 0] rfl ?_
    exact H
  · have H := H2 (hB)
    refine x_aloadn (q := 29) 0 rfl rfl rfl dX8_oneTrialDoes_28 rfl ?_
    refine x_getr (q := 32) dX8_oneTrialDoes_29 rfl fa_X8_21 sh_45 rfl ?_
    refine x_iloadn (q := 33) 3 rfl rfl dX8_oneTrialDoes_32 rfl ?_
    refine x_iload (q := 35) 4 rfl dX8_oneTrialDoes_33 rfl ?_
    obtain ⟨⟨s9, s10⟩, H⟩ := H
    refine x_callV (q := 38) (d := d - 1) (as := [vI l3, vI l4]) (st := []) dX8_oneTrialDoes_35 rfl mv_X8_58 sh_1 rfl rfl rfl (by exact Nat.le_of_ble_eq_true rfl) ⟨by show _ ≤ d; omega, by show _ ≤ 40 * d; omega⟩ ⟨Nat.le_refl _, Nat.le_refl _⟩ (ct_tied (by decide) s9 s10 ?_)
    show E_X8_oneTrialDoes G d 38 [(0, vR 45), (1, vR ka), (2, vI l2), (3, vI l3), (4, vI l4)] [vI (bz (iand (ishr (mem 5 l3) l4) 1 ≠ 0))] mem Q
    obtain ⟨H1, H2⟩ := H
    refine x_if_eq (tgt := 55) (q := 41) dX8_oneTrialDoes_38 (by decide) rfl (bz_inr _) (fun hB => ?_) (fun hB => ?_)
    · have H := H1 (bz_0.mp hB)
      refine x_iinc (q := 58) (ls' := [(4, vI (l4 + 1)), (0, vR 45), (1, vR ka), (2, vI l2), (3, vI l3)]) 4 rfl (by decide) rfl dX8_oneTrialDoes_55 rfl ?_
      refine x_goto (tgt := 16) dX8_oneTrialDoes_58 (by decide) ?_
      refine x_sub [1, 2, 3, 4, 0] rfl ?_
      exact H
    · have H := H2 (Classical.byContradiction (fun z => hB (bz_0.mpr z)))
      refine x_aloadn (q := 42) 0 rfl rfl rfl dX8_oneTrialDoes_41 rfl ?_
      refine x_aloadn (q := 43) 1 rfl rfl rfl dX8_oneTrialDoes_42 rfl ?_
      refine x_iloadn (q := 44) 2 rfl rfl dX8_oneTrialDoes_43 rfl ?_
      refine x_iloadn (q := 45) 3 rfl rfl dX8_oneTrialDoes_44 rfl ?_
      refine x_iload (q := 47) 4 rfl dX8_oneTrialDoes_45 rfl ?_
      refine x_callV (q := 50) (d := d - 1) (as := [vR ka, vI l2, vI l3, vI l4]) (st := []) dX8_oneTrialDoes_47 rfl mv_X8_93 sh_45 rfl rfl rfl (by exact Nat.le_of_ble_eq_true rfl) ⟨by show _ ≤ d; omega, by show _ ≤ 40 * d; omega⟩ ⟨Nat.le_refl _, Nat.le_refl _⟩ (Ct.mono H (fun r9 m13 H => ?_))
      obtain ⟨z14, rfl, H⟩ := H
      show E_X8_oneTrialDoes G d 50 [(0, vR 45), (1, vR ka), (2, vI l2), (3, vI l3), (4, vI l4)] [vI z14] m13 Q
      obtain ⟨s15, H⟩ := H
      obtain ⟨H1, H2⟩ := H
      refine x_if_eq (tgt := 55) (q := 53) dX8_oneTrialDoes_50 (by decide) rfl s15 (fun hB => ?_) (fun hB => ?_)
      · have H := H1 (hB)
        refine x_iinc (q := 58) (ls' := [(4, vI (l4 + 1)), (0, vR 45), (1, vR ka), (2, vI l2), (3, vI l3)]) 4 rfl (by decide) rfl dX8_oneTrialDoes_55 rfl ?_
        refine x_goto (tgt := 16) dX8_oneTrialDoes_58 (by decide) ?_
        refine x_sub [1, 2, 3, 4, 0] rfl ?_
        exact H
      · have H := H2 (hB)
        refine x_iconst (q := 54) dX8_oneTrialDoes_53 rfl ?_
        exact x_zret rfl dX8_oneTrialDoes_54 (by decide) H
set_option maxRecDepth 20000 in
set_option maxHeartbeats 4000000 in
theorem B_X8_oneMoreDoes {G : GT} {d : Nat} {l1 : Int} {l2 : Int} {l3 : Int} {mem : Mem} {Q : Option AV → Mem → Prop} (hd : 1 ≤ d) (H : E_X8_oneMoreDoes G d 6 [(0, vR 45), (1, vI l1), (2, vI l2), (3, vI l3), (4, vI 0), (5, vI 0)] [] mem Q) : C_X8_oneMoreDoes G d [vR 45, vI l1, vI l2, vI l3] mem Q := by
  refine Ct_of_Ex (by decide +kernel) (by exact Nat.le_of_ble_eq_true rfl) (ls := [(0, vR 45), (1, vI l1), (2, vI l2), (3, vI l3)]) rfl ?_
  show E_X8_oneMoreDoes G d 0 [(0, vR 45), (1, vI l1), (2, vI l2), (3, vI l3)] [] mem Q
  refine x_iconst (q := 1) dX8_oneMoreDoes_0 rfl ?_
  refine x_istore (q := 3) (ls' := [(4, vI 0), (0, vR 45), (1, vI l1), (2, vI l2), (3, vI l3)]) (by decide) rfl dX8_oneMoreDoes_1 rfl ?_
  refine x_iconst (q := 4) dX8_oneMoreDoes_3 rfl ?_
  refine x_istore (q := 6) (ls' := [(5, vI 0), (4, vI 0), (0, vR 45), (1, vI l1), (2, vI l2), (3, vI l3)]) (by decide) rfl dX8_oneMoreDoes_4 rfl ?_
  refine x_sub [2, 3, 4, 5, 1, 0] rfl ?_
  exact H
set_option maxRecDepth 20000 in
set_option maxHeartbeats 4000000 in
theorem B_X8_oneMoreDoes_6 {G : GT} {d : Nat} {l1 : Int} {l2 : Int} {l3 : Int} {l4 : Int} {l5 : Int} {mem : Mem} {Q : Option AV → Mem → Prop} (hd : 1 ≤ d) (H : (inr l5) ∧ (((mem 32 7 ≤ l5) → ((inr l4) ∧ (((l4 ≤ 1) → (Q (some (vI 1)) mem)) ∧ (¬ (l4 ≤ 1) → (C_X8_oneTrialDoes G (d - 1) [vR 45, vR 48, vI l4] mem (fun r9 m8 => ∃ z9 : Int, r9 = some (vI z9) ∧ ((inr z9) ∧ (((z9 = 0) → (Q (some (vI 0)) m8)) ∧ (¬ (z9 = 0) → (Q (some (vI 1)) m8)))))))))) ∧ (¬ (mem 32 7 ≤ l5) → ((inr l4) ∧ (((256 ≤ l4) → (((l4 ≤ 1) → (Q (some (vI 1)) mem)) ∧ (¬ (l4 ≤ 1) → (C_X8_oneTrialDoes G (d - 1) [vR 45, vR 48, vI l4] mem (fun r9 m18 => ∃ z19 : Int, r9 = some (vI z19) ∧ ((inr z19) ∧ (((z19 = 0) → (Q (some (vI 0)) m18)) ∧ (¬ (z19 = 0) → (Q (some (vI 1)) m18))))))))) ∧ (¬ (256 ≤ l4) → ((0 ≤ l5 ∧ l5 < 4096) ∧ ((¬ (iand (ishr l1 (2 * iand (ishr (mem 37 l5) l2) 1 + iand (ishr (mem 37 l5) l3) 1)) 1 ≠ 0) → (E_X8_oneMoreDoes G d 6 [(0, vR 45), (1, vI l1), (2, vI l2), (3, vI l3), (4, vI l4), (5, vI (l5 + 1))] [] mem Q)) ∧ ((iand (ishr l1 (2 * iand (ishr (mem 37 l5) l2) 1 + iand (ishr (mem 37 l5) l3) 1)) 1 ≠ 0) → ((0 ≤ l4 ∧ l4 < 256) ∧ (∀ m31 : Mem, m31 = upM mem 48 l4 (mem 37 l5) → (E_X8_oneMoreDoes G d 6 [(0, vR 45), (1, vI l1), (2, vI l2), (3, vI l3), (4, vI (l4 + 1)), (5, vI (l5 + 1))] [] m31 Q)))))))))))) : E_X8_oneMoreDoes G d 6 [(0, vR 45), (1, vI l1), (2, vI l2), (3, vI l3), (4, vI l4), (5, vI l5)] [] mem Q := by
  refine x_iload (q := 8) 5 rfl dX8_oneMoreDoes_6 rfl ?_
  refine x_aloadn (q := 9) 0 rfl rfl rfl dX8_oneMoreDoes_8 rfl ?_
  refine x_getr (q := 12) dX8_oneMoreDoes_9 rfl fa_X8_25 sh_45 rfl ?_
  refine x_geti (q := 15) (ji := 7) dX8_oneMoreDoes_12 rfl fa_X8_49 sh_32 rfl rfl (fun r1 => ?_)
  obtain ⟨s2, H⟩ := H
  obtain ⟨H1, H2⟩ := H
  refine x_icmp_ge (tgt := 73) (q := 18) dX8_oneMoreDoes_15 (by decide) rfl s2 r1 (fun hB => ?_) (fun hB => ?_)
  · have H := H1 (hB)
    refine x_iload (q := 75) 4 rfl dX8_oneMoreDoes_73 rfl ?_
    refine x_iconst (q := 76) dX8_oneMoreDoes_75 rfl ?_
    obtain ⟨s5, H⟩ := H
    obtain ⟨H1, H2⟩ := H
    refine x_icmp_le (tgt := 92) (q := 79) dX8_oneMoreDoes_76 (by decide) rfl s5 (by decide) (fun hB => ?_) (fun hB => ?_)
    · have H := H1 (hB)
      refine x_iconst (q := 93) dX8_oneMoreDoes_92 rfl ?_
      refine x_goto (tgt := 97) dX8_oneMoreDoes_93 (by decide) ?_
      exact x_zret rfl dX8_oneMoreDoes_97 (by decide) H
    · have H := H2 (hB)
      refine x_aloadn (q := 80) 0 rfl rfl rfl dX8_oneMoreDoes_79 rfl ?_
      refine x_aloadn (q := 81) 0 rfl rfl rfl dX8_oneMoreDoes_80 rfl ?_
      refine x_getr (q := 84) dX8_oneMoreDoes_81 rfl fa_X8_18 sh_45 rfl ?_
      refine x_iload (q := 86) 4 rfl dX8_oneMoreDoes_84 rfl ?_
      refine x_callV (q := 89) (d := d - 1) (as := [vR 48, vI l4]) (st := []) dX8_oneMoreDoes_86 rfl mv_X8_81 sh_45 rfl rfl rfl (by exact Nat.le_of_ble_eq_true rfl) ⟨by show _ ≤ d; omega, by show _ ≤ 40 * d; omega⟩ ⟨Nat.le_refl _, Nat.le_refl _⟩ (Ct.mono H (fun r9 m8 H => ?_))
      obtain ⟨z9, rfl, H⟩ := H
      show E_X8_oneMoreDoes G d 89 [(0, vR 45), (1, vI l1), (2, vI l2), (3, vI l3), (4, vI l4), (5, vI l5)] [vI z9] m8 Q
      obtain ⟨s10, H⟩ := H
      obtain ⟨H1, H2⟩ := H
      refine x_if_eq (tgt := 96) (q := 92) dX8_oneMoreDoes_89 (by decide) rfl s10 (fun hB => ?_) (fun hB => ?_)
      · have H := H1 (hB)
        refine x_iconst (q := 97) dX8_oneMoreDoes_96 rfl ?_
        exact x_zret rfl dX8_oneMoreDoes_97 (by decide) H
      · have H := H2 (hB)
        refine x_iconst (q := 93) dX8_oneMoreDoes_92 rfl ?_
        refine x_goto (tgt := 97) dX8_oneMoreDoes_93 (by decide) ?_
        exact x_zret rfl dX8_oneMoreDoes_97 (by decide) H
  · have H := H2 (hB)
    refine x_iload (q := 20) 4 rfl dX8_oneMoreDoes_18 rfl ?_
    refine x_aloadn (q := 21) 0 rfl rfl rfl dX8_oneMoreDoes_20 rfl ?_
    refine x_getr (q := 24) dX8_oneMoreDoes_21 rfl fa_X8_18 sh_45 rfl ?_
    refine x_alen (q := 25) (t := 256) dX8_oneMoreDoes_24 rfl sh_48 (by decide) rfl ?_
    obtain ⟨s13, H⟩ := H
    obtain ⟨H1, H2⟩ := H
    refine x_icmp_ge (tgt := 73) (q := 28) dX8_oneMoreDoes_25 (by decide) rfl s13 (by decide) (fun hB => ?_) (fun hB => ?_)
    · have H := H1 (hB)
      refine x_iload (q := 75) 4 rfl dX8_oneMoreDoes_73 rfl ?_
      refine x_iconst (q := 76) dX8_oneMoreDoes_75 rfl ?_
      obtain ⟨H1, H2⟩ := H
      refine x_icmp_le (tgt := 92) (q := 79) dX8_oneMoreDoes_76 (by decide) rfl s13 (by decide) (fun hB => ?_) (fun hB => ?_)
      · have H := H1 (hB)
        refine x_iconst (q := 93) dX8_oneMoreDoes_92 rfl ?_
        refine x_goto (tgt := 97) dX8_oneMoreDoes_93 (by decide) ?_
        exact x_zret rfl dX8_oneMoreDoes_97 (by decide) H
      · have H := H2 (hB)
        refine x_aloadn (q := 80) 0 rfl rfl rfl dX8_oneMoreDoes_79 rfl ?_
        refine x_aloadn (q := 81) 0 rfl rfl rfl dX8_oneMoreDoes_80 rfl ?_
        refine x_getr (q := 84) dX8_oneMoreDoes_81 rfl fa_X8_18 sh_45 rfl ?_
        refine x_iload (q := 86) 4 rfl dX8_oneMoreDoes_84 rfl ?_
        refine x_callV (q := 89) (d := d - 1) (as := [vR 48, vI l4]) (st := []) dX8_oneMoreDoes_86 rfl mv_X8_81 sh_45 rfl rfl rfl (by exact Nat.le_of_ble_eq_true rfl) ⟨by show _ ≤ d; omega, by show _ ≤ 40 * d; omega⟩ ⟨Nat.le_refl _, Nat.le_refl _⟩ (Ct.mono H (fun r9 m18 H => ?_))
        obtain ⟨z19, rfl, H⟩ := H
        show E_X8_oneMoreDoes G d 89 [(0, vR 45), (1, vI l1), (2, vI l2), (3, vI l3), (4, vI l4), (5, vI l5)] [vI z19] m18 Q
        obtain ⟨s20, H⟩ := H
        obtain ⟨H1, H2⟩ := H
        refine x_if_eq (tgt := 96) (q := 92) dX8_oneMoreDoes_89 (by decide) rfl s20 (fun hB => ?_) (fun hB => ?_)
        · have H := H1 (hB)
          refine x_iconst (q := 97) dX8_oneMoreDoes_96 rfl ?_
          exact x_zret rfl dX8_oneMoreDoes_97 (by decide) H
        · have H := H2 (hB)
          refine x_iconst (q := 93) dX8_oneMoreDoes_92 rfl ?_
          refine x_goto (tgt := 97) dX8_oneMoreDoes_93 (by decide) ?_
          exact x_zret rfl dX8_oneMoreDoes_97 (by decide) H
    · have H := H2 (hB)
      refine x_iloadn (q := 29) 1 rfl rfl dX8_oneMoreDoes_28 rfl ?_
      refine x_aloadn (q := 30) 0 rfl rfl rfl dX8_oneMoreDoes_29 rfl ?_
      refine x_getr (q := 33) dX8_oneMoreDoes_30 rfl fa_X8_25 sh_45 rfl ?_
      refine x_getr (q := 36) dX8_oneMoreDoes_33 rfl fa_X8_78 sh_32 rfl ?_
      refine x_iload (q := 38) 5 rfl dX8_oneMoreDoes_36 rfl ?_
      obtain ⟨⟨s23, s24⟩, H⟩ := H
      refine x_iald (q := 39) dX8_oneMoreDoes_38 rfl sh_37 s23 s24 (fun r25 => ?_)
      refine x_iloadn (q := 40) 2 rfl rfl dX8_oneMoreDoes_39 rfl ?_
      refine x_iloadn (q := 41) 3 rfl rfl dX8_oneMoreDoes_40 rfl ?_
      refine x_callS (q := 44) (d := d - 1) (as := [vI l1, vI (mem 37 l5), vI l2, vI l3]) (st := []) dX8_oneMoreDoes_41 rfl ms_X8_89 rfl rfl (by exact Nat.le_of_ble_eq_true rfl) ⟨by show _ ≤ d; omega, by show _ ≤ 40 * d; omega⟩ ⟨Nat.le_refl _, Nat.le_refl _⟩ (ct_areLet ?_)
      show E_X8_oneMoreDoes G d 44 [(0, vR 45), (1, vI l1), (2, vI l2), (3, vI l3), (4, vI l4), (5, vI l5)] [vI (bz (iand (ishr l1 (2 * iand (ishr (mem 37 l5) l2) 1 + iand (ishr (mem 37 l5) l3) 1)) 1 ≠ 0))] mem Q
      obtain ⟨H1, H2⟩ := H
      refine x_if_eq (tgt := 67) (q := 47) dX8_oneMoreDoes_44 (by decide) rfl (bz_inr _) (fun hB => ?_) (fun hB => ?_)
      · have H := H1 (bz_0.mp hB)
        refine x_iinc (q := 70) (ls' := [(5, vI (l5 + 1)), (0, vR 45), (1, vI l1), (2, vI l2), (3, vI l3), (4, vI l4)]) 5 rfl (by decide) rfl dX8_oneMoreDoes_67 rfl ?_
        refine x_goto (tgt := 6) dX8_oneMoreDoes_70 (by decide) ?_
        refine x_sub [1, 2, 3, 4, 5, 0] rfl ?_
        exact H
      · have H := H2 (Classical.byContradiction (fun z => hB (bz_0.mpr z)))
        refine x_aloadn (q := 48) 0 rfl rfl rfl dX8_oneMoreDoes_47 rfl ?_
        refine x_getr (q := 51) dX8_oneMoreDoes_48 rfl fa_X8_18 sh_45 rfl ?_
        refine x_iload (q := 53) 4 rfl dX8_oneMoreDoes_51 rfl ?_
        refine x_aloadn (q := 54) 0 rfl rfl rfl dX8_oneMoreDoes_53 rfl ?_
        refine x_getr (q := 57) dX8_oneMoreDoes_54 rfl fa_X8_25 sh_45 rfl ?_
        refine x_getr (q := 60) dX8_oneMoreDoes_57 rfl fa_X8_78 sh_32 rfl ?_
        refine x_iload (q := 62) 5 rfl dX8_oneMoreDoes_60 rfl ?_
        refine x_iald (q := 63) dX8_oneMoreDoes_62 rfl sh_37 s23 s24 (fun r28 => ?_)
        obtain ⟨⟨s29, s30⟩, H⟩ := H
        refine x_iast (q := 64) dX8_oneMoreDoes_63 rfl sh_48 s29 s30 r28 (fun m31 em31 => ?_)
        have H := H m31 em31
        refine x_iinc (q := 67) (ls' := [(4, vI (l4 + 1)), (0, vR 45), (1, vI l1), (2, vI l2), (3, vI l3), (5, vI l5)]) 4 rfl (by decide) rfl dX8_oneMoreDoes_64 rfl ?_
        refine x_iinc (q := 70) (ls' := [(5, vI (l5 + 1)), (4, vI (l4 + 1)), (0, vR 45), (1, vI l1), (2, vI l2), (3, vI l3)]) 5 rfl (by decide) rfl dX8_oneMoreDoes_67 rfl ?_
        refine x_goto (tgt := 6) dX8_oneMoreDoes_70 (by decide) ?_
        refine x_sub [2, 3, 4, 5, 1, 0] rfl ?_
        exact H
set_option maxRecDepth 20000 in
set_option maxHeartbeats 4000000 in
theorem B_X8_roundsNeeded {G : GT} {d : Nat}  {mem : Mem} {Q : Option AV → Mem → Prop} (hd : 1 ≤ d) (H : ((1 < mem 32 7) → (C_X8_readKinds G (d - 1) [vR 45] mem (fun r9 m4 => r9 = none ∧ (C_X8_oneTrialDoes G (d - 1) [vR 45, vR 37, vI (m4 32 7)] m4 (fun r9 m6 => ∃ z7 : Int, r9 = some (vI z7) ∧ ((inr z7) ∧ (((z7 = 0) → (E_X8_roundsNeeded G d 42 [(0, vR 45), (1, vI 0)] [] m6 Q)) ∧ (¬ (z7 = 0) → (Q (some (vI 1)) m6))))))))) ∧ (¬ (1 < mem 32 7) → (Q (some (vI 0)) mem))) : C_X8_roundsNeeded G d [vR 45] mem Q := by
  refine Ct_of_Ex (by decide +kernel) (by exact Nat.le_of_ble_eq_true rfl) (ls := [(0, vR 45)]) rfl ?_
  show E_X8_roundsNeeded G d 0 [(0, vR 45)] [] mem Q
  refine x_aloadn (q := 1) 0 rfl rfl rfl dX8_roundsNeeded_0 rfl ?_
  refine x_getr (q := 4) dX8_roundsNeeded_1 rfl fa_X8_25 sh_45 rfl ?_
  refine x_geti (q := 7) (ji := 7) dX8_roundsNeeded_4 rfl fa_X8_49 sh_32 rfl rfl (fun r1 => ?_)
  refine x_iconst (q := 8) dX8_roundsNeeded_7 rfl ?_
  obtain ⟨H1, H2⟩ := H
  refine x_icmp_gt (tgt := 13) (q := 11) dX8_roundsNeeded_8 (by decide) rfl r1 (by decide) (fun hB => ?_) (fun hB => ?_)
  · have H := H1 (hB)
    refine x_aloadn (q := 14) 0 rfl rfl rfl dX8_roundsNeeded_13 rfl ?_
    refine x_callV (q := 17) (d := d - 1) (as := []) (st := []) dX8_roundsNeeded_14 rfl mv_X8_52 sh_45 rfl rfl rfl (by exact Nat.le_of_ble_eq_true rfl) ⟨by show _ ≤ d; omega, by show _ ≤ 40 * d; omega⟩ ⟨Nat.le_refl _, Nat.le_refl _⟩ (Ct.mono H (fun r9 m4 H => ?_))
    obtain ⟨rfl, H⟩ := H
    show E_X8_roundsNeeded G d 17 [(0, vR 45)] [] m4 Q
    refine x_aloadn (q := 18) 0 rfl rfl rfl dX8_roundsNeeded_17 rfl ?_
    refine x_aloadn (q := 19) 0 rfl rfl rfl dX8_roundsNeeded_18 rfl ?_
    refine x_getr (q := 22) dX8_roundsNeeded_19 rfl fa_X8_25 sh_45 rfl ?_
    refine x_getr (q := 25) dX8_roundsNeeded_22 rfl fa_X8_78 sh_32 rfl ?_
    refine x_aloadn (q := 26) 0 rfl rfl rfl dX8_roundsNeeded_25 rfl ?_
    refine x_getr (q := 29) dX8_roundsNeeded_26 rfl fa_X8_25 sh_45 rfl ?_
    refine x_geti (q := 32) (ji := 7) dX8_roundsNeeded_29 rfl fa_X8_49 sh_32 rfl rfl (fun r5 => ?_)
    refine x_callV (q := 35) (d := d - 1) (as := [vR 37, vI (m4 32 7)]) (st := []) dX8_roundsNeeded_32 rfl mv_X8_81 sh_45 rfl rfl rfl (by exact Nat.le_of_ble_eq_true rfl) ⟨by show _ ≤ d; omega, by show _ ≤ 40 * d; omega⟩ ⟨Nat.le_refl _, Nat.le_refl _⟩ (Ct.mono H (fun r9 m6 H => ?_))
    obtain ⟨z7, rfl, H⟩ := H
    show E_X8_roundsNeeded G d 35 [(0, vR 45)] [vI z7] m6 Q
    obtain ⟨s8, H⟩ := H
    obtain ⟨H1, H2⟩ := H
    refine x_if_eq (tgt := 40) (q := 38) dX8_roundsNeeded_35 (by decide) rfl s8 (fun hB => ?_) (fun hB => ?_)
    · have H := H1 (hB)
      refine x_iconst (q := 41) dX8_roundsNeeded_40 rfl ?_
      refine x_istoren (q := 42) (ls' := [(1, vI 0), (0, vR 45)]) rfl (by decide) rfl dX8_roundsNeeded_41 rfl ?_
      refine x_sub [1, 0] rfl ?_
      exact H
    · have H := H2 (hB)
      refine x_iconst (q := 39) dX8_roundsNeeded_38 rfl ?_
      exact x_iret rfl dX8_roundsNeeded_39 H
  · have H := H2 (hB)
    refine x_iconst (q := 12) dX8_roundsNeeded_11 rfl ?_
    exact x_iret rfl dX8_roundsNeeded_12 H
set_option maxRecDepth 20000 in
set_option maxHeartbeats 4000000 in
theorem B_X8_roundsNeeded_42 {G : GT} {d : Nat} {l1 : Int} {mem : Mem} {Q : Option AV → Mem → Prop} (hd : 1 ≤ d) (H : (inr l1) ∧ (((mem 1 0 ≤ l1) → (Q (some (vI (-1))) mem)) ∧ (¬ (mem 1 0 ≤ l1) → (E_X8_roundsNeeded G d 55 [(0, vR 45), (1, vI l1), (2, vI 0)] [] mem Q)))) : E_X8_roundsNeeded G d 42 [(0, vR 45), (1, vI l1)] [] mem Q := by
  refine x_iloadn (q := 43) 1 rfl rfl dX8_roundsNeeded_42 rfl ?_
  refine x_aloadn (q := 44) 0 rfl rfl rfl dX8_roundsNeeded_43 rfl ?_
  refine x_getr (q := 47) dX8_roundsNeeded_44 rfl fa_X8_21 sh_45 rfl ?_
  refine x_geti (q := 50) (ji := 0) dX8_roundsNeeded_47 rfl fa_X8_29 sh_1 rfl rfl (fun r11 => ?_)
  obtain ⟨s12, H⟩ := H
  obtain ⟨H1, H2⟩ := H
  refine x_icmp_ge (tgt := 122) (q := 53) dX8_roundsNeeded_50 (by decide) rfl s12 r11 (fun hB => ?_) (fun hB => ?_)
  · have H := H1 (hB)
    refine x_iconst (q := 123) dX8_roundsNeeded_122 rfl ?_
    exact x_iret rfl dX8_roundsNeeded_123 H
  · have H := H2 (hB)
    refine x_iconst (q := 54) dX8_roundsNeeded_53 rfl ?_
    refine x_istoren (q := 55) (ls' := [(2, vI 0), (0, vR 45), (1, vI l1)]) rfl (by decide) rfl dX8_roundsNeeded_54 rfl ?_
    refine x_sub [1, 2, 0] rfl ?_
    exact H
set_option maxRecDepth 20000 in
set_option maxHeartbeats 4000000 in
theorem B_X8_roundsNeeded_55 {G : GT} {d : Nat} {l1 : Int} {l2 : Int} {mem : Mem} {Q : Option AV → Mem → Prop} (hd : 1 ≤ d) (H : (inr l2) ∧ (((mem 1 0 ≤ l2) → (E_X8_roundsNeeded G d 42 [(0, vR 45), (1, vI (l1 + 1))] [] mem Q)) ∧ (¬ (mem 1 0 ≤ l2) → ((0 ≤ l1 ∧ l1 < 12) ∧ ((¬ (iand (ishr (mem 5 l1) l2) 1 ≠ 0) → (E_X8_roundsNeeded G d 55 [(0, vR 45), (1, vI l1), (2, vI (l2 + 1))] [] mem Q)) ∧ ((iand (ishr (mem 5 l1) l2) 1 ≠ 0) → ((0 ≤ l1 ∧ l1 < 12) ∧ (C_X8_oneMoreDoes G (d - 1) [vR 45, vI (mem 46 l1), vI l1, vI l2] mem (fun r9 m26 => ∃ z27 : Int, r9 = some (vI z27) ∧ ((inr z27) ∧ (((z27 = 0) → (E_X8_roundsNeeded G d 55 [(0, vR 45), (1, vI l1), (2, vI (l2 + 1))] [] m26 Q)) ∧ (¬ (z27 = 0) → (C_X8_oneMoreDoes G (d - 1) [vR 45, vI (m26 47 l1), vI l1, vI l2] m26 (fun r9 m32 => ∃ z33 : Int, r9 = some (vI z33) ∧ ((inr z33) ∧ (((z33 = 0) → (E_X8_roundsNeeded G d 55 [(0, vR 45), (1, vI l1), (2, vI (l2 + 1))] [] m32 Q)) ∧ (¬ (z33 = 0) → (Q (some (vI 2)) m32)))))))))))))))))) : E_X8_roundsNeeded G d 55 [(0, vR 45), (1, vI l1), (2, vI l2)] [] mem Q := by
  refine x_iloadn (q := 56) 2 rfl rfl dX8_roundsNeeded_55 rfl ?_
  refine x_aloadn (q := 57) 0 rfl rfl rfl dX8_roundsNeeded_56 rfl ?_
  refine x_getr (q := 60) dX8_roundsNeeded_57 rfl fa_X8_21 sh_45 rfl ?_
  refine x_geti (q := 63) (ji := 0) dX8_roundsNeeded_60 rfl fa_X8_29 sh_1 rfl rfl (fun r15 => ?_)
  obtain ⟨s16, H⟩ := H
  obtain ⟨H1, H2⟩ := H
  refine x_icmp_ge (tgt := 116) (q := 66) dX8_roundsNeeded_63 (by decide) rfl s16 r15 (fun hB => ?_) (fun hB => ?_)
  · have H := H1 (hB)
    refine x_iinc (q := 119) (ls' := [(1, vI (l1 + 1)), (0, vR 45), (2, vI l2)]) 1 rfl (by decide) rfl dX8_roundsNeeded_116 rfl ?_
    refine x_goto (tgt := 42) dX8_roundsNeeded_119 (by decide) ?_
    refine x_sub [1, 0] rfl ?_
    exact H
  · have H := H2 (hB)
    refine x_aloadn (q := 67) 0 rfl rfl rfl dX8_roundsNeeded_66 rfl ?_
    refine x_getr (q := 70) dX8_roundsNeeded_67 rfl fa_X8_21 sh_45 rfl ?_
    refine x_iloadn (q := 71) 1 rfl rfl dX8_roundsNeeded_70 rfl ?_
    refine x_iloadn (q := 72) 2 rfl rfl dX8_roundsNeeded_71 rfl ?_
    obtain ⟨⟨s19, s20⟩, H⟩ := H
    refine x_callV (q := 75) (d := d - 1) (as := [vI l1, vI l2]) (st := []) dX8_roundsNeeded_72 rfl mv_X8_58 sh_1 rfl rfl rfl (by exact Nat.le_of_ble_eq_true rfl) ⟨by show _ ≤ d; omega, by show _ ≤ 40 * d; omega⟩ ⟨Nat.le_refl _, Nat.le_refl _⟩ (ct_tied (by decide) s19 s20 ?_)
    show E_X8_roundsNeeded G d 75 [(0, vR 45), (1, vI l1), (2, vI l2)] [vI (bz (iand (ishr (mem 5 l1) l2) 1 ≠ 0))] mem Q
    obtain ⟨H1, H2⟩ := H
    refine x_if_eq (tgt := 110) (q := 78) dX8_roundsNeeded_75 (by decide) rfl (bz_inr _) (fun hB => ?_) (fun hB => ?_)
    · have H := H1 (bz_0.mp hB)
      refine x_iinc (q := 113) (ls' := [(2, vI (l2 + 1)), (0, vR 45), (1, vI l1)]) 2 rfl (by decide) rfl dX8_roundsNeeded_110 rfl ?_
      refine x_goto (tgt := 55) dX8_roundsNeeded_113 (by decide) ?_
      refine x_sub [1, 2, 0] rfl ?_
      exact H
    · have H := H2 (Classical.byContradiction (fun z => hB (bz_0.mpr z)))
      refine x_aloadn (q := 79) 0 rfl rfl rfl dX8_roundsNeeded_78 rfl ?_
      refine x_aloadn (q := 80) 0 rfl rfl rfl dX8_roundsNeeded_79 rfl ?_
      refine x_getr (q := 83) dX8_roundsNeeded_80 rfl fa_X8_9 sh_45 rfl ?_
      refine x_iloadn (q := 84) 1 rfl rfl dX8_roundsNeeded_83 rfl ?_
      obtain ⟨⟨s23, s24⟩, H⟩ := H
      refine x_iald (q := 85) dX8_roundsNeeded_84 rfl sh_46 s23 s24 (fun r25 => ?_)
      refine x_iloadn (q := 86) 1 rfl rfl dX8_roundsNeeded_85 rfl ?_
      refine x_iloadn (q := 87) 2 rfl rfl dX8_roundsNeeded_86 rfl ?_
      refine x_callV (q := 90) (d := d - 1) (as := [vI (mem 46 l1), vI l1, vI l2]) (st := []) dX8_roundsNeeded_87 rfl mv_X8_85 sh_45 rfl rfl rfl (by exact Nat.le_of_ble_eq_true rfl) ⟨by show _ ≤ d; omega, by show _ ≤ 40 * d; omega⟩ ⟨Nat.le_refl _, Nat.le_refl _⟩ (Ct.mono H (fun r9 m26 H => ?_))
      obtain ⟨z27, rfl, H⟩ := H
      show E_X8_roundsNeeded G d 90 [(0, vR 45), (1, vI l1), (2, vI l2)] [vI z27] m26 Q
      obtain ⟨s28, H⟩ := H
      obtain ⟨H1, H2⟩ := H
      refine x_if_eq (tgt := 110) (q := 93) dX8_roundsNeeded_90 (by decide) rfl s28 (fun hB => ?_) (fun hB => ?_)
      · have H := H1 (hB)
        refine x_iinc (q := 113) (ls' := [(2, vI (l2 + 1)), (0, vR 45), (1, vI l1)]) 2 rfl (by decide) rfl dX8_roundsNeeded_110 rfl ?_
        refine x_goto (tgt := 55) dX8_roundsNeeded_113 (by decide) ?_
        refine x_sub [1, 2, 0] rfl ?_
        exact H
      · have H := H2 (hB)
        refine x_aloadn (q := 94) 0 rfl rfl rfl dX8_roundsNeeded_93 rfl ?_
        refine x_aloadn (q := 95) 0 rfl rfl rfl dX8_roundsNeeded_94 rfl ?_
        refine x_getr (q := 98) dX8_roundsNeeded_95 rfl fa_X8_15 sh_45 rfl ?_
        refine x_iloadn (q := 99) 1 rfl rfl dX8_roundsNeeded_98 rfl ?_
        refine x_iald (q := 100) dX8_roundsNeeded_99 rfl sh_47 s23 s24 (fun r31 => ?_)
        refine x_iloadn (q := 101) 1 rfl rfl dX8_roundsNeeded_100 rfl ?_
        refine x_iloadn (q := 102) 2 rfl rfl dX8_roundsNeeded_101 rfl ?_
        refine x_callV (q := 105) (d := d - 1) (as := [vI (m26 47 l1), vI l1, vI l2]) (st := []) dX8_roundsNeeded_102 rfl mv_X8_85 sh_45 rfl rfl rfl (by exact Nat.le_of_ble_eq_true rfl) ⟨by show _ ≤ d; omega, by show _ ≤ 40 * d; omega⟩ ⟨Nat.le_refl _, Nat.le_refl _⟩ (Ct.mono H (fun r9 m32 H => ?_))
        obtain ⟨z33, rfl, H⟩ := H
        show E_X8_roundsNeeded G d 105 [(0, vR 45), (1, vI l1), (2, vI l2)] [vI z33] m32 Q
        obtain ⟨s34, H⟩ := H
        obtain ⟨H1, H2⟩ := H
        refine x_if_eq (tgt := 110) (q := 108) dX8_roundsNeeded_105 (by decide) rfl s34 (fun hB => ?_) (fun hB => ?_)
        · have H := H1 (hB)
          refine x_iinc (q := 113) (ls' := [(2, vI (l2 + 1)), (0, vR 45), (1, vI l1)]) 2 rfl (by decide) rfl dX8_roundsNeeded_110 rfl ?_
          refine x_goto (tgt := 55) dX8_roundsNeeded_113 (by decide) ?_
          refine x_sub [1, 2, 0] rfl ?_
          exact H
        · have H := H2 (hB)
          refine x_iconst (q := 109) dX8_roundsNeeded_108 rfl ?_
          exact x_iret rfl dX8_roundsNeeded_109 H
set_option maxRecDepth 20000 in
set_option maxHeartbeats 4000000 in
theorem B_X11_letting {G : GT} {d : Nat} {l1 : Int} {l2 : Int} {l3 : Int} {mem : Mem} {Q : Option AV → Mem → Prop} (hd : 1 ≤ d) (H : E_X11_letting G d 6 [(0, vR 71), (1, vI l1), (2, vI l2), (3, vI l3), (4, vI 0), (5, vI 0)] [] mem Q) : C_X11_letting G d [vR 71, vI l1, vI l2, vI l3] mem Q := by
  refine Ct_of_Ex (by decide +kernel) (by exact Nat.le_of_ble_eq_true rfl) (ls := [(0, vR 71), (1, vI l1), (2, vI l2), (3, vI l3)]) rfl ?_
  show E_X11_letting G d 0 [(0, vR 71), (1, vI l1), (2, vI l2), (3, vI l3)] [] mem Q
  refine x_iconst (q := 1) dX11_letting_0 rfl ?_
  refine x_istore (q := 3) (ls' := [(4, vI 0), (0, vR 71), (1, vI l1), (2, vI l2), (3, vI l3)]) (by decide) rfl dX11_letting_1 rfl ?_
  refine x_iconst (q := 4) dX11_letting_3 rfl ?_
  refine x_istore (q := 6) (ls' := [(5, vI 0), (4, vI 0), (0, vR 71), (1, vI l1), (2, vI l2), (3, vI l3)]) (by decide) rfl dX11_letting_4 rfl ?_
  refine x_sub [2, 3, 4, 5, 1, 0] rfl ?_
  exact H
set_option maxRecDepth 20000 in
set_option maxHeartbeats 4000000 in
theorem B_X11_letting_6 {G : GT} {d : Nat} {l1 : Int} {l2 : Int} {l3 : Int} {l4 : Int} {l5 : Int} {mem : Mem} {Q : Option AV → Mem → Prop} (hd : 2 ≤ d) (H : (inr l5) ∧ (((mem 71 12 ≤ l5) → (Q (some (vI l4)) mem)) ∧ (¬ (mem 71 12 ≤ l5) → ((0 ≤ l5 ∧ l5 < 4096) ∧ ((0 ≤ l1 ∧ l1 < 12) ∧ ((l3 = 0 ∨ l3 = 1) ∧ ((¬ (letB (mem 72 (5 + 3 * l1)) (hb (mem 77 l5) l1) (hb (mem 77 l5) l2) (nz l3) = true) → (E_X11_letting G d 6 [(0, vR 71), (1, vI l1), (2, vI l2), (3, vI l3), (4, vI (l4 + 0)), (5, vI (l5 + 1))] [] mem Q)) ∧ ((letB (mem 72 (5 + 3 * l1)) (hb (mem 77 l5) l1) (hb (mem 77 l5) l2) (nz l3) = true) → (E_X11_letting G d 6 [(0, vR 71), (1, vI l1), (2, vI l2), (3, vI l3), (4, vI (l4 + 1)), (5, vI (l5 + 1))] [] mem Q))))))))) : E_X11_letting G d 6 [(0, vR 71), (1, vI l1), (2, vI l2), (3, vI l3), (4, vI l4), (5, vI l5)] [] mem Q := by
  refine x_iload (q := 8) 5 rfl dX11_letting_6 rfl ?_
  refine x_aloadn (q := 9) 0 rfl rfl rfl dX11_letting_8 rfl ?_
  refine x_geti (q := 12) (ji := 12) dX11_letting_9 rfl fa_X11_213 sh_71 rfl rfl (fun r1 => ?_)
  obtain ⟨s2, H⟩ := H
  obtain ⟨H1, H2⟩ := H
  refine x_icmp_ge (tgt := 48) (q := 15) dX11_letting_12 (by decide) rfl s2 r1 (fun hB => ?_) (fun hB => ?_)
  · have H := H1 (hB)
    refine x_iload (q := 50) 4 rfl dX11_letting_48 rfl ?_
    exact x_iret rfl dX11_letting_50 H
  · have H := H2 (hB)
    refine x_iload (q := 17) 4 rfl dX11_letting_15 rfl ?_
    refine x_aloadn (q := 18) 0 rfl rfl rfl dX11_letting_17 rfl ?_
    refine x_aloadn (q := 19) 0 rfl rfl rfl dX11_letting_18 rfl ?_
    refine x_getr (q := 22) dX11_letting_19 rfl fa_X11_40 sh_71 rfl ?_
    refine x_iload (q := 24) 5 rfl dX11_letting_22 rfl ?_
    obtain ⟨⟨s5, s6⟩, H⟩ := H
    refine x_iald (q := 25) dX11_letting_24 rfl sh_77 s5 s6 (fun r7 => ?_)
    refine x_iloadn (q := 26) 1 rfl rfl dX11_letting_25 rfl ?_
    refine x_iloadn (q := 27) 2 rfl rfl dX11_letting_26 rfl ?_
    refine x_iloadn (q := 28) 3 rfl rfl dX11_letting_27 rfl ?_
    obtain ⟨⟨s8, s9⟩, H⟩ := H
    obtain ⟨s10, H⟩ := H
    refine x_callV (q := 31) (d := d - 1) (as := [vI (mem 77 l5), vI l1, vI l2, vI l3]) (st := [vI l4]) dX11_letting_28 rfl mv_X11_198 sh_71 rfl rfl rfl (by exact Nat.le_of_ble_eq_true rfl) ⟨by show _ ≤ d; omega, by show _ ≤ 40 * d; omega⟩ ⟨Nat.le_refl _, Nat.le_refl _⟩ (ct_isLet (by omega) s8 s9 s10 ?_)
    show E_X11_letting G d 31 [(0, vR 71), (1, vI l1), (2, vI l2), (3, vI l3), (4, vI l4), (5, vI l5)] [vI (bz (letB (mem 72 (5 + 3 * l1)) (hb (mem 77 l5) l1) (hb (mem 77 l5) l2) (nz l3) = true)), vI l4] mem Q
    obtain ⟨H1, H2⟩ := H
    refine x_if_eq (tgt := 38) (q := 34) dX11_letting_31 (by decide) rfl (bz_inr _) (fun hB => ?_) (fun hB => ?_)
    · have H := H1 (bz_0.mp hB)
      refine x_iconst (q := 39) dX11_letting_38 rfl ?_
      refine x_iadd (q := 40) dX11_letting_39 rfl ?_
      refine x_istore (q := 42) (ls' := [(4, vI (l4 + 0)), (0, vR 71), (1, vI l1), (2, vI l2), (3, vI l3), (5, vI l5)]) (by decide) rfl dX11_letting_40 rfl ?_
      refine x_iinc (q := 45) (ls' := [(5, vI (l5 + 1)), (4, vI (l4 + 0)), (0, vR 71), (1, vI l1), (2, vI l2), (3, vI l3)]) 5 rfl (by decide) rfl dX11_letting_42 rfl ?_
      refine x_goto (tgt := 6) dX11_letting_45 (by decide) ?_
      refine x_sub [2, 3, 4, 5, 1, 0] rfl ?_
      exact H
    · have H := H2 (Classical.byContradiction (fun z => hB (bz_0.mpr z)))
      refine x_iconst (q := 35) dX11_letting_34 rfl ?_
      refine x_goto (tgt := 39) dX11_letting_35 (by decide) ?_
      refine x_iadd (q := 40) dX11_letting_39 rfl ?_
      refine x_istore (q := 42) (ls' := [(4, vI (l4 + 1)), (0, vR 71), (1, vI l1), (2, vI l2), (3, vI l3), (5, vI l5)]) (by decide) rfl dX11_letting_40 rfl ?_
      refine x_iinc (q := 45) (ls' := [(5, vI (l5 + 1)), (4, vI (l4 + 1)), (0, vR 71), (1, vI l1), (2, vI l2), (3, vI l3)]) 5 rfl (by decide) rfl dX11_letting_42 rfl ?_
      refine x_goto (tgt := 6) dX11_letting_45 (by decide) ?_
      refine x_sub [2, 3, 4, 5, 1, 0] rfl ?_
      exact H
set_option maxRecDepth 20000 in
set_option maxHeartbeats 4000000 in
theorem B_X11_does {G : GT} {d : Nat} {l1 : Int} {l2 : Int} {mem : Mem} {Q : Option AV → Mem → Prop} (hd : 1 ≤ d) (H : (0 ≤ l1 ∧ l1 < 3) ∧ (((2 ≤ mem 82 l1) → (E_X11_does G d 17 [(0, vR 71), (1, vI l1), (2, vI l2), (3, vI 0), (4, vI 0)] [] mem Q)) ∧ (¬ (2 ≤ mem 82 l1) → (Q (some (vI 1)) mem)))) : C_X11_does G d [vR 71, vI l1, vI l2] mem Q := by
  refine Ct_of_Ex (by decide +kernel) (by exact Nat.le_of_ble_eq_true rfl) (ls := [(0, vR 71), (1, vI l1), (2, vI l2)]) rfl ?_
  show E_X11_does G d 0 [(0, vR 71), (1, vI l1), (2, vI l2)] [] mem Q
  refine x_aloadn (q := 1) 0 rfl rfl rfl dX11_does_0 rfl ?_
  refine x_getr (q := 4) dX11_does_1 rfl fa_X11_55 sh_71 rfl ?_
  refine x_iloadn (q := 5) 1 rfl rfl dX11_does_4 rfl ?_
  obtain ⟨⟨s1, s2⟩, H⟩ := H
  refine x_iald (q := 6) dX11_does_5 rfl sh_82 s1 s2 (fun r3 => ?_)
  refine x_iconst (q := 7) dX11_does_6 rfl ?_
  obtain ⟨H1, H2⟩ := H
  refine x_icmp_ge (tgt := 12) (q := 10) dX11_does_7 (by decide) rfl r3 (by decide) (fun hB => ?_) (fun hB => ?_)
  · have H := H1 (hB)
    refine x_iconst (q := 13) dX11_does_12 rfl ?_
    refine x_istoren (q := 14) (ls' := [(3, vI 0), (0, vR 71), (1, vI l1), (2, vI l2)]) rfl (by decide) rfl dX11_does_13 rfl ?_
    refine x_iconst (q := 15) dX11_does_14 rfl ?_
    refine x_istore (q := 17) (ls' := [(4, vI 0), (3, vI 0), (0, vR 71), (1, vI l1), (2, vI l2)]) (by decide) rfl dX11_does_15 rfl ?_
    refine x_sub [2, 3, 4, 1, 0] rfl ?_
    exact H
  · have H := H2 (hB)
    refine x_iconst (q := 11) dX11_does_10 rfl ?_
    exact x_zret rfl dX11_does_11 (by decide) H
set_option maxRecDepth 20000 in
set_option maxHeartbeats 4000000 in
theorem B_X11_does_17 {G : GT} {d : Nat} {l1 : Int} {l2 : Int} {l3 : Int} {l4 : Int} {mem : Mem} {Q : Option AV → Mem → Prop} (hd : 1 ≤ d) (H : (inr l4) ∧ (((144 ≤ l4) → ((l3 = 0 ∨ l3 = 1) ∧ (Q (some (vI l3)) mem))) ∧ (¬ (144 ≤ l4) → ((inr l2) ∧ (((l2 ≤ 0) → ((l3 = 0 ∨ l3 = 1) ∧ (Q (some (vI l3)) mem))) ∧ (¬ (l2 ≤ 0) → ((inr l3) ∧ (((l3 ≠ 0) → ((l3 = 0 ∨ l3 = 1) ∧ (Q (some (vI l3)) mem))) ∧ (¬ (l3 ≠ 0) → ((0 ≤ 41 + l4 ∧ 41 + l4 < 553) ∧ (((mem 72 (41 + l4) ≤ 0) → (E_X11_does G d 17 [(0, vR 71), (1, vI l1), (2, vI l2), (3, vI 0), (4, vI (l4 + 1))] [] mem Q)) ∧ (¬ (mem 72 (41 + l4) ≤ 0) → (C_X11_doesWith G (d - 1) [vR 71, vI l1, vI (Int.tdiv l4 12), vI (Int.tmod l4 12), vI 1, vI l2] mem (fun r9 m23 => ∃ z24 : Int, r9 = some (vI z24) ∧ ((inr z24) ∧ (((z24 = 0) → (E_X11_does G d 17 [(0, vR 71), (1, vI l1), (2, vI l2), (3, vI 0), (4, vI (l4 + 1))] [] m23 Q)) ∧ (¬ (z24 = 0) → (C_X11_doesWith G (d - 1) [vR 71, vI l1, vI (Int.tdiv l4 12), vI (Int.tmod l4 12), vI 0, vI l2] m23 (fun r9 m28 => ∃ z29 : Int, r9 = some (vI z29) ∧ ((inr z29) ∧ (((z29 = 0) → (E_X11_does G d 17 [(0, vR 71), (1, vI l1), (2, vI l2), (3, vI 0), (4, vI (l4 + 1))] [] m28 Q)) ∧ (¬ (z29 = 0) → (E_X11_does G d 17 [(0, vR 71), (1, vI l1), (2, vI l2), (3, vI 1), (4, vI (l4 + 1))] [] m28 Q))))))))))))))))))))))) : E_X11_does G d 17 [(0, vR 71), (1, vI l1), (2, vI l2), (3, vI l3), (4, vI l4)] [] mem Q := by
  refine x_iload (q := 19) 4 rfl dX11_does_17 rfl ?_
  refine x_sipush (q := 22) rfl dX11_does_19 rfl ?_
  obtain ⟨s6, H⟩ := H
  obtain ⟨H1, H2⟩ := H
  refine x_icmp_ge (tgt := 98) (q := 25) dX11_does_22 (by decide) rfl s6 (by decide) (fun hB => ?_) (fun hB => ?_)
  · have H := H1 (hB)
    refine x_iloadn (q := 99) 3 rfl rfl dX11_does_98 rfl ?_
    obtain ⟨s9, H⟩ := H
    exact x_zret rfl dX11_does_99 s9 H
  · have H := H2 (hB)
    refine x_iloadn (q := 26) 2 rfl rfl dX11_does_25 rfl ?_
    obtain ⟨s10, H⟩ := H
    obtain ⟨H1, H2⟩ := H
    refine x_if_le (tgt := 98) (q := 29) dX11_does_26 (by decide) rfl s10 (fun hB => ?_) (fun hB => ?_)
    · have H := H1 (hB)
      refine x_iloadn (q := 99) 3 rfl rfl dX11_does_98 rfl ?_
      obtain ⟨s13, H⟩ := H
      exact x_zret rfl dX11_does_99 s13 H
    · have H := H2 (hB)
      refine x_iloadn (q := 30) 3 rfl rfl dX11_does_29 rfl ?_
      obtain ⟨s14, H⟩ := H
      obtain ⟨H1, H2⟩ := H
      refine x_if_ne (tgt := 98) (q := 33) dX11_does_30 (by decide) rfl s14 (fun hB => ?_) (fun hB => ?_)
      · have H := H1 (hB)
        refine x_iloadn (q := 99) 3 rfl rfl dX11_does_98 rfl ?_
        obtain ⟨s17, H⟩ := H
        exact x_zret rfl dX11_does_99 s17 H
      · have H := H2 (hB)
        refine x_aloadn (q := 34) 0 rfl rfl rfl dX11_does_33 rfl ?_
        refine x_getr (q := 37) dX11_does_34 rfl fa_X11_9 sh_71 rfl ?_
        refine x_bipush (q := 39) rfl dX11_does_37 rfl ?_
        refine x_iload (q := 41) 4 rfl dX11_does_39 rfl ?_
        refine x_iadd (q := 42) dX11_does_41 rfl ?_
        obtain ⟨⟨s18, s19⟩, H⟩ := H
        refine x_iald (q := 43) dX11_does_42 rfl sh_72 s18 s19 (fun r20 => ?_)
        obtain ⟨H1, H2⟩ := H
        refine x_if_le (tgt := 90) (q := 46) dX11_does_43 (by decide) rfl r20 (fun hB => ?_) (fun hB => ?_)
        · have H := H1 (hB)
          refine x_iconst (q := 91) dX11_does_90 rfl ?_
          refine x_istoren (q := 92) (ls' := [(3, vI 0), (0, vR 71), (1, vI l1), (2, vI l2), (4, vI l4)]) rfl (by decide) rfl dX11_does_91 rfl ?_
          refine x_iinc (q := 95) (ls' := [(4, vI (l4 + 1)), (3, vI 0), (0, vR 71), (1, vI l1), (2, vI l2)]) 4 rfl (by decide) rfl dX11_does_92 rfl ?_
          refine x_goto (tgt := 17) dX11_does_95 (by decide) ?_
          refine x_sub [2, 3, 4, 1, 0] rfl ?_
          exact H
        · have H := H2 (hB)
          refine x_aloadn (q := 47) 0 rfl rfl rfl dX11_does_46 rfl ?_
          refine x_iloadn (q := 48) 1 rfl rfl dX11_does_47 rfl ?_
          refine x_iload (q := 50) 4 rfl dX11_does_48 rfl ?_
          refine x_bipush (q := 52) rfl dX11_does_50 rfl ?_
          refine x_idiv (q := 53) s6 (by decide) (by decide) dX11_does_52 rfl ?_
          refine x_iload (q := 55) 4 rfl dX11_does_53 rfl ?_
          refine x_bipush (q := 57) rfl dX11_does_55 rfl ?_
          refine x_irem (q := 58) s6 (by decide) (by decide) dX11_does_57 rfl ?_
          refine x_iconst (q := 59) dX11_does_58 rfl ?_
          refine x_iloadn (q := 60) 2 rfl rfl dX11_does_59 rfl ?_
          refine x_callV (q := 63) (d := d - 1) (as := [vI l1, vI (Int.tdiv l4 12), vI (Int.tmod l4 12), vI 1, vI l2]) (st := []) dX11_does_60 rfl mv_X11_241 sh_71 rfl rfl rfl (by exact Nat.le_of_ble_eq_true rfl) ⟨by show _ ≤ d; omega, by show _ ≤ 40 * d; omega⟩ ⟨Nat.le_refl _, Nat.le_refl _⟩ (Ct.mono H (fun r9 m23 H => ?_))
          obtain ⟨z24, rfl, H⟩ := H
          show E_X11_does G d 63 [(0, vR 71), (1, vI l1), (2, vI l2), (3, vI l3), (4, vI l4)] [vI z24] m23 Q
          obtain ⟨s25, H⟩ := H
          obtain ⟨H1, H2⟩ := H
          refine x_if_eq (tgt := 90) (q := 66) dX11_does_63 (by decide) rfl s25 (fun hB => ?_) (fun hB => ?_)
          · have H := H1 (hB)
            refine x_iconst (q := 91) dX11_does_90 rfl ?_
            refine x_istoren (q := 92) (ls' := [(3, vI 0), (0, vR 71), (1, vI l1), (2, vI l2), (4, vI l4)]) rfl (by decide) rfl dX11_does_91 rfl ?_
            refine x_iinc (q := 95) (ls' := [(4, vI (l4 + 1)), (3, vI 0), (0, vR 71), (1, vI l1), (2, vI l2)]) 4 rfl (by decide) rfl dX11_does_92 rfl ?_
            refine x_goto (tgt := 17) dX11_does_95 (by decide) ?_
            refine x_sub [2, 3, 4, 1, 0] rfl ?_
            exact H
          · have H := H2 (hB)
            refine x_aloadn (q := 67) 0 rfl rfl rfl dX11_does_66 rfl ?_
            refine x_iloadn (q := 68) 1 rfl rfl dX11_does_67 rfl ?_
            refine x_iload (q := 70) 4 rfl dX11_does_68 rfl ?_
            refine x_bipush (q := 72) rfl dX11_does_70 rfl ?_
            refine x_idiv (q := 73) s6 (by decide) (by decide) dX11_does_72 rfl ?_
            refine x_iload (q := 75) 4 rfl dX11_does_73 rfl ?_
            refine x_bipush (q := 77) rfl dX11_does_75 rfl ?_
            refine x_irem (q := 78) s6 (by decide) (by decide) dX11_does_77 rfl ?_
            refine x_iconst (q := 79) dX11_does_78 rfl ?_
            refine x_iloadn (q := 80) 2 rfl rfl dX11_does_79 rfl ?_
            refine x_callV (q := 83) (d := d - 1) (as := [vI l1, vI (Int.tdiv l4 12), vI (Int.tmod l4 12), vI 0, vI l2]) (st := []) dX11_does_80 rfl mv_X11_241 sh_71 rfl rfl rfl (by exact Nat.le_of_ble_eq_true rfl) ⟨by show _ ≤ d; omega, by show _ ≤ 40 * d; omega⟩ ⟨Nat.le_refl _, Nat.le_refl _⟩ (Ct.mono H (fun r9 m28 H => ?_))
            obtain ⟨z29, rfl, H⟩ := H
            show E_X11_does G d 83 [(0, vR 71), (1, vI l1), (2, vI l2), (3, vI l3), (4, vI l4)] [vI z29] m28 Q
            obtain ⟨s30, H⟩ := H
            obtain ⟨H1, H2⟩ := H
            refine x_if_eq (tgt := 90) (q := 86) dX11_does_83 (by decide) rfl s30 (fun hB => ?_) (fun hB => ?_)
            · have H := H1 (hB)
              refine x_iconst (q := 91) dX11_does_90 rfl ?_
              refine x_istoren (q := 92) (ls' := [(3, vI 0), (0, vR 71), (1, vI l1), (2, vI l2), (4, vI l4)]) rfl (by decide) rfl dX11_does_91 rfl ?_
              refine x_iinc (q := 95) (ls' := [(4, vI (l4 + 1)), (3, vI 0), (0, vR 71), (1, vI l1), (2, vI l2)]) 4 rfl (by decide) rfl dX11_does_92 rfl ?_
              refine x_goto (tgt := 17) dX11_does_95 (by decide) ?_
              refine x_sub [2, 3, 4, 1, 0] rfl ?_
              exact H
            · have H := H2 (hB)
              refine x_iconst (q := 87) dX11_does_86 rfl ?_
              refine x_goto (tgt := 91) dX11_does_87 (by decide) ?_
              refine x_istoren (q := 92) (ls' := [(3, vI 1), (0, vR 71), (1, vI l1), (2, vI l2), (4, vI l4)]) rfl (by decide) rfl dX11_does_91 rfl ?_
              refine x_iinc (q := 95) (ls' := [(4, vI (l4 + 1)), (3, vI 1), (0, vR 71), (1, vI l1), (2, vI l2)]) 4 rfl (by decide) rfl dX11_does_92 rfl ?_
              refine x_goto (tgt := 17) dX11_does_95 (by decide) ?_
              refine x_sub [2, 3, 4, 1, 0] rfl ?_
              exact H
set_option maxRecDepth 20000 in
set_option maxHeartbeats 4000000 in
theorem B_X11_doesWith {G : GT} {d : Nat} {l1 : Int} {l2 : Int} {l3 : Int} {l4 : Int} {l5 : Int} {mem : Mem} {Q : Option AV → Mem → Prop} (hd : 1 ≤ d) (H : (0 ≤ l1 + 1 ∧ l1 + 1 < 3) ∧ (∀ m3 : Mem, m3 = upM mem 82 (l1 + 1) 0 → (E_X11_doesWith G d 12 [(0, vR 71), (1, vI l1), (2, vI l2), (3, vI l3), (4, vI l4), (5, vI l5), (6, vI 0)] [] m3 Q))) : C_X11_doesWith G d [vR 71, vI l1, vI l2, vI l3, vI l4, vI l5] mem Q := by
  refine Ct_of_Ex (by decide +kernel) (by exact Nat.le_of_ble_eq_true rfl) (ls := [(0, vR 71), (1, vI l1), (2, vI l2), (3, vI l3), (4, vI l4), (5, vI l5)]) rfl ?_
  show E_X11_doesWith G d 0 [(0, vR 71), (1, vI l1), (2, vI l2), (3, vI l3), (4, vI l4), (5, vI l5)] [] mem Q
  refine x_aloadn (q := 1) 0 rfl rfl rfl dX11_doesWith_0 rfl ?_
  refine x_getr (q := 4) dX11_doesWith_1 rfl fa_X11_55 sh_71 rfl ?_
  refine x_iloadn (q := 5) 1 rfl rfl dX11_doesWith_4 rfl ?_
  refine x_iconst (q := 6) dX11_doesWith_5 rfl ?_
  refine x_iadd (q := 7) dX11_doesWith_6 rfl ?_
  refine x_iconst (q := 8) dX11_doesWith_7 rfl ?_
  obtain ⟨⟨s1, s2⟩, H⟩ := H
  refine x_iast (q := 9) dX11_doesWith_8 rfl sh_82 s1 s2 (by decide) (fun m3 em3 => ?_)
  have H := H m3 em3
  refine x_iconst (q := 10) dX11_doesWith_9 rfl ?_
  refine x_istore (q := 12) (ls' := [(6, vI 0), (0, vR 71), (1, vI l1), (2, vI l2), (3, vI l3), (4, vI l4), (5, vI l5)]) (by decide) rfl dX11_doesWith_10 rfl ?_
  refine x_sub [1, 2, 3, 4, 5, 6, 0] rfl ?_
  exact H
set_option maxRecDepth 20000 in
set_option maxHeartbeats 4000000 in
theorem B_X11_doesWith_12 {G : GT} {d : Nat} {l1 : Int} {l2 : Int} {l3 : Int} {l4 : Int} {l5 : Int} {l6 : Int} {mem : Mem} {Q : Option AV → Mem → Prop} (hd : 2 ≤ d) (H : (0 ≤ l1 ∧ l1 < 3) ∧ ((inr l6) ∧ (((mem 82 l1 ≤ l6) → (C_X11_does G (d - 1) [vR 71, vI (l1 + 1), vI (l5 - 1)] mem (fun r9 m10 => ∃ z11 : Int, r9 = some (vI z11) ∧ ((z11 = 0 ∨ z11 = 1) ∧ (Q (some (vI z11)) m10))))) ∧ (¬ (mem 82 l1 ≤ l6) → ((0 ≤ (256 * l1) + l6 ∧ (256 * l1) + l6 < 768) ∧ ((0 ≤ l2 ∧ l2 < 12) ∧ ((l4 = 0 ∨ l4 = 1) ∧ ((¬ (letB (mem 72 (5 + 3 * l2)) (hb (mem 81 ((256 * l1) + l6)) l2) (hb (mem 81 ((256 * l1) + l6)) l3) (nz l4) = true) → (E_X11_doesWith G d 12 [(0, vR 71), (1, vI l1), (2, vI l2), (3, vI l3), (4, vI l4), (5, vI l5), (6, vI (l6 + 1))] [] mem Q)) ∧ ((letB (mem 72 (5 + 3 * l2)) (hb (mem 81 ((256 * l1) + l6)) l2) (hb (mem 81 ((256 * l1) + l6)) l3) (nz l4) = true) → ((0 ≤ l1 + 1 ∧ l1 + 1 < 3) ∧ ((0 ≤ (256 * (l1 + 1)) + (mem 82 (l1 + 1)) ∧ (256 * (l1 + 1)) + (mem 82 (l1 + 1)) < 768) ∧ (∀ m27 : Mem, m27 = upM mem 81 ((256 * (l1 + 1)) + (mem 82 (l1 + 1))) (mem 81 ((256 * l1) + l6)) → ((inr ((m27 82 (l1 + 1)) + 1)) ∧ (∀ m29 : Mem, m29 = upM m27 82 (l1 + 1) ((m27 82 (l1 + 1)) + 1) → (E_X11_doesWith G d 12 [(0, vR 71), (1, vI l1), (2, vI l2), (3, vI l3), (4, vI l4), (5, vI l5), (6, vI (l6 + 1))] [] m29 Q))))))))))))))) : E_X11_doesWith G d 12 [(0, vR 71), (1, vI l1), (2, vI l2), (3, vI l3), (4, vI l4), (5, vI l5), (6, vI l6)] [] mem Q := by
  refine x_iload (q := 14) 6 rfl dX11_doesWith_12 rfl ?_
  refine x_aloadn (q := 15) 0 rfl rfl rfl dX11_doesWith_14 rfl ?_
  refine x_getr (q := 18) dX11_doesWith_15 rfl fa_X11_55 sh_71 rfl ?_
  refine x_iloadn (q := 19) 1 rfl rfl dX11_doesWith_18 rfl ?_
  obtain ⟨⟨s4, s5⟩, H⟩ := H
  refine x_iald (q := 20) dX11_doesWith_19 rfl sh_82 s4 s5 (fun r6 => ?_)
  obtain ⟨s7, H⟩ := H
  obtain ⟨H1, H2⟩ := H
  refine x_icmp_ge (tgt := 99) (q := 23) dX11_doesWith_20 (by decide) rfl s7 r6 (fun hB => ?_) (fun hB => ?_)
  · have H := H1 (hB)
    refine x_aloadn (q := 100) 0 rfl rfl rfl dX11_doesWith_99 rfl ?_
    refine x_iloadn (q := 101) 1 rfl rfl dX11_doesWith_100 rfl ?_
    refine x_iconst (q := 102) dX11_doesWith_101 rfl ?_
    refine x_iadd (q := 103) dX11_doesWith_102 rfl ?_
    refine x_iload (q := 105) 5 rfl dX11_doesWith_103 rfl ?_
    refine x_iconst (q := 106) dX11_doesWith_105 rfl ?_
    refine x_isub (q := 107) dX11_doesWith_106 rfl ?_
    refine x_callV (q := 110) (d := d - 1) (as := [vI (l1 + 1), vI (l5 - 1)]) (st := []) dX11_doesWith_107 rfl mv_X11_245 sh_71 rfl rfl rfl (by exact Nat.le_of_ble_eq_true rfl) ⟨by show _ ≤ d; omega, by show _ ≤ 40 * d; omega⟩ ⟨Nat.le_refl _, Nat.le_refl _⟩ (Ct.mono H (fun r9 m10 H => ?_))
    obtain ⟨z11, rfl, H⟩ := H
    show E_X11_doesWith G d 110 [(0, vR 71), (1, vI l1), (2, vI l2), (3, vI l3), (4, vI l4), (5, vI l5), (6, vI l6)] [vI z11] m10 Q
    obtain ⟨s12, H⟩ := H
    exact x_zret rfl dX11_doesWith_110 s12 H
  · have H := H2 (hB)
    refine x_aloadn (q := 24) 0 rfl rfl rfl dX11_doesWith_23 rfl ?_
    refine x_aloadn (q := 25) 0 rfl rfl rfl dX11_doesWith_24 rfl ?_
    refine x_getr (q := 28) dX11_doesWith_25 rfl fa_X11_52 sh_71 rfl ?_
    refine x_sipush (q := 31) rfl dX11_doesWith_28 rfl ?_
    refine x_iloadn (q := 32) 1 rfl rfl dX11_doesWith_31 rfl ?_
    refine x_imul (q := 33) dX11_doesWith_32 rfl ?_
    refine x_iload (q := 35) 6 rfl dX11_doesWith_33 rfl ?_
    refine x_iadd (q := 36) dX11_doesWith_35 rfl ?_
    obtain ⟨⟨s13, s14⟩, H⟩ := H
    refine x_iald (q := 37) dX11_doesWith_36 rfl sh_81 s13 s14 (fun r15 => ?_)
    refine x_iloadn (q := 38) 2 rfl rfl dX11_doesWith_37 rfl ?_
    refine x_iloadn (q := 39) 3 rfl rfl dX11_doesWith_38 rfl ?_
    refine x_iload (q := 41) 4 rfl dX11_doesWith_39 rfl ?_
    obtain ⟨⟨s16, s17⟩, H⟩ := H
    obtain ⟨s18, H⟩ := H
    refine x_callV (q := 44) (d := d - 1) (as := [vI (mem 81 ((256 * l1) + l6)), vI l2, vI l3, vI l4]) (st := []) dX11_doesWith_41 rfl mv_X11_198 sh_71 rfl rfl rfl (by exact Nat.le_of_ble_eq_true rfl) ⟨by show _ ≤ d; omega, by show _ ≤ 40 * d; omega⟩ ⟨Nat.le_refl _, Nat.le_refl _⟩ (ct_isLet (by omega) s16 s17 s18 ?_)
    show E_X11_doesWith G d 44 [(0, vR 71), (1, vI l1), (2, vI l2), (3, vI l3), (4, vI l4), (5, vI l5), (6, vI l6)] [vI (bz (letB (mem 72 (5 + 3 * l2)) (hb (mem 81 ((256 * l1) + l6)) l2) (hb (mem 81 ((256 * l1) + l6)) l3) (nz l4) = true))] mem Q
    obtain ⟨H1, H2⟩ := H
    refine x_if_eq (tgt := 93) (q := 47) dX11_doesWith_44 (by decide) rfl (bz_inr _) (fun hB => ?_) (fun hB => ?_)
    · have H := H1 (bz_0.mp hB)
      refine x_iinc (q := 96) (ls' := [(6, vI (l6 + 1)), (0, vR 71), (1, vI l1), (2, vI l2), (3, vI l3), (4, vI l4), (5, vI l5)]) 6 rfl (by decide) rfl dX11_doesWith_93 rfl ?_
      refine x_goto (tgt := 12) dX11_doesWith_96 (by decide) ?_
      refine x_sub [1, 2, 3, 4, 5, 6, 0] rfl ?_
      exact H
    · have H := H2 (Classical.byContradiction (fun z => hB (bz_0.mpr z)))
      refine x_aloadn (q := 48) 0 rfl rfl rfl dX11_doesWith_47 rfl ?_
      refine x_getr (q := 51) dX11_doesWith_48 rfl fa_X11_52 sh_71 rfl ?_
      refine x_sipush (q := 54) rfl dX11_doesWith_51 rfl ?_
      refine x_iloadn (q := 55) 1 rfl rfl dX11_doesWith_54 rfl ?_
      refine x_iconst (q := 56) dX11_doesWith_55 rfl ?_
      refine x_iadd (q := 57) dX11_doesWith_56 rfl ?_
      refine x_imul (q := 58) dX11_doesWith_57 rfl ?_
      refine x_aloadn (q := 59) 0 rfl rfl rfl dX11_doesWith_58 rfl ?_
      refine x_getr (q := 62) dX11_doesWith_59 rfl fa_X11_55 sh_71 rfl ?_
      refine x_iloadn (q := 63) 1 rfl rfl dX11_doesWith_62 rfl ?_
      refine x_iconst (q := 64) dX11_doesWith_63 rfl ?_
      refine x_iadd (q := 65) dX11_doesWith_64 rfl ?_
      obtain ⟨⟨s21, s22⟩, H⟩ := H
      refine x_iald (q := 66) dX11_doesWith_65 rfl sh_82 s21 s22 (fun r23 => ?_)
      refine x_iadd (q := 67) dX11_doesWith_66 rfl ?_
      refine x_aloadn (q := 68) 0 rfl rfl rfl dX11_doesWith_67 rfl ?_
      refine x_getr (q := 71) dX11_doesWith_68 rfl fa_X11_52 sh_71 rfl ?_
      refine x_sipush (q := 74) rfl dX11_doesWith_71 rfl ?_
      refine x_iloadn (q := 75) 1 rfl rfl dX11_doesWith_74 rfl ?_
      refine x_imul (q := 76) dX11_doesWith_75 rfl ?_
      refine x_iload (q := 78) 6 rfl dX11_doesWith_76 rfl ?_
      refine x_iadd (q := 79) dX11_doesWith_78 rfl ?_
      refine x_iald (q := 80) dX11_doesWith_79 rfl sh_81 s13 s14 (fun r24 => ?_)
      obtain ⟨⟨s25, s26⟩, H⟩ := H
      refine x_iast (q := 81) dX11_doesWith_80 rfl sh_81 s25 s26 r24 (fun m27 em27 => ?_)
      have H := H m27 em27
      refine x_aloadn (q := 82) 0 rfl rfl rfl dX11_doesWith_81 rfl ?_
      refine x_getr (q := 85) dX11_doesWith_82 rfl fa_X11_55 sh_71 rfl ?_
      refine x_iloadn (q := 86) 1 rfl rfl dX11_doesWith_85 rfl ?_
      refine x_iconst (q := 87) dX11_doesWith_86 rfl ?_
      refine x_iadd (q := 88) dX11_doesWith_87 rfl ?_
      refine x_dup2 (q := 89) (by exact Nat.ne_of_beq_eq_false rfl) (by exact Nat.ne_of_beq_eq_false rfl) dX11_doesWith_88 rfl ?_
      refine x_iald (q := 90) dX11_doesWith_89 rfl sh_82 s21 s22 (fun r28 => ?_)
      refine x_iconst (q := 91) dX11_doesWith_90 rfl ?_
      refine x_iadd (q := 92) dX11_doesWith_91 rfl ?_
      obtain ⟨s30, H⟩ := H
      refine x_iast (q := 93) dX11_doesWith_92 rfl sh_82 s21 s22 s30 (fun m29 em29 => ?_)
      have H := H m29 em29
      refine x_iinc (q := 96) (ls' := [(6, vI (l6 + 1)), (0, vR 71), (1, vI l1), (2, vI l2), (3, vI l3), (4, vI l4), (5, vI l5)]) 6 rfl (by decide) rfl dX11_doesWith_93 rfl ?_
      refine x_goto (tgt := 12) dX11_doesWith_96 (by decide) ?_
      refine x_sub [1, 2, 3, 4, 5, 6, 0] rfl ?_
      exact H
