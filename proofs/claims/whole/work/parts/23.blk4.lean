abbrev E_X7_clear (G : GT) (d pc : Nat) (ls : List (Nat × AV)) (st : List AV) (mem : Mem) (Q : Option AV → Mem → Prop) : Prop := Ex G RX7 cX7_clear 2 none d pc ls st mem Q
abbrev C_X7_clear (G : GT) (d : Nat) (as : List AV) (mem : Mem) (Q : Option AV → Mem → Prop) : Prop := Ct G yX7_clear cX7_clear 2 none d as mem Q
set_option maxRecDepth 20000 in
set_option maxHeartbeats 4000000 in
theorem B_X7_clear {G : GT} {d : Nat} {t : Nat} (ht : isT t) {mem : Mem} {Q : Option AV → Mem → Prop} (H : ∀ m1 : Mem, m1 = upM mem t 3 0 → (E_X7_clear G d 7 [(0, vR t), (1, vI 0)] [] m1 Q)) : C_X7_clear G d [vR t] mem Q := by
  refine Ct_of_Ex (by decide +kernel) (by exact Nat.le_of_ble_eq_true rfl) (ls := [(0, vR t)]) rfl ?_
  show E_X7_clear G d 0 [(0, vR t)] [] mem Q
  refine x_aloadn (q := 1) 0 rfl rfl rfl dX7_clear_0 rfl ?_
  refine x_iconst (q := 2) dX7_clear_1 rfl ?_
  refine x_puti (q := 5) (ji := 3) dX7_clear_2 rfl fp_X7_21 (sh_T0 ht) rfl rfl (by decide) (fun m1 em1 => ?_)
  have H := H m1 em1
  refine x_iconst (q := 6) dX7_clear_5 rfl ?_
  refine x_istoren (q := 7) (ls' := [(1, vI 0), (0, vR t)]) rfl (by decide) rfl dX7_clear_6 rfl ?_
  refine x_sub [1, 0] rfl ?_
  exact H
set_option maxRecDepth 20000 in
set_option maxHeartbeats 4000000 in
theorem B_X7_clear_7 {G : GT} {d : Nat} {t : Nat} (ht : isT t) {l1 : Int} {mem : Mem} {Q : Option AV → Mem → Prop} (H : (inr l1) ∧ (((12 ≤ l1) → (E_X7_clear G d 28 [(0, vR t), (1, vI 0)] [] mem Q)) ∧ (¬ (12 ≤ l1) → ((0 ≤ l1 ∧ l1 < 12) ∧ (∀ m7 : Mem, m7 = upM mem (t + 2) l1 0 → (E_X7_clear G d 7 [(0, vR t), (1, vI (l1 + 1))] [] m7 Q)))))) : E_X7_clear G d 7 [(0, vR t), (1, vI l1)] [] mem Q := by
  refine x_iloadn (q := 8) 1 rfl rfl dX7_clear_7 rfl ?_
  refine x_bipush (q := 10) rfl dX7_clear_8 rfl ?_
  obtain ⟨s2, H⟩ := H
  obtain ⟨H1, H2⟩ := H
  refine x_icmp_ge (tgt := 26) (q := 13) dX7_clear_10 (by decide) rfl s2 (by decide) (fun hB => ?_) (fun hB => ?_)
  · have H := H1 (hB)
    refine x_iconst (q := 27) dX7_clear_26 rfl ?_
    refine x_istoren (q := 28) (ls' := [(1, vI 0), (0, vR t)]) rfl (by decide) rfl dX7_clear_27 rfl ?_
    refine x_sub [1, 0] rfl ?_
    exact H
  · have H := H2 (hB)
    refine x_aloadn (q := 14) 0 rfl rfl rfl dX7_clear_13 rfl ?_
    refine x_getr (q := 17) dX7_clear_14 rfl fa_X7_15 (sh_T0 ht) rfl ?_
    refine x_iloadn (q := 18) 1 rfl rfl dX7_clear_17 rfl ?_
    refine x_iconst (q := 19) dX7_clear_18 rfl ?_
    obtain ⟨⟨s5, s6⟩, H⟩ := H
    refine x_iast (q := 20) dX7_clear_19 rfl (sh_T2 ht) s5 s6 (by decide) (fun m7 em7 => ?_)
    have H := H m7 em7
    refine x_iinc (q := 23) (ls' := [(1, vI (l1 + 1)), (0, vR t)]) 1 rfl (by decide) rfl dX7_clear_20 rfl ?_
    refine x_goto (tgt := 7) dX7_clear_23 (by decide) ?_
    refine x_sub [1, 0] rfl ?_
    exact H
set_option maxRecDepth 20000 in
set_option maxHeartbeats 4000000 in
theorem B_X7_clear_28 {G : GT} {d : Nat} {t : Nat} (ht : isT t) {l1 : Int} {mem : Mem} {Q : Option AV → Mem → Prop} (H : (inr l1) ∧ (((144 ≤ l1) → (Q none mem)) ∧ (¬ (144 ≤ l1) → ((0 ≤ l1 ∧ l1 < 144) ∧ (∀ m13 : Mem, m13 = upM mem (t + 3) l1 0 → (E_X7_clear G d 28 [(0, vR t), (1, vI (l1 + 1))] [] m13 Q)))))) : E_X7_clear G d 28 [(0, vR t), (1, vI l1)] [] mem Q := by
  refine x_iloadn (q := 29) 1 rfl rfl dX7_clear_28 rfl ?_
  refine x_aloadn (q := 30) 0 rfl rfl rfl dX7_clear_29 rfl ?_
  refine x_getr (q := 33) dX7_clear_30 rfl fa_X7_18 (sh_T0 ht) rfl ?_
  refine x_alen (q := 34) (t := 144) dX7_clear_33 rfl (sh_T3 ht) (by decide) rfl ?_
  obtain ⟨s8, H⟩ := H
  obtain ⟨H1, H2⟩ := H
  refine x_icmp_ge (tgt := 50) (q := 37) dX7_clear_34 (by decide) rfl s8 (by decide) (fun hB => ?_) (fun hB => ?_)
  · have H := H1 (hB)
    exact x_vret rfl dX7_clear_50 H
  · have H := H2 (hB)
    refine x_aloadn (q := 38) 0 rfl rfl rfl dX7_clear_37 rfl ?_
    refine x_getr (q := 41) dX7_clear_38 rfl fa_X7_18 (sh_T0 ht) rfl ?_
    refine x_iloadn (q := 42) 1 rfl rfl dX7_clear_41 rfl ?_
    refine x_iconst (q := 43) dX7_clear_42 rfl ?_
    obtain ⟨⟨s11, s12⟩, H⟩ := H
    refine x_iast (q := 44) dX7_clear_43 rfl (sh_T3 ht) s11 s12 (by decide) (fun m13 em13 => ?_)
    have H := H m13 em13
    refine x_iinc (q := 47) (ls' := [(1, vI (l1 + 1)), (0, vR t)]) 1 rfl (by decide) rfl dX7_clear_44 rfl ?_
    refine x_goto (tgt := 28) dX7_clear_47 (by decide) ?_
    refine x_sub [1, 0] rfl ?_
    exact H
abbrev E_X7_add (G : GT) (d pc : Nat) (ls : List (Nat × AV)) (st : List AV) (mem : Mem) (Q : Option AV → Mem → Prop) : Prop := Ex G RX7 cX7_add 10 none d pc ls st mem Q
abbrev C_X7_add (G : GT) (d : Nat) (as : List AV) (mem : Mem) (Q : Option AV → Mem → Prop) : Prop := Ct G yX7_add cX7_add 10 none d as mem Q
set_option maxRecDepth 20000 in
set_option maxHeartbeats 4000000 in
theorem B_X7_add {G : GT} {d : Nat} {t : Nat} (ht : isT t) {l1 : Int} {l2 : Int} {l3 : Int} {mem : Mem} {Q : Option AV → Mem → Prop} (hd : 1 ≤ d) (H : (inr ((mem t 3) + (1 - (iand l1 1)))) ∧ (∀ m2 : Mem, m2 = upM mem t 3 ((mem t 3) + (1 - (iand l1 1))) → ((0 ≤ l2 ∧ l2 < 12) ∧ ((inr ((m2 (t + 2) l2) + ((1 - (iand (ishr l1 2) 1)) - (1 - (iand l1 1))))) ∧ (∀ m7 : Mem, m7 = upM m2 (t + 2) l2 ((m2 (t + 2) l2) + ((1 - (iand (ishr l1 2) 1)) - (1 - (iand l1 1)))) → ((0 ≤ l3 ∧ l3 < 12) ∧ ((inr ((m7 (t + 2) l3) + ((1 - (iand (ishr l1 1) 1)) - (1 - (iand l1 1))))) ∧ (∀ m12 : Mem, m12 = upM m7 (t + 2) l3 ((m7 (t + 2) l3) + ((1 - (iand (ishr l1 1) 1)) - (1 - (iand l1 1)))) → ((inr l2 ∧ inr l3) ∧ ((0 ≤ ((tmax l2 l3) * 12) + (tmin l2 l3) ∧ ((tmax l2 l3) * 12) + (tmin l2 l3) < 144) ∧ ((inr ((m12 (t + 3) (((tmax l2 l3) * 12) + (tmin l2 l3))) + ((((1 - (iand (ishr l1 3) 1)) - (1 - (iand (ishr l1 2) 1))) - (1 - (iand (ishr l1 1) 1))) + (1 - (iand l1 1))))) ∧ (∀ m19 : Mem, m19 = upM m12 (t + 3) (((tmax l2 l3) * 12) + (tmin l2 l3)) ((m12 (t + 3) (((tmax l2 l3) * 12) + (tmin l2 l3))) + ((((1 - (iand (ishr l1 3) 1)) - (1 - (iand (ishr l1 2) 1))) - (1 - (iand (ishr l1 1) 1))) + (1 - (iand l1 1)))) → (Q none m19))))))))))))) : C_X7_add G d [vR t, vI l1, vI l2, vI l3] mem Q := by
  refine Ct_of_Ex (by decide +kernel) (by exact Nat.le_of_ble_eq_true rfl) (ls := [(0, vR t), (1, vI l1), (2, vI l2), (3, vI l3)]) rfl ?_
  show E_X7_add G d 0 [(0, vR t), (1, vI l1), (2, vI l2), (3, vI l3)] [] mem Q
  refine x_iconst (q := 1) dX7_add_0 rfl ?_
  refine x_iloadn (q := 2) 1 rfl rfl dX7_add_1 rfl ?_
  refine x_iconst (q := 3) dX7_add_2 rfl ?_
  refine x_iand (q := 4) dX7_add_3 rfl ?_
  refine x_isub (q := 5) dX7_add_4 rfl ?_
  refine x_istore (q := 7) (ls' := [(4, vI (1 - (iand l1 1))), (0, vR t), (1, vI l1), (2, vI l2), (3, vI l3)]) (by decide) rfl dX7_add_5 rfl ?_
  refine x_iconst (q := 8) dX7_add_7 rfl ?_
  refine x_iloadn (q := 9) 2 rfl rfl dX7_add_8 rfl ?_
  refine x_iconst (q := 10) dX7_add_9 rfl ?_
  refine x_ishr (q := 11) dX7_add_10 rfl ?_
  refine x_iconst (q := 12) dX7_add_11 rfl ?_
  refine x_iand (q := 13) dX7_add_12 rfl ?_
  refine x_isub (q := 14) dX7_add_13 rfl ?_
  refine x_istore (q := 16) (ls' := [(5, vI (1 - (iand (ishr l1 1) 1))), (4, vI (1 - (iand l1 1))), (0, vR t), (1, vI l1), (2, vI l2), (3, vI l3)]) (by decide) rfl dX7_add_14 rfl ?_
  refine x_iconst (q := 17) dX7_add_16 rfl ?_
  refine x_iloadn (q := 18) 3 rfl rfl dX7_add_17 rfl ?_
  refine x_iconst (q := 19) dX7_add_18 rfl ?_
  refine x_ishr (q := 20) dX7_add_19 rfl ?_
  refine x_iconst (q := 21) dX7_add_20 rfl ?_
  refine x_iand (q := 22) dX7_add_21 rfl ?_
  refine x_isub (q := 23) dX7_add_22 rfl ?_
  refine x_istore (q := 25) (ls' := [(6, vI (1 - (iand (ishr l1 2) 1))), (5, vI (1 - (iand (ishr l1 1) 1))), (4, vI (1 - (iand l1 1))), (0, vR t), (1, vI l1), (2, vI l2), (3, vI l3)]) (by decide) rfl dX7_add_23 rfl ?_
  refine x_iconst (q := 26) dX7_add_25 rfl ?_
  refine x_iloadn (q := 27) 4 rfl rfl dX7_add_26 rfl ?_
  refine x_iconst (q := 28) dX7_add_27 rfl ?_
  refine x_ishr (q := 29) dX7_add_28 rfl ?_
  refine x_iconst (q := 30) dX7_add_29 rfl ?_
  refine x_iand (q := 31) dX7_add_30 rfl ?_
  refine x_isub (q := 32) dX7_add_31 rfl ?_
  refine x_istore (q := 34) (ls' := [(7, vI (1 - (iand (ishr l1 3) 1))), (6, vI (1 - (iand (ishr l1 2) 1))), (5, vI (1 - (iand (ishr l1 1) 1))), (4, vI (1 - (iand l1 1))), (0, vR t), (1, vI l1), (2, vI l2), (3, vI l3)]) (by decide) rfl dX7_add_32 rfl ?_
  refine x_aloadn (q := 35) 4 rfl rfl rfl dX7_add_34 rfl ?_
  refine x_dup (q := 36) (by exact Nat.ne_of_beq_eq_false rfl) dX7_add_35 rfl ?_
  refine x_geti (q := 39) (ji := 3) dX7_add_36 rfl fa_X7_21 (sh_T0 ht) rfl rfl (fun r1 => ?_)
  refine x_iload (q := 41) 3 rfl dX7_add_39 rfl ?_
  refine x_iadd (q := 42) dX7_add_41 rfl ?_
  obtain ⟨s3, H⟩ := H
  refine x_puti (q := 45) (ji := 3) dX7_add_42 rfl fp_X7_21 (sh_T0 ht) rfl rfl s3 (fun m2 em2 => ?_)
  have H := H m2 em2
  refine x_aloadn (q := 46) 4 rfl rfl rfl dX7_add_45 rfl ?_
  refine x_getr (q := 49) dX7_add_46 rfl fa_X7_15 (sh_T0 ht) rfl ?_
  refine x_iloadn (q := 50) 6 rfl rfl dX7_add_49 rfl ?_
  refine x_dup2 (q := 51) (by exact Nat.ne_of_beq_eq_false rfl) (by exact Nat.ne_of_beq_eq_false rfl) dX7_add_50 rfl ?_
  obtain ⟨⟨s4, s5⟩, H⟩ := H
  refine x_iald (q := 52) dX7_add_51 rfl (sh_T2 ht) s4 s5 (fun r6 => ?_)
  refine x_iload (q := 54) 1 rfl dX7_add_52 rfl ?_
  refine x_iload (q := 56) 3 rfl dX7_add_54 rfl ?_
  refine x_isub (q := 57) dX7_add_56 rfl ?_
  refine x_iadd (q := 58) dX7_add_57 rfl ?_
  obtain ⟨s8, H⟩ := H
  refine x_iast (q := 59) dX7_add_58 rfl (sh_T2 ht) s4 s5 s8 (fun m7 em7 => ?_)
  have H := H m7 em7
  refine x_aloadn (q := 60) 4 rfl rfl rfl dX7_add_59 rfl ?_
  refine x_getr (q := 63) dX7_add_60 rfl fa_X7_15 (sh_T0 ht) rfl ?_
  refine x_iloadn (q := 64) 7 rfl rfl dX7_add_63 rfl ?_
  refine x_dup2 (q := 65) (by exact Nat.ne_of_beq_eq_false rfl) (by exact Nat.ne_of_beq_eq_false rfl) dX7_add_64 rfl ?_
  obtain ⟨⟨s9, s10⟩, H⟩ := H
  refine x_iald (q := 66) dX7_add_65 rfl (sh_T2 ht) s9 s10 (fun r11 => ?_)
  refine x_iload (q := 68) 2 rfl dX7_add_66 rfl ?_
  refine x_iload (q := 70) 3 rfl dX7_add_68 rfl ?_
  refine x_isub (q := 71) dX7_add_70 rfl ?_
  refine x_iadd (q := 72) dX7_add_71 rfl ?_
  obtain ⟨s13, H⟩ := H
  refine x_iast (q := 73) dX7_add_72 rfl (sh_T2 ht) s9 s10 s13 (fun m12 em12 => ?_)
  have H := H m12 em12
  refine x_iloadn (q := 74) 6 rfl rfl dX7_add_73 rfl ?_
  refine x_iloadn (q := 75) 7 rfl rfl dX7_add_74 rfl ?_
  obtain ⟨⟨s14, s15⟩, H⟩ := H
  refine x_mmax (q := 78) dX7_add_75 rfl ml_X7_25 mm_st_max mm_ini mm_cd_max (by exact Nat.le_of_ble_eq_true rfl) ⟨by show 1 ≤ d; omega, by show 21 ≤ 40 * d; omega⟩ ⟨Nat.le_refl _, Nat.le_refl _⟩ s14 s15 ?_
  refine x_istore (q := 80) (ls' := [(8, vI (tmax l2 l3)), (7, vI (1 - (iand (ishr l1 3) 1))), (6, vI (1 - (iand (ishr l1 2) 1))), (5, vI (1 - (iand (ishr l1 1) 1))), (4, vI (1 - (iand l1 1))), (0, vR t), (1, vI l1), (2, vI l2), (3, vI l3)]) (by decide) rfl dX7_add_78 rfl ?_
  refine x_iloadn (q := 81) 7 rfl rfl dX7_add_80 rfl ?_
  refine x_iloadn (q := 82) 8 rfl rfl dX7_add_81 rfl ?_
  refine x_mmin (q := 85) dX7_add_82 rfl ml_X7_31 mm_st_min mm_ini mm_cd_min (by exact Nat.le_of_ble_eq_true rfl) ⟨by show 1 ≤ d; omega, by show 21 ≤ 40 * d; omega⟩ ⟨Nat.le_refl _, Nat.le_refl _⟩ s14 s15 ?_
  refine x_istore (q := 87) (ls' := [(9, vI (tmin l2 l3)), (8, vI (tmax l2 l3)), (7, vI (1 - (iand (ishr l1 3) 1))), (6, vI (1 - (iand (ishr l1 2) 1))), (5, vI (1 - (iand (ishr l1 1) 1))), (4, vI (1 - (iand l1 1))), (0, vR t), (1, vI l1), (2, vI l2), (3, vI l3)]) (by decide) rfl dX7_add_85 rfl ?_
  refine x_aloadn (q := 88) 6 rfl rfl rfl dX7_add_87 rfl ?_
  refine x_getr (q := 91) dX7_add_88 rfl fa_X7_18 (sh_T0 ht) rfl ?_
  refine x_iload (q := 93) 1 rfl dX7_add_91 rfl ?_
  refine x_bipush (q := 95) rfl dX7_add_93 rfl ?_
  refine x_imul (q := 96) dX7_add_95 rfl ?_
  refine x_iload (q := 98) 0 rfl dX7_add_96 rfl ?_
  refine x_iadd (q := 99) dX7_add_98 rfl ?_
  refine x_dup2 (q := 100) (by exact Nat.ne_of_beq_eq_false rfl) (by exact Nat.ne_of_beq_eq_false rfl) dX7_add_99 rfl ?_
  obtain ⟨⟨s16, s17⟩, H⟩ := H
  refine x_iald (q := 101) dX7_add_100 rfl (sh_T3 ht) s16 s17 (fun r18 => ?_)
  refine x_iload (q := 103) 2 rfl dX7_add_101 rfl ?_
  refine x_iload (q := 105) 3 rfl dX7_add_103 rfl ?_
  refine x_isub (q := 106) dX7_add_105 rfl ?_
  refine x_iload (q := 108) 4 rfl dX7_add_106 rfl ?_
  refine x_isub (q := 109) dX7_add_108 rfl ?_
  refine x_iload (q := 111) 5 rfl dX7_add_109 rfl ?_
  refine x_iadd (q := 112) dX7_add_111 rfl ?_
  refine x_iadd (q := 113) dX7_add_112 rfl ?_
  obtain ⟨s20, H⟩ := H
  refine x_iast (q := 114) dX7_add_113 rfl (sh_T3 ht) s16 s17 s20 (fun m19 em19 => ?_)
  have H := H m19 em19
  exact x_vret rfl dX7_add_114 H
abbrev E_X7_fill (G : GT) (d pc : Nat) (ls : List (Nat × AV)) (st : List AV) (mem : Mem) (Q : Option AV → Mem → Prop) : Prop := Ex G RX7 cX7_fill 8 none d pc ls st mem Q
abbrev C_X7_fill (G : GT) (d : Nat) (as : List AV) (mem : Mem) (Q : Option AV → Mem → Prop) : Prop := Ct G yX7_fill cX7_fill 8 none d as mem Q
set_option maxRecDepth 20000 in
set_option maxHeartbeats 4000000 in
theorem B_X7_fill {G : GT} {d : Nat} {t : Nat} (ht : isT t) {l1 : Int} {mem : Mem} {Q : Option AV → Mem → Prop} (H : ∀ m2 : Mem, m2 = upM mem (t + 1) 0 (mem t 3) → (E_X7_fill G d 12 [(0, vR t), (1, vI l1), (2, vI 0)] [] m2 Q)) : C_X7_fill G d [vR t, vI l1] mem Q := by
  refine Ct_of_Ex (by decide +kernel) (by exact Nat.le_of_ble_eq_true rfl) (ls := [(0, vR t), (1, vI l1)]) rfl ?_
  show E_X7_fill G d 0 [(0, vR t), (1, vI l1)] [] mem Q
  refine x_aloadn (q := 1) 0 rfl rfl rfl dX7_fill_0 rfl ?_
  refine x_getr (q := 4) dX7_fill_1 rfl fa_X7_9 (sh_T0 ht) rfl ?_
  refine x_iconst (q := 5) dX7_fill_4 rfl ?_
  refine x_aloadn (q := 6) 0 rfl rfl rfl dX7_fill_5 rfl ?_
  refine x_geti (q := 9) (ji := 3) dX7_fill_6 rfl fa_X7_21 (sh_T0 ht) rfl rfl (fun r1 => ?_)
  refine x_iast (q := 10) dX7_fill_9 rfl (sh_T1 ht) (by decide) (by decide) r1 (fun m2 em2 => ?_)
  have H := H m2 em2
  refine x_iconst (q := 11) dX7_fill_10 rfl ?_
  refine x_istoren (q := 12) (ls' := [(2, vI 0), (0, vR t), (1, vI l1)]) rfl (by decide) rfl dX7_fill_11 rfl ?_
  refine x_sub [1, 2, 0] rfl ?_
  exact H
set_option maxRecDepth 20000 in
set_option maxHeartbeats 4000000 in
theorem B_X7_fill_12 {G : GT} {d : Nat} {t : Nat} (ht : isT t) {l1 : Int} {l2 : Int} {mem : Mem} {Q : Option AV → Mem → Prop} (H : (inr l2 ∧ inr l1) ∧ (((l1 ≤ l2) → (Q none mem)) ∧ (¬ (l1 ≤ l2) → ((0 ≤ l2 ∧ l2 < 12) ∧ ((0 ≤ ishl 1 l2 ∧ ishl 1 l2 < 4096) ∧ ((inr ((mem t 3) + (mem (t + 2) l2))) ∧ (∀ m13 : Mem, m13 = upM mem (t + 1) (ishl 1 l2) ((mem t 3) + (mem (t + 2) l2)) → (E_X7_fill G d 41 [(0, vR t), (1, vI l1), (2, vI l2), (3, vI (ishl 1 l2)), (4, vI 0)] [] m13 Q)))))))) : E_X7_fill G d 12 [(0, vR t), (1, vI l1), (2, vI l2)] [] mem Q := by
  refine x_iloadn (q := 13) 2 rfl rfl dX7_fill_12 rfl ?_
  refine x_iloadn (q := 14) 1 rfl rfl dX7_fill_13 rfl ?_
  obtain ⟨⟨s3, s4⟩, H⟩ := H
  obtain ⟨H1, H2⟩ := H
  refine x_icmp_ge (tgt := 138) (q := 17) dX7_fill_14 (by decide) rfl s3 s4 (fun hB => ?_) (fun hB => ?_)
  · have H := H1 (hB)
    exact x_vret rfl dX7_fill_138 H
  · have H := H2 (hB)
    refine x_iconst (q := 18) dX7_fill_17 rfl ?_
    refine x_iloadn (q := 19) 2 rfl rfl dX7_fill_18 rfl ?_
    refine x_ishl (q := 20) dX7_fill_19 rfl ?_
    refine x_istoren (q := 21) (ls' := [(3, vI (ishl 1 l2)), (0, vR t), (1, vI l1), (2, vI l2)]) rfl (by decide) rfl dX7_fill_20 rfl ?_
    refine x_aloadn (q := 22) 1 rfl rfl rfl dX7_fill_21 rfl ?_
    refine x_getr (q := 25) dX7_fill_22 rfl fa_X7_9 (sh_T0 ht) rfl ?_
    refine x_iloadn (q := 26) 0 rfl rfl dX7_fill_25 rfl ?_
    refine x_aloadn (q := 27) 1 rfl rfl rfl dX7_fill_26 rfl ?_
    refine x_geti (q := 30) (ji := 3) dX7_fill_27 rfl fa_X7_21 (sh_T0 ht) rfl rfl (fun r7 => ?_)
    refine x_aloadn (q := 31) 1 rfl rfl rfl dX7_fill_30 rfl ?_
    refine x_getr (q := 34) dX7_fill_31 rfl fa_X7_15 (sh_T0 ht) rfl ?_
    refine x_iloadn (q := 35) 3 rfl rfl dX7_fill_34 rfl ?_
    obtain ⟨⟨s8, s9⟩, H⟩ := H
    refine x_iald (q := 36) dX7_fill_35 rfl (sh_T2 ht) s8 s9 (fun r10 => ?_)
    refine x_iadd (q := 37) dX7_fill_36 rfl ?_
    obtain ⟨⟨s11, s12⟩, H⟩ := H
    obtain ⟨s14, H⟩ := H
    refine x_iast (q := 38) dX7_fill_37 rfl (sh_T1 ht) s11 s12 s14 (fun m13 em13 => ?_)
    have H := H m13 em13
    refine x_iconst (q := 39) dX7_fill_38 rfl ?_
    refine x_istore (q := 41) (ls' := [(4, vI 0), (3, vI (ishl 1 l2)), (0, vR t), (1, vI l1), (2, vI l2)]) (by decide) rfl dX7_fill_39 rfl ?_
    refine x_sub [2, 3, 4, 1, 0] rfl ?_
    exact H
set_option maxRecDepth 20000 in
set_option maxHeartbeats 4000000 in
theorem B_X7_fill_41 {G : GT} {d : Nat} {t : Nat} (ht : isT t) {l1 : Int} {l2 : Int} {l3 : Int} {l4 : Int} {mem : Mem} {Q : Option AV → Mem → Prop} (H : (inr l4 ∧ inr l2) ∧ (((l2 ≤ l4) → (E_X7_fill G d 12 [(0, vR t), (1, vI l1), (2, vI (l2 + 1))] [] mem Q)) ∧ (¬ (l2 ≤ l4) → ((0 ≤ (l2 * 12) + l4 ∧ (l2 * 12) + l4 < 144) ∧ (E_X7_fill G d 70 [(0, vR t), (1, vI l1), (2, vI l2), (3, vI l3), (4, vI l4), (5, vI (ishl 1 l4)), (6, vI (mem (t + 3) ((l2 * 12) + l4))), (7, vI 0)] [] mem Q))))) : E_X7_fill G d 41 [(0, vR t), (1, vI l1), (2, vI l2), (3, vI l3), (4, vI l4)] [] mem Q := by
  refine x_iload (q := 43) 4 rfl dX7_fill_41 rfl ?_
  refine x_iloadn (q := 44) 2 rfl rfl dX7_fill_43 rfl ?_
  obtain ⟨⟨s15, s16⟩, H⟩ := H
  obtain ⟨H1, H2⟩ := H
  refine x_icmp_ge (tgt := 132) (q := 47) dX7_fill_44 (by decide) rfl s15 s16 (fun hB => ?_) (fun hB => ?_)
  · have H := H1 (hB)
    refine x_iinc (q := 135) (ls' := [(2, vI (l2 + 1)), (0, vR t), (1, vI l1), (3, vI l3), (4, vI l4)]) 2 rfl (by decide) rfl dX7_fill_132 rfl ?_
    refine x_goto (tgt := 12) dX7_fill_135 (by decide) ?_
    refine x_sub [1, 2, 0] rfl ?_
    exact H
  · have H := H2 (hB)
    refine x_iconst (q := 48) dX7_fill_47 rfl ?_
    refine x_iload (q := 50) 4 rfl dX7_fill_48 rfl ?_
    refine x_ishl (q := 51) dX7_fill_50 rfl ?_
    refine x_istore (q := 53) (ls' := [(5, vI (ishl 1 l4)), (0, vR t), (1, vI l1), (2, vI l2), (3, vI l3), (4, vI l4)]) (by decide) rfl dX7_fill_51 rfl ?_
    refine x_aloadn (q := 54) 1 rfl rfl rfl dX7_fill_53 rfl ?_
    refine x_getr (q := 57) dX7_fill_54 rfl fa_X7_18 (sh_T0 ht) rfl ?_
    refine x_iloadn (q := 58) 3 rfl rfl dX7_fill_57 rfl ?_
    refine x_bipush (q := 60) rfl dX7_fill_58 rfl ?_
    refine x_imul (q := 61) dX7_fill_60 rfl ?_
    refine x_iload (q := 63) 5 rfl dX7_fill_61 rfl ?_
    refine x_iadd (q := 64) dX7_fill_63 rfl ?_
    obtain ⟨⟨s19, s20⟩, H⟩ := H
    refine x_iald (q := 65) dX7_fill_64 rfl (sh_T3 ht) s19 s20 (fun r21 => ?_)
    refine x_istore (q := 67) (ls' := [(6, vI (mem (t + 3) ((l2 * 12) + l4))), (5, vI (ishl 1 l4)), (0, vR t), (1, vI l1), (2, vI l2), (3, vI l3), (4, vI l4)]) (by decide) rfl dX7_fill_65 rfl ?_
    refine x_iconst (q := 68) dX7_fill_67 rfl ?_
    refine x_istore (q := 70) (ls' := [(7, vI 0), (6, vI (mem (t + 3) ((l2 * 12) + l4))), (5, vI (ishl 1 l4)), (0, vR t), (1, vI l1), (2, vI l2), (3, vI l3), (4, vI l4)]) (by decide) rfl dX7_fill_68 rfl ?_
    refine x_sub [3, 4, 5, 6, 7, 2, 1, 0] rfl ?_
    exact H
set_option maxRecDepth 20000 in
set_option maxHeartbeats 4000000 in
theorem B_X7_fill_70 {G : GT} {d : Nat} {t : Nat} (ht : isT t) {l1 : Int} {l2 : Int} {l3 : Int} {l4 : Int} {l5 : Int} {l6 : Int} {l7 : Int} {mem : Mem} {Q : Option AV → Mem → Prop} (H : (inr l7 ∧ inr l5) ∧ (((l5 ≤ l7) → (E_X7_fill G d 41 [(0, vR t), (1, vI l1), (2, vI l2), (3, vI l3), (4, vI (l4 + 1))] [] mem Q)) ∧ (¬ (l5 ≤ l7) → ((0 ≤ l3 + l7 ∧ l3 + l7 < 4096) ∧ ((0 ≤ l5 + l7 ∧ l5 + l7 < 4096) ∧ ((0 ≤ l7 ∧ l7 < 4096) ∧ ((0 ≤ (l3 + l5) + l7 ∧ (l3 + l5) + l7 < 4096) ∧ ((inr ((((mem (t + 1) (l3 + l7)) + (mem (t + 1) (l5 + l7))) - (mem (t + 1) l7)) + l6)) ∧ (∀ m37 : Mem, m37 = upM mem (t + 1) ((l3 + l5) + l7) ((((mem (t + 1) (l3 + l7)) + (mem (t + 1) (l5 + l7))) - (mem (t + 1) l7)) + l6) → (E_X7_fill G d 70 [(0, vR t), (1, vI l1), (2, vI l2), (3, vI l3), (4, vI l4), (5, vI l5), (6, vI l6), (7, vI (l7 + 1))] [] m37 Q)))))))))) : E_X7_fill G d 70 [(0, vR t), (1, vI l1), (2, vI l2), (3, vI l3), (4, vI l4), (5, vI l5), (6, vI l6), (7, vI l7)] [] mem Q := by
  refine x_iload (q := 72) 7 rfl dX7_fill_70 rfl ?_
  refine x_iload (q := 74) 5 rfl dX7_fill_72 rfl ?_
  obtain ⟨⟨s22, s23⟩, H⟩ := H
  obtain ⟨H1, H2⟩ := H
  refine x_icmp_ge (tgt := 126) (q := 77) dX7_fill_74 (by decide) rfl s22 s23 (fun hB => ?_) (fun hB => ?_)
  · have H := H1 (hB)
    refine x_iinc (q := 129) (ls' := [(4, vI (l4 + 1)), (0, vR t), (1, vI l1), (2, vI l2), (3, vI l3), (5, vI l5), (6, vI l6), (7, vI l7)]) 4 rfl (by decide) rfl dX7_fill_126 rfl ?_
    refine x_goto (tgt := 41) dX7_fill_129 (by decide) ?_
    refine x_sub [1, 2, 3, 4, 0] rfl ?_
    exact H
  · have H := H2 (hB)
    refine x_aloadn (q := 78) 0 rfl rfl rfl dX7_fill_77 rfl ?_
    refine x_getr (q := 81) dX7_fill_78 rfl fa_X7_9 (sh_T0 ht) rfl ?_
    refine x_iloadn (q := 82) 3 rfl rfl dX7_fill_81 rfl ?_
    refine x_iload (q := 84) 5 rfl dX7_fill_82 rfl ?_
    refine x_iadd (q := 85) dX7_fill_84 rfl ?_
    refine x_iload (q := 87) 7 rfl dX7_fill_85 rfl ?_
    refine x_iadd (q := 88) dX7_fill_87 rfl ?_
    refine x_aloadn (q := 89) 0 rfl rfl rfl dX7_fill_88 rfl ?_
    refine x_getr (q := 92) dX7_fill_89 rfl fa_X7_9 (sh_T0 ht) rfl ?_
    refine x_iloadn (q := 93) 3 rfl rfl dX7_fill_92 rfl ?_
    refine x_iload (q := 95) 7 rfl dX7_fill_93 rfl ?_
    refine x_iadd (q := 96) dX7_fill_95 rfl ?_
    obtain ⟨⟨s26, s27⟩, H⟩ := H
    refine x_iald (q := 97) dX7_fill_96 rfl (sh_T1 ht) s26 s27 (fun r28 => ?_)
    refine x_aloadn (q := 98) 0 rfl rfl rfl dX7_fill_97 rfl ?_
    refine x_getr (q := 101) dX7_fill_98 rfl fa_X7_9 (sh_T0 ht) rfl ?_
    refine x_iload (q := 103) 5 rfl dX7_fill_101 rfl ?_
    refine x_iload (q := 105) 7 rfl dX7_fill_103 rfl ?_
    refine x_iadd (q := 106) dX7_fill_105 rfl ?_
    obtain ⟨⟨s29, s30⟩, H⟩ := H
    refine x_iald (q := 107) dX7_fill_106 rfl (sh_T1 ht) s29 s30 (fun r31 => ?_)
    refine x_iadd (q := 108) dX7_fill_107 rfl ?_
    refine x_aloadn (q := 109) 0 rfl rfl rfl dX7_fill_108 rfl ?_
    refine x_getr (q := 112) dX7_fill_109 rfl fa_X7_9 (sh_T0 ht) rfl ?_
    refine x_iload (q := 114) 7 rfl dX7_fill_112 rfl ?_
    obtain ⟨⟨s32, s33⟩, H⟩ := H
    refine x_iald (q := 115) dX7_fill_114 rfl (sh_T1 ht) s32 s33 (fun r34 => ?_)
    refine x_isub (q := 116) dX7_fill_115 rfl ?_
    refine x_iload (q := 118) 6 rfl dX7_fill_116 rfl ?_
    refine x_iadd (q := 119) dX7_fill_118 rfl ?_
    obtain ⟨⟨s35, s36⟩, H⟩ := H
    obtain ⟨s38, H⟩ := H
    refine x_iast (q := 120) dX7_fill_119 rfl (sh_T1 ht) s35 s36 s38 (fun m37 em37 => ?_)
    have H := H m37 em37
    refine x_iinc (q := 123) (ls' := [(7, vI (l7 + 1)), (0, vR t), (1, vI l1), (2, vI l2), (3, vI l3), (4, vI l4), (5, vI l5), (6, vI l6)]) 7 rfl (by decide) rfl dX7_fill_120 rfl ?_
    refine x_goto (tgt := 70) dX7_fill_123 (by decide) ?_
    refine x_sub [1, 2, 3, 4, 5, 6, 7, 0] rfl ?_
    exact H
abbrev E_X1_holds (G : GT) (d pc : Nat) (ls : List (Nat × AV)) (st : List AV) (mem : Mem) (Q : Option AV → Mem → Prop) : Prop := Ex G RX1 cX1_holds 2 (some .boolean) d pc ls st mem Q
abbrev C_X1_holds (G : GT) (d : Nat) (as : List AV) (mem : Mem) (Q : Option AV → Mem → Prop) : Prop := Ct G yX1_holds cX1_holds 2 (some .boolean) d as mem Q
set_option maxRecDepth 20000 in
set_option maxHeartbeats 4000000 in
theorem B_X1_holds {G : GT} {d : Nat} {l1 : Int} {mem : Mem} {Q : Option AV → Mem → Prop} (hd : 1 ≤ d) (H : (0 ≤ l1 ∧ l1 < 4096) ∧ (((mem 34 l1 ≠ 0) → (Q (some (vI 0)) mem)) ∧ (¬ (mem 34 l1 ≠ 0) → (((mem 1 11 < bitc l1) → (Q (some (vI 0)) mem)) ∧ (¬ (mem 1 11 < bitc l1) → (Q (some (vI 1)) mem)))))) : C_X1_holds G d [vR 32, vI l1] mem Q := by
  refine Ct_of_Ex (by decide +kernel) (by exact Nat.le_of_ble_eq_true rfl) (ls := [(0, vR 32), (1, vI l1)]) rfl ?_
  show E_X1_holds G d 0 [(0, vR 32), (1, vI l1)] [] mem Q
  refine x_aloadn (q := 1) 0 rfl rfl rfl dX1_holds_0 rfl ?_
  refine x_getr (q := 4) dX1_holds_1 rfl fa_X1_12 sh_32 rfl ?_
  refine x_getr (q := 7) dX1_holds_4 rfl fa_X1_100 sh_33 rfl ?_
  refine x_iloadn (q := 8) 1 rfl rfl dX1_holds_7 rfl ?_
  obtain ⟨⟨s1, s2⟩, H⟩ := H
  refine x_iald (q := 9) dX1_holds_8 rfl sh_34 s1 s2 (fun r3 => ?_)
  obtain ⟨H1, H2⟩ := H
  refine x_if_ne (tgt := 30) (q := 12) dX1_holds_9 (by decide) rfl r3 (fun hB => ?_) (fun hB => ?_)
  · have H := H1 (hB)
    refine x_iconst (q := 31) dX1_holds_30 rfl ?_
    exact x_zret rfl dX1_holds_31 (by decide) H
  · have H := H2 (hB)
    refine x_iloadn (q := 13) 1 rfl rfl dX1_holds_12 rfl ?_
    refine x_callS (q := 16) (d := d - 1) (as := [vI l1]) (st := []) dX1_holds_13 rfl ms_X1_91 rfl rfl (by exact Nat.le_of_ble_eq_true rfl) ⟨by show _ ≤ d; omega, by show _ ≤ 40 * d; omega⟩ ⟨Nat.le_refl _, Nat.le_refl _⟩ (ct_bitc ?_)
    show E_X1_holds G d 16 [(0, vR 32), (1, vI l1)] [vI (bitc l1)] mem Q
    refine x_aloadn (q := 17) 0 rfl rfl rfl dX1_holds_16 rfl ?_
    refine x_getr (q := 20) dX1_holds_17 rfl fa_X1_35 sh_32 rfl ?_
    refine x_geti (q := 23) (ji := 11) dX1_holds_20 rfl fa_X1_103 sh_1 rfl rfl (fun r6 => ?_)
    obtain ⟨H1, H2⟩ := H
    refine x_icmp_gt (tgt := 30) (q := 26) dX1_holds_23 (by decide) rfl (bitc_inr _) r6 (fun hB => ?_) (fun hB => ?_)
    · have H := H1 (hB)
      refine x_iconst (q := 31) dX1_holds_30 rfl ?_
      exact x_zret rfl dX1_holds_31 (by decide) H
    · have H := H2 (hB)
      refine x_iconst (q := 27) dX1_holds_26 rfl ?_
      refine x_goto (tgt := 31) dX1_holds_27 (by decide) ?_
      exact x_zret rfl dX1_holds_31 (by decide) H
abbrev E_X1_notLetBy (G : GT) (d pc : Nat) (ls : List (Nat × AV)) (st : List AV) (mem : Mem) (Q : Option AV → Mem → Prop) : Prop := Ex G RX1 cX1_notLetBy 2 (some .int) d pc ls st mem Q
abbrev C_X1_notLetBy (G : GT) (d : Nat) (as : List AV) (mem : Mem) (Q : Option AV → Mem → Prop) : Prop := Ct G yX1_notLetBy cX1_notLetBy 2 (some .int) d as mem Q
set_option maxRecDepth 20000 in
set_option maxHeartbeats 4000000 in
theorem B_X1_notLetBy {G : GT} {d : Nat} {l1 : Int} {mem : Mem} {Q : Option AV → Mem → Prop} (H : (0 ≤ l1 ∧ l1 < 4096) ∧ (Q (some (vI (mem 34 l1))) mem)) : C_X1_notLetBy G d [vR 32, vI l1] mem Q := by
  refine Ct_of_Ex (by decide +kernel) (by exact Nat.le_of_ble_eq_true rfl) (ls := [(0, vR 32), (1, vI l1)]) rfl ?_
  show E_X1_notLetBy G d 0 [(0, vR 32), (1, vI l1)] [] mem Q
  refine x_aloadn (q := 1) 0 rfl rfl rfl dX1_notLetBy_0 rfl ?_
  refine x_getr (q := 4) dX1_notLetBy_1 rfl fa_X1_12 sh_32 rfl ?_
  refine x_getr (q := 7) dX1_notLetBy_4 rfl fa_X1_100 sh_33 rfl ?_
  refine x_iloadn (q := 8) 1 rfl rfl dX1_notLetBy_7 rfl ?_
  obtain ⟨⟨s1, s2⟩, H⟩ := H
  refine x_iald (q := 9) dX1_notLetBy_8 rfl sh_34 s1 s2 (fun r3 => ?_)
  exact x_iret rfl dX1_notLetBy_9 H
