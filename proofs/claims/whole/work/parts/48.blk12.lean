abbrev E_J0_coder_7d493 (G : GT) (d pc : Nat) (ls : List (Nat × AV)) (st : List AV) (mem : Mem) (Q : Option AV → Mem → Prop) : Prop := Ex G RJ0 cJ0_coder_7d493 1 (some .byte) d pc ls st mem Q
abbrev C_J0_coder_7d493 (G : GT) (d : Nat) (as : List AV) (mem : Mem) (Q : Option AV → Mem → Prop) : Prop := Ct G yJ0_coder_7d493 cJ0_coder_7d493 1 (some .byte) d as mem Q
abbrev E_J0_isLatin1_aae02 (G : GT) (d pc : Nat) (ls : List (Nat × AV)) (st : List AV) (mem : Mem) (Q : Option AV → Mem → Prop) : Prop := Ex G RJ0 cJ0_isLatin1_aae02 1 (some .boolean) d pc ls st mem Q
abbrev C_J0_isLatin1_aae02 (G : GT) (d : Nat) (as : List AV) (mem : Mem) (Q : Option AV → Mem → Prop) : Prop := Ct G yJ0_isLatin1_aae02 cJ0_isLatin1_aae02 1 (some .boolean) d as mem Q
abbrev E_J0_length_8abf5 (G : GT) (d pc : Nat) (ls : List (Nat × AV)) (st : List AV) (mem : Mem) (Q : Option AV → Mem → Prop) : Prop := Ex G RJ0 cJ0_length_8abf5 1 (some .int) d pc ls st mem Q
abbrev C_J0_length_8abf5 (G : GT) (d : Nat) (as : List AV) (mem : Mem) (Q : Option AV → Mem → Prop) : Prop := Ct G yJ0_length_8abf5 cJ0_length_8abf5 1 (some .int) d as mem Q
abbrev E_J3_checkIndex_8e157 (G : GT) (d pc : Nat) (ls : List (Nat × AV)) (st : List AV) (mem : Mem) (Q : Option AV → Mem → Prop) : Prop := Ex G RJ3 cJ3_checkIndex_8e157 3 (some .int) d pc ls st mem Q
abbrev C_J3_checkIndex_8e157 (G : GT) (d : Nat) (as : List AV) (mem : Mem) (Q : Option AV → Mem → Prop) : Prop := Ct G yJ3_checkIndex_8e157 cJ3_checkIndex_8e157 3 (some .int) d as mem Q
abbrev E_J0_checkIndex_df160 (G : GT) (d pc : Nat) (ls : List (Nat × AV)) (st : List AV) (mem : Mem) (Q : Option AV → Mem → Prop) : Prop := Ex G RJ0 cJ0_checkIndex_df160 2 none d pc ls st mem Q
abbrev C_J0_checkIndex_df160 (G : GT) (d : Nat) (as : List AV) (mem : Mem) (Q : Option AV → Mem → Prop) : Prop := Ct G yJ0_checkIndex_df160 cJ0_checkIndex_df160 2 none d as mem Q
abbrev E_J1_charAt_3b067 (G : GT) (d pc : Nat) (ls : List (Nat × AV)) (st : List AV) (mem : Mem) (Q : Option AV → Mem → Prop) : Prop := Ex G RJ1 cJ1_charAt_3b067 2 (some .char) d pc ls st mem Q
abbrev C_J1_charAt_3b067 (G : GT) (d : Nat) (as : List AV) (mem : Mem) (Q : Option AV → Mem → Prop) : Prop := Ct G yJ1_charAt_3b067 cJ1_charAt_3b067 2 (some .char) d as mem Q
abbrev E_J2_charAt_3b067 (G : GT) (d pc : Nat) (ls : List (Nat × AV)) (st : List AV) (mem : Mem) (Q : Option AV → Mem → Prop) : Prop := Ex G RJ2 cJ2_charAt_3b067 2 (some .char) d pc ls st mem Q
abbrev C_J2_charAt_3b067 (G : GT) (d : Nat) (as : List AV) (mem : Mem) (Q : Option AV → Mem → Prop) : Prop := Ct G yJ2_charAt_3b067 cJ2_charAt_3b067 2 (some .char) d as mem Q
abbrev E_J0_charAt_5068e (G : GT) (d pc : Nat) (ls : List (Nat × AV)) (st : List AV) (mem : Mem) (Q : Option AV → Mem → Prop) : Prop := Ex G RJ0 cJ0_charAt_5068e 2 (some .char) d pc ls st mem Q
abbrev C_J0_charAt_5068e (G : GT) (d : Nat) (as : List AV) (mem : Mem) (Q : Option AV → Mem → Prop) : Prop := Ct G yJ0_charAt_5068e cJ0_charAt_5068e 2 (some .char) d as mem Q
abbrev E_X4_wordOf (G : GT) (d pc : Nat) (ls : List (Nat × AV)) (st : List AV) (mem : Mem) (Q : Option AV → Mem → Prop) : Prop := Ex G RX4 cX4_wordOf 1 (some (.object "java/lang/String")) d pc ls st mem Q
abbrev C_X4_wordOf (G : GT) (d : Nat) (as : List AV) (mem : Mem) (Q : Option AV → Mem → Prop) : Prop := Ct G yX4_wordOf cX4_wordOf 1 (some (.object "java/lang/String")) d as mem Q
abbrev E_X4_isRight (G : GT) (d pc : Nat) (ls : List (Nat × AV)) (st : List AV) (mem : Mem) (Q : Option AV → Mem → Prop) : Prop := Ex G RX4 cX4_isRight 1 (some .boolean) d pc ls st mem Q
abbrev C_X4_isRight (G : GT) (d : Nat) (as : List AV) (mem : Mem) (Q : Option AV → Mem → Prop) : Prop := Ct G yX4_isRight cX4_isRight 1 (some .boolean) d as mem Q
abbrev E_X4_fail (G : GT) (d pc : Nat) (ls : List (Nat × AV)) (st : List AV) (mem : Mem) (Q : Option AV → Mem → Prop) : Prop := Ex G RX4 cX4_fail 1 none d pc ls st mem Q
abbrev C_X4_fail (G : GT) (d : Nat) (as : List AV) (mem : Mem) (Q : Option AV → Mem → Prop) : Prop := Ct G yX4_fail cX4_fail 1 none d as mem Q
abbrev E_X4_typeAt (G : GT) (d pc : Nat) (ls : List (Nat × AV)) (st : List AV) (mem : Mem) (Q : Option AV → Mem → Prop) : Prop := Ex G RX4 cX4_typeAt 3 (some .int) d pc ls st mem Q
abbrev C_X4_typeAt (G : GT) (d : Nat) (as : List AV) (mem : Mem) (Q : Option AV → Mem → Prop) : Prop := Ct G yX4_typeAt cX4_typeAt 3 (some .int) d as mem Q
set_option maxRecDepth 20000 in
set_option maxHeartbeats 4000000 in
theorem B_J0_coder_7d493 {G : GT} {d : Nat} {t : Nat} (ht : t < 25) {mem : Mem} {Q : Option AV → Mem → Prop} (H : (narrow .byte (.int (Int32.ofInt 0)) = .int (Int32.ofInt 0)) ∧ (Q (some (vI 0)) mem)) : C_J0_coder_7d493 G d [vS t] mem Q := by
  refine Ct_of_Ex (by decide +kernel) (by exact Nat.le_of_ble_eq_true rfl) (ls := [(0, vS t)]) rfl ?_
  show E_J0_coder_7d493 G d 0 [(0, vS t)] [] mem Q
  refine x_getCS (q := 3) dJ0_coder_7d493_0 rfl gs_J0_38 ?_
  refine x_if_eq (tgt := 13) (q := 6) dJ0_coder_7d493_3 (by decide) rfl (by decide) (fun h => absurd h (by decide)) (fun _ => ?_)
  refine x_aloadn (q := 7) 0 rfl rfl rfl dJ0_coder_7d493_6 rfl ?_
  refine x_strCoder (q := 10) ht dJ0_coder_7d493_7 rfl fs_J0_15 ?_
  refine x_goto (tgt := 14) dJ0_coder_7d493_10 (by decide) ?_
  obtain ⟨s1, H⟩ := H
  exact x_nret rfl dJ0_coder_7d493_14 s1 H
set_option maxRecDepth 20000 in
set_option maxHeartbeats 4000000 in
theorem B_J0_isLatin1_aae02 {G : GT} {d : Nat} {t : Nat} (ht : t < 25) {mem : Mem} {Q : Option AV → Mem → Prop} (H : Q (some (vI 1)) mem) : C_J0_isLatin1_aae02 G d [vS t] mem Q := by
  refine Ct_of_Ex (by decide +kernel) (by exact Nat.le_of_ble_eq_true rfl) (ls := [(0, vS t)]) rfl ?_
  show E_J0_isLatin1_aae02 G d 0 [(0, vS t)] [] mem Q
  refine x_getCS (q := 3) dJ0_isLatin1_aae02_0 rfl gs_J0_38 ?_
  refine x_if_eq (tgt := 17) (q := 6) dJ0_isLatin1_aae02_3 (by decide) rfl (by decide) (fun h => absurd h (by decide)) (fun _ => ?_)
  refine x_aloadn (q := 7) 0 rfl rfl rfl dJ0_isLatin1_aae02_6 rfl ?_
  refine x_strCoder (q := 10) ht dJ0_isLatin1_aae02_7 rfl fs_J0_15 ?_
  refine x_if_ne (tgt := 17) (q := 13) dJ0_isLatin1_aae02_10 (by decide) rfl (by decide) (fun h => absurd h (by decide)) (fun _ => ?_)
  refine x_iconst (q := 14) dJ0_isLatin1_aae02_13 rfl ?_
  refine x_goto (tgt := 18) dJ0_isLatin1_aae02_14 (by decide) ?_
  exact x_zret rfl dJ0_isLatin1_aae02_18 (by decide) H
set_option maxRecDepth 20000 in
set_option maxHeartbeats 4000000 in
theorem B_J0_length_8abf5 {G : GT} {d : Nat} {t : Nat} (ht : t < 25) {mem : Mem} {Q : Option AV → Mem → Prop} (hd : 1 ≤ d) (H : C_J0_coder_7d493 G (d - 1) [vS t] mem (fun r9 m1 => ∃ z2 : Int, r9 = some (vI z2) ∧ (Q (some (vI (ishr ((litB t).length : Int) z2))) m1))) : C_J0_length_8abf5 G d [vS t] mem Q := by
  refine Ct_of_Ex (by decide +kernel) (by exact Nat.le_of_ble_eq_true rfl) (ls := [(0, vS t)]) rfl ?_
  show E_J0_length_8abf5 G d 0 [(0, vS t)] [] mem Q
  refine x_aloadn (q := 1) 0 rfl rfl rfl dJ0_length_8abf5_0 rfl ?_
  refine x_strVal (q := 4) ht dJ0_length_8abf5_1 rfl fs_J0_9 ?_
  refine x_strLen (q := 5) ht dJ0_length_8abf5_4 rfl ?_
  refine x_aloadn (q := 6) 0 rfl rfl rfl dJ0_length_8abf5_5 rfl ?_
  refine x_callT (q := 9) (d := d - 1) (as := []) (st := [vI ((litB t).length : Int)]) dJ0_length_8abf5_6 rfl mv_J0_335 ht rfl rfl rfl (by exact Nat.le_of_ble_eq_true rfl) ⟨by show _ ≤ d; omega, by show _ ≤ 40 * d; omega⟩ ⟨Nat.le_refl _, Nat.le_refl _⟩ (Ct.mono H (fun r9 m1 H => ?_))
  obtain ⟨z2, rfl, H⟩ := H
  show E_J0_length_8abf5 G d 9 [(0, vS t)] [vI z2, vI ((litB t).length : Int)] m1 Q
  refine x_ishr (q := 10) dJ0_length_8abf5_9 rfl ?_
  exact x_iret rfl dJ0_length_8abf5_10 H
set_option maxRecDepth 20000 in
set_option maxHeartbeats 4000000 in
theorem B_J3_checkIndex_8e157 {G : GT} {d : Nat} {l0 : Int} {l1 : Int} {mem : Mem} {Q : Option AV → Mem → Prop} (hd : 1 ≤ d) (H : (inr l0) ∧ (((l0 < 0) → (False)) ∧ (¬ (l0 < 0) → ((inr l1) ∧ (((l0 < l1) → (Q (some (vI l0)) mem)) ∧ (¬ (l0 < l1) → (False))))))) : C_J3_checkIndex_8e157 G d [vI l0, vI l1, vF] mem Q := by
  refine Ct_of_Ex (by decide +kernel) (by exact Nat.le_of_ble_eq_true rfl) (ls := [(0, vI l0), (1, vI l1), (2, vF)]) rfl ?_
  show E_J3_checkIndex_8e157 G d 0 [(0, vI l0), (1, vI l1), (2, vF)] [] mem Q
  refine x_iloadn (q := 1) 0 rfl rfl dJ3_checkIndex_8e157_0 rfl ?_
  obtain ⟨s1, H⟩ := H
  obtain ⟨H1, H2⟩ := H
  refine x_if_lt (tgt := 9) (q := 4) dJ3_checkIndex_8e157_1 (by decide) rfl s1 (fun hB => ?_) (fun hB => ?_)
  · have H := H1 (hB)
    refine x_aloadFn (q := 10) 2 rfl rfl dJ3_checkIndex_8e157_9 rfl ?_
    refine x_iloadn (q := 11) 0 rfl rfl dJ3_checkIndex_8e157_10 rfl ?_
    refine x_iloadn (q := 12) 1 rfl rfl dJ3_checkIndex_8e157_11 rfl ?_
    exact False.elim H
  · have H := H2 (hB)
    refine x_iloadn (q := 5) 0 rfl rfl dJ3_checkIndex_8e157_4 rfl ?_
    refine x_iloadn (q := 6) 1 rfl rfl dJ3_checkIndex_8e157_5 rfl ?_
    obtain ⟨s4, H⟩ := H
    obtain ⟨H1, H2⟩ := H
    refine x_icmp_lt (tgt := 16) (q := 9) dJ3_checkIndex_8e157_6 (by decide) rfl s1 s4 (fun hB => ?_) (fun hB => ?_)
    · have H := H1 (hB)
      refine x_iloadn (q := 17) 0 rfl rfl dJ3_checkIndex_8e157_16 rfl ?_
      exact x_iret rfl dJ3_checkIndex_8e157_17 H
    · have H := H2 (hB)
      refine x_aloadFn (q := 10) 2 rfl rfl dJ3_checkIndex_8e157_9 rfl ?_
      refine x_iloadn (q := 11) 0 rfl rfl dJ3_checkIndex_8e157_10 rfl ?_
      refine x_iloadn (q := 12) 1 rfl rfl dJ3_checkIndex_8e157_11 rfl ?_
      exact False.elim H
set_option maxRecDepth 20000 in
set_option maxHeartbeats 4000000 in
theorem B_J0_checkIndex_df160 {G : GT} {d : Nat} {l0 : Int} {l1 : Int} {mem : Mem} {Q : Option AV → Mem → Prop} (hd : 1 ≤ d) (H : C_J3_checkIndex_8e157 G (d - 1) [vI l0, vI l1, vF] mem (fun r9 m1 => ∃ z2 : Int, r9 = some (vI z2) ∧ (Q none m1))) : C_J0_checkIndex_df160 G d [vI l0, vI l1] mem Q := by
  refine Ct_of_Ex (by decide +kernel) (by exact Nat.le_of_ble_eq_true rfl) (ls := [(0, vI l0), (1, vI l1)]) rfl ?_
  show E_J0_checkIndex_df160 G d 0 [(0, vI l0), (1, vI l1)] [] mem Q
  refine x_iloadn (q := 1) 0 rfl rfl dJ0_checkIndex_df160_0 rfl ?_
  refine x_iloadn (q := 2) 1 rfl rfl dJ0_checkIndex_df160_1 rfl ?_
  refine x_getFm (q := 5) dJ0_checkIndex_df160_2 rfl gs_J0_1053 ?_
  refine x_callS (q := 8) (d := d - 1) (as := [vI l0, vI l1, vF]) (st := []) dJ0_checkIndex_df160_5 rfl ms_J0_1059 rfl rfl (by exact Nat.le_of_ble_eq_true rfl) ⟨by show _ ≤ d; omega, by show _ ≤ 40 * d; omega⟩ ⟨Nat.le_refl _, Nat.le_refl _⟩ (Ct.mono H (fun r9 m1 H => ?_))
  obtain ⟨z2, rfl, H⟩ := H
  show E_J0_checkIndex_df160 G d 8 [(0, vI l0), (1, vI l1)] [vI z2] m1 Q
  refine x_pop (q := 9) (by exact Nat.ne_of_beq_eq_false rfl) dJ0_checkIndex_df160_8 rfl ?_
  exact x_vret rfl dJ0_checkIndex_df160_9 H
set_option maxRecDepth 20000 in
set_option maxHeartbeats 4000000 in
theorem B_J1_charAt_3b067 {G : GT} {d : Nat} {t : Nat} (ht : t < 25) {l1 : Int} {mem : Mem} {Q : Option AV → Mem → Prop} (hd : 1 ≤ d) (H : C_J0_checkIndex_df160 G (d - 1) [vI l1, vI ((litB t).length : Int)] mem (fun r9 m1 => r9 = none ∧ ((0 ≤ l1 ∧ l1 < ((litB t).length : Int)) ∧ ((narrow .char (.int (Int32.ofInt (i2c (iand ((litB t).getD (Int.toNat l1) 0) 255)))) = .int (Int32.ofInt (i2c (iand ((litB t).getD (Int.toNat l1) 0) 255)))) ∧ (Q (some (vI (i2c (iand ((litB t).getD (Int.toNat l1) 0) 255)))) m1))))) : C_J1_charAt_3b067 G d [vV t, vI l1] mem Q := by
  refine Ct_of_Ex (by decide +kernel) (by exact Nat.le_of_ble_eq_true rfl) (ls := [(0, vV t), (1, vI l1)]) rfl ?_
  show E_J1_charAt_3b067 G d 0 [(0, vV t), (1, vI l1)] [] mem Q
  refine x_iloadn (q := 1) 1 rfl rfl dJ1_charAt_3b067_0 rfl ?_
  refine x_aloadn (q := 2) 0 rfl rfl rfl dJ1_charAt_3b067_1 rfl ?_
  refine x_strLen (q := 3) ht dJ1_charAt_3b067_2 rfl ?_
  refine x_callS (q := 6) (d := d - 1) (as := [vI l1, vI ((litB t).length : Int)]) (st := []) dJ1_charAt_3b067_3 rfl ms_J1_9 rfl rfl (by exact Nat.le_of_ble_eq_true rfl) ⟨by show _ ≤ d; omega, by show _ ≤ 40 * d; omega⟩ ⟨Nat.le_refl _, Nat.le_refl _⟩ (Ct.mono H (fun r9 m1 H => ?_))
  obtain ⟨rfl, H⟩ := H
  show E_J1_charAt_3b067 G d 6 [(0, vV t), (1, vI l1)] [] m1 Q
  refine x_aloadn (q := 7) 0 rfl rfl rfl dJ1_charAt_3b067_6 rfl ?_
  refine x_iloadn (q := 8) 1 rfl rfl dJ1_charAt_3b067_7 rfl ?_
  obtain ⟨⟨s2, s3⟩, H⟩ := H
  refine x_strByte (q := 9) ht dJ1_charAt_3b067_8 rfl s2 s3 ?_
  refine x_sipush (q := 12) rfl dJ1_charAt_3b067_9 rfl ?_
  refine x_iand (q := 13) dJ1_charAt_3b067_12 rfl ?_
  refine x_i2c (q := 14) dJ1_charAt_3b067_13 rfl ?_
  obtain ⟨s4, H⟩ := H
  exact x_nret rfl dJ1_charAt_3b067_14 s4 H
set_option maxRecDepth 20000 in
set_option maxHeartbeats 4000000 in
theorem B_J0_charAt_5068e {G : GT} {d : Nat} {t : Nat} (ht : t < 25) {l1 : Int} {mem : Mem} {Q : Option AV → Mem → Prop} (hd : 1 ≤ d) (H : C_J0_isLatin1_aae02 G (d - 1) [vS t] mem (fun r9 m1 => ∃ z2 : Int, r9 = some (vI z2) ∧ ((inr z2) ∧ (((z2 = 0) → (C_J2_charAt_3b067 G (d - 1) [vV t, vI l1] m1 (fun r9 m6 => ∃ z7 : Int, r9 = some (vI z7) ∧ ((narrow .char (.int (Int32.ofInt z7)) = .int (Int32.ofInt z7)) ∧ (Q (some (vI z7)) m6))))) ∧ (¬ (z2 = 0) → (C_J1_charAt_3b067 G (d - 1) [vV t, vI l1] m1 (fun r9 m9 => ∃ z10 : Int, r9 = some (vI z10) ∧ ((narrow .char (.int (Int32.ofInt z10)) = .int (Int32.ofInt z10)) ∧ (Q (some (vI z10)) m9))))))))) : C_J0_charAt_5068e G d [vS t, vI l1] mem Q := by
  refine Ct_of_Ex (by decide +kernel) (by exact Nat.le_of_ble_eq_true rfl) (ls := [(0, vS t), (1, vI l1)]) rfl ?_
  show E_J0_charAt_5068e G d 0 [(0, vS t), (1, vI l1)] [] mem Q
  refine x_aloadn (q := 1) 0 rfl rfl rfl dJ0_charAt_5068e_0 rfl ?_
  refine x_callT (q := 4) (d := d - 1) (as := []) (st := []) dJ0_charAt_5068e_1 rfl mv_J0_492 ht rfl rfl rfl (by exact Nat.le_of_ble_eq_true rfl) ⟨by show _ ≤ d; omega, by show _ ≤ 40 * d; omega⟩ ⟨Nat.le_refl _, Nat.le_refl _⟩ (Ct.mono H (fun r9 m1 H => ?_))
  obtain ⟨z2, rfl, H⟩ := H
  show E_J0_charAt_5068e G d 4 [(0, vS t), (1, vI l1)] [vI z2] m1 Q
  obtain ⟨s3, H⟩ := H
  obtain ⟨H1, H2⟩ := H
  refine x_if_eq (tgt := 16) (q := 7) dJ0_charAt_5068e_4 (by decide) rfl s3 (fun hB => ?_) (fun hB => ?_)
  · have H := H1 (hB)
    refine x_aloadn (q := 17) 0 rfl rfl rfl dJ0_charAt_5068e_16 rfl ?_
    refine x_strVal (q := 20) ht dJ0_charAt_5068e_17 rfl fs_J0_9 ?_
    refine x_iloadn (q := 21) 1 rfl rfl dJ0_charAt_5068e_20 rfl ?_
    refine x_callS (q := 24) (d := d - 1) (as := [vV t, vI l1]) (st := []) dJ0_charAt_5068e_21 rfl ms_J0_498 rfl rfl (by exact Nat.le_of_ble_eq_true rfl) ⟨by show _ ≤ d; omega, by show _ ≤ 40 * d; omega⟩ ⟨Nat.le_refl _, Nat.le_refl _⟩ (Ct.mono H (fun r9 m6 H => ?_))
    obtain ⟨z7, rfl, H⟩ := H
    show E_J0_charAt_5068e G d 24 [(0, vS t), (1, vI l1)] [vI z7] m6 Q
    obtain ⟨s8, H⟩ := H
    exact x_nret rfl dJ0_charAt_5068e_24 s8 H
  · have H := H2 (hB)
    refine x_aloadn (q := 8) 0 rfl rfl rfl dJ0_charAt_5068e_7 rfl ?_
    refine x_strVal (q := 11) ht dJ0_charAt_5068e_8 rfl fs_J0_9 ?_
    refine x_iloadn (q := 12) 1 rfl rfl dJ0_charAt_5068e_11 rfl ?_
    refine x_callS (q := 15) (d := d - 1) (as := [vV t, vI l1]) (st := []) dJ0_charAt_5068e_12 rfl ms_J0_495 rfl rfl (by exact Nat.le_of_ble_eq_true rfl) ⟨by show _ ≤ d; omega, by show _ ≤ 40 * d; omega⟩ ⟨Nat.le_refl _, Nat.le_refl _⟩ (Ct.mono H (fun r9 m9 H => ?_))
    obtain ⟨z10, rfl, H⟩ := H
    show E_J0_charAt_5068e G d 15 [(0, vS t), (1, vI l1)] [vI z10] m9 Q
    obtain ⟨s11, H⟩ := H
    exact x_nret rfl dJ0_charAt_5068e_15 s11 H
set_option maxRecDepth 20000 in
set_option maxHeartbeats 4000000 in
theorem B_X4_wordOf {G : GT} {d : Nat} {l0 : Int} {mem : Mem} {Q : Option AV → Mem → Prop} (H : (inr l0) ∧ ((l0 = 1 → (Q (some (vS 1)) mem)) ∧ (l0 = 2 → (Q (some (vS 2)) mem)) ∧ (l0 = 3 → (Q (some (vS 3)) mem)) ∧ (l0 = 4 → (Q (some (vS 4)) mem)) ∧ (l0 = 5 → (Q (some (vS 5)) mem)) ∧ ((l0 < 1 ∨ 5 < l0) → (Q (some (vS 6)) mem)))) : C_X4_wordOf G d [vI l0] mem Q := by
  refine Ct_of_Ex (by decide +kernel) (by exact Nat.le_of_ble_eq_true rfl) (ls := [(0, vI l0)]) rfl ?_
  show E_X4_wordOf G d 0 [(0, vI l0)] [] mem Q
  refine x_iloadn (q := 1) 0 rfl rfl dX4_wordOf_0 rfl ?_
  obtain ⟨s1, H⟩ := H
  obtain ⟨H0, H1, H2, H3, H4, H5⟩ := H
  rcases (show l0 = 1 ∨ l0 = 2 ∨ l0 = 3 ∨ l0 = 4 ∨ l0 = 5 ∨ (l0 < 1 ∨ 5 < l0) by omega) with hB | hB | hB | hB | hB | hB
  · have H := H0 hB
    refine x_tswIn (z := 1) (tgt := 36) dX4_wordOf_1 hB (by decide) (by decide) (by decide) rfl (by decide) ?_
    refine x_ldcS (q := 38) (t := 1) (by decide) ⟨by decide +kernel, by decide +kernel⟩ dX4_wordOf_36 rfl ?_
    exact x_aret rfl dX4_wordOf_38 rfl H
  · have H := H1 hB
    refine x_tswIn (z := 2) (tgt := 39) dX4_wordOf_1 hB (by decide) (by decide) (by decide) rfl (by decide) ?_
    refine x_ldcS (q := 41) (t := 2) (by decide) ⟨by decide +kernel, by decide +kernel⟩ dX4_wordOf_39 rfl ?_
    exact x_aret rfl dX4_wordOf_41 rfl H
  · have H := H2 hB
    refine x_tswIn (z := 3) (tgt := 42) dX4_wordOf_1 hB (by decide) (by decide) (by decide) rfl (by decide) ?_
    refine x_ldcS (q := 44) (t := 3) (by decide) ⟨by decide +kernel, by decide +kernel⟩ dX4_wordOf_42 rfl ?_
    exact x_aret rfl dX4_wordOf_44 rfl H
  · have H := H3 hB
    refine x_tswIn (z := 4) (tgt := 45) dX4_wordOf_1 hB (by decide) (by decide) (by decide) rfl (by decide) ?_
    refine x_ldcS (q := 47) (t := 4) (by decide) ⟨by decide +kernel, by decide +kernel⟩ dX4_wordOf_45 rfl ?_
    exact x_aret rfl dX4_wordOf_47 rfl H
  · have H := H4 hB
    refine x_tswIn (z := 5) (tgt := 48) dX4_wordOf_1 hB (by decide) (by decide) (by decide) rfl (by decide) ?_
    refine x_ldcS (q := 50) (t := 5) (by decide) ⟨by decide +kernel, by decide +kernel⟩ dX4_wordOf_48 rfl ?_
    exact x_aret rfl dX4_wordOf_50 rfl H
  · have H := H5 hB
    refine x_tswOut (tgt := 51) dX4_wordOf_1 s1 hB (by decide) ?_
    refine x_ldcS (q := 53) (t := 6) (by decide) ⟨by decide +kernel, by decide +kernel⟩ dX4_wordOf_51 rfl ?_
    exact x_aret rfl dX4_wordOf_53 rfl H
set_option maxRecDepth 20000 in
set_option maxHeartbeats 4000000 in
theorem B_X4_isRight {G : GT} {d : Nat}  {mem : Mem} {Q : Option AV → Mem → Prop} (H : ((mem 31 4 ≠ (-1)) → (Q (some (vI 0)) mem)) ∧ (¬ (mem 31 4 ≠ (-1)) → (Q (some (vI 1)) mem))) : C_X4_isRight G d [vR 31] mem Q := by
  refine Ct_of_Ex (by decide +kernel) (by exact Nat.le_of_ble_eq_true rfl) (ls := [(0, vR 31)]) rfl ?_
  show E_X4_isRight G d 0 [(0, vR 31)] [] mem Q
  refine x_aloadn (q := 1) 0 rfl rfl rfl dX4_isRight_0 rfl ?_
  refine x_geti (q := 4) (ji := 4) dX4_isRight_1 rfl fa_X4_19 sh_31 rfl rfl (fun r1 => ?_)
  refine x_iconst (q := 5) dX4_isRight_4 rfl ?_
  obtain ⟨H1, H2⟩ := H
  refine x_icmp_ne (tgt := 12) (q := 8) dX4_isRight_5 (by decide) rfl r1 (by decide) (fun hB => ?_) (fun hB => ?_)
  · have H := H1 (hB)
    refine x_iconst (q := 13) dX4_isRight_12 rfl ?_
    exact x_zret rfl dX4_isRight_13 (by decide) H
  · have H := H2 (hB)
    refine x_iconst (q := 9) dX4_isRight_8 rfl ?_
    refine x_goto (tgt := 13) dX4_isRight_9 (by decide) ?_
    exact x_zret rfl dX4_isRight_13 (by decide) H
set_option maxRecDepth 20000 in
set_option maxHeartbeats 4000000 in
theorem B_X4_fail {G : GT} {d : Nat}  {mem : Mem} {Q : Option AV → Mem → Prop} (hd : 1 ≤ d) (H : C_X4_isRight G (d - 1) [vR 31] mem (fun r9 m1 => ∃ z2 : Int, r9 = some (vI z2) ∧ ((inr z2) ∧ (((z2 = 0) → (Q none m1)) ∧ (¬ (z2 = 0) → (∀ m7 : Mem, m7 = upM m1 31 4 (m1 31 2) → (Q none m7))))))) : C_X4_fail G d [vR 31] mem Q := by
  refine Ct_of_Ex (by decide +kernel) (by exact Nat.le_of_ble_eq_true rfl) (ls := [(0, vR 31)]) rfl ?_
  show E_X4_fail G d 0 [(0, vR 31)] [] mem Q
  refine x_aloadn (q := 1) 0 rfl rfl rfl dX4_fail_0 rfl ?_
  refine x_callV (q := 4) (d := d - 1) (as := []) (st := []) dX4_fail_1 rfl mv_X4_28 sh_31 rfl rfl rfl (by exact Nat.le_of_ble_eq_true rfl) ⟨by show _ ≤ d; omega, by show _ ≤ 40 * d; omega⟩ ⟨Nat.le_refl _, Nat.le_refl _⟩ (Ct.mono H (fun r9 m1 H => ?_))
  obtain ⟨z2, rfl, H⟩ := H
  show E_X4_fail G d 4 [(0, vR 31)] [vI z2] m1 Q
  obtain ⟨s3, H⟩ := H
  obtain ⟨H1, H2⟩ := H
  refine x_if_eq (tgt := 15) (q := 7) dX4_fail_4 (by decide) rfl s3 (fun hB => ?_) (fun hB => ?_)
  · have H := H1 (hB)
    exact x_vret rfl dX4_fail_15 H
  · have H := H2 (hB)
    refine x_aloadn (q := 8) 0 rfl rfl rfl dX4_fail_7 rfl ?_
    refine x_aloadn (q := 9) 0 rfl rfl rfl dX4_fail_8 rfl ?_
    refine x_geti (q := 12) (ji := 2) dX4_fail_9 rfl fa_X4_41 sh_31 rfl rfl (fun r6 => ?_)
    refine x_puti (q := 15) (ji := 4) dX4_fail_12 rfl fp_X4_19 sh_31 rfl rfl r6 (fun m7 em7 => ?_)
    have H := H m7 em7
    exact x_vret rfl dX4_fail_15 H
set_option maxRecDepth 20000 in
set_option maxHeartbeats 4000000 in
theorem B_X4_typeAt {G : GT} {d : Nat} {l1 : Int} {mem : Mem} {Q : Option AV → Mem → Prop} (H : (0 ≤ l1 ∧ l1 < 80) ∧ (((mem 29 l1 < 97) → (((mem 29 l1 < 48) → (Q (some (vI 3)) mem)) ∧ (¬ (mem 29 l1 < 48) → (((57 < mem 29 l1) → (Q (some (vI 3)) mem)) ∧ (¬ (57 < mem 29 l1) → (Q (some (vI 2)) mem)))))) ∧ (¬ (mem 29 l1 < 97) → (((122 < mem 29 l1) → (((mem 29 l1 < 48) → (Q (some (vI 3)) mem)) ∧ (¬ (mem 29 l1 < 48) → (((57 < mem 29 l1) → (Q (some (vI 3)) mem)) ∧ (¬ (57 < mem 29 l1) → (Q (some (vI 2)) mem)))))) ∧ (¬ (122 < mem 29 l1) → (Q (some (vI 1)) mem)))))) : C_X4_typeAt G d [vR 31, vI l1] mem Q := by
  refine Ct_of_Ex (by decide +kernel) (by exact Nat.le_of_ble_eq_true rfl) (ls := [(0, vR 31), (1, vI l1)]) rfl ?_
  show E_X4_typeAt G d 0 [(0, vR 31), (1, vI l1)] [] mem Q
  refine x_aloadn (q := 1) 0 rfl rfl rfl dX4_typeAt_0 rfl ?_
  refine x_getr (q := 4) dX4_typeAt_1 rfl fa_X4_9 sh_31 rfl ?_
  refine x_getr (q := 7) dX4_typeAt_4 rfl fa_X4_35 sh_21 rfl ?_
  refine x_iloadn (q := 8) 1 rfl rfl dX4_typeAt_7 rfl ?_
  obtain ⟨⟨s1, s2⟩, H⟩ := H
  refine x_bald (q := 9) dX4_typeAt_8 rfl sh_29 s1 s2 (fun r3 => ?_)
  refine x_istoren (q := 10) (ls' := [(2, vI (mem 29 l1)), (0, vR 31), (1, vI l1)]) rfl (by decide) rfl dX4_typeAt_9 rfl ?_
  refine x_iloadn (q := 11) 0 rfl rfl dX4_typeAt_10 rfl ?_
  refine x_bipush (q := 13) rfl dX4_typeAt_11 rfl ?_
  obtain ⟨H1, H2⟩ := H
  refine x_icmp_lt (tgt := 24) (q := 16) dX4_typeAt_13 (by decide) rfl r3 (by decide) (fun hB => ?_) (fun hB => ?_)
  · have H := H1 (hB)
    refine x_iloadn (q := 25) 0 rfl rfl dX4_typeAt_24 rfl ?_
    refine x_bipush (q := 27) rfl dX4_typeAt_25 rfl ?_
    obtain ⟨H1, H2⟩ := H
    refine x_icmp_lt (tgt := 40) (q := 30) dX4_typeAt_27 (by decide) rfl r3 (by decide) (fun hB => ?_) (fun hB => ?_)
    · have H := H1 (hB)
      refine x_iconst (q := 41) dX4_typeAt_40 rfl ?_
      exact x_iret rfl dX4_typeAt_41 H
    · have H := H2 (hB)
      refine x_iloadn (q := 31) 0 rfl rfl dX4_typeAt_30 rfl ?_
      refine x_bipush (q := 33) rfl dX4_typeAt_31 rfl ?_
      obtain ⟨H1, H2⟩ := H
      refine x_icmp_gt (tgt := 40) (q := 36) dX4_typeAt_33 (by decide) rfl r3 (by decide) (fun hB => ?_) (fun hB => ?_)
      · have H := H1 (hB)
        refine x_iconst (q := 41) dX4_typeAt_40 rfl ?_
        exact x_iret rfl dX4_typeAt_41 H
      · have H := H2 (hB)
        refine x_iconst (q := 37) dX4_typeAt_36 rfl ?_
        refine x_goto (tgt := 41) dX4_typeAt_37 (by decide) ?_
        exact x_iret rfl dX4_typeAt_41 H
  · have H := H2 (hB)
    refine x_iloadn (q := 17) 0 rfl rfl dX4_typeAt_16 rfl ?_
    refine x_bipush (q := 19) rfl dX4_typeAt_17 rfl ?_
    obtain ⟨H1, H2⟩ := H
    refine x_icmp_gt (tgt := 24) (q := 22) dX4_typeAt_19 (by decide) rfl r3 (by decide) (fun hB => ?_) (fun hB => ?_)
    · have H := H1 (hB)
      refine x_iloadn (q := 25) 0 rfl rfl dX4_typeAt_24 rfl ?_
      refine x_bipush (q := 27) rfl dX4_typeAt_25 rfl ?_
      obtain ⟨H1, H2⟩ := H
      refine x_icmp_lt (tgt := 40) (q := 30) dX4_typeAt_27 (by decide) rfl r3 (by decide) (fun hB => ?_) (fun hB => ?_)
      · have H := H1 (hB)
        refine x_iconst (q := 41) dX4_typeAt_40 rfl ?_
        exact x_iret rfl dX4_typeAt_41 H
      · have H := H2 (hB)
        refine x_iloadn (q := 31) 0 rfl rfl dX4_typeAt_30 rfl ?_
        refine x_bipush (q := 33) rfl dX4_typeAt_31 rfl ?_
        obtain ⟨H1, H2⟩ := H
        refine x_icmp_gt (tgt := 40) (q := 36) dX4_typeAt_33 (by decide) rfl r3 (by decide) (fun hB => ?_) (fun hB => ?_)
        · have H := H1 (hB)
          refine x_iconst (q := 41) dX4_typeAt_40 rfl ?_
          exact x_iret rfl dX4_typeAt_41 H
        · have H := H2 (hB)
          refine x_iconst (q := 37) dX4_typeAt_36 rfl ?_
          refine x_goto (tgt := 41) dX4_typeAt_37 (by decide) ?_
          exact x_iret rfl dX4_typeAt_41 H
    · have H := H2 (hB)
      refine x_iconst (q := 23) dX4_typeAt_22 rfl ?_
      exact x_iret rfl dX4_typeAt_23 H
