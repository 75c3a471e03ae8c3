abbrev E_X3_maySay (G : GT) (d pc : Nat) (ls : List (Nat × AV)) (st : List AV) (mem : Mem) (Q : Option AV → Mem → Prop) : Prop := Ex G RX3 cX3_maySay 4 (some .boolean) d pc ls st mem Q
abbrev C_X3_maySay (G : GT) (d : Nat) (as : List AV) (mem : Mem) (Q : Option AV → Mem → Prop) : Prop := Ct G yX3_maySay cX3_maySay 4 (some .boolean) d as mem Q
set_option maxRecDepth 20000 in
set_option maxHeartbeats 4000000 in
theorem B_X3_maySay {G : GT} {d : Nat} {l0 : Int} {l1 : Int} {l2 : Int} {l3 : Int} {mem : Mem} {Q : Option AV → Mem → Prop} (hd : 2 ≤ d) (H : (inr l1) ∧ (((l1 = 0) → ((0 ≤ l0 ∧ l0 < 6) ∧ ((l2 = 0 ∨ l2 = 1) ∧ ((l3 = 0 ∨ l3 = 1) ∧ (Q (some (vI (bz (letB l0 false (nz l2) (nz l3) = true)))) mem))))) ∧ (¬ (l1 = 0) → ((0 ≤ l0 ∧ l0 < 6) ∧ ((l2 = 0 ∨ l2 = 1) ∧ ((l3 = 0 ∨ l3 = 1) ∧ (Q (some (vI (bz (letB l0 true (nz l2) (nz l3) = true)))) mem))))))) : C_X3_maySay G d [vI l0, vI l1, vI l2, vI l3] mem Q := by
  refine Ct_of_Ex (by decide +kernel) (by exact Nat.le_of_ble_eq_true rfl) (ls := [(0, vI l0), (1, vI l1), (2, vI l2), (3, vI l3)]) rfl ?_
  show E_X3_maySay G d 0 [(0, vI l0), (1, vI l1), (2, vI l2), (3, vI l3)] [] mem Q
  refine x_iloadn (q := 1) 1 rfl rfl dX3_maySay_0 rfl ?_
  obtain ⟨s1, H⟩ := H
  obtain ⟨H1, H2⟩ := H
  refine x_if_eq (tgt := 13) (q := 4) dX3_maySay_1 (by decide) rfl s1 (fun hB => ?_) (fun hB => ?_)
  · have H := H1 (hB)
    refine x_iloadn (q := 14) 0 rfl rfl dX3_maySay_13 rfl ?_
    refine x_iloadn (q := 15) 2 rfl rfl dX3_maySay_14 rfl ?_
    refine x_iloadn (q := 16) 3 rfl rfl dX3_maySay_15 rfl ?_
    obtain ⟨⟨s4, s5⟩, H⟩ := H
    obtain ⟨s6, H⟩ := H
    obtain ⟨s7, H⟩ := H
    refine x_callS (q := 19) (d := d - 1) (as := [vI l0, vI l2, vI l3]) (st := []) dX3_maySay_16 rfl ms_X3_23 rfl rfl (by exact Nat.le_of_ble_eq_true rfl) ⟨by show _ ≤ d; omega, by show _ ≤ 40 * d; omega⟩ ⟨Nat.le_refl _, Nat.le_refl _⟩ (ct_wholeM (by omega) s4 s5 s6 s7 ?_)
    show E_X3_maySay G d 19 [(0, vI l0), (1, vI l1), (2, vI l2), (3, vI l3)] [vI (bz (letB l0 false (nz l2) (nz l3) = true))] mem Q
    exact x_zret rfl dX3_maySay_19 (bz_01 _) H
  · have H := H2 (hB)
    refine x_iloadn (q := 5) 0 rfl rfl dX3_maySay_4 rfl ?_
    refine x_iloadn (q := 6) 2 rfl rfl dX3_maySay_5 rfl ?_
    refine x_iloadn (q := 7) 3 rfl rfl dX3_maySay_6 rfl ?_
    obtain ⟨⟨s8, s9⟩, H⟩ := H
    obtain ⟨s10, H⟩ := H
    obtain ⟨s11, H⟩ := H
    refine x_callS (q := 10) (d := d - 1) (as := [vI l0, vI l2, vI l3]) (st := []) dX3_maySay_7 rfl ms_X3_19 rfl rfl (by exact Nat.le_of_ble_eq_true rfl) ⟨by show _ ≤ d; omega, by show _ ≤ 40 * d; omega⟩ ⟨Nat.le_refl _, Nat.le_refl _⟩ (ct_broken s8 s9 s10 s11 ?_)
    show E_X3_maySay G d 10 [(0, vI l0), (1, vI l1), (2, vI l2), (3, vI l3)] [vI (bz (letB l0 true (nz l2) (nz l3) = true))] mem Q
    refine x_goto (tgt := 19) dX3_maySay_10 (by decide) ?_
    exact x_zret rfl dX3_maySay_19 (bz_01 _) H
abbrev E_X3_letCases (G : GT) (d pc : Nat) (ls : List (Nat × AV)) (st : List AV) (mem : Mem) (Q : Option AV → Mem → Prop) : Prop := Ex G RX3 cX3_letCases 4 (some .int) d pc ls st mem Q
abbrev C_X3_letCases (G : GT) (d : Nat) (as : List AV) (mem : Mem) (Q : Option AV → Mem → Prop) : Prop := Ct G yX3_letCases cX3_letCases 4 (some .int) d as mem Q
set_option maxRecDepth 20000 in
set_option maxHeartbeats 4000000 in
theorem B_X3_letCases {G : GT} {d : Nat} {l0 : Int} {l1 : Int} {mem : Mem} {Q : Option AV → Mem → Prop} (hd : 1 ≤ d) (H : E_X3_letCases G d 4 [(0, vI l0), (1, vI l1), (2, vI 0), (3, vI 0)] [] mem Q) : C_X3_letCases G d [vI l0, vI l1] mem Q := by
  refine Ct_of_Ex (by decide +kernel) (by exact Nat.le_of_ble_eq_true rfl) (ls := [(0, vI l0), (1, vI l1)]) rfl ?_
  show E_X3_letCases G d 0 [(0, vI l0), (1, vI l1)] [] mem Q
  refine x_iconst (q := 1) dX3_letCases_0 rfl ?_
  refine x_istoren (q := 2) (ls' := [(2, vI 0), (0, vI l0), (1, vI l1)]) rfl (by decide) rfl dX3_letCases_1 rfl ?_
  refine x_iconst (q := 3) dX3_letCases_2 rfl ?_
  refine x_istoren (q := 4) (ls' := [(3, vI 0), (2, vI 0), (0, vI l0), (1, vI l1)]) rfl (by decide) rfl dX3_letCases_3 rfl ?_
  refine x_sub [2, 3, 1, 0] rfl ?_
  exact H
set_option maxRecDepth 20000 in
set_option maxHeartbeats 4000000 in
theorem B_X3_letCases_4 {G : GT} {d : Nat} {l0 : Int} {l1 : Int} {l2 : Int} {l3 : Int} {mem : Mem} {Q : Option AV → Mem → Prop} (hd : 1 ≤ d) (H : (inr l3) ∧ (((4 ≤ l3) → (Q (some (vI l2)) mem)) ∧ (¬ (4 ≤ l3) → (((iand l3 2 = 0) → (((iand l3 1 = 0) → (C_X3_maySay G (d - 1) [vI l0, vI 0, vI 0, vI l1] mem (fun r9 m8 => ∃ z9 : Int, r9 = some (vI z9) ∧ ((inr z9) ∧ (((z9 = 0) → (E_X3_letCases G d 4 [(0, vI l0), (1, vI l1), (2, vI l2), (3, vI (l3 + 1))] [] m8 Q)) ∧ (¬ (z9 = 0) → (E_X3_letCases G d 4 [(0, vI l0), (1, vI l1), (2, vI (ior l2 (ishl 1 l3))), (3, vI (l3 + 1))] [] m8 Q))))))) ∧ (¬ (iand l3 1 = 0) → (C_X3_maySay G (d - 1) [vI l0, vI 0, vI 1, vI l1] mem (fun r9 m13 => ∃ z14 : Int, r9 = some (vI z14) ∧ ((inr z14) ∧ (((z14 = 0) → (E_X3_letCases G d 4 [(0, vI l0), (1, vI l1), (2, vI l2), (3, vI (l3 + 1))] [] m13 Q)) ∧ (¬ (z14 = 0) → (E_X3_letCases G d 4 [(0, vI l0), (1, vI l1), (2, vI (ior l2 (ishl 1 l3))), (3, vI (l3 + 1))] [] m13 Q))))))))) ∧ (¬ (iand l3 2 = 0) → (((iand l3 1 = 0) → (C_X3_maySay G (d - 1) [vI l0, vI 1, vI 0, vI l1] mem (fun r9 m20 => ∃ z21 : Int, r9 = some (vI z21) ∧ ((inr z21) ∧ (((z21 = 0) → (E_X3_letCases G d 4 [(0, vI l0), (1, vI l1), (2, vI l2), (3, vI (l3 + 1))] [] m20 Q)) ∧ (¬ (z21 = 0) → (E_X3_letCases G d 4 [(0, vI l0), (1, vI l1), (2, vI (ior l2 (ishl 1 l3))), (3, vI (l3 + 1))] [] m20 Q))))))) ∧ (¬ (iand l3 1 = 0) → (C_X3_maySay G (d - 1) [vI l0, vI 1, vI 1, vI l1] mem (fun r9 m25 => ∃ z26 : Int, r9 = some (vI z26) ∧ ((inr z26) ∧ (((z26 = 0) → (E_X3_letCases G d 4 [(0, vI l0), (1, vI l1), (2, vI l2), (3, vI (l3 + 1))] [] m25 Q)) ∧ (¬ (z26 = 0) → (E_X3_letCases G d 4 [(0, vI l0), (1, vI l1), (2, vI (ior l2 (ishl 1 l3))), (3, vI (l3 + 1))] [] m25 Q))))))))))))) : E_X3_letCases G d 4 [(0, vI l0), (1, vI l1), (2, vI l2), (3, vI l3)] [] mem Q := by
  refine x_iloadn (q := 5) 3 rfl rfl dX3_letCases_4 rfl ?_
  refine x_iconst (q := 6) dX3_letCases_5 rfl ?_
  obtain ⟨s1, H⟩ := H
  obtain ⟨H1, H2⟩ := H
  refine x_icmp_ge (tgt := 51) (q := 9) dX3_letCases_6 (by decide) rfl s1 (by decide) (fun hB => ?_) (fun hB => ?_)
  · have H := H1 (hB)
    refine x_iloadn (q := 52) 2 rfl rfl dX3_letCases_51 rfl ?_
    exact x_iret rfl dX3_letCases_52 H
  · have H := H2 (hB)
    refine x_iloadn (q := 10) 0 rfl rfl dX3_letCases_9 rfl ?_
    refine x_iloadn (q := 11) 3 rfl rfl dX3_letCases_10 rfl ?_
    refine x_iconst (q := 12) dX3_letCases_11 rfl ?_
    refine x_iand (q := 13) dX3_letCases_12 rfl ?_
    obtain ⟨H1, H2⟩ := H
    refine x_if_eq (tgt := 20) (q := 16) dX3_letCases_13 (by decide) rfl (iand_inr _ _) (fun hB => ?_) (fun hB => ?_)
    · have H := H1 (hB)
      refine x_iconst (q := 21) dX3_letCases_20 rfl ?_
      refine x_iloadn (q := 22) 3 rfl rfl dX3_letCases_21 rfl ?_
      refine x_iconst (q := 23) dX3_letCases_22 rfl ?_
      refine x_iand (q := 24) dX3_letCases_23 rfl ?_
      obtain ⟨H1, H2⟩ := H
      refine x_if_eq (tgt := 31) (q := 27) dX3_letCases_24 (by decide) rfl (iand_inr _ _) (fun hB => ?_) (fun hB => ?_)
      · have H := H1 (hB)
        refine x_iconst (q := 32) dX3_letCases_31 rfl ?_
        refine x_iloadn (q := 33) 1 rfl rfl dX3_letCases_32 rfl ?_
        refine x_callS (q := 36) (d := d - 1) (as := [vI l0, vI 0, vI 0, vI l1]) (st := []) dX3_letCases_33 rfl ms_X3_26 rfl rfl (by exact Nat.le_of_ble_eq_true rfl) ⟨by show _ ≤ d; omega, by show _ ≤ 40 * d; omega⟩ ⟨Nat.le_refl _, Nat.le_refl _⟩ (Ct.mono H (fun r9 m8 H => ?_))
        obtain ⟨z9, rfl, H⟩ := H
        show E_X3_letCases G d 36 [(0, vI l0), (1, vI l1), (2, vI l2), (3, vI l3)] [vI z9] m8 Q
        obtain ⟨s10, H⟩ := H
        obtain ⟨H1, H2⟩ := H
        refine x_if_eq (tgt := 45) (q := 39) dX3_letCases_36 (by decide) rfl s10 (fun hB => ?_) (fun hB => ?_)
        · have H := H1 (hB)
          refine x_iinc (q := 48) (ls' := [(3, vI (l3 + 1)), (0, vI l0), (1, vI l1), (2, vI l2)]) 3 rfl (by decide) rfl dX3_letCases_45 rfl ?_
          refine x_goto (tgt := 4) dX3_letCases_48 (by decide) ?_
          refine x_sub [1, 2, 3, 0] rfl ?_
          exact H
        · have H := H2 (hB)
          refine x_iloadn (q := 40) 2 rfl rfl dX3_letCases_39 rfl ?_
          refine x_iconst (q := 41) dX3_letCases_40 rfl ?_
          refine x_iloadn (q := 42) 3 rfl rfl dX3_letCases_41 rfl ?_
          refine x_ishl (q := 43) dX3_letCases_42 rfl ?_
          refine x_ior (q := 44) dX3_letCases_43 rfl ?_
          refine x_istoren (q := 45) (ls' := [(2, vI (ior l2 (ishl 1 l3))), (0, vI l0), (1, vI l1), (3, vI l3)]) rfl (by decide) rfl dX3_letCases_44 rfl ?_
          refine x_iinc (q := 48) (ls' := [(3, vI (l3 + 1)), (2, vI (ior l2 (ishl 1 l3))), (0, vI l0), (1, vI l1)]) 3 rfl (by decide) rfl dX3_letCases_45 rfl ?_
          refine x_goto (tgt := 4) dX3_letCases_48 (by decide) ?_
          refine x_sub [2, 3, 1, 0] rfl ?_
          exact H
      · have H := H2 (hB)
        refine x_iconst (q := 28) dX3_letCases_27 rfl ?_
        refine x_goto (tgt := 32) dX3_letCases_28 (by decide) ?_
        refine x_iloadn (q := 33) 1 rfl rfl dX3_letCases_32 rfl ?_
        refine x_callS (q := 36) (d := d - 1) (as := [vI l0, vI 0, vI 1, vI l1]) (st := []) dX3_letCases_33 rfl ms_X3_26 rfl rfl (by exact Nat.le_of_ble_eq_true rfl) ⟨by show _ ≤ d; omega, by show _ ≤ 40 * d; omega⟩ ⟨Nat.le_refl _, Nat.le_refl _⟩ (Ct.mono H (fun r9 m13 H => ?_))
        obtain ⟨z14, rfl, H⟩ := H
        show E_X3_letCases G d 36 [(0, vI l0), (1, vI l1), (2, vI l2), (3, vI l3)] [vI z14] m13 Q
        obtain ⟨s15, H⟩ := H
        obtain ⟨H1, H2⟩ := H
        refine x_if_eq (tgt := 45) (q := 39) dX3_letCases_36 (by decide) rfl s15 (fun hB => ?_) (fun hB => ?_)
        · have H := H1 (hB)
          refine x_iinc (q := 48) (ls' := [(3, vI (l3 + 1)), (0, vI l0), (1, vI l1), (2, vI l2)]) 3 rfl (by decide) rfl dX3_letCases_45 rfl ?_
          refine x_goto (tgt := 4) dX3_letCases_48 (by decide) ?_
          refine x_sub [1, 2, 3, 0] rfl ?_
          exact H
        · have H := H2 (hB)
          refine x_iloadn (q := 40) 2 rfl rfl dX3_letCases_39 rfl ?_
          refine x_iconst (q := 41) dX3_letCases_40 rfl ?_
          refine x_iloadn (q := 42) 3 rfl rfl dX3_letCases_41 rfl ?_
          refine x_ishl (q := 43) dX3_letCases_42 rfl ?_
          refine x_ior (q := 44) dX3_letCases_43 rfl ?_
          refine x_istoren (q := 45) (ls' := [(2, vI (ior l2 (ishl 1 l3))), (0, vI l0), (1, vI l1), (3, vI l3)]) rfl (by decide) rfl dX3_letCases_44 rfl ?_
          refine x_iinc (q := 48) (ls' := [(3, vI (l3 + 1)), (2, vI (ior l2 (ishl 1 l3))), (0, vI l0), (1, vI l1)]) 3 rfl (by decide) rfl dX3_letCases_45 rfl ?_
          refine x_goto (tgt := 4) dX3_letCases_48 (by decide) ?_
          refine x_sub [2, 3, 1, 0] rfl ?_
          exact H
    · have H := H2 (hB)
      refine x_iconst (q := 17) dX3_letCases_16 rfl ?_
      refine x_goto (tgt := 21) dX3_letCases_17 (by decide) ?_
      refine x_iloadn (q := 22) 3 rfl rfl dX3_letCases_21 rfl ?_
      refine x_iconst (q := 23) dX3_letCases_22 rfl ?_
      refine x_iand (q := 24) dX3_letCases_23 rfl ?_
      obtain ⟨H1, H2⟩ := H
      refine x_if_eq (tgt := 31) (q := 27) dX3_letCases_24 (by decide) rfl (iand_inr _ _) (fun hB => ?_) (fun hB => ?_)
      · have H := H1 (hB)
        refine x_iconst (q := 32) dX3_letCases_31 rfl ?_
        refine x_iloadn (q := 33) 1 rfl rfl dX3_letCases_32 rfl ?_
        refine x_callS (q := 36) (d := d - 1) (as := [vI l0, vI 1, vI 0, vI l1]) (st := []) dX3_letCases_33 rfl ms_X3_26 rfl rfl (by exact Nat.le_of_ble_eq_true rfl) ⟨by show _ ≤ d; omega, by show _ ≤ 40 * d; omega⟩ ⟨Nat.le_refl _, Nat.le_refl _⟩ (Ct.mono H (fun r9 m20 H => ?_))
        obtain ⟨z21, rfl, H⟩ := H
        show E_X3_letCases G d 36 [(0, vI l0), (1, vI l1), (2, vI l2), (3, vI l3)] [vI z21] m20 Q
        obtain ⟨s22, H⟩ := H
        obtain ⟨H1, H2⟩ := H
        refine x_if_eq (tgt := 45) (q := 39) dX3_letCases_36 (by decide) rfl s22 (fun hB => ?_) (fun hB => ?_)
        · have H := H1 (hB)
          refine x_iinc (q := 48) (ls' := [(3, vI (l3 + 1)), (0, vI l0), (1, vI l1), (2, vI l2)]) 3 rfl (by decide) rfl dX3_letCases_45 rfl ?_
          refine x_goto (tgt := 4) dX3_letCases_48 (by decide) ?_
          refine x_sub [1, 2, 3, 0] rfl ?_
          exact H
        · have H := H2 (hB)
          refine x_iloadn (q := 40) 2 rfl rfl dX3_letCases_39 rfl ?_
          refine x_iconst (q := 41) dX3_letCases_40 rfl ?_
          refine x_iloadn (q := 42) 3 rfl rfl dX3_letCases_41 rfl ?_
          refine x_ishl (q := 43) dX3_letCases_42 rfl ?_
          refine x_ior (q := 44) dX3_letCases_43 rfl ?_
          refine x_istoren (q := 45) (ls' := [(2, vI (ior l2 (ishl 1 l3))), (0, vI l0), (1, vI l1), (3, vI l3)]) rfl (by decide) rfl dX3_letCases_44 rfl ?_
          refine x_iinc (q := 48) (ls' := [(3, vI (l3 + 1)), (2, vI (ior l2 (ishl 1 l3))), (0, vI l0), (1, vI l1)]) 3 rfl (by decide) rfl dX3_letCases_45 rfl ?_
          refine x_goto (tgt := 4) dX3_letCases_48 (by decide) ?_
          refine x_sub [2, 3, 1, 0] rfl ?_
          exact H
      · have H := H2 (hB)
        refine x_iconst (q := 28) dX3_letCases_27 rfl ?_
        refine x_goto (tgt := 32) dX3_letCases_28 (by decide) ?_
        refine x_iloadn (q := 33) 1 rfl rfl dX3_letCases_32 rfl ?_
        refine x_callS (q := 36) (d := d - 1) (as := [vI l0, vI 1, vI 1, vI l1]) (st := []) dX3_letCases_33 rfl ms_X3_26 rfl rfl (by exact Nat.le_of_ble_eq_true rfl) ⟨by show _ ≤ d; omega, by show _ ≤ 40 * d; omega⟩ ⟨Nat.le_refl _, Nat.le_refl _⟩ (Ct.mono H (fun r9 m25 H => ?_))
        obtain ⟨z26, rfl, H⟩ := H
        show E_X3_letCases G d 36 [(0, vI l0), (1, vI l1), (2, vI l2), (3, vI l3)] [vI z26] m25 Q
        obtain ⟨s27, H⟩ := H
        obtain ⟨H1, H2⟩ := H
        refine x_if_eq (tgt := 45) (q := 39) dX3_letCases_36 (by decide) rfl s27 (fun hB => ?_) (fun hB => ?_)
        · have H := H1 (hB)
          refine x_iinc (q := 48) (ls' := [(3, vI (l3 + 1)), (0, vI l0), (1, vI l1), (2, vI l2)]) 3 rfl (by decide) rfl dX3_letCases_45 rfl ?_
          refine x_goto (tgt := 4) dX3_letCases_48 (by decide) ?_
          refine x_sub [1, 2, 3, 0] rfl ?_
          exact H
        · have H := H2 (hB)
          refine x_iloadn (q := 40) 2 rfl rfl dX3_letCases_39 rfl ?_
          refine x_iconst (q := 41) dX3_letCases_40 rfl ?_
          refine x_iloadn (q := 42) 3 rfl rfl dX3_letCases_41 rfl ?_
          refine x_ishl (q := 43) dX3_letCases_42 rfl ?_
          refine x_ior (q := 44) dX3_letCases_43 rfl ?_
          refine x_istoren (q := 45) (ls' := [(2, vI (ior l2 (ishl 1 l3))), (0, vI l0), (1, vI l1), (3, vI l3)]) rfl (by decide) rfl dX3_letCases_44 rfl ?_
          refine x_iinc (q := 48) (ls' := [(3, vI (l3 + 1)), (2, vI (ior l2 (ishl 1 l3))), (0, vI l0), (1, vI l1)]) 3 rfl (by decide) rfl dX3_letCases_45 rfl ?_
          refine x_goto (tgt := 4) dX3_letCases_48 (by decide) ?_
          refine x_sub [2, 3, 1, 0] rfl ?_
          exact H
abbrev E_X11_areMachines (G : GT) (d pc : Nat) (ls : List (Nat × AV)) (st : List AV) (mem : Mem) (Q : Option AV → Mem → Prop) : Prop := Ex G RX11 cX11_areMachines 3 (some .boolean) d pc ls st mem Q
abbrev C_X11_areMachines (G : GT) (d : Nat) (as : List AV) (mem : Mem) (Q : Option AV → Mem → Prop) : Prop := Ct G yX11_areMachines cX11_areMachines 3 (some .boolean) d as mem Q
set_option maxRecDepth 20000 in
set_option maxHeartbeats 4000000 in
theorem B_X11_areMachines {G : GT} {d : Nat} {l1 : Int} {l2 : Int} {mem : Mem} {Q : Option AV → Mem → Prop} (hd : 2 ≤ d) (H : (inr l1) ∧ ((0 ≤ mem 72 0) ∧ ((¬ (0 ≤ l1 ∧ l1 < mem 72 0) → (Q (some (vI 0)) mem)) ∧ ((0 ≤ l1 ∧ l1 < mem 72 0) → ((inr l2) ∧ ((0 ≤ mem 72 0) ∧ ((¬ (0 ≤ l2 ∧ l2 < mem 72 0) → (Q (some (vI 0)) mem)) ∧ ((0 ≤ l2 ∧ l2 < mem 72 0) → (Q (some (vI 1)) mem))))))))) : C_X11_areMachines G d [vR 71, vI l1, vI l2] mem Q := by
  refine Ct_of_Ex (by decide +kernel) (by exact Nat.le_of_ble_eq_true rfl) (ls := [(0, vR 71), (1, vI l1), (2, vI l2)]) rfl ?_
  show E_X11_areMachines G d 0 [(0, vR 71), (1, vI l1), (2, vI l2)] [] mem Q
  refine x_aloadn (q := 1) 0 rfl rfl rfl dX11_areMachines_0 rfl ?_
  refine x_iloadn (q := 2) 1 rfl rfl dX11_areMachines_1 rfl ?_
  refine x_iconst (q := 3) dX11_areMachines_2 rfl ?_
  obtain ⟨s1, H⟩ := H
  obtain ⟨s2, H⟩ := H
  refine x_callV (q := 6) (d := d - 1) (as := [vI l1, vI 0]) (st := []) dX11_areMachines_3 rfl mv_X11_101 sh_71 rfl rfl rfl (by exact Nat.le_of_ble_eq_true rfl) ⟨by show _ ≤ d; omega, by show _ ≤ 40 * d; omega⟩ ⟨Nat.le_refl _, Nat.le_refl _⟩ ((fun hq9 => ct_is (by omega) (by decide) (by decide) s1 (fun _ => hq9) s2)  ?_)
  show E_X11_areMachines G d 6 [(0, vR 71), (1, vI l1), (2, vI l2)] [vI (bz (0 ≤ l1 ∧ l1 < mem 72 0))] mem Q
  obtain ⟨H1, H2⟩ := H
  refine x_if_eq (tgt := 22) (q := 9) dX11_areMachines_6 (by decide) rfl (bz_inr _) (fun hB => ?_) (fun hB => ?_)
  · have H := H1 (bz_0.mp hB)
    refine x_iconst (q := 23) dX11_areMachines_22 rfl ?_
    exact x_zret rfl dX11_areMachines_23 (by decide) H
  · have H := H2 (Classical.byContradiction (fun z => hB (bz_0.mpr z)))
    refine x_aloadn (q := 10) 0 rfl rfl rfl dX11_areMachines_9 rfl ?_
    refine x_iloadn (q := 11) 2 rfl rfl dX11_areMachines_10 rfl ?_
    refine x_iconst (q := 12) dX11_areMachines_11 rfl ?_
    obtain ⟨s5, H⟩ := H
    obtain ⟨s6, H⟩ := H
    refine x_callV (q := 15) (d := d - 1) (as := [vI l2, vI 0]) (st := []) dX11_areMachines_12 rfl mv_X11_101 sh_71 rfl rfl rfl (by exact Nat.le_of_ble_eq_true rfl) ⟨by show _ ≤ d; omega, by show _ ≤ 40 * d; omega⟩ ⟨Nat.le_refl _, Nat.le_refl _⟩ ((fun hq9 => ct_is (by omega) (by decide) (by decide) s5 (fun _ => hq9) s6)  ?_)
    show E_X11_areMachines G d 15 [(0, vR 71), (1, vI l1), (2, vI l2)] [vI (bz (0 ≤ l2 ∧ l2 < mem 72 0))] mem Q
    obtain ⟨H1, H2⟩ := H
    refine x_if_eq (tgt := 22) (q := 18) dX11_areMachines_15 (by decide) rfl (bz_inr _) (fun hB => ?_) (fun hB => ?_)
    · have H := H1 (bz_0.mp hB)
      refine x_iconst (q := 23) dX11_areMachines_22 rfl ?_
      exact x_zret rfl dX11_areMachines_23 (by decide) H
    · have H := H2 (Classical.byContradiction (fun z => hB (bz_0.mpr z)))
      refine x_iconst (q := 19) dX11_areMachines_18 rfl ?_
      refine x_goto (tgt := 23) dX11_areMachines_19 (by decide) ?_
      exact x_zret rfl dX11_areMachines_23 (by decide) H
abbrev E_X11_isSet (G : GT) (d pc : Nat) (ls : List (Nat × AV)) (st : List AV) (mem : Mem) (Q : Option AV → Mem → Prop) : Prop := Ex G RX11 cX11_isSet 2 (some .boolean) d pc ls st mem Q
abbrev C_X11_isSet (G : GT) (d : Nat) (as : List AV) (mem : Mem) (Q : Option AV → Mem → Prop) : Prop := Ct G yX11_isSet cX11_isSet 2 (some .boolean) d as mem Q
set_option maxRecDepth 20000 in
set_option maxHeartbeats 4000000 in
theorem B_X11_isSet {G : GT} {d : Nat} {l1 : Int} {mem : Mem} {Q : Option AV → Mem → Prop} (hd : 1 ≤ d) (H : (inr l1 ∧ inr (ishl 1 (mem 72 0) - 1)) ∧ (Q (some (vI (bz (0 ≤ l1 ∧ l1 ≤ ishl 1 (mem 72 0) - 1)))) mem)) : C_X11_isSet G d [vR 71, vI l1] mem Q := by
  refine Ct_of_Ex (by decide +kernel) (by exact Nat.le_of_ble_eq_true rfl) (ls := [(0, vR 71), (1, vI l1)]) rfl ?_
  show E_X11_isSet G d 0 [(0, vR 71), (1, vI l1)] [] mem Q
  refine x_iloadn (q := 1) 1 rfl rfl dX11_isSet_0 rfl ?_
  refine x_iconst (q := 2) dX11_isSet_1 rfl ?_
  refine x_aloadn (q := 3) 0 rfl rfl rfl dX11_isSet_2 rfl ?_
  refine x_callV (q := 6) (d := d - 1) (as := []) (st := [vI 0, vI l1]) dX11_isSet_3 rfl mv_X11_192 sh_71 rfl rfl rfl (by exact Nat.le_of_ble_eq_true rfl) ⟨by show _ ≤ d; omega, by show _ ≤ 40 * d; omega⟩ ⟨Nat.le_refl _, Nat.le_refl _⟩ (ct_all ?_)
  show E_X11_isSet G d 6 [(0, vR 71), (1, vI l1)] [vI (ishl 1 (mem 72 0) - 1), vI 0, vI l1] mem Q
  obtain ⟨⟨s1, s2⟩, H⟩ := H
  refine x_callS (q := 9) (d := d - 1) (as := [vI l1, vI 0, vI (ishl 1 (mem 72 0) - 1)]) (st := []) dX11_isSet_6 rfl ms_X11_83 rfl rfl (by exact Nat.le_of_ble_eq_true rfl) ⟨by show _ ≤ d; omega, by show _ ≤ 40 * d; omega⟩ ⟨Nat.le_refl _, Nat.le_refl _⟩ (ct_within s1 (by decide) s2 ?_)
  show E_X11_isSet G d 9 [(0, vR 71), (1, vI l1)] [vI (bz (0 ≤ l1 ∧ l1 ≤ ishl 1 (mem 72 0) - 1))] mem Q
  exact x_zret rfl dX11_isSet_9 (bz_01 _) H
abbrev E_X11_isLet_ (G : GT) (d pc : Nat) (ls : List (Nat × AV)) (st : List AV) (mem : Mem) (Q : Option AV → Mem → Prop) : Prop := Ex G RX11 cX11_isLet_ 3 (some .boolean) d pc ls st mem Q
abbrev C_X11_isLet_ (G : GT) (d : Nat) (as : List AV) (mem : Mem) (Q : Option AV → Mem → Prop) : Prop := Ct G yX11_isLet_ cX11_isLet_ 3 (some .boolean) d as mem Q
set_option maxRecDepth 20000 in
set_option maxHeartbeats 4000000 in
theorem B_X11_isLet_ {G : GT} {d : Nat} {l1 : Int} {l2 : Int} {mem : Mem} {Q : Option AV → Mem → Prop} (hd : 2 ≤ d) (H : (0 ≤ 185 + 4 * l2 + 0 ∧ 185 + 4 * l2 + 0 < 553) ∧ ((0 ≤ 185 + 4 * l2 + 1 ∧ 185 + 4 * l2 + 1 < 553) ∧ ((0 ≤ 185 + 4 * l2 + 2 ∧ 185 + 4 * l2 + 2 < 553) ∧ (((mem 72 (185 + 4 * l2 + 2) ≠ 1) → ((0 ≤ mem 72 (185 + 4 * l2 + 0) ∧ mem 72 (185 + 4 * l2 + 0) < 12) ∧ (Q (some (vI (bz (letB (mem 72 (5 + 3 * (mem 72 (185 + 4 * l2 + 0)))) (hb l1 (mem 72 (185 + 4 * l2 + 0))) (hb l1 (mem 72 (185 + 4 * l2 + 1))) (nz 0) = true)))) mem))) ∧ (¬ (mem 72 (185 + 4 * l2 + 2) ≠ 1) → ((0 ≤ mem 72 (185 + 4 * l2 + 0) ∧ mem 72 (185 + 4 * l2 + 0) < 12) ∧ (Q (some (vI (bz (letB (mem 72 (5 + 3 * (mem 72 (185 + 4 * l2 + 0)))) (hb l1 (mem 72 (185 + 4 * l2 + 0))) (hb l1 (mem 72 (185 + 4 * l2 + 1))) (nz 1) = true)))) mem))))))) : C_X11_isLet_ G d [vR 71, vI l1, vI l2] mem Q := by
  refine Ct_of_Ex (by decide +kernel) (by exact Nat.le_of_ble_eq_true rfl) (ls := [(0, vR 71), (1, vI l1), (2, vI l2)]) rfl ?_
  show E_X11_isLet_ G d 0 [(0, vR 71), (1, vI l1), (2, vI l2)] [] mem Q
  refine x_aloadn (q := 1) 0 rfl rfl rfl dX11_isLet__0 rfl ?_
  refine x_iloadn (q := 2) 1 rfl rfl dX11_isLet__1 rfl ?_
  refine x_aloadn (q := 3) 0 rfl rfl rfl dX11_isLet__2 rfl ?_
  refine x_iloadn (q := 4) 2 rfl rfl dX11_isLet__3 rfl ?_
  refine x_iconst (q := 5) dX11_isLet__4 rfl ?_
  obtain ⟨⟨s1, s2⟩, H⟩ := H
  refine x_callV (q := 8) (d := d - 1) (as := [vI l2, vI 0]) (st := [vI l1, vR 71]) dX11_isLet__5 rfl mv_X11_97 sh_71 rfl rfl rfl (by exact Nat.le_of_ble_eq_true rfl) ⟨by show _ ≤ d; omega, by show _ ≤ 40 * d; omega⟩ ⟨Nat.le_refl _, Nat.le_refl _⟩ (ct_saying s1 s2 ?_)
  show E_X11_isLet_ G d 8 [(0, vR 71), (1, vI l1), (2, vI l2)] [vI (mem 72 (185 + 4 * l2 + 0)), vI l1, vR 71] mem Q
  refine x_aloadn (q := 9) 0 rfl rfl rfl dX11_isLet__8 rfl ?_
  refine x_iloadn (q := 10) 2 rfl rfl dX11_isLet__9 rfl ?_
  refine x_iconst (q := 11) dX11_isLet__10 rfl ?_
  obtain ⟨⟨s3, s4⟩, H⟩ := H
  refine x_callV (q := 14) (d := d - 1) (as := [vI l2, vI 1]) (st := [vI (mem 72 (185 + 4 * l2 + 0)), vI l1, vR 71]) dX11_isLet__11 rfl mv_X11_97 sh_71 rfl rfl rfl (by exact Nat.le_of_ble_eq_true rfl) ⟨by show _ ≤ d; omega, by show _ ≤ 40 * d; omega⟩ ⟨Nat.le_refl _, Nat.le_refl _⟩ (ct_saying s3 s4 ?_)
  show E_X11_isLet_ G d 14 [(0, vR 71), (1, vI l1), (2, vI l2)] [vI (mem 72 (185 + 4 * l2 + 1)), vI (mem 72 (185 + 4 * l2 + 0)), vI l1, vR 71] mem Q
  refine x_aloadn (q := 15) 0 rfl rfl rfl dX11_isLet__14 rfl ?_
  refine x_iloadn (q := 16) 2 rfl rfl dX11_isLet__15 rfl ?_
  refine x_iconst (q := 17) dX11_isLet__16 rfl ?_
  obtain ⟨⟨s5, s6⟩, H⟩ := H
  refine x_callV (q := 20) (d := d - 1) (as := [vI l2, vI 2]) (st := [vI (mem 72 (185 + 4 * l2 + 1)), vI (mem 72 (185 + 4 * l2 + 0)), vI l1, vR 71]) dX11_isLet__17 rfl mv_X11_97 sh_71 rfl rfl rfl (by exact Nat.le_of_ble_eq_true rfl) ⟨by show _ ≤ d; omega, by show _ ≤ 40 * d; omega⟩ ⟨Nat.le_refl _, Nat.le_refl _⟩ (ct_saying s5 s6 ?_)
  show E_X11_isLet_ G d 20 [(0, vR 71), (1, vI l1), (2, vI l2)] [vI (mem 72 (185 + 4 * l2 + 2)), vI (mem 72 (185 + 4 * l2 + 1)), vI (mem 72 (185 + 4 * l2 + 0)), vI l1, vR 71] mem Q
  refine x_iconst (q := 21) dX11_isLet__20 rfl ?_
  refine x_ok (fun hm7 => ?_)
  obtain ⟨H1, H2⟩ := H
  refine x_icmp_ne (tgt := 28) (q := 24) dX11_isLet__21 (by decide) rfl (ok_ai hm7 sh_72 (by decide) _) (by decide) (fun hB => ?_) (fun hB => ?_)
  · have H := H1 (hB)
    refine x_iconst (q := 29) dX11_isLet__28 rfl ?_
    obtain ⟨⟨s10, s11⟩, H⟩ := H
    refine x_callV (q := 32) (d := d - 1) (as := [vI l1, vI (mem 72 (185 + 4 * l2 + 0)), vI (mem 72 (185 + 4 * l2 + 1)), vI 0]) (st := []) dX11_isLet__29 rfl mv_X11_198 sh_71 rfl rfl rfl (by exact Nat.le_of_ble_eq_true rfl) ⟨by show _ ≤ d; omega, by show _ ≤ 40 * d; omega⟩ ⟨Nat.le_refl _, Nat.le_refl _⟩ (ct_isLet (by omega) s10 s11 (by decide) ?_)
    show E_X11_isLet_ G d 32 [(0, vR 71), (1, vI l1), (2, vI l2)] [vI (bz (letB (mem 72 (5 + 3 * (mem 72 (185 + 4 * l2 + 0)))) (hb l1 (mem 72 (185 + 4 * l2 + 0))) (hb l1 (mem 72 (185 + 4 * l2 + 1))) (nz 0) = true))] mem Q
    exact x_zret rfl dX11_isLet__32 (bz_01 _) H
  · have H := H2 (hB)
    refine x_iconst (q := 25) dX11_isLet__24 rfl ?_
    refine x_goto (tgt := 29) dX11_isLet__25 (by decide) ?_
    obtain ⟨⟨s12, s13⟩, H⟩ := H
    refine x_callV (q := 32) (d := d - 1) (as := [vI l1, vI (mem 72 (185 + 4 * l2 + 0)), vI (mem 72 (185 + 4 * l2 + 1)), vI 1]) (st := []) dX11_isLet__29 rfl mv_X11_198 sh_71 rfl rfl rfl (by exact Nat.le_of_ble_eq_true rfl) ⟨by show _ ≤ d; omega, by show _ ≤ 40 * d; omega⟩ ⟨Nat.le_refl _, Nat.le_refl _⟩ (ct_isLet (by omega) s12 s13 (by decide) ?_)
    show E_X11_isLet_ G d 32 [(0, vR 71), (1, vI l1), (2, vI l2)] [vI (bz (letB (mem 72 (5 + 3 * (mem 72 (185 + 4 * l2 + 0)))) (hb l1 (mem 72 (185 + 4 * l2 + 0))) (hb l1 (mem 72 (185 + 4 * l2 + 1))) (nz 1) = true))] mem Q
    exact x_zret rfl dX11_isLet__32 (bz_01 _) H
abbrev E_X2_silenceAllAbout (G : GT) (d pc : Nat) (ls : List (Nat × AV)) (st : List AV) (mem : Mem) (Q : Option AV → Mem → Prop) : Prop := Ex G RX2 cX2_silenceAllAbout 4 (some .int) d pc ls st mem Q
abbrev C_X2_silenceAllAbout (G : GT) (d : Nat) (as : List AV) (mem : Mem) (Q : Option AV → Mem → Prop) : Prop := Ct G yX2_silenceAllAbout cX2_silenceAllAbout 4 (some .int) d as mem Q
set_option maxRecDepth 20000 in
set_option maxHeartbeats 4000000 in
theorem B_X2_silenceAllAbout {G : GT} {d : Nat} {h : Nat} (hh : isH h) {l1 : Int} {mem : Mem} {Q : Option AV → Mem → Prop} (hd : 1 ≤ d) (H : E_X2_silenceAllAbout G d 4 [(0, vR h), (1, vI l1), (2, vI 0), (3, vI 0)] [] mem Q) : C_X2_silenceAllAbout G d [vR h, vI l1] mem Q := by
  refine Ct_of_Ex (by decide +kernel) (by exact Nat.le_of_ble_eq_true rfl) (ls := [(0, vR h), (1, vI l1)]) rfl ?_
  show E_X2_silenceAllAbout G d 0 [(0, vR h), (1, vI l1)] [] mem Q
  refine x_iconst (q := 1) dX2_silenceAllAbout_0 rfl ?_
  refine x_istoren (q := 2) (ls' := [(2, vI 0), (0, vR h), (1, vI l1)]) rfl (by decide) rfl dX2_silenceAllAbout_1 rfl ?_
  refine x_iconst (q := 3) dX2_silenceAllAbout_2 rfl ?_
  refine x_istoren (q := 4) (ls' := [(3, vI 0), (2, vI 0), (0, vR h), (1, vI l1)]) rfl (by decide) rfl dX2_silenceAllAbout_3 rfl ?_
  refine x_sub [2, 3, 1, 0] rfl ?_
  exact H
set_option maxRecDepth 20000 in
set_option maxHeartbeats 4000000 in
theorem B_X2_silenceAllAbout_4 {G : GT} {d : Nat} {h : Nat} (hh : isH h) {l1 : Int} {l2 : Int} {l3 : Int} {mem : Mem} {Q : Option AV → Mem → Prop} (hd : 1 ≤ d) (H : (inr l3) ∧ (((mem h 6 ≤ l3) → (Q (some (vI l2)) mem)) ∧ (¬ (mem h 6 ≤ l3) → ((¬ (land (lshr (mem h 10) l3) 1 ≠ 0) → (E_X2_silenceAllAbout G d 4 [(0, vR h), (1, vI l1), (2, vI l2), (3, vI (l3 + 1))] [] mem Q)) ∧ ((land (lshr (mem h 10) l3) 1 ≠ 0) → ((0 ≤ l3 ∧ l3 < 60) ∧ ((inr l1) ∧ (((mem (h + 6) l3 = l1) → (∀ m13 : Mem, m13 = silM mem h l3 → (E_X2_silenceAllAbout G d 4 [(0, vR h), (1, vI l1), (2, vI (l2 + 1)), (3, vI (l3 + 1))] [] m13 Q))) ∧ (¬ (mem (h + 6) l3 = l1) → (((mem (h + 7) l3 ≠ l1) → (E_X2_silenceAllAbout G d 4 [(0, vR h), (1, vI l1), (2, vI l2), (3, vI (l3 + 1))] [] mem Q)) ∧ (¬ (mem (h + 7) l3 ≠ l1) → (∀ m17 : Mem, m17 = silM mem h l3 → (E_X2_silenceAllAbout G d 4 [(0, vR h), (1, vI l1), (2, vI (l2 + 1)), (3, vI (l3 + 1))] [] m17 Q))))))))))))) : E_X2_silenceAllAbout G d 4 [(0, vR h), (1, vI l1), (2, vI l2), (3, vI l3)] [] mem Q := by
  refine x_iloadn (q := 5) 3 rfl rfl dX2_silenceAllAbout_4 rfl ?_
  refine x_aloadn (q := 6) 0 rfl rfl rfl dX2_silenceAllAbout_5 rfl ?_
  refine x_geti (q := 9) (ji := 6) dX2_silenceAllAbout_6 rfl fa_X2_57 (sh_H0 hh) rfl rfl (fun r1 => ?_)
  obtain ⟨s2, H⟩ := H
  obtain ⟨H1, H2⟩ := H
  refine x_icmp_ge (tgt := 54) (q := 12) dX2_silenceAllAbout_9 (by decide) rfl s2 r1 (fun hB => ?_) (fun hB => ?_)
  · have H := H1 (hB)
    refine x_iloadn (q := 55) 2 rfl rfl dX2_silenceAllAbout_54 rfl ?_
    exact x_iret rfl dX2_silenceAllAbout_55 H
  · have H := H2 (hB)
    refine x_aloadn (q := 13) 0 rfl rfl rfl dX2_silenceAllAbout_12 rfl ?_
    refine x_iloadn (q := 14) 3 rfl rfl dX2_silenceAllAbout_13 rfl ?_
    refine x_callV (q := 17) (d := d - 1) (as := [vI l3]) (st := []) dX2_silenceAllAbout_14 rfl mv_X2_104 (sh_H0 hh) rfl rfl rfl (by exact Nat.le_of_ble_eq_true rfl) ⟨by show _ ≤ d; omega, by show _ ≤ 40 * d; omega⟩ ⟨Nat.le_refl _, Nat.le_refl _⟩ (ct_isValid hh ?_)
    show E_X2_silenceAllAbout G d 17 [(0, vR h), (1, vI l1), (2, vI l2), (3, vI l3)] [vI (bz (land (lshr (mem h 10) l3) 1 ≠ 0))] mem Q
    obtain ⟨H1, H2⟩ := H
    refine x_if_eq (tgt := 48) (q := 20) dX2_silenceAllAbout_17 (by decide) rfl (bz_inr _) (fun hB => ?_) (fun hB => ?_)
    · have H := H1 (bz_0.mp hB)
      refine x_iinc (q := 51) (ls' := [(3, vI (l3 + 1)), (0, vR h), (1, vI l1), (2, vI l2)]) 3 rfl (by decide) rfl dX2_silenceAllAbout_48 rfl ?_
      refine x_goto (tgt := 4) dX2_silenceAllAbout_51 (by decide) ?_
      refine x_sub [1, 2, 3, 0] rfl ?_
      exact H
    · have H := H2 (Classical.byContradiction (fun z => hB (bz_0.mpr z)))
      refine x_aloadn (q := 21) 0 rfl rfl rfl dX2_silenceAllAbout_20 rfl ?_
      refine x_getr (q := 24) dX2_silenceAllAbout_21 rfl fa_X2_27 (sh_H0 hh) rfl ?_
      refine x_iloadn (q := 25) 3 rfl rfl dX2_silenceAllAbout_24 rfl ?_
      obtain ⟨⟨s7, s8⟩, H⟩ := H
      refine x_iald (q := 26) dX2_silenceAllAbout_25 rfl (sh_H6 hh) s7 s8 (fun r9 => ?_)
      refine x_iloadn (q := 27) 1 rfl rfl dX2_silenceAllAbout_26 rfl ?_
      obtain ⟨s10, H⟩ := H
      obtain ⟨H1, H2⟩ := H
      refine x_icmp_eq (tgt := 40) (q := 30) dX2_silenceAllAbout_27 (by decide) rfl r9 s10 (fun hB => ?_) (fun hB => ?_)
      · have H := H1 (hB)
        refine x_aloadn (q := 41) 0 rfl rfl rfl dX2_silenceAllAbout_40 rfl ?_
        refine x_iloadn (q := 42) 3 rfl rfl dX2_silenceAllAbout_41 rfl ?_
        obtain ⟨m13, em13⟩ : ∃ m9 : Mem, m9 = silM mem h l3 := ⟨_, rfl⟩
        have H := H m13 em13
        refine x_callV (q := 45) (d := d - 1) (as := [vI l3]) (st := []) dX2_silenceAllAbout_42 rfl mv_X2_107 (sh_H0 hh) rfl rfl rfl (by exact Nat.le_of_ble_eq_true rfl) ⟨by show _ ≤ d; omega, by show _ ≤ 40 * d; omega⟩ ⟨Nat.le_refl _, Nat.le_refl _⟩ (ct_silence hh ?_)
        rw [← em13]
        show E_X2_silenceAllAbout G d 45 [(0, vR h), (1, vI l1), (2, vI l2), (3, vI l3)] [] m13 Q
        refine x_iinc (q := 48) (ls' := [(2, vI (l2 + 1)), (0, vR h), (1, vI l1), (3, vI l3)]) 2 rfl (by decide) rfl dX2_silenceAllAbout_45 rfl ?_
        refine x_iinc (q := 51) (ls' := [(3, vI (l3 + 1)), (2, vI (l2 + 1)), (0, vR h), (1, vI l1)]) 3 rfl (by decide) rfl dX2_silenceAllAbout_48 rfl ?_
        refine x_goto (tgt := 4) dX2_silenceAllAbout_51 (by decide) ?_
        refine x_sub [2, 3, 1, 0] rfl ?_
        exact H
      · have H := H2 (hB)
        refine x_aloadn (q := 31) 0 rfl rfl rfl dX2_silenceAllAbout_30 rfl ?_
        refine x_getr (q := 34) dX2_silenceAllAbout_31 rfl fa_X2_30 (sh_H0 hh) rfl ?_
        refine x_iloadn (q := 35) 3 rfl rfl dX2_silenceAllAbout_34 rfl ?_
        refine x_iald (q := 36) dX2_silenceAllAbout_35 rfl (sh_H7 hh) s7 s8 (fun r14 => ?_)
        refine x_iloadn (q := 37) 1 rfl rfl dX2_silenceAllAbout_36 rfl ?_
        obtain ⟨H1, H2⟩ := H
        refine x_icmp_ne (tgt := 48) (q := 40) dX2_silenceAllAbout_37 (by decide) rfl r14 s10 (fun hB => ?_) (fun hB => ?_)
        · have H := H1 (hB)
          refine x_iinc (q := 51) (ls' := [(3, vI (l3 + 1)), (0, vR h), (1, vI l1), (2, vI l2)]) 3 rfl (by decide) rfl dX2_silenceAllAbout_48 rfl ?_
          refine x_goto (tgt := 4) dX2_silenceAllAbout_51 (by decide) ?_
          refine x_sub [1, 2, 3, 0] rfl ?_
          exact H
        · have H := H2 (hB)
          refine x_aloadn (q := 41) 0 rfl rfl rfl dX2_silenceAllAbout_40 rfl ?_
          refine x_iloadn (q := 42) 3 rfl rfl dX2_silenceAllAbout_41 rfl ?_
          obtain ⟨m17, em17⟩ : ∃ m9 : Mem, m9 = silM mem h l3 := ⟨_, rfl⟩
          have H := H m17 em17
          refine x_callV (q := 45) (d := d - 1) (as := [vI l3]) (st := []) dX2_silenceAllAbout_42 rfl mv_X2_107 (sh_H0 hh) rfl rfl rfl (by exact Nat.le_of_ble_eq_true rfl) ⟨by show _ ≤ d; omega, by show _ ≤ 40 * d; omega⟩ ⟨Nat.le_refl _, Nat.le_refl _⟩ (ct_silence hh ?_)
          rw [← em17]
          show E_X2_silenceAllAbout G d 45 [(0, vR h), (1, vI l1), (2, vI l2), (3, vI l3)] [] m17 Q
          refine x_iinc (q := 48) (ls' := [(2, vI (l2 + 1)), (0, vR h), (1, vI l1), (3, vI l3)]) 2 rfl (by decide) rfl dX2_silenceAllAbout_45 rfl ?_
          refine x_iinc (q := 51) (ls' := [(3, vI (l3 + 1)), (2, vI (l2 + 1)), (0, vR h), (1, vI l1)]) 3 rfl (by decide) rfl dX2_silenceAllAbout_48 rfl ?_
          refine x_goto (tgt := 4) dX2_silenceAllAbout_51 (by decide) ?_
          refine x_sub [2, 3, 1, 0] rfl ?_
          exact H
abbrev E_X2_sayingsBy (G : GT) (d pc : Nat) (ls : List (Nat × AV)) (st : List AV) (mem : Mem) (Q : Option AV → Mem → Prop) : Prop := Ex G RX2 cX2_sayingsBy 4 (some .int) d pc ls st mem Q
abbrev C_X2_sayingsBy (G : GT) (d : Nat) (as : List AV) (mem : Mem) (Q : Option AV → Mem → Prop) : Prop := Ct G yX2_sayingsBy cX2_sayingsBy 4 (some .int) d as mem Q
set_option maxRecDepth 20000 in
set_option maxHeartbeats 4000000 in
theorem B_X2_sayingsBy {G : GT} {d : Nat} {h : Nat} (hh : isH h) {l1 : Int} {mem : Mem} {Q : Option AV → Mem → Prop} (hd : 1 ≤ d) (H : E_X2_sayingsBy G d 4 [(0, vR h), (1, vI l1), (2, vI 0), (3, vI 0)] [] mem Q) : C_X2_sayingsBy G d [vR h, vI l1] mem Q := by
  refine Ct_of_Ex (by decide +kernel) (by exact Nat.le_of_ble_eq_true rfl) (ls := [(0, vR h), (1, vI l1)]) rfl ?_
  show E_X2_sayingsBy G d 0 [(0, vR h), (1, vI l1)] [] mem Q
  refine x_iconst (q := 1) dX2_sayingsBy_0 rfl ?_
  refine x_istoren (q := 2) (ls' := [(2, vI 0), (0, vR h), (1, vI l1)]) rfl (by decide) rfl dX2_sayingsBy_1 rfl ?_
  refine x_iconst (q := 3) dX2_sayingsBy_2 rfl ?_
  refine x_istoren (q := 4) (ls' := [(3, vI 0), (2, vI 0), (0, vR h), (1, vI l1)]) rfl (by decide) rfl dX2_sayingsBy_3 rfl ?_
  refine x_sub [2, 3, 1, 0] rfl ?_
  exact H
set_option maxRecDepth 20000 in
set_option maxHeartbeats 4000000 in
theorem B_X2_sayingsBy_4 {G : GT} {d : Nat} {h : Nat} (hh : isH h) {l1 : Int} {l2 : Int} {l3 : Int} {mem : Mem} {Q : Option AV → Mem → Prop} (hd : 1 ≤ d) (H : (inr l3) ∧ (((mem h 6 ≤ l3) → (Q (some (vI l2)) mem)) ∧ (¬ (mem h 6 ≤ l3) → ((¬ (land (lshr (mem h 10) l3) 1 ≠ 0) → (E_X2_sayingsBy G d 4 [(0, vR h), (1, vI l1), (2, vI l2), (3, vI (l3 + 1))] [] mem Q)) ∧ ((land (lshr (mem h 10) l3) 1 ≠ 0) → ((0 ≤ l3 ∧ l3 < 60) ∧ ((inr l1) ∧ (((mem (h + 6) l3 ≠ l1) → (E_X2_sayingsBy G d 4 [(0, vR h), (1, vI l1), (2, vI l2), (3, vI (l3 + 1))] [] mem Q)) ∧ (¬ (mem (h + 6) l3 ≠ l1) → (E_X2_sayingsBy G d 4 [(0, vR h), (1, vI l1), (2, vI (l2 + 1)), (3, vI (l3 + 1))] [] mem Q)))))))))) : E_X2_sayingsBy G d 4 [(0, vR h), (1, vI l1), (2, vI l2), (3, vI l3)] [] mem Q := by
  refine x_iloadn (q := 5) 3 rfl rfl dX2_sayingsBy_4 rfl ?_
  refine x_aloadn (q := 6) 0 rfl rfl rfl dX2_sayingsBy_5 rfl ?_
  refine x_geti (q := 9) (ji := 6) dX2_sayingsBy_6 rfl fa_X2_57 (sh_H0 hh) rfl rfl (fun r1 => ?_)
  obtain ⟨s2, H⟩ := H
  obtain ⟨H1, H2⟩ := H
  refine x_icmp_ge (tgt := 39) (q := 12) dX2_sayingsBy_9 (by decide) rfl s2 r1 (fun hB => ?_) (fun hB => ?_)
  · have H := H1 (hB)
    refine x_iloadn (q := 40) 2 rfl rfl dX2_sayingsBy_39 rfl ?_
    exact x_iret rfl dX2_sayingsBy_40 H
  · have H := H2 (hB)
    refine x_aloadn (q := 13) 0 rfl rfl rfl dX2_sayingsBy_12 rfl ?_
    refine x_iloadn (q := 14) 3 rfl rfl dX2_sayingsBy_13 rfl ?_
    refine x_callV (q := 17) (d := d - 1) (as := [vI l3]) (st := []) dX2_sayingsBy_14 rfl mv_X2_104 (sh_H0 hh) rfl rfl rfl (by exact Nat.le_of_ble_eq_true rfl) ⟨by show _ ≤ d; omega, by show _ ≤ 40 * d; omega⟩ ⟨Nat.le_refl _, Nat.le_refl _⟩ (ct_isValid hh ?_)
    show E_X2_sayingsBy G d 17 [(0, vR h), (1, vI l1), (2, vI l2), (3, vI l3)] [vI (bz (land (lshr (mem h 10) l3) 1 ≠ 0))] mem Q
    obtain ⟨H1, H2⟩ := H
    refine x_if_eq (tgt := 33) (q := 20) dX2_sayingsBy_17 (by decide) rfl (bz_inr _) (fun hB => ?_) (fun hB => ?_)
    · have H := H1 (bz_0.mp hB)
      refine x_iinc (q := 36) (ls' := [(3, vI (l3 + 1)), (0, vR h), (1, vI l1), (2, vI l2)]) 3 rfl (by decide) rfl dX2_sayingsBy_33 rfl ?_
      refine x_goto (tgt := 4) dX2_sayingsBy_36 (by decide) ?_
      refine x_sub [1, 2, 3, 0] rfl ?_
      exact H
    · have H := H2 (Classical.byContradiction (fun z => hB (bz_0.mpr z)))
      refine x_aloadn (q := 21) 0 rfl rfl rfl dX2_sayingsBy_20 rfl ?_
      refine x_getr (q := 24) dX2_sayingsBy_21 rfl fa_X2_27 (sh_H0 hh) rfl ?_
      refine x_iloadn (q := 25) 3 rfl rfl dX2_sayingsBy_24 rfl ?_
      obtain ⟨⟨s7, s8⟩, H⟩ := H
      refine x_iald (q := 26) dX2_sayingsBy_25 rfl (sh_H6 hh) s7 s8 (fun r9 => ?_)
      refine x_iloadn (q := 27) 1 rfl rfl dX2_sayingsBy_26 rfl ?_
      obtain ⟨s10, H⟩ := H
      obtain ⟨H1, H2⟩ := H
      refine x_icmp_ne (tgt := 33) (q := 30) dX2_sayingsBy_27 (by decide) rfl r9 s10 (fun hB => ?_) (fun hB => ?_)
      · have H := H1 (hB)
        refine x_iinc (q := 36) (ls' := [(3, vI (l3 + 1)), (0, vR h), (1, vI l1), (2, vI l2)]) 3 rfl (by decide) rfl dX2_sayingsBy_33 rfl ?_
        refine x_goto (tgt := 4) dX2_sayingsBy_36 (by decide) ?_
        refine x_sub [1, 2, 3, 0] rfl ?_
        exact H
      · have H := H2 (hB)
        refine x_iinc (q := 33) (ls' := [(2, vI (l2 + 1)), (0, vR h), (1, vI l1), (3, vI l3)]) 2 rfl (by decide) rfl dX2_sayingsBy_30 rfl ?_
        refine x_iinc (q := 36) (ls' := [(3, vI (l3 + 1)), (2, vI (l2 + 1)), (0, vR h), (1, vI l1)]) 3 rfl (by decide) rfl dX2_sayingsBy_33 rfl ?_
        refine x_goto (tgt := 4) dX2_sayingsBy_36 (by decide) ?_
        refine x_sub [2, 3, 1, 0] rfl ?_
        exact H
abbrev E_X2_sayingsOf (G : GT) (d pc : Nat) (ls : List (Nat × AV)) (st : List AV) (mem : Mem) (Q : Option AV → Mem → Prop) : Prop := Ex G RX2 cX2_sayingsOf 4 (some .int) d pc ls st mem Q
abbrev C_X2_sayingsOf (G : GT) (d : Nat) (as : List AV) (mem : Mem) (Q : Option AV → Mem → Prop) : Prop := Ct G yX2_sayingsOf cX2_sayingsOf 4 (some .int) d as mem Q
set_option maxRecDepth 20000 in
set_option maxHeartbeats 4000000 in
theorem B_X2_sayingsOf {G : GT} {d : Nat} {h : Nat} (hh : isH h) {l1 : Int} {mem : Mem} {Q : Option AV → Mem → Prop} (hd : 1 ≤ d) (H : E_X2_sayingsOf G d 4 [(0, vR h), (1, vI l1), (2, vI 0), (3, vI 0)] [] mem Q) : C_X2_sayingsOf G d [vR h, vI l1] mem Q := by
  refine Ct_of_Ex (by decide +kernel) (by exact Nat.le_of_ble_eq_true rfl) (ls := [(0, vR h), (1, vI l1)]) rfl ?_
  show E_X2_sayingsOf G d 0 [(0, vR h), (1, vI l1)] [] mem Q
  refine x_iconst (q := 1) dX2_sayingsOf_0 rfl ?_
  refine x_istoren (q := 2) (ls' := [(2, vI 0), (0, vR h), (1, vI l1)]) rfl (by decide) rfl dX2_sayingsOf_1 rfl ?_
  refine x_iconst (q := 3) dX2_sayingsOf_2 rfl ?_
  refine x_istoren (q := 4) (ls' := [(3, vI 0), (2, vI 0), (0, vR h), (1, vI l1)]) rfl (by decide) rfl dX2_sayingsOf_3 rfl ?_
  refine x_sub [2, 3, 1, 0] rfl ?_
  exact H
set_option maxRecDepth 20000 in
set_option maxHeartbeats 4000000 in
theorem B_X2_sayingsOf_4 {G : GT} {d : Nat} {h : Nat} (hh : isH h) {l1 : Int} {l2 : Int} {l3 : Int} {mem : Mem} {Q : Option AV → Mem → Prop} (hd : 1 ≤ d) (H : (inr l3) ∧ (((mem h 6 ≤ l3) → (Q (some (vI l2)) mem)) ∧ (¬ (mem h 6 ≤ l3) → ((¬ (land (lshr (mem h 10) l3) 1 ≠ 0) → (E_X2_sayingsOf G d 4 [(0, vR h), (1, vI l1), (2, vI l2), (3, vI (l3 + 1))] [] mem Q)) ∧ ((land (lshr (mem h 10) l3) 1 ≠ 0) → ((0 ≤ l3 ∧ l3 < 60) ∧ ((inr l1) ∧ (((mem (h + 7) l3 ≠ l1) → (E_X2_sayingsOf G d 4 [(0, vR h), (1, vI l1), (2, vI l2), (3, vI (l3 + 1))] [] mem Q)) ∧ (¬ (mem (h + 7) l3 ≠ l1) → (E_X2_sayingsOf G d 4 [(0, vR h), (1, vI l1), (2, vI (l2 + 1)), (3, vI (l3 + 1))] [] mem Q)))))))))) : E_X2_sayingsOf G d 4 [(0, vR h), (1, vI l1), (2, vI l2), (3, vI l3)] [] mem Q := by
  refine x_iloadn (q := 5) 3 rfl rfl dX2_sayingsOf_4 rfl ?_
  refine x_aloadn (q := 6) 0 rfl rfl rfl dX2_sayingsOf_5 rfl ?_
  refine x_geti (q := 9) (ji := 6) dX2_sayingsOf_6 rfl fa_X2_57 (sh_H0 hh) rfl rfl (fun r1 => ?_)
  obtain ⟨s2, H⟩ := H
  obtain ⟨H1, H2⟩ := H
  refine x_icmp_ge (tgt := 39) (q := 12) dX2_sayingsOf_9 (by decide) rfl s2 r1 (fun hB => ?_) (fun hB => ?_)
  · have H := H1 (hB)
    refine x_iloadn (q := 40) 2 rfl rfl dX2_sayingsOf_39 rfl ?_
    exact x_iret rfl dX2_sayingsOf_40 H
  · have H := H2 (hB)
    refine x_aloadn (q := 13) 0 rfl rfl rfl dX2_sayingsOf_12 rfl ?_
    refine x_iloadn (q := 14) 3 rfl rfl dX2_sayingsOf_13 rfl ?_
    refine x_callV (q := 17) (d := d - 1) (as := [vI l3]) (st := []) dX2_sayingsOf_14 rfl mv_X2_104 (sh_H0 hh) rfl rfl rfl (by exact Nat.le_of_ble_eq_true rfl) ⟨by show _ ≤ d; omega, by show _ ≤ 40 * d; omega⟩ ⟨Nat.le_refl _, Nat.le_refl _⟩ (ct_isValid hh ?_)
    show E_X2_sayingsOf G d 17 [(0, vR h), (1, vI l1), (2, vI l2), (3, vI l3)] [vI (bz (land (lshr (mem h 10) l3) 1 ≠ 0))] mem Q
    obtain ⟨H1, H2⟩ := H
    refine x_if_eq (tgt := 33) (q := 20) dX2_sayingsOf_17 (by decide) rfl (bz_inr _) (fun hB => ?_) (fun hB => ?_)
    · have H := H1 (bz_0.mp hB)
      refine x_iinc (q := 36) (ls' := [(3, vI (l3 + 1)), (0, vR h), (1, vI l1), (2, vI l2)]) 3 rfl (by decide) rfl dX2_sayingsOf_33 rfl ?_
      refine x_goto (tgt := 4) dX2_sayingsOf_36 (by decide) ?_
      refine x_sub [1, 2, 3, 0] rfl ?_
      exact H
    · have H := H2 (Classical.byContradiction (fun z => hB (bz_0.mpr z)))
      refine x_aloadn (q := 21) 0 rfl rfl rfl dX2_sayingsOf_20 rfl ?_
      refine x_getr (q := 24) dX2_sayingsOf_21 rfl fa_X2_30 (sh_H0 hh) rfl ?_
      refine x_iloadn (q := 25) 3 rfl rfl dX2_sayingsOf_24 rfl ?_
      obtain ⟨⟨s7, s8⟩, H⟩ := H
      refine x_iald (q := 26) dX2_sayingsOf_25 rfl (sh_H7 hh) s7 s8 (fun r9 => ?_)
      refine x_iloadn (q := 27) 1 rfl rfl dX2_sayingsOf_26 rfl ?_
      obtain ⟨s10, H⟩ := H
      obtain ⟨H1, H2⟩ := H
      refine x_icmp_ne (tgt := 33) (q := 30) dX2_sayingsOf_27 (by decide) rfl r9 s10 (fun hB => ?_) (fun hB => ?_)
      · have H := H1 (hB)
        refine x_iinc (q := 36) (ls' := [(3, vI (l3 + 1)), (0, vR h), (1, vI l1), (2, vI l2)]) 3 rfl (by decide) rfl dX2_sayingsOf_33 rfl ?_
        refine x_goto (tgt := 4) dX2_sayingsOf_36 (by decide) ?_
        refine x_sub [1, 2, 3, 0] rfl ?_
        exact H
      · have H := H2 (hB)
        refine x_iinc (q := 33) (ls' := [(2, vI (l2 + 1)), (0, vR h), (1, vI l1), (3, vI l3)]) 2 rfl (by decide) rfl dX2_sayingsOf_30 rfl ?_
        refine x_iinc (q := 36) (ls' := [(3, vI (l3 + 1)), (2, vI (l2 + 1)), (0, vR h), (1, vI l1)]) 3 rfl (by decide) rfl dX2_sayingsOf_33 rfl ?_
        refine x_goto (tgt := 4) dX2_sayingsOf_36 (by decide) ?_
        refine x_sub [2, 3, 1, 0] rfl ?_
        exact H
abbrev E_X2_firstNotLet (G : GT) (d pc : Nat) (ls : List (Nat × AV)) (st : List AV) (mem : Mem) (Q : Option AV → Mem → Prop) : Prop := Ex G RX2 cX2_firstNotLet 4 (some .int) d pc ls st mem Q
abbrev C_X2_firstNotLet (G : GT) (d : Nat) (as : List AV) (mem : Mem) (Q : Option AV → Mem → Prop) : Prop := Ct G yX2_firstNotLet cX2_firstNotLet 4 (some .int) d as mem Q
set_option maxRecDepth 20000 in
set_option maxHeartbeats 4000000 in
theorem B_X2_firstNotLet {G : GT} {d : Nat} {h : Nat} (hh : isH h) {l1 : Int} {mem : Mem} {Q : Option AV → Mem → Prop} (hd : 1 ≤ d) (H : E_X2_firstNotLet G d 2 [(0, vR h), (1, vI l1), (2, vI 0)] [] mem Q) : C_X2_firstNotLet G d [vR h, vI l1] mem Q := by
  refine Ct_of_Ex (by decide +kernel) (by exact Nat.le_of_ble_eq_true rfl) (ls := [(0, vR h), (1, vI l1)]) rfl ?_
  show E_X2_firstNotLet G d 0 [(0, vR h), (1, vI l1)] [] mem Q
  refine x_iconst (q := 1) dX2_firstNotLet_0 rfl ?_
  refine x_istoren (q := 2) (ls' := [(2, vI 0), (0, vR h), (1, vI l1)]) rfl (by decide) rfl dX2_firstNotLet_1 rfl ?_
  refine x_sub [1, 2, 0] rfl ?_
  exact H
set_option maxRecDepth 20000 in
set_option maxHeartbeats 4000000 in
theorem B_X2_firstNotLet_2 {G : GT} {d : Nat} {h : Nat} (hh : isH h) {l1 : Int} {l2 : Int} {mem : Mem} {Q : Option AV → Mem → Prop} (hd : 1 ≤ d) (H : (inr l2) ∧ (((mem h 6 ≤ l2) → (Q (some (vI (-1))) mem)) ∧ (¬ (mem h 6 ≤ l2) → ((¬ (land (lshr (mem h 10) l2) 1 ≠ 0) → (E_X2_firstNotLet G d 2 [(0, vR h), (1, vI l1), (2, vI (l2 + 1))] [] mem Q)) ∧ ((land (lshr (mem h 10) l2) 1 ≠ 0) → ((0 ≤ l2 ∧ l2 < 60) ∧ ((0 ≤ mem (h + 6) l2 ∧ mem (h + 6) l2 < 12) ∧ (C_X3_letCases G (d - 1) [vI (mem (h + 1) (mem (h + 6) l2)), vI (bz (land (lshr (mem h 9) l2) 1 ≠ 0))] mem (fun r9 m13 => ∃ z14 : Int, r9 = some (vI z14) ∧ (((iand (ishr z14 (2 * iand (ishr l1 (m13 (h + 6) l2)) 1 + iand (ishr l1 (m13 (h + 7) l2)) 1)) 1 ≠ 0) → (E_X2_firstNotLet G d 2 [(0, vR h), (1, vI l1), (2, vI (l2 + 1))] [] m13 Q)) ∧ (¬ (iand (ishr z14 (2 * iand (ishr l1 (m13 (h + 6) l2)) 1 + iand (ishr l1 (m13 (h + 7) l2)) 1)) 1 ≠ 0) → (Q (some (vI l2)) m13)))))))))))) : E_X2_firstNotLet G d 2 [(0, vR h), (1, vI l1), (2, vI l2)] [] mem Q := by
  refine x_iloadn (q := 3) 2 rfl rfl dX2_firstNotLet_2 rfl ?_
  refine x_aloadn (q := 4) 0 rfl rfl rfl dX2_firstNotLet_3 rfl ?_
  refine x_geti (q := 7) (ji := 6) dX2_firstNotLet_4 rfl fa_X2_57 (sh_H0 hh) rfl rfl (fun r1 => ?_)
  obtain ⟨s2, H⟩ := H
  obtain ⟨H1, H2⟩ := H
  refine x_icmp_ge (tgt := 66) (q := 10) dX2_firstNotLet_7 (by decide) rfl s2 r1 (fun hB => ?_) (fun hB => ?_)
  · have H := H1 (hB)
    refine x_iconst (q := 67) dX2_firstNotLet_66 rfl ?_
    exact x_iret rfl dX2_firstNotLet_67 H
  · have H := H2 (hB)
    refine x_aloadn (q := 11) 0 rfl rfl rfl dX2_firstNotLet_10 rfl ?_
    refine x_iloadn (q := 12) 2 rfl rfl dX2_firstNotLet_11 rfl ?_
    refine x_callV (q := 15) (d := d - 1) (as := [vI l2]) (st := []) dX2_firstNotLet_12 rfl mv_X2_104 (sh_H0 hh) rfl rfl rfl (by exact Nat.le_of_ble_eq_true rfl) ⟨by show _ ≤ d; omega, by show _ ≤ 40 * d; omega⟩ ⟨Nat.le_refl _, Nat.le_refl _⟩ (ct_isValid hh ?_)
    show E_X2_firstNotLet G d 15 [(0, vR h), (1, vI l1), (2, vI l2)] [vI (bz (land (lshr (mem h 10) l2) 1 ≠ 0))] mem Q
    obtain ⟨H1, H2⟩ := H
    refine x_if_eq (tgt := 60) (q := 18) dX2_firstNotLet_15 (by decide) rfl (bz_inr _) (fun hB => ?_) (fun hB => ?_)
    · have H := H1 (bz_0.mp hB)
      refine x_iinc (q := 63) (ls' := [(2, vI (l2 + 1)), (0, vR h), (1, vI l1)]) 2 rfl (by decide) rfl dX2_firstNotLet_60 rfl ?_
      refine x_goto (tgt := 2) dX2_firstNotLet_63 (by decide) ?_
      refine x_sub [1, 2, 0] rfl ?_
      exact H
    · have H := H2 (Classical.byContradiction (fun z => hB (bz_0.mpr z)))
      refine x_aloadn (q := 19) 0 rfl rfl rfl dX2_firstNotLet_18 rfl ?_
      refine x_getr (q := 22) dX2_firstNotLet_19 rfl fa_X2_9 (sh_H0 hh) rfl ?_
      refine x_aloadn (q := 23) 0 rfl rfl rfl dX2_firstNotLet_22 rfl ?_
      refine x_getr (q := 26) dX2_firstNotLet_23 rfl fa_X2_27 (sh_H0 hh) rfl ?_
      refine x_iloadn (q := 27) 2 rfl rfl dX2_firstNotLet_26 rfl ?_
      obtain ⟨⟨s7, s8⟩, H⟩ := H
      refine x_iald (q := 28) dX2_firstNotLet_27 rfl (sh_H6 hh) s7 s8 (fun r9 => ?_)
      obtain ⟨⟨s10, s11⟩, H⟩ := H
      refine x_iald (q := 29) dX2_firstNotLet_28 rfl (sh_H1 hh) s10 s11 (fun r12 => ?_)
      refine x_aloadn (q := 30) 0 rfl rfl rfl dX2_firstNotLet_29 rfl ?_
      refine x_iloadn (q := 31) 2 rfl rfl dX2_firstNotLet_30 rfl ?_
      refine x_callV (q := 34) (d := d - 1) (as := [vI l2]) (st := [vI (mem (h + 1) (mem (h + 6) l2))]) dX2_firstNotLet_31 rfl mv_X2_116 (sh_H0 hh) rfl rfl rfl (by exact Nat.le_of_ble_eq_true rfl) ⟨by show _ ≤ d; omega, by show _ ≤ 40 * d; omega⟩ ⟨Nat.le_refl _, Nat.le_refl _⟩ (ct_saidWhole hh ?_)
      show E_X2_firstNotLet G d 34 [(0, vR h), (1, vI l1), (2, vI l2)] [vI (bz (land (lshr (mem h 9) l2) 1 ≠ 0)), vI (mem (h + 1) (mem (h + 6) l2))] mem Q
      refine x_callS (q := 37) (d := d - 1) (as := [vI (mem (h + 1) (mem (h + 6) l2)), vI (bz (land (lshr (mem h 9) l2) 1 ≠ 0))]) (st := []) dX2_firstNotLet_34 rfl ms_X2_119 rfl rfl (by exact Nat.le_of_ble_eq_true rfl) ⟨by show _ ≤ d; omega, by show _ ≤ 40 * d; omega⟩ ⟨Nat.le_refl _, Nat.le_refl _⟩ (Ct.mono H (fun r9 m13 H => ?_))
      obtain ⟨z14, rfl, H⟩ := H
      show E_X2_firstNotLet G d 37 [(0, vR h), (1, vI l1), (2, vI l2)] [vI z14] m13 Q
      refine x_istoren (q := 38) (ls' := [(3, vI z14), (0, vR h), (1, vI l1), (2, vI l2)]) rfl (by decide) rfl dX2_firstNotLet_37 rfl ?_
      refine x_iloadn (q := 39) 0 rfl rfl dX2_firstNotLet_38 rfl ?_
      refine x_iloadn (q := 40) 2 rfl rfl dX2_firstNotLet_39 rfl ?_
      refine x_aloadn (q := 41) 1 rfl rfl rfl dX2_firstNotLet_40 rfl ?_
      refine x_getr (q := 44) dX2_firstNotLet_41 rfl fa_X2_27 (sh_H0 hh) rfl ?_
      refine x_iloadn (q := 45) 3 rfl rfl dX2_firstNotLet_44 rfl ?_
      refine x_iald (q := 46) dX2_firstNotLet_45 rfl (sh_H6 hh) s7 s8 (fun r15 => ?_)
      refine x_aloadn (q := 47) 1 rfl rfl rfl dX2_firstNotLet_46 rfl ?_
      refine x_getr (q := 50) dX2_firstNotLet_47 rfl fa_X2_30 (sh_H0 hh) rfl ?_
      refine x_iloadn (q := 51) 3 rfl rfl dX2_firstNotLet_50 rfl ?_
      refine x_iald (q := 52) dX2_firstNotLet_51 rfl (sh_H7 hh) s7 s8 (fun r16 => ?_)
      refine x_callS (q := 55) (d := d - 1) (as := [vI z14, vI l1, vI (m13 (h + 6) l2), vI (m13 (h + 7) l2)]) (st := []) dX2_firstNotLet_52 rfl ms_X2_125 rfl rfl (by exact Nat.le_of_ble_eq_true rfl) ⟨by show _ ≤ d; omega, by show _ ≤ 40 * d; omega⟩ ⟨Nat.le_refl _, Nat.le_refl _⟩ (ct_areLet ?_)
      show E_X2_firstNotLet G d 55 [(3, vI z14), (0, vR h), (1, vI l1), (2, vI l2)] [vI (bz (iand (ishr z14 (2 * iand (ishr l1 (m13 (h + 6) l2)) 1 + iand (ishr l1 (m13 (h + 7) l2)) 1)) 1 ≠ 0))] m13 Q
      obtain ⟨H1, H2⟩ := H
      refine x_if_ne (tgt := 60) (q := 58) dX2_firstNotLet_55 (by decide) rfl (bz_inr _) (fun hB => ?_) (fun hB => ?_)
      · have H := H1 (bz_n0.mp hB)
        refine x_iinc (q := 63) (ls' := [(2, vI (l2 + 1)), (3, vI z14), (0, vR h), (1, vI l1)]) 3 rfl (by decide) rfl dX2_firstNotLet_60 rfl ?_
        refine x_goto (tgt := 2) dX2_firstNotLet_63 (by decide) ?_
        refine x_sub [2, 3, 0] rfl ?_
        exact H
      · have H := H2 (fun z => hB (bz_n0.mpr z))
        refine x_iloadn (q := 59) 3 rfl rfl dX2_firstNotLet_58 rfl ?_
        exact x_iret rfl dX2_firstNotLet_59 H
abbrev E_X2_ledFrom (G : GT) (d pc : Nat) (ls : List (Nat × AV)) (st : List AV) (mem : Mem) (Q : Option AV → Mem → Prop) : Prop := Ex G RX2 cX2_ledFrom 6 (some .int) d pc ls st mem Q
abbrev C_X2_ledFrom (G : GT) (d : Nat) (as : List AV) (mem : Mem) (Q : Option AV → Mem → Prop) : Prop := Ct G yX2_ledFrom cX2_ledFrom 6 (some .int) d as mem Q
set_option maxRecDepth 20000 in
set_option maxHeartbeats 4000000 in
theorem B_X2_ledFrom {G : GT} {d : Nat} {h : Nat} (hh : isH h) {l1 : Int} {mem : Mem} {Q : Option AV → Mem → Prop} (hd : 1 ≤ d) (H : E_X2_ledFrom G d 6 [(0, vR h), (2, vI (ishl 1 l1)), (3, vI 0)] [] mem Q) : C_X2_ledFrom G d [vR h, vI l1] mem Q := by
  refine Ct_of_Ex (by decide +kernel) (by exact Nat.le_of_ble_eq_true rfl) (ls := [(0, vR h), (1, vI l1)]) rfl ?_
  show E_X2_ledFrom G d 0 [(0, vR h), (1, vI l1)] [] mem Q
  refine x_iconst (q := 1) dX2_ledFrom_0 rfl ?_
  refine x_iloadn (q := 2) 1 rfl rfl dX2_ledFrom_1 rfl ?_
  refine x_ishl (q := 3) dX2_ledFrom_2 rfl ?_
  refine x_istoren (q := 4) (ls' := [(2, vI (ishl 1 l1)), (0, vR h), (1, vI l1)]) rfl (by decide) rfl dX2_ledFrom_3 rfl ?_
  refine x_iconst (q := 5) dX2_ledFrom_4 rfl ?_
  refine x_istoren (q := 6) (ls' := [(3, vI 0), (2, vI (ishl 1 l1)), (0, vR h), (1, vI l1)]) rfl (by decide) rfl dX2_ledFrom_5 rfl ?_
  refine x_sub [2, 1, 0] rfl ?_
  exact H
set_option maxRecDepth 20000 in
set_option maxHeartbeats 4000000 in
theorem B_X2_ledFrom_6 {G : GT} {d : Nat} {h : Nat} (hh : isH h) {l2 : Int} {l3 : Int} {mem : Mem} {Q : Option AV → Mem → Prop} (hd : 1 ≤ d) (H : (inr l3) ∧ (((mem h 0 ≤ l3) → (Q (some (vI l2)) mem)) ∧ (¬ (mem h 0 ≤ l3) → (E_X2_ledFrom G d 17 [(0, vR h), (2, vI l2), (3, vI l3), (4, vI 0)] [] mem Q)))) : E_X2_ledFrom G d 6 [(0, vR h), (2, vI l2), (3, vI l3)] [] mem Q := by
  refine x_iloadn (q := 7) 2 rfl rfl dX2_ledFrom_6 rfl ?_
  refine x_aloadn (q := 8) 0 rfl rfl rfl dX2_ledFrom_7 rfl ?_
  refine x_geti (q := 11) (ji := 0) dX2_ledFrom_8 rfl fa_X2_48 (sh_H0 hh) rfl rfl (fun r1 => ?_)
  obtain ⟨s2, H⟩ := H
  obtain ⟨H1, H2⟩ := H
  refine x_icmp_ge (tgt := 112) (q := 14) dX2_ledFrom_11 (by decide) rfl s2 r1 (fun hB => ?_) (fun hB => ?_)
  · have H := H1 (hB)
    refine x_iloadn (q := 113) 1 rfl rfl dX2_ledFrom_112 rfl ?_
    exact x_iret rfl dX2_ledFrom_113 H
  · have H := H2 (hB)
    refine x_iconst (q := 15) dX2_ledFrom_14 rfl ?_
    refine x_istore (q := 17) (ls' := [(4, vI 0), (0, vR h), (2, vI l2), (3, vI l3)]) (by decide) rfl dX2_ledFrom_15 rfl ?_
    refine x_sub [1, 2, 3, 0] rfl ?_
    exact H
set_option maxRecDepth 20000 in
set_option maxHeartbeats 4000000 in
theorem B_X2_ledFrom_17 {G : GT} {d : Nat} {h : Nat} (hh : isH h) {l2 : Int} {l3 : Int} {l4 : Int} {mem : Mem} {Q : Option AV → Mem → Prop} (hd : 2 ≤ d) (H : (inr l4) ∧ (((mem h 6 ≤ l4) → (E_X2_ledFrom G d 6 [(0, vR h), (2, vI l2), (3, vI (l3 + 1))] [] mem Q)) ∧ (¬ (mem h 6 ≤ l4) → ((¬ (land (lshr (mem h 10) l4) 1 ≠ 0) → (E_X2_ledFrom G d 17 [(0, vR h), (2, vI l2), (3, vI l3), (4, vI (l4 + 1))] [] mem Q)) ∧ ((land (lshr (mem h 10) l4) 1 ≠ 0) → ((¬ (land (lshr (mem h 9) l4) 1 ≠ 0) → (E_X2_ledFrom G d 17 [(0, vR h), (2, vI l2), (3, vI l3), (4, vI (l4 + 1))] [] mem Q)) ∧ ((land (lshr (mem h 9) l4) 1 ≠ 0) → ((0 ≤ l4 ∧ l4 < 60) ∧ ((0 ≤ mem (h + 6) l4 ∧ mem (h + 6) l4 < 12) ∧ ((0 ≤ mem (h + 1) (mem (h + 6) l4) ∧ mem (h + 1) (mem (h + 6) l4) < 6) ∧ ((¬ (mem (h + 1) (mem (h + 6) l4) ≠ 3 ∧ mem (h + 1) (mem (h + 6) l4) ≠ 5) → (E_X2_ledFrom G d 17 [(0, vR h), (2, vI l2), (3, vI l3), (4, vI (l4 + 1))] [] mem Q)) ∧ ((mem (h + 1) (mem (h + 6) l4) ≠ 3 ∧ mem (h + 1) (mem (h + 6) l4) ≠ 5) → (((iand (ishr l2 (mem (h + 6) l4)) 1 = 0) → (E_X2_ledFrom G d 17 [(0, vR h), (2, vI l2), (3, vI l3), (4, vI (l4 + 1))] [] mem Q)) ∧ (¬ (iand (ishr l2 (mem (h + 6) l4)) 1 = 0) → (E_X2_ledFrom G d 17 [(0, vR h), (2, vI (ior l2 (ishl 1 (mem (h + 7) l4)))), (3, vI l3), (4, vI (l4 + 1))] [] mem Q))))))))))))))) : E_X2_ledFrom G d 17 [(0, vR h), (2, vI l2), (3, vI l3), (4, vI l4)] [] mem Q := by
  refine x_iload (q := 19) 3 rfl dX2_ledFrom_17 rfl ?_
  refine x_aloadn (q := 20) 0 rfl rfl rfl dX2_ledFrom_19 rfl ?_
  refine x_geti (q := 23) (ji := 6) dX2_ledFrom_20 rfl fa_X2_57 (sh_H0 hh) rfl rfl (fun r5 => ?_)
  obtain ⟨s6, H⟩ := H
  obtain ⟨H1, H2⟩ := H
  refine x_icmp_ge (tgt := 106) (q := 26) dX2_ledFrom_23 (by decide) rfl s6 r5 (fun hB => ?_) (fun hB => ?_)
  · have H := H1 (hB)
    refine x_iinc (q := 109) (ls' := [(3, vI (l3 + 1)), (0, vR h), (2, vI l2), (4, vI l4)]) 2 rfl (by decide) rfl dX2_ledFrom_106 rfl ?_
    refine x_goto (tgt := 6) dX2_ledFrom_109 (by decide) ?_
    refine x_sub [1, 2, 0] rfl ?_
    exact H
  · have H := H2 (hB)
    refine x_aloadn (q := 27) 0 rfl rfl rfl dX2_ledFrom_26 rfl ?_
    refine x_iload (q := 29) 3 rfl dX2_ledFrom_27 rfl ?_
    refine x_callV (q := 32) (d := d - 1) (as := [vI l4]) (st := []) dX2_ledFrom_29 rfl mv_X2_104 (sh_H0 hh) rfl rfl rfl (by exact Nat.le_of_ble_eq_true rfl) ⟨by show _ ≤ d; omega, by show _ ≤ 40 * d; omega⟩ ⟨Nat.le_refl _, Nat.le_refl _⟩ (ct_isValid hh ?_)
    show E_X2_ledFrom G d 32 [(0, vR h), (2, vI l2), (3, vI l3), (4, vI l4)] [vI (bz (land (lshr (mem h 10) l4) 1 ≠ 0))] mem Q
    obtain ⟨H1, H2⟩ := H
    refine x_if_eq (tgt := 66) (q := 35) dX2_ledFrom_32 (by decide) rfl (bz_inr _) (fun hB => ?_) (fun hB => ?_)
    · have H := H1 (bz_0.mp hB)
      refine x_iconst (q := 67) dX2_ledFrom_66 rfl ?_
      refine x_istore (q := 69) (ls' := [(5, vI 0), (0, vR h), (2, vI l2), (3, vI l3), (4, vI l4)]) (by decide) rfl dX2_ledFrom_67 rfl ?_
      refine x_iload (q := 71) 0 rfl dX2_ledFrom_69 rfl ?_
      refine x_if_eq (tgt := 100) (q := 74) dX2_ledFrom_71 (by decide) rfl (by decide) (fun _ => ?_) (fun h => absurd (by decide) h)
      refine x_iinc (q := 103) (ls' := [(4, vI (l4 + 1)), (5, vI 0), (0, vR h), (2, vI l2), (3, vI l3)]) 4 rfl (by decide) rfl dX2_ledFrom_100 rfl ?_
      refine x_goto (tgt := 17) dX2_ledFrom_103 (by decide) ?_
      refine x_sub [2, 3, 4, 0] rfl ?_
      exact H
    · have H := H2 (Classical.byContradiction (fun z => hB (bz_0.mpr z)))
      refine x_aloadn (q := 36) 0 rfl rfl rfl dX2_ledFrom_35 rfl ?_
      refine x_iload (q := 38) 3 rfl dX2_ledFrom_36 rfl ?_
      refine x_callV (q := 41) (d := d - 1) (as := [vI l4]) (st := []) dX2_ledFrom_38 rfl mv_X2_116 (sh_H0 hh) rfl rfl rfl (by exact Nat.le_of_ble_eq_true rfl) ⟨by show _ ≤ d; omega, by show _ ≤ 40 * d; omega⟩ ⟨Nat.le_refl _, Nat.le_refl _⟩ (ct_saidWhole hh ?_)
      show E_X2_ledFrom G d 41 [(0, vR h), (2, vI l2), (3, vI l3), (4, vI l4)] [vI (bz (land (lshr (mem h 9) l4) 1 ≠ 0))] mem Q
      obtain ⟨H1, H2⟩ := H
      refine x_if_eq (tgt := 66) (q := 44) dX2_ledFrom_41 (by decide) rfl (bz_inr _) (fun hB => ?_) (fun hB => ?_)
      · have H := H1 (bz_0.mp hB)
        refine x_iconst (q := 67) dX2_ledFrom_66 rfl ?_
        refine x_istore (q := 69) (ls' := [(5, vI 0), (0, vR h), (2, vI l2), (3, vI l3), (4, vI l4)]) (by decide) rfl dX2_ledFrom_67 rfl ?_
        refine x_iload (q := 71) 0 rfl dX2_ledFrom_69 rfl ?_
        refine x_if_eq (tgt := 100) (q := 74) dX2_ledFrom_71 (by decide) rfl (by decide) (fun _ => ?_) (fun h => absurd (by decide) h)
        refine x_iinc (q := 103) (ls' := [(4, vI (l4 + 1)), (5, vI 0), (0, vR h), (2, vI l2), (3, vI l3)]) 4 rfl (by decide) rfl dX2_ledFrom_100 rfl ?_
        refine x_goto (tgt := 17) dX2_ledFrom_103 (by decide) ?_
        refine x_sub [2, 3, 4, 0] rfl ?_
        exact H
      · have H := H2 (Classical.byContradiction (fun z => hB (bz_0.mpr z)))
        refine x_aloadn (q := 45) 0 rfl rfl rfl dX2_ledFrom_44 rfl ?_
        refine x_getr (q := 48) dX2_ledFrom_45 rfl fa_X2_9 (sh_H0 hh) rfl ?_
        refine x_aloadn (q := 49) 0 rfl rfl rfl dX2_ledFrom_48 rfl ?_
        refine x_getr (q := 52) dX2_ledFrom_49 rfl fa_X2_27 (sh_H0 hh) rfl ?_
        refine x_iload (q := 54) 3 rfl dX2_ledFrom_52 rfl ?_
        obtain ⟨⟨s13, s14⟩, H⟩ := H
        refine x_iald (q := 55) dX2_ledFrom_54 rfl (sh_H6 hh) s13 s14 (fun r15 => ?_)
        obtain ⟨⟨s16, s17⟩, H⟩ := H
        refine x_iald (q := 56) dX2_ledFrom_55 rfl (sh_H1 hh) s16 s17 (fun r18 => ?_)
        obtain ⟨⟨s19, s20⟩, H⟩ := H
        refine x_callS (q := 59) (d := d - 1) (as := [vI (mem (h + 1) (mem (h + 6) l4))]) (st := []) dX2_ledFrom_56 rfl ms_X2_129 rfl rfl (by exact Nat.le_of_ble_eq_true rfl) ⟨by show _ ≤ d; omega, by show _ ≤ 40 * d; omega⟩ ⟨Nat.le_refl _, Nat.le_refl _⟩ (ct_vouches (by omega) s19 s20 ?_)
        show E_X2_ledFrom G d 59 [(0, vR h), (2, vI l2), (3, vI l3), (4, vI l4)] [vI (bz (mem (h + 1) (mem (h + 6) l4) ≠ 3 ∧ mem (h + 1) (mem (h + 6) l4) ≠ 5))] mem Q
        obtain ⟨H1, H2⟩ := H
        refine x_if_eq (tgt := 66) (q := 62) dX2_ledFrom_59 (by decide) rfl (bz_inr _) (fun hB => ?_) (fun hB => ?_)
        · have H := H1 (bz_0.mp hB)
          refine x_iconst (q := 67) dX2_ledFrom_66 rfl ?_
          refine x_istore (q := 69) (ls' := [(5, vI 0), (0, vR h), (2, vI l2), (3, vI l3), (4, vI l4)]) (by decide) rfl dX2_ledFrom_67 rfl ?_
          refine x_iload (q := 71) 0 rfl dX2_ledFrom_69 rfl ?_
          refine x_if_eq (tgt := 100) (q := 74) dX2_ledFrom_71 (by decide) rfl (by decide) (fun _ => ?_) (fun h => absurd (by decide) h)
          refine x_iinc (q := 103) (ls' := [(4, vI (l4 + 1)), (5, vI 0), (0, vR h), (2, vI l2), (3, vI l3)]) 4 rfl (by decide) rfl dX2_ledFrom_100 rfl ?_
          refine x_goto (tgt := 17) dX2_ledFrom_103 (by decide) ?_
          refine x_sub [2, 3, 4, 0] rfl ?_
          exact H
        · have H := H2 (Classical.byContradiction (fun z => hB (bz_0.mpr z)))
          refine x_iconst (q := 63) dX2_ledFrom_62 rfl ?_
          refine x_goto (tgt := 67) dX2_ledFrom_63 (by decide) ?_
          refine x_istore (q := 69) (ls' := [(5, vI 1), (0, vR h), (2, vI l2), (3, vI l3), (4, vI l4)]) (by decide) rfl dX2_ledFrom_67 rfl ?_
          refine x_iload (q := 71) 0 rfl dX2_ledFrom_69 rfl ?_
          refine x_if_eq (tgt := 100) (q := 74) dX2_ledFrom_71 (by decide) rfl (by decide) (fun h => absurd h (by decide)) (fun _ => ?_)
          refine x_iloadn (q := 75) 2 rfl rfl dX2_ledFrom_74 rfl ?_
          refine x_aloadn (q := 76) 1 rfl rfl rfl dX2_ledFrom_75 rfl ?_
          refine x_getr (q := 79) dX2_ledFrom_76 rfl fa_X2_27 (sh_H0 hh) rfl ?_
          refine x_iload (q := 81) 4 rfl dX2_ledFrom_79 rfl ?_
          refine x_iald (q := 82) dX2_ledFrom_81 rfl (sh_H6 hh) s13 s14 (fun r23 => ?_)
          refine x_ishr (q := 83) dX2_ledFrom_82 rfl ?_
          refine x_iconst (q := 84) dX2_ledFrom_83 rfl ?_
          refine x_iand (q := 85) dX2_ledFrom_84 rfl ?_
          obtain ⟨H1, H2⟩ := H
          refine x_if_eq (tgt := 100) (q := 88) dX2_ledFrom_85 (by decide) rfl (iand_inr _ _) (fun hB => ?_) (fun hB => ?_)
          · have H := H1 (hB)
            refine x_iinc (q := 103) (ls' := [(4, vI (l4 + 1)), (5, vI 1), (0, vR h), (2, vI l2), (3, vI l3)]) 4 rfl (by decide) rfl dX2_ledFrom_100 rfl ?_
            refine x_goto (tgt := 17) dX2_ledFrom_103 (by decide) ?_
            refine x_sub [2, 3, 4, 0] rfl ?_
            exact H
          · have H := H2 (hB)
            refine x_iloadn (q := 89) 2 rfl rfl dX2_ledFrom_88 rfl ?_
            refine x_iconst (q := 90) dX2_ledFrom_89 rfl ?_
            refine x_aloadn (q := 91) 1 rfl rfl rfl dX2_ledFrom_90 rfl ?_
            refine x_getr (q := 94) dX2_ledFrom_91 rfl fa_X2_30 (sh_H0 hh) rfl ?_
            refine x_iload (q := 96) 4 rfl dX2_ledFrom_94 rfl ?_
            refine x_iald (q := 97) dX2_ledFrom_96 rfl (sh_H7 hh) s13 s14 (fun r26 => ?_)
            refine x_ishl (q := 98) dX2_ledFrom_97 rfl ?_
            refine x_ior (q := 99) dX2_ledFrom_98 rfl ?_
            refine x_istoren (q := 100) (ls' := [(2, vI (ior l2 (ishl 1 (mem (h + 7) l4)))), (5, vI 1), (0, vR h), (3, vI l3), (4, vI l4)]) rfl (by decide) rfl dX2_ledFrom_99 rfl ?_
            refine x_iinc (q := 103) (ls' := [(4, vI (l4 + 1)), (2, vI (ior l2 (ishl 1 (mem (h + 7) l4)))), (5, vI 1), (0, vR h), (3, vI l3)]) 4 rfl (by decide) rfl dX2_ledFrom_100 rfl ?_
            refine x_goto (tgt := 17) dX2_ledFrom_103 (by decide) ?_
            refine x_sub [3, 1, 4, 0] rfl ?_
            exact H
abbrev E_X2_validSayings (G : GT) (d pc : Nat) (ls : List (Nat × AV)) (st : List AV) (mem : Mem) (Q : Option AV → Mem → Prop) : Prop := Ex G RX2 cX2_validSayings 1 (some .int) d pc ls st mem Q
abbrev C_X2_validSayings (G : GT) (d : Nat) (as : List AV) (mem : Mem) (Q : Option AV → Mem → Prop) : Prop := Ct G yX2_validSayings cX2_validSayings 1 (some .int) d as mem Q
set_option maxRecDepth 20000 in
set_option maxHeartbeats 4000000 in
theorem B_X2_validSayings {G : GT} {d : Nat} {h : Nat} (hh : isH h) {mem : Mem} {Q : Option AV → Mem → Prop} (hd : 1 ≤ d) (H : C_J13_bitCount_95d88 G (d - 1) [vL (mem h 10)] mem (fun r9 m2 => ∃ z3 : Int, r9 = some (vI z3) ∧ (Q (some (vI z3)) m2))) : C_X2_validSayings G d [vR h] mem Q := by
  refine Ct_of_Ex (by decide +kernel) (by exact Nat.le_of_ble_eq_true rfl) (ls := [(0, vR h)]) rfl ?_
  show E_X2_validSayings G d 0 [(0, vR h)] [] mem Q
  refine x_aloadn (q := 1) 0 rfl rfl rfl dX2_validSayings_0 rfl ?_
  refine x_getl (q := 4) (ji := 10) dX2_validSayings_1 rfl fa_X2_64 (sh_H0 hh) rfl rfl (fun r1 => ?_)
  refine x_callS (q := 7) (d := d - 1) (as := [vL (mem h 10)]) (st := []) dX2_validSayings_4 rfl ms_X2_111 rfl rfl (by exact Nat.le_of_ble_eq_true rfl) ⟨by show _ ≤ d; omega, by show _ ≤ 40 * d; omega⟩ ⟨Nat.le_refl _, Nat.le_refl _⟩ (Ct.mono H (fun r9 m2 H => ?_))
  obtain ⟨z3, rfl, H⟩ := H
  show E_X2_validSayings G d 7 [(0, vR h)] [vI z3] m2 Q
  exact x_iret rfl dX2_validSayings_7 H
abbrev E_X11_whyNot (G : GT) (d pc : Nat) (ls : List (Nat × AV)) (st : List AV) (mem : Mem) (Q : Option AV → Mem → Prop) : Prop := Ex G RX11 cX11_whyNot 3 (some .int) d pc ls st mem Q
abbrev C_X11_whyNot (G : GT) (d : Nat) (as : List AV) (mem : Mem) (Q : Option AV → Mem → Prop) : Prop := Ct G yX11_whyNot cX11_whyNot 3 (some .int) d as mem Q
set_option maxRecDepth 20000 in
set_option maxHeartbeats 4000000 in
theorem B_X11_whyNot {G : GT} {d : Nat} {l1 : Int} {l2 : Int} {mem : Mem} {Q : Option AV → Mem → Prop} (hd : 1 ≤ d) (H : C_X11_areMachines G (d - 1) [vR 71, vI l1, vI l2] mem (fun r9 m1 => ∃ z2 : Int, r9 = some (vI z2) ∧ ((inr z2) ∧ (((z2 ≠ 0) → ((inr l1 ∧ inr l2) ∧ (((l1 = l2) → (Q (some (vI (-1000003))) m1)) ∧ (¬ (l1 = l2) → ((0 ≤ 41 + 12 * l1 + l2 ∧ 41 + 12 * l1 + l2 < 553) ∧ (((m1 72 (41 + 12 * l1 + l2) ≠ 0) → (((m1 72 1 ≠ 60) → (Q (some (vI 0)) m1)) ∧ (¬ (m1 72 1 ≠ 60) → (Q (some (vI (-1000004))) m1)))) ∧ (¬ (m1 72 (41 + 12 * l1 + l2) ≠ 0) → (Q (some (vI (-1000003))) m1)))))))) ∧ (¬ (z2 ≠ 0) → (Q (some (vI (-1000001))) m1)))))) : C_X11_whyNot G d [vR 71, vI l1, vI l2] mem Q := by
  refine Ct_of_Ex (by decide +kernel) (by exact Nat.le_of_ble_eq_true rfl) (ls := [(0, vR 71), (1, vI l1), (2, vI l2)]) rfl ?_
  show E_X11_whyNot G d 0 [(0, vR 71), (1, vI l1), (2, vI l2)] [] mem Q
  refine x_aloadn (q := 1) 0 rfl rfl rfl dX11_whyNot_0 rfl ?_
  refine x_iloadn (q := 2) 1 rfl rfl dX11_whyNot_1 rfl ?_
  refine x_iloadn (q := 3) 2 rfl rfl dX11_whyNot_2 rfl ?_
  refine x_callV (q := 6) (d := d - 1) (as := [vI l1, vI l2]) (st := []) dX11_whyNot_3 rfl mv_X11_119 sh_71 rfl rfl rfl (by exact Nat.le_of_ble_eq_true rfl) ⟨by show _ ≤ d; omega, by show _ ≤ 40 * d; omega⟩ ⟨Nat.le_refl _, Nat.le_refl _⟩ (Ct.mono H (fun r9 m1 H => ?_))
  obtain ⟨z2, rfl, H⟩ := H
  show E_X11_whyNot G d 6 [(0, vR 71), (1, vI l1), (2, vI l2)] [vI z2] m1 Q
  obtain ⟨s3, H⟩ := H
  obtain ⟨H1, H2⟩ := H
  refine x_if_ne (tgt := 14) (q := 9) dX11_whyNot_6 (by decide) rfl s3 (fun hB => ?_) (fun hB => ?_)
  · have H := H1 (hB)
    refine x_iloadn (q := 15) 1 rfl rfl dX11_whyNot_14 rfl ?_
    refine x_iloadn (q := 16) 2 rfl rfl dX11_whyNot_15 rfl ?_
    obtain ⟨⟨s6, s7⟩, H⟩ := H
    obtain ⟨H1, H2⟩ := H
    refine x_icmp_eq (tgt := 28) (q := 19) dX11_whyNot_16 (by decide) rfl s6 s7 (fun hB => ?_) (fun hB => ?_)
    · have H := H1 (hB)
      refine x_ldc (q := 30) (z := (-1000003)) cn_X11_122 (by decide) dX11_whyNot_28 rfl ?_
      refine x_goto (tgt := 50) dX11_whyNot_30 (by decide) ?_
      exact x_iret rfl dX11_whyNot_50 H
    · have H := H2 (hB)
      refine x_aloadn (q := 20) 0 rfl rfl rfl dX11_whyNot_19 rfl ?_
      refine x_iloadn (q := 21) 1 rfl rfl dX11_whyNot_20 rfl ?_
      refine x_iloadn (q := 22) 2 rfl rfl dX11_whyNot_21 rfl ?_
      obtain ⟨⟨s10, s11⟩, H⟩ := H
      refine x_callV (q := 25) (d := d - 1) (as := [vI l1, vI l2]) (st := []) dX11_whyNot_22 rfl mv_X11_108 sh_71 rfl rfl rfl (by exact Nat.le_of_ble_eq_true rfl) ⟨by show _ ≤ d; omega, by show _ ≤ 40 * d; omega⟩ ⟨Nat.le_refl _, Nat.le_refl _⟩ (ct_tieOf s10 s11 ?_)
      show E_X11_whyNot G d 25 [(0, vR 71), (1, vI l1), (2, vI l2)] [vI (m1 72 (41 + 12 * l1 + l2))] m1 Q
      refine x_ok (fun hm12 => ?_)
      obtain ⟨H1, H2⟩ := H
      refine x_if_ne (tgt := 33) (q := 28) dX11_whyNot_25 (by decide) rfl (ok_ai hm12 sh_72 (by decide) _) (fun hB => ?_) (fun hB => ?_)
      · have H := H1 (hB)
        refine x_aloadn (q := 34) 0 rfl rfl rfl dX11_whyNot_33 rfl ?_
        refine x_getr (q := 37) dX11_whyNot_34 rfl fa_X11_9 sh_71 rfl ?_
        refine x_iconst (q := 38) dX11_whyNot_37 rfl ?_
        refine x_iald (q := 39) dX11_whyNot_38 rfl sh_72 (by decide) (by decide) (fun r15 => ?_)
        refine x_bipush (q := 41) rfl dX11_whyNot_39 rfl ?_
        obtain ⟨H1, H2⟩ := H
        refine x_icmp_ne (tgt := 49) (q := 44) dX11_whyNot_41 (by decide) rfl r15 (by decide) (fun hB => ?_) (fun hB => ?_)
        · have H := H1 (hB)
          refine x_iconst (q := 50) dX11_whyNot_49 rfl ?_
          exact x_iret rfl dX11_whyNot_50 H
        · have H := H2 (hB)
          refine x_ldc (q := 46) (z := (-1000004)) cn_X11_92 (by decide) dX11_whyNot_44 rfl ?_
          refine x_goto (tgt := 50) dX11_whyNot_46 (by decide) ?_
          exact x_iret rfl dX11_whyNot_50 H
      · have H := H2 (hB)
        refine x_ldc (q := 30) (z := (-1000003)) cn_X11_122 (by decide) dX11_whyNot_28 rfl ?_
        refine x_goto (tgt := 50) dX11_whyNot_30 (by decide) ?_
        exact x_iret rfl dX11_whyNot_50 H
  · have H := H2 (hB)
    refine x_ldc (q := 11) (z := (-1000001)) cn_X11_87 (by decide) dX11_whyNot_9 rfl ?_
    refine x_goto (tgt := 50) dX11_whyNot_11 (by decide) ?_
    exact x_iret rfl dX11_whyNot_50 H
abbrev E_X11_barsOf (G : GT) (d pc : Nat) (ls : List (Nat × AV)) (st : List AV) (mem : Mem) (Q : Option AV → Mem → Prop) : Prop := Ex G RX11 cX11_barsOf 3 (some .int) d pc ls st mem Q
abbrev C_X11_barsOf (G : GT) (d : Nat) (as : List AV) (mem : Mem) (Q : Option AV → Mem → Prop) : Prop := Ct G yX11_barsOf cX11_barsOf 3 (some .int) d as mem Q
set_option maxRecDepth 20000 in
set_option maxHeartbeats 4000000 in
theorem B_X11_barsOf {G : GT} {d : Nat} {l1 : Int} {mem : Mem} {Q : Option AV → Mem → Prop} (hd : 1 ≤ d) (H : (inr (sm 12 (fun k => iand (ishr l1 k) 1))) ∧ (((sm 12 (fun k => iand (ishr l1 k) 1) ≤ mem 72 2) → (E_X11_barsOf G d 18 [(0, vR 71), (1, vI l1), (2, vI 0)] [] mem Q)) ∧ (¬ (sm 12 (fun k => iand (ishr l1 k) 1) ≤ mem 72 2) → (Q (some (vI 100)) mem)))) : C_X11_barsOf G d [vR 71, vI l1] mem Q := by
  refine Ct_of_Ex (by decide +kernel) (by exact Nat.le_of_ble_eq_true rfl) (ls := [(0, vR 71), (1, vI l1)]) rfl ?_
  show E_X11_barsOf G d 0 [(0, vR 71), (1, vI l1)] [] mem Q
  refine x_iloadn (q := 1) 1 rfl rfl dX11_barsOf_0 rfl ?_
  refine x_callS (q := 4) (d := d - 1) (as := [vI l1]) (st := []) dX11_barsOf_1 rfl ms_X11_202 rfl rfl (by exact Nat.le_of_ble_eq_true rfl) ⟨by show _ ≤ d; omega, by show _ ≤ 40 * d; omega⟩ ⟨Nat.le_refl _, Nat.le_refl _⟩ (ct_bits ?_)
  show E_X11_barsOf G d 4 [(0, vR 71), (1, vI l1)] [vI (sm 12 (fun k => iand (ishr l1 k) 1))] mem Q
  refine x_aloadn (q := 5) 0 rfl rfl rfl dX11_barsOf_4 rfl ?_
  refine x_getr (q := 8) dX11_barsOf_5 rfl fa_X11_9 sh_71 rfl ?_
  refine x_iconst (q := 9) dX11_barsOf_8 rfl ?_
  refine x_iald (q := 10) dX11_barsOf_9 rfl sh_72 (by decide) (by decide) (fun r1 => ?_)
  obtain ⟨s2, H⟩ := H
  obtain ⟨H1, H2⟩ := H
  refine x_icmp_le (tgt := 16) (q := 13) dX11_barsOf_10 (by decide) rfl s2 r1 (fun hB => ?_) (fun hB => ?_)
  · have H := H1 (hB)
    refine x_iconst (q := 17) dX11_barsOf_16 rfl ?_
    refine x_istoren (q := 18) (ls' := [(2, vI 0), (0, vR 71), (1, vI l1)]) rfl (by decide) rfl dX11_barsOf_17 rfl ?_
    refine x_sub [1, 2, 0] rfl ?_
    exact H
  · have H := H2 (hB)
    refine x_bipush (q := 15) rfl dX11_barsOf_13 rfl ?_
    exact x_iret rfl dX11_barsOf_15 H
set_option maxRecDepth 20000 in
set_option maxHeartbeats 4000000 in
theorem B_X11_barsOf_18 {G : GT} {d : Nat} {l1 : Int} {l2 : Int} {mem : Mem} {Q : Option AV → Mem → Prop} (hd : 2 ≤ d) (H : (inr l2) ∧ (((mem 72 1 ≤ l2) → (Q (some (vI (-1))) mem)) ∧ (¬ (mem 72 1 ≤ l2) → ((0 ≤ l2 ∧ l2 < 60) ∧ ((¬ (mem 72 (185 + 4 * l2 + 3) = 1) → (E_X11_barsOf G d 18 [(0, vR 71), (1, vI l1), (2, vI (l2 + 1))] [] mem Q)) ∧ ((mem 72 (185 + 4 * l2 + 3) = 1) → (C_X11_isLet_ G (d - 1) [vR 71, vI l1, vI l2] mem (fun r9 m13 => ∃ z14 : Int, r9 = some (vI z14) ∧ ((inr z14) ∧ (((z14 ≠ 0) → (E_X11_barsOf G d 18 [(0, vR 71), (1, vI l1), (2, vI (l2 + 1))] [] m13 Q)) ∧ (¬ (z14 ≠ 0) → (Q (some (vI l2)) m13)))))))))))) : E_X11_barsOf G d 18 [(0, vR 71), (1, vI l1), (2, vI l2)] [] mem Q := by
  refine x_iloadn (q := 19) 2 rfl rfl dX11_barsOf_18 rfl ?_
  refine x_aloadn (q := 20) 0 rfl rfl rfl dX11_barsOf_19 rfl ?_
  refine x_getr (q := 23) dX11_barsOf_20 rfl fa_X11_9 sh_71 rfl ?_
  refine x_iconst (q := 24) dX11_barsOf_23 rfl ?_
  refine x_iald (q := 25) dX11_barsOf_24 rfl sh_72 (by decide) (by decide) (fun r5 => ?_)
  obtain ⟨s6, H⟩ := H
  obtain ⟨H1, H2⟩ := H
  refine x_icmp_ge (tgt := 53) (q := 28) dX11_barsOf_25 (by decide) rfl s6 r5 (fun hB => ?_) (fun hB => ?_)
  · have H := H1 (hB)
    refine x_iconst (q := 54) dX11_barsOf_53 rfl ?_
    exact x_iret rfl dX11_barsOf_54 H
  · have H := H2 (hB)
    refine x_aloadn (q := 29) 0 rfl rfl rfl dX11_barsOf_28 rfl ?_
    refine x_iloadn (q := 30) 2 rfl rfl dX11_barsOf_29 rfl ?_
    obtain ⟨⟨s9, s10⟩, H⟩ := H
    refine x_callV (q := 33) (d := d - 1) (as := [vI l2]) (st := []) dX11_barsOf_30 rfl mv_X11_111 sh_71 rfl rfl rfl (by exact Nat.le_of_ble_eq_true rfl) ⟨by show _ ≤ d; omega, by show _ ≤ 40 * d; omega⟩ ⟨Nat.le_refl _, Nat.le_refl _⟩ (ct_counts (by omega) s9 s10 ?_)
    show E_X11_barsOf G d 33 [(0, vR 71), (1, vI l1), (2, vI l2)] [vI (bz (mem 72 (185 + 4 * l2 + 3) = 1))] mem Q
    obtain ⟨H1, H2⟩ := H
    refine x_if_eq (tgt := 47) (q := 36) dX11_barsOf_33 (by decide) rfl (bz_inr _) (fun hB => ?_) (fun hB => ?_)
    · have H := H1 (bz_0.mp hB)
      refine x_iinc (q := 50) (ls' := [(2, vI (l2 + 1)), (0, vR 71), (1, vI l1)]) 2 rfl (by decide) rfl dX11_barsOf_47 rfl ?_
      refine x_goto (tgt := 18) dX11_barsOf_50 (by decide) ?_
      refine x_sub [1, 2, 0] rfl ?_
      exact H
    · have H := H2 (Classical.byContradiction (fun z => hB (bz_0.mpr z)))
      refine x_aloadn (q := 37) 0 rfl rfl rfl dX11_barsOf_36 rfl ?_
      refine x_iloadn (q := 38) 1 rfl rfl dX11_barsOf_37 rfl ?_
      refine x_iloadn (q := 39) 2 rfl rfl dX11_barsOf_38 rfl ?_
      refine x_callV (q := 42) (d := d - 1) (as := [vI l1, vI l2]) (st := []) dX11_barsOf_39 rfl mv_X11_205 sh_71 rfl rfl rfl (by exact Nat.le_of_ble_eq_true rfl) ⟨by show _ ≤ d; omega, by show _ ≤ 40 * d; omega⟩ ⟨Nat.le_refl _, Nat.le_refl _⟩ (Ct.mono H (fun r9 m13 H => ?_))
      obtain ⟨z14, rfl, H⟩ := H
      show E_X11_barsOf G d 42 [(0, vR 71), (1, vI l1), (2, vI l2)] [vI z14] m13 Q
      obtain ⟨s15, H⟩ := H
      obtain ⟨H1, H2⟩ := H
      refine x_if_ne (tgt := 47) (q := 45) dX11_barsOf_42 (by decide) rfl s15 (fun hB => ?_) (fun hB => ?_)
      · have H := H1 (hB)
        refine x_iinc (q := 50) (ls' := [(2, vI (l2 + 1)), (0, vR 71), (1, vI l1)]) 2 rfl (by decide) rfl dX11_barsOf_47 rfl ?_
        refine x_goto (tgt := 18) dX11_barsOf_50 (by decide) ?_
        refine x_sub [1, 2, 0] rfl ?_
        exact H
      · have H := H2 (hB)
        refine x_iloadn (q := 46) 2 rfl rfl dX11_barsOf_45 rfl ?_
        exact x_iret rfl dX11_barsOf_46 H
