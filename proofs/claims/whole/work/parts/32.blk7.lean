abbrev E_X0_findPair (G : GT) (d pc : Nat) (ls : List (Nat × AV)) (st : List AV) (mem : Mem) (Q : Option AV → Mem → Prop) : Prop := Ex G RX0 cX0_findPair 4 none d pc ls st mem Q
abbrev C_X0_findPair (G : GT) (d : Nat) (as : List AV) (mem : Mem) (Q : Option AV → Mem → Prop) : Prop := Ct G yX0_findPair cX0_findPair 4 none d as mem Q
abbrev E_X0_look (G : GT) (d pc : Nat) (ls : List (Nat × AV)) (st : List AV) (mem : Mem) (Q : Option AV → Mem → Prop) : Prop := Ex G RX0 cX0_look 1 none d pc ls st mem Q
abbrev C_X0_look (G : GT) (d : Nat) (as : List AV) (mem : Mem) (Q : Option AV → Mem → Prop) : Prop := Ct G yX0_look cX0_look 1 none d as mem Q
abbrev E_X0_lookWithout (G : GT) (d pc : Nat) (ls : List (Nat × AV)) (st : List AV) (mem : Mem) (Q : Option AV → Mem → Prop) : Prop := Ex G RX0 cX0_lookWithout 3 none d pc ls st mem Q
abbrev C_X0_lookWithout (G : GT) (d : Nat) (as : List AV) (mem : Mem) (Q : Option AV → Mem → Prop) : Prop := Ct G yX0_lookWithout cX0_lookWithout 3 none d as mem Q
abbrev E_X0_lowerHalf (G : GT) (d pc : Nat) (ls : List (Nat × AV)) (st : List AV) (mem : Mem) (Q : Option AV → Mem → Prop) : Prop := Ex G RX0 cX0_lowerHalf 4 (some .int) d pc ls st mem Q
abbrev C_X0_lowerHalf (G : GT) (d : Nat) (as : List AV) (mem : Mem) (Q : Option AV → Mem → Prop) : Prop := Ct G yX0_lowerHalf cX0_lowerHalf 4 (some .int) d as mem Q
abbrev E_X0_firstOfPair (G : GT) (d pc : Nat) (ls : List (Nat × AV)) (st : List AV) (mem : Mem) (Q : Option AV → Mem → Prop) : Prop := Ex G RX0 cX0_firstOfPair 1 (some .int) d pc ls st mem Q
abbrev C_X0_firstOfPair (G : GT) (d : Nat) (as : List AV) (mem : Mem) (Q : Option AV → Mem → Prop) : Prop := Ct G yX0_firstOfPair cX0_firstOfPair 1 (some .int) d as mem Q
abbrev E_X0_otherOfPair (G : GT) (d pc : Nat) (ls : List (Nat × AV)) (st : List AV) (mem : Mem) (Q : Option AV → Mem → Prop) : Prop := Ex G RX0 cX0_otherOfPair 1 (some .int) d pc ls st mem Q
abbrev C_X0_otherOfPair (G : GT) (d : Nat) (as : List AV) (mem : Mem) (Q : Option AV → Mem → Prop) : Prop := Ct G yX0_otherOfPair cX0_otherOfPair 1 (some .int) d as mem Q
abbrev E_X0_greaterWith (G : GT) (d pc : Nat) (ls : List (Nat × AV)) (st : List AV) (mem : Mem) (Q : Option AV → Mem → Prop) : Prop := Ex G RX0 cX0_greaterWith 7 (some .int) d pc ls st mem Q
abbrev C_X0_greaterWith (G : GT) (d : Nat) (as : List AV) (mem : Mem) (Q : Option AV → Mem → Prop) : Prop := Ct G yX0_greaterWith cX0_greaterWith 7 (some .int) d as mem Q
abbrev E_X0_bestMissingTie (G : GT) (d pc : Nat) (ls : List (Nat × AV)) (st : List AV) (mem : Mem) (Q : Option AV → Mem → Prop) : Prop := Ex G RX0 cX0_bestMissingTie 6 (some .int) d pc ls st mem Q
abbrev C_X0_bestMissingTie (G : GT) (d : Nat) (as : List AV) (mem : Mem) (Q : Option AV → Mem → Prop) : Prop := Ct G yX0_bestMissingTie cX0_bestMissingTie 6 (some .int) d as mem Q
abbrev E_X11_findFree (G : GT) (d pc : Nat) (ls : List (Nat × AV)) (st : List AV) (mem : Mem) (Q : Option AV → Mem → Prop) : Prop := Ex G RX11 cX11_findFree 5 none d pc ls st mem Q
abbrev C_X11_findFree (G : GT) (d : Nat) (as : List AV) (mem : Mem) (Q : Option AV → Mem → Prop) : Prop := Ct G yX11_findFree cX11_findFree 5 none d as mem Q
abbrev E_X11_unionWith (G : GT) (d pc : Nat) (ls : List (Nat × AV)) (st : List AV) (mem : Mem) (Q : Option AV → Mem → Prop) : Prop := Ex G RX11 cX11_unionWith 8 (some .int) d pc ls st mem Q
abbrev C_X11_unionWith (G : GT) (d : Nat) (as : List AV) (mem : Mem) (Q : Option AV → Mem → Prop) : Prop := Ct G yX11_unionWith cX11_unionWith 8 (some .int) d as mem Q
abbrev E_X11_knownWith (G : GT) (d pc : Nat) (ls : List (Nat × AV)) (st : List AV) (mem : Mem) (Q : Option AV → Mem → Prop) : Prop := Ex G RX11 cX11_knownWith 3 (some .int) d pc ls st mem Q
abbrev C_X11_knownWith (G : GT) (d : Nat) (as : List AV) (mem : Mem) (Q : Option AV → Mem → Prop) : Prop := Ct G yX11_knownWith cX11_knownWith 3 (some .int) d as mem Q
set_option maxRecDepth 20000 in
set_option maxHeartbeats 4000000 in
theorem B_X0_findPair {G : GT} {d : Nat}  {mem : Mem} {Q : Option AV → Mem → Prop} (hd : 1 ≤ d) (H : C_X0_reachOut G (d - 1) [vR 42] mem (fun r9 m1 => r9 = none ∧ (∀ m2 : Mem, m2 = upM m1 42 5 13 → (∀ m3 : Mem, m3 = upM m2 42 3 0 → (∀ m4 : Mem, m4 = upM m3 42 4 0 → (E_X0_findPair G d 32 [(0, vR 42), (1, vI (ishl 1 (m4 1 0))), (2, vI 1)] [] m4 Q)))))) : C_X0_findPair G d [vR 42] mem Q := by
  refine Ct_of_Ex (by decide +kernel) (by exact Nat.le_of_ble_eq_true rfl) (ls := [(0, vR 42)]) rfl ?_
  show E_X0_findPair G d 0 [(0, vR 42)] [] mem Q
  refine x_aloadn (q := 1) 0 rfl rfl rfl dX0_findPair_0 rfl ?_
  refine x_callV (q := 4) (d := d - 1) (as := []) (st := []) dX0_findPair_1 rfl mv_X0_48 sh_42 rfl rfl rfl (by exact Nat.le_of_ble_eq_true rfl) ⟨by show _ ≤ d; omega, by show _ ≤ 40 * d; omega⟩ ⟨Nat.le_refl _, Nat.le_refl _⟩ (Ct.mono H (fun r9 m1 H => ?_))
  obtain ⟨rfl, H⟩ := H
  show E_X0_findPair G d 4 [(0, vR 42)] [] m1 Q
  refine x_aloadn (q := 5) 0 rfl rfl rfl dX0_findPair_4 rfl ?_
  refine x_bipush (q := 7) rfl dX0_findPair_5 rfl ?_
  refine x_puti (q := 10) (ji := 5) dX0_findPair_7 rfl fp_X0_51 sh_42 rfl rfl (by decide) (fun m2 em2 => ?_)
  have H := H m2 em2
  refine x_aloadn (q := 11) 0 rfl rfl rfl dX0_findPair_10 rfl ?_
  refine x_iconst (q := 12) dX0_findPair_11 rfl ?_
  refine x_puti (q := 15) (ji := 3) dX0_findPair_12 rfl fp_X0_54 sh_42 rfl rfl (by decide) (fun m3 em3 => ?_)
  have H := H m3 em3
  refine x_aloadn (q := 16) 0 rfl rfl rfl dX0_findPair_15 rfl ?_
  refine x_iconst (q := 17) dX0_findPair_16 rfl ?_
  refine x_puti (q := 20) (ji := 4) dX0_findPair_17 rfl fp_X0_57 sh_42 rfl rfl (by decide) (fun m4 em4 => ?_)
  have H := H m4 em4
  refine x_iconst (q := 21) dX0_findPair_20 rfl ?_
  refine x_aloadn (q := 22) 0 rfl rfl rfl dX0_findPair_21 rfl ?_
  refine x_getr (q := 25) dX0_findPair_22 rfl fa_X0_18 sh_42 rfl ?_
  refine x_geti (q := 28) (ji := 0) dX0_findPair_25 rfl fa_X0_34 sh_1 rfl rfl (fun r5 => ?_)
  refine x_ishl (q := 29) dX0_findPair_28 rfl ?_
  refine x_istoren (q := 30) (ls' := [(1, vI (ishl 1 (m4 1 0))), (0, vR 42)]) rfl (by decide) rfl dX0_findPair_29 rfl ?_
  refine x_iconst (q := 31) dX0_findPair_30 rfl ?_
  refine x_istoren (q := 32) (ls' := [(2, vI 1), (1, vI (ishl 1 (m4 1 0))), (0, vR 42)]) rfl (by decide) rfl dX0_findPair_31 rfl ?_
  refine x_sub [2, 1, 0] rfl ?_
  exact H
set_option maxRecDepth 20000 in
set_option maxHeartbeats 4000000 in
theorem B_X0_findPair_32 {G : GT} {d : Nat} {l1 : Int} {l2 : Int} {mem : Mem} {Q : Option AV → Mem → Prop} (hd : 2 ≤ d) (H : (inr l2 ∧ inr l1) ∧ (((l1 ≤ l2) → (Q none mem)) ∧ (¬ (l1 ≤ l2) → ((0 ≤ iand (ishl 1 (mem 1 0) - 1) (ixor l2 (-1)) ∧ iand (ishl 1 (mem 1 0) - 1) (ixor l2 (-1)) < 4096) ∧ (((iand l2 (ixor (mem 44 (iand (ishl 1 (mem 1 0) - 1) (ixor l2 (-1)))) (-1)) = 0) → (E_X0_findPair G d 32 [(0, vR 42), (1, vI l1), (2, vI (l2 + 1))] [] mem Q)) ∧ (¬ (iand l2 (ixor (mem 44 (iand (ishl 1 (mem 1 0) - 1) (ixor l2 (-1)))) (-1)) = 0) → (((mem 42 5 ≤ grO l2 (iand l2 (ixor (mem 44 (iand (ishl 1 (mem 1 0) - 1) (ixor l2 (-1)))) (-1)))) → (E_X0_findPair G d 32 [(0, vR 42), (1, vI l1), (2, vI (l2 + 1))] [] mem Q)) ∧ (¬ (mem 42 5 ≤ grO l2 (iand l2 (ixor (mem 44 (iand (ishl 1 (mem 1 0) - 1) (ixor l2 (-1)))) (-1)))) → (∀ m17 : Mem, m17 = upM mem 42 5 (grO l2 (iand l2 (ixor (mem 44 (iand (ishl 1 (mem 1 0) - 1) (ixor l2 (-1)))) (-1)))) → (∀ m18 : Mem, m18 = upM m17 42 3 l2 → (∀ m19 : Mem, m19 = upM m18 42 4 (iand l2 (ixor (mem 44 (iand (ishl 1 (mem 1 0) - 1) (ixor l2 (-1)))) (-1))) → (E_X0_findPair G d 32 [(0, vR 42), (1, vI l1), (2, vI (l2 + 1))] [] m19 Q)))))))))))) : E_X0_findPair G d 32 [(0, vR 42), (1, vI l1), (2, vI l2)] [] mem Q := by
  refine x_iloadn (q := 33) 2 rfl rfl dX0_findPair_32 rfl ?_
  refine x_iloadn (q := 34) 1 rfl rfl dX0_findPair_33 rfl ?_
  obtain ⟨⟨s6, s7⟩, H⟩ := H
  obtain ⟨H1, H2⟩ := H
  refine x_icmp_ge (tgt := 84) (q := 37) dX0_findPair_34 (by decide) rfl s6 s7 (fun hB => ?_) (fun hB => ?_)
  · have H := H1 (hB)
    exact x_vret rfl dX0_findPair_84 H
  · have H := H2 (hB)
    refine x_aloadn (q := 38) 0 rfl rfl rfl dX0_findPair_37 rfl ?_
    refine x_iloadn (q := 39) 2 rfl rfl dX0_findPair_38 rfl ?_
    obtain ⟨⟨s10, s11⟩, H⟩ := H
    refine x_callV (q := 42) (d := d - 1) (as := [vI l2]) (st := []) dX0_findPair_39 rfl mv_X0_60 sh_42 rfl rfl rfl (by exact Nat.le_of_ble_eq_true rfl) ⟨by show _ ≤ d; omega, by show _ ≤ 40 * d; omega⟩ ⟨Nat.le_refl _, Nat.le_refl _⟩ (ct_apartIn (by omega) s10 s11 ?_)
    show E_X0_findPair G d 42 [(0, vR 42), (1, vI l1), (2, vI l2)] [vI (iand l2 (ixor (mem 44 (iand (ishl 1 (mem 1 0) - 1) (ixor l2 (-1)))) (-1)))] mem Q
    refine x_istoren (q := 43) (ls' := [(3, vI (iand l2 (ixor (mem 44 (iand (ishl 1 (mem 1 0) - 1) (ixor l2 (-1)))) (-1)))), (0, vR 42), (1, vI l1), (2, vI l2)]) rfl (by decide) rfl dX0_findPair_42 rfl ?_
    refine x_iloadn (q := 44) 0 rfl rfl dX0_findPair_43 rfl ?_
    obtain ⟨H1, H2⟩ := H
    refine x_if_eq (tgt := 78) (q := 47) dX0_findPair_44 (by decide) rfl (iand_inr _ _) (fun hB => ?_) (fun hB => ?_)
    · have H := H1 (hB)
      refine x_iinc (q := 81) (ls' := [(2, vI (l2 + 1)), (3, vI (iand l2 (ixor (mem 44 (iand (ishl 1 (mem 1 0) - 1) (ixor l2 (-1)))) (-1)))), (0, vR 42), (1, vI l1)]) 3 rfl (by decide) rfl dX0_findPair_78 rfl ?_
      refine x_goto (tgt := 32) dX0_findPair_81 (by decide) ?_
      refine x_sub [2, 3, 0] rfl ?_
      exact H
    · have H := H2 (hB)
      refine x_iloadn (q := 48) 3 rfl rfl dX0_findPair_47 rfl ?_
      refine x_iloadn (q := 49) 0 rfl rfl dX0_findPair_48 rfl ?_
      refine x_callS (q := 52) (d := d - 1) (as := [vI l2, vI (iand l2 (ixor (mem 44 (iand (ishl 1 (mem 1 0) - 1) (ixor l2 (-1)))) (-1)))]) (st := []) dX0_findPair_49 rfl ms_X0_63 rfl rfl (by exact Nat.le_of_ble_eq_true rfl) ⟨by show _ ≤ d; omega, by show _ ≤ 40 * d; omega⟩ ⟨Nat.le_refl _, Nat.le_refl _⟩ (ct_greaterOf (by omega) ?_)
      show E_X0_findPair G d 52 [(3, vI (iand l2 (ixor (mem 44 (iand (ishl 1 (mem 1 0) - 1) (ixor l2 (-1)))) (-1)))), (0, vR 42), (1, vI l1), (2, vI l2)] [vI (grO l2 (iand l2 (ixor (mem 44 (iand (ishl 1 (mem 1 0) - 1) (ixor l2 (-1)))) (-1))))] mem Q
      refine x_aloadn (q := 53) 1 rfl rfl rfl dX0_findPair_52 rfl ?_
      refine x_geti (q := 56) (ji := 5) dX0_findPair_53 rfl fa_X0_51 sh_42 rfl rfl (fun r14 => ?_)
      obtain ⟨H1, H2⟩ := H
      refine x_icmp_ge (tgt := 78) (q := 59) dX0_findPair_56 (by decide) rfl (grO_inr _ _) r14 (fun hB => ?_) (fun hB => ?_)
      · have H := H1 (hB)
        refine x_iinc (q := 81) (ls' := [(2, vI (l2 + 1)), (3, vI (iand l2 (ixor (mem 44 (iand (ishl 1 (mem 1 0) - 1) (ixor l2 (-1)))) (-1)))), (0, vR 42), (1, vI l1)]) 3 rfl (by decide) rfl dX0_findPair_78 rfl ?_
        refine x_goto (tgt := 32) dX0_findPair_81 (by decide) ?_
        refine x_sub [2, 3, 0] rfl ?_
        exact H
      · have H := H2 (hB)
        refine x_aloadn (q := 60) 1 rfl rfl rfl dX0_findPair_59 rfl ?_
        refine x_iloadn (q := 61) 3 rfl rfl dX0_findPair_60 rfl ?_
        refine x_iloadn (q := 62) 0 rfl rfl dX0_findPair_61 rfl ?_
        refine x_callS (q := 65) (d := d - 1) (as := [vI l2, vI (iand l2 (ixor (mem 44 (iand (ishl 1 (mem 1 0) - 1) (ixor l2 (-1)))) (-1)))]) (st := [vR 42]) dX0_findPair_62 rfl ms_X0_63 rfl rfl (by exact Nat.le_of_ble_eq_true rfl) ⟨by show _ ≤ d; omega, by show _ ≤ 40 * d; omega⟩ ⟨Nat.le_refl _, Nat.le_refl _⟩ (ct_greaterOf (by omega) ?_)
        show E_X0_findPair G d 65 [(3, vI (iand l2 (ixor (mem 44 (iand (ishl 1 (mem 1 0) - 1) (ixor l2 (-1)))) (-1)))), (0, vR 42), (1, vI l1), (2, vI l2)] [vI (grO l2 (iand l2 (ixor (mem 44 (iand (ishl 1 (mem 1 0) - 1) (ixor l2 (-1)))) (-1)))), vR 42] mem Q
        refine x_puti (q := 68) (ji := 5) dX0_findPair_65 rfl fp_X0_51 sh_42 rfl rfl (grO_inr _ _) (fun m17 em17 => ?_)
        have H := H m17 em17
        refine x_aloadn (q := 69) 1 rfl rfl rfl dX0_findPair_68 rfl ?_
        refine x_iloadn (q := 70) 3 rfl rfl dX0_findPair_69 rfl ?_
        refine x_puti (q := 73) (ji := 3) dX0_findPair_70 rfl fp_X0_54 sh_42 rfl rfl s6 (fun m18 em18 => ?_)
        have H := H m18 em18
        refine x_aloadn (q := 74) 1 rfl rfl rfl dX0_findPair_73 rfl ?_
        refine x_iloadn (q := 75) 0 rfl rfl dX0_findPair_74 rfl ?_
        refine x_puti (q := 78) (ji := 4) dX0_findPair_75 rfl fp_X0_57 sh_42 rfl rfl (iand_inr _ _) (fun m19 em19 => ?_)
        have H := H m19 em19
        refine x_iinc (q := 81) (ls' := [(2, vI (l2 + 1)), (3, vI (iand l2 (ixor (mem 44 (iand (ishl 1 (mem 1 0) - 1) (ixor l2 (-1)))) (-1)))), (0, vR 42), (1, vI l1)]) 3 rfl (by decide) rfl dX0_findPair_78 rfl ?_
        refine x_goto (tgt := 32) dX0_findPair_81 (by decide) ?_
        refine x_sub [2, 3, 0] rfl ?_
        exact H
set_option maxRecDepth 20000 in
set_option maxHeartbeats 4000000 in
theorem B_X0_look {G : GT} {d : Nat}  {mem : Mem} {Q : Option AV → Mem → Prop} (hd : 1 ≤ d) (H : ∀ m1 : Mem, m1 = cpM mem 5 43 0 0 12 → (C_X0_findPair G (d - 1) [vR 42] m1 (fun r9 m2 => r9 = none ∧ (Q none m2)))) : C_X0_look G d [vR 42] mem Q := by
  refine Ct_of_Ex (by decide +kernel) (by exact Nat.le_of_ble_eq_true rfl) (ls := [(0, vR 42)]) rfl ?_
  show E_X0_look G d 0 [(0, vR 42)] [] mem Q
  refine x_aloadn (q := 1) 0 rfl rfl rfl dX0_look_0 rfl ?_
  refine x_getr (q := 4) dX0_look_1 rfl fa_X0_18 sh_42 rfl ?_
  refine x_getr (q := 7) dX0_look_4 rfl fa_X0_22 sh_1 rfl ?_
  refine x_iconst (q := 8) dX0_look_7 rfl ?_
  refine x_aloadn (q := 9) 0 rfl rfl rfl dX0_look_8 rfl ?_
  refine x_getr (q := 12) dX0_look_9 rfl fa_X0_9 sh_42 rfl ?_
  refine x_iconst (q := 13) dX0_look_12 rfl ?_
  refine x_bipush (q := 15) rfl dX0_look_13 rfl ?_
  refine x_copy (q := 18) (by decide) dX0_look_15 rfl ml_X0_25 ac_nat ac_sta ac_ini sh_5 sh_43 (by decide) (by decide) (by decide) (by decide) (by decide) (fun h => absurd h (by decide)) ⟨by show 1 ≤ d; omega, copyR (by omega)⟩ (fun m1 em1 => ?_)
  have H := H m1 em1
  refine x_aloadn (q := 19) 0 rfl rfl rfl dX0_look_18 rfl ?_
  refine x_callV (q := 22) (d := d - 1) (as := []) (st := []) dX0_look_19 rfl mv_X0_31 sh_42 rfl rfl rfl (by exact Nat.le_of_ble_eq_true rfl) ⟨by show _ ≤ d; omega, by show _ ≤ 40 * d; omega⟩ ⟨Nat.le_refl _, Nat.le_refl _⟩ (Ct.mono H (fun r9 m2 H => ?_))
  obtain ⟨rfl, H⟩ := H
  show E_X0_look G d 22 [(0, vR 42)] [] m2 Q
  exact x_vret rfl dX0_look_22 H
set_option maxRecDepth 20000 in
set_option maxHeartbeats 4000000 in
theorem B_X0_lookWithout {G : GT} {d : Nat} {l1 : Int} {l2 : Int} {mem : Mem} {Q : Option AV → Mem → Prop} (hd : 1 ≤ d) (H : ∀ m1 : Mem, m1 = cpM mem 5 43 0 0 12 → ((0 ≤ l1 ∧ l1 < 12) ∧ (∀ m5 : Mem, m5 = upM m1 43 l1 (iand (m1 43 l1) (ixor (ishl 1 l2) (-1))) → (C_X0_findPair G (d - 1) [vR 42] m5 (fun r9 m6 => r9 = none ∧ (Q none m6)))))) : C_X0_lookWithout G d [vR 42, vI l1, vI l2] mem Q := by
  refine Ct_of_Ex (by decide +kernel) (by exact Nat.le_of_ble_eq_true rfl) (ls := [(0, vR 42), (1, vI l1), (2, vI l2)]) rfl ?_
  show E_X0_lookWithout G d 0 [(0, vR 42), (1, vI l1), (2, vI l2)] [] mem Q
  refine x_aloadn (q := 1) 0 rfl rfl rfl dX0_lookWithout_0 rfl ?_
  refine x_getr (q := 4) dX0_lookWithout_1 rfl fa_X0_18 sh_42 rfl ?_
  refine x_getr (q := 7) dX0_lookWithout_4 rfl fa_X0_22 sh_1 rfl ?_
  refine x_iconst (q := 8) dX0_lookWithout_7 rfl ?_
  refine x_aloadn (q := 9) 0 rfl rfl rfl dX0_lookWithout_8 rfl ?_
  refine x_getr (q := 12) dX0_lookWithout_9 rfl fa_X0_9 sh_42 rfl ?_
  refine x_iconst (q := 13) dX0_lookWithout_12 rfl ?_
  refine x_bipush (q := 15) rfl dX0_lookWithout_13 rfl ?_
  refine x_copy (q := 18) (by decide) dX0_lookWithout_15 rfl ml_X0_25 ac_nat ac_sta ac_ini sh_5 sh_43 (by decide) (by decide) (by decide) (by decide) (by decide) (fun h => absurd h (by decide)) ⟨by show 1 ≤ d; omega, copyR (by omega)⟩ (fun m1 em1 => ?_)
  have H := H m1 em1
  refine x_aloadn (q := 19) 0 rfl rfl rfl dX0_lookWithout_18 rfl ?_
  refine x_getr (q := 22) dX0_lookWithout_19 rfl fa_X0_9 sh_42 rfl ?_
  refine x_iloadn (q := 23) 1 rfl rfl dX0_lookWithout_22 rfl ?_
  refine x_dup2 (q := 24) (by exact Nat.ne_of_beq_eq_false rfl) (by exact Nat.ne_of_beq_eq_false rfl) dX0_lookWithout_23 rfl ?_
  obtain ⟨⟨s2, s3⟩, H⟩ := H
  refine x_iald (q := 25) dX0_lookWithout_24 rfl sh_43 s2 s3 (fun r4 => ?_)
  refine x_iconst (q := 26) dX0_lookWithout_25 rfl ?_
  refine x_iloadn (q := 27) 2 rfl rfl dX0_lookWithout_26 rfl ?_
  refine x_ishl (q := 28) dX0_lookWithout_27 rfl ?_
  refine x_iconst (q := 29) dX0_lookWithout_28 rfl ?_
  refine x_ixor (q := 30) dX0_lookWithout_29 rfl ?_
  refine x_iand (q := 31) dX0_lookWithout_30 rfl ?_
  refine x_iast (q := 32) dX0_lookWithout_31 rfl sh_43 s2 s3 (iand_inr _ _) (fun m5 em5 => ?_)
  have H := H m5 em5
  refine x_aloadn (q := 33) 0 rfl rfl rfl dX0_lookWithout_32 rfl ?_
  refine x_callV (q := 36) (d := d - 1) (as := []) (st := []) dX0_lookWithout_33 rfl mv_X0_31 sh_42 rfl rfl rfl (by exact Nat.le_of_ble_eq_true rfl) ⟨by show _ ≤ d; omega, by show _ ≤ 40 * d; omega⟩ ⟨Nat.le_refl _, Nat.le_refl _⟩ (Ct.mono H (fun r9 m6 H => ?_))
  obtain ⟨rfl, H⟩ := H
  show E_X0_lookWithout G d 36 [(0, vR 42), (1, vI l1), (2, vI l2)] [] m6 Q
  exact x_vret rfl dX0_lookWithout_36 H
set_option maxRecDepth 20000 in
set_option maxHeartbeats 4000000 in
theorem B_X0_lowerHalf {G : GT} {d : Nat}  {mem : Mem} {Q : Option AV → Mem → Prop} (hd : 1 ≤ d) (H : (inr ((bitc (mem 42 4)) + 1)) ∧ (E_X0_lowerHalf G d 16 [(0, vR 42), (1, vI 0), (2, vI (Int.tdiv ((bitc (mem 42 4)) + 1) 2)), (3, vI 0)] [] mem Q)) : C_X0_lowerHalf G d [vR 42] mem Q := by
  refine Ct_of_Ex (by decide +kernel) (by exact Nat.le_of_ble_eq_true rfl) (ls := [(0, vR 42)]) rfl ?_
  show E_X0_lowerHalf G d 0 [(0, vR 42)] [] mem Q
  refine x_iconst (q := 1) dX0_lowerHalf_0 rfl ?_
  refine x_istoren (q := 2) (ls' := [(1, vI 0), (0, vR 42)]) rfl (by decide) rfl dX0_lowerHalf_1 rfl ?_
  refine x_aloadn (q := 3) 1 rfl rfl rfl dX0_lowerHalf_2 rfl ?_
  refine x_geti (q := 6) (ji := 4) dX0_lowerHalf_3 rfl fa_X0_57 sh_42 rfl rfl (fun r1 => ?_)
  refine x_callS (q := 9) (d := d - 1) (as := [vI (mem 42 4)]) (st := []) dX0_lowerHalf_6 rfl ms_X0_42 rfl rfl (by exact Nat.le_of_ble_eq_true rfl) ⟨by show _ ≤ d; omega, by show _ ≤ 40 * d; omega⟩ ⟨Nat.le_refl _, Nat.le_refl _⟩ (ct_bitc ?_)
  show E_X0_lowerHalf G d 9 [(1, vI 0), (0, vR 42)] [vI (bitc (mem 42 4))] mem Q
  refine x_iconst (q := 10) dX0_lowerHalf_9 rfl ?_
  refine x_iadd (q := 11) dX0_lowerHalf_10 rfl ?_
  refine x_iconst (q := 12) dX0_lowerHalf_11 rfl ?_
  obtain ⟨s2, H⟩ := H
  refine x_idiv (q := 13) s2 (by decide) (by decide) dX0_lowerHalf_12 rfl ?_
  refine x_istoren (q := 14) (ls' := [(2, vI (Int.tdiv ((bitc (mem 42 4)) + 1) 2)), (1, vI 0), (0, vR 42)]) rfl (by decide) rfl dX0_lowerHalf_13 rfl ?_
  refine x_iconst (q := 15) dX0_lowerHalf_14 rfl ?_
  refine x_istoren (q := 16) (ls' := [(3, vI 0), (2, vI (Int.tdiv ((bitc (mem 42 4)) + 1) 2)), (1, vI 0), (0, vR 42)]) rfl (by decide) rfl dX0_lowerHalf_15 rfl ?_
  refine x_sub [3, 2, 1, 0] rfl ?_
  exact H
set_option maxRecDepth 20000 in
set_option maxHeartbeats 4000000 in
theorem B_X0_lowerHalf_16 {G : GT} {d : Nat} {l1 : Int} {l2 : Int} {l3 : Int} {mem : Mem} {Q : Option AV → Mem → Prop} (hd : 1 ≤ d) (H : (inr l3) ∧ (((12 ≤ l3) → (Q (some (vI l1)) mem)) ∧ (¬ (12 ≤ l3) → (((iand (ishr (mem 42 4) l3) 1 = 0) → (E_X0_lowerHalf G d 16 [(0, vR 42), (1, vI l1), (2, vI l2), (3, vI (l3 + 1))] [] mem Q)) ∧ (¬ (iand (ishr (mem 42 4) l3) 1 = 0) → ((inr l2) ∧ (((l2 ≤ bitc l1) → (E_X0_lowerHalf G d 16 [(0, vR 42), (1, vI l1), (2, vI l2), (3, vI (l3 + 1))] [] mem Q)) ∧ (¬ (l2 ≤ bitc l1) → (E_X0_lowerHalf G d 16 [(0, vR 42), (1, vI (ior l1 (ishl 1 l3))), (2, vI l2), (3, vI (l3 + 1))] [] mem Q))))))))) : E_X0_lowerHalf G d 16 [(0, vR 42), (1, vI l1), (2, vI l2), (3, vI l3)] [] mem Q := by
  refine x_iloadn (q := 17) 3 rfl rfl dX0_lowerHalf_16 rfl ?_
  refine x_bipush (q := 19) rfl dX0_lowerHalf_17 rfl ?_
  obtain ⟨s3, H⟩ := H
  obtain ⟨H1, H2⟩ := H
  refine x_icmp_ge (tgt := 53) (q := 22) dX0_lowerHalf_19 (by decide) rfl s3 (by decide) (fun hB => ?_) (fun hB => ?_)
  · have H := H1 (hB)
    refine x_iloadn (q := 54) 1 rfl rfl dX0_lowerHalf_53 rfl ?_
    exact x_iret rfl dX0_lowerHalf_54 H
  · have H := H2 (hB)
    refine x_aloadn (q := 23) 0 rfl rfl rfl dX0_lowerHalf_22 rfl ?_
    refine x_geti (q := 26) (ji := 4) dX0_lowerHalf_23 rfl fa_X0_57 sh_42 rfl rfl (fun r6 => ?_)
    refine x_iloadn (q := 27) 3 rfl rfl dX0_lowerHalf_26 rfl ?_
    refine x_ishr (q := 28) dX0_lowerHalf_27 rfl ?_
    refine x_iconst (q := 29) dX0_lowerHalf_28 rfl ?_
    refine x_iand (q := 30) dX0_lowerHalf_29 rfl ?_
    obtain ⟨H1, H2⟩ := H
    refine x_if_eq (tgt := 47) (q := 33) dX0_lowerHalf_30 (by decide) rfl (iand_inr _ _) (fun hB => ?_) (fun hB => ?_)
    · have H := H1 (hB)
      refine x_iinc (q := 50) (ls' := [(3, vI (l3 + 1)), (0, vR 42), (1, vI l1), (2, vI l2)]) 3 rfl (by decide) rfl dX0_lowerHalf_47 rfl ?_
      refine x_goto (tgt := 16) dX0_lowerHalf_50 (by decide) ?_
      refine x_sub [1, 2, 3, 0] rfl ?_
      exact H
    · have H := H2 (hB)
      refine x_iloadn (q := 34) 1 rfl rfl dX0_lowerHalf_33 rfl ?_
      refine x_callS (q := 37) (d := d - 1) (as := [vI l1]) (st := []) dX0_lowerHalf_34 rfl ms_X0_42 rfl rfl (by exact Nat.le_of_ble_eq_true rfl) ⟨by show _ ≤ d; omega, by show _ ≤ 40 * d; omega⟩ ⟨Nat.le_refl _, Nat.le_refl _⟩ (ct_bitc ?_)
      show E_X0_lowerHalf G d 37 [(0, vR 42), (1, vI l1), (2, vI l2), (3, vI l3)] [vI (bitc l1)] mem Q
      refine x_iloadn (q := 38) 2 rfl rfl dX0_lowerHalf_37 rfl ?_
      obtain ⟨s9, H⟩ := H
      obtain ⟨H1, H2⟩ := H
      refine x_icmp_ge (tgt := 47) (q := 41) dX0_lowerHalf_38 (by decide) rfl (bitc_inr _) s9 (fun hB => ?_) (fun hB => ?_)
      · have H := H1 (hB)
        refine x_iinc (q := 50) (ls' := [(3, vI (l3 + 1)), (0, vR 42), (1, vI l1), (2, vI l2)]) 3 rfl (by decide) rfl dX0_lowerHalf_47 rfl ?_
        refine x_goto (tgt := 16) dX0_lowerHalf_50 (by decide) ?_
        refine x_sub [1, 2, 3, 0] rfl ?_
        exact H
      · have H := H2 (hB)
        refine x_iloadn (q := 42) 1 rfl rfl dX0_lowerHalf_41 rfl ?_
        refine x_iconst (q := 43) dX0_lowerHalf_42 rfl ?_
        refine x_iloadn (q := 44) 3 rfl rfl dX0_lowerHalf_43 rfl ?_
        refine x_ishl (q := 45) dX0_lowerHalf_44 rfl ?_
        refine x_ior (q := 46) dX0_lowerHalf_45 rfl ?_
        refine x_istoren (q := 47) (ls' := [(1, vI (ior l1 (ishl 1 l3))), (0, vR 42), (2, vI l2), (3, vI l3)]) rfl (by decide) rfl dX0_lowerHalf_46 rfl ?_
        refine x_iinc (q := 50) (ls' := [(3, vI (l3 + 1)), (1, vI (ior l1 (ishl 1 l3))), (0, vR 42), (2, vI l2)]) 3 rfl (by decide) rfl dX0_lowerHalf_47 rfl ?_
        refine x_goto (tgt := 16) dX0_lowerHalf_50 (by decide) ?_
        refine x_sub [2, 1, 3, 0] rfl ?_
        exact H
set_option maxRecDepth 20000 in
set_option maxHeartbeats 4000000 in
theorem B_X0_firstOfPair {G : GT} {d : Nat}  {mem : Mem} {Q : Option AV → Mem → Prop} (hd : 1 ≤ d) (H : C_X0_lowerHalf G (d - 1) [vR 42] mem (fun r9 m3 => ∃ z4 : Int, r9 = some (vI z4) ∧ (Q (some (vI (ior (iand (mem 42 3) (ixor (mem 42 4) (-1))) z4))) m3))) : C_X0_firstOfPair G d [vR 42] mem Q := by
  refine Ct_of_Ex (by decide +kernel) (by exact Nat.le_of_ble_eq_true rfl) (ls := [(0, vR 42)]) rfl ?_
  show E_X0_firstOfPair G d 0 [(0, vR 42)] [] mem Q
  refine x_aloadn (q := 1) 0 rfl rfl rfl dX0_firstOfPair_0 rfl ?_
  refine x_geti (q := 4) (ji := 3) dX0_firstOfPair_1 rfl fa_X0_54 sh_42 rfl rfl (fun r1 => ?_)
  refine x_aloadn (q := 5) 0 rfl rfl rfl dX0_firstOfPair_4 rfl ?_
  refine x_geti (q := 8) (ji := 4) dX0_firstOfPair_5 rfl fa_X0_57 sh_42 rfl rfl (fun r2 => ?_)
  refine x_iconst (q := 9) dX0_firstOfPair_8 rfl ?_
  refine x_ixor (q := 10) dX0_firstOfPair_9 rfl ?_
  refine x_iand (q := 11) dX0_firstOfPair_10 rfl ?_
  refine x_aloadn (q := 12) 0 rfl rfl rfl dX0_firstOfPair_11 rfl ?_
  refine x_callV (q := 15) (d := d - 1) (as := []) (st := [vI (iand (mem 42 3) (ixor (mem 42 4) (-1)))]) dX0_firstOfPair_12 rfl mv_X0_67 sh_42 rfl rfl rfl (by exact Nat.le_of_ble_eq_true rfl) ⟨by show _ ≤ d; omega, by show _ ≤ 40 * d; omega⟩ ⟨Nat.le_refl _, Nat.le_refl _⟩ (Ct.mono H (fun r9 m3 H => ?_))
  obtain ⟨z4, rfl, H⟩ := H
  show E_X0_firstOfPair G d 15 [(0, vR 42)] [vI z4, vI (iand (mem 42 3) (ixor (mem 42 4) (-1)))] m3 Q
  refine x_ior (q := 16) dX0_firstOfPair_15 rfl ?_
  exact x_iret rfl dX0_firstOfPair_16 H
set_option maxRecDepth 20000 in
set_option maxHeartbeats 4000000 in
theorem B_X0_otherOfPair {G : GT} {d : Nat}  {mem : Mem} {Q : Option AV → Mem → Prop} (hd : 1 ≤ d) (H : C_X0_lowerHalf G (d - 1) [vR 42] mem (fun r9 m2 => ∃ z3 : Int, r9 = some (vI z3) ∧ (Q (some (vI (iand (mem 42 3) (ixor z3 (-1))))) m2))) : C_X0_otherOfPair G d [vR 42] mem Q := by
  refine Ct_of_Ex (by decide +kernel) (by exact Nat.le_of_ble_eq_true rfl) (ls := [(0, vR 42)]) rfl ?_
  show E_X0_otherOfPair G d 0 [(0, vR 42)] [] mem Q
  refine x_aloadn (q := 1) 0 rfl rfl rfl dX0_otherOfPair_0 rfl ?_
  refine x_geti (q := 4) (ji := 3) dX0_otherOfPair_1 rfl fa_X0_54 sh_42 rfl rfl (fun r1 => ?_)
  refine x_aloadn (q := 5) 0 rfl rfl rfl dX0_otherOfPair_4 rfl ?_
  refine x_callV (q := 8) (d := d - 1) (as := []) (st := [vI (mem 42 3)]) dX0_otherOfPair_5 rfl mv_X0_67 sh_42 rfl rfl rfl (by exact Nat.le_of_ble_eq_true rfl) ⟨by show _ ≤ d; omega, by show _ ≤ 40 * d; omega⟩ ⟨Nat.le_refl _, Nat.le_refl _⟩ (Ct.mono H (fun r9 m2 H => ?_))
  obtain ⟨z3, rfl, H⟩ := H
  show E_X0_otherOfPair G d 8 [(0, vR 42)] [vI z3, vI (mem 42 3)] m2 Q
  refine x_iconst (q := 9) dX0_otherOfPair_8 rfl ?_
  refine x_ixor (q := 10) dX0_otherOfPair_9 rfl ?_
  refine x_iand (q := 11) dX0_otherOfPair_10 rfl ?_
  exact x_iret rfl dX0_otherOfPair_11 H
set_option maxRecDepth 20000 in
set_option maxHeartbeats 4000000 in
theorem B_X0_greaterWith {G : GT} {d : Nat} {l1 : Int} {l2 : Int} {l3 : Int} {mem : Mem} {Q : Option AV → Mem → Prop} (hd : 3 ≤ d) (H : (inr l3) ∧ (((l3 < chG (mem 42 3) (mem 42 4) l1 l2) → (E_X0_greaterWith G d 37 [(0, vR 42), (1, vI l1), (2, vI l2), (3, vI l3), (4, vI 13), (5, vI (ishl 1 (mem 1 0))), (6, vI 1)] [] mem Q)) ∧ (¬ (l3 < chG (mem 42 3) (mem 42 4) l1 l2) → (Q (some (vI l3)) mem)))) : C_X0_greaterWith G d [vR 42, vI l1, vI l2, vI l3] mem Q := by
  refine Ct_of_Ex (by decide +kernel) (by exact Nat.le_of_ble_eq_true rfl) (ls := [(0, vR 42), (1, vI l1), (2, vI l2), (3, vI l3)]) rfl ?_
  show E_X0_greaterWith G d 0 [(0, vR 42), (1, vI l1), (2, vI l2), (3, vI l3)] [] mem Q
  refine x_aloadn (q := 1) 0 rfl rfl rfl dX0_greaterWith_0 rfl ?_
  refine x_geti (q := 4) (ji := 3) dX0_greaterWith_1 rfl fa_X0_54 sh_42 rfl rfl (fun r1 => ?_)
  refine x_aloadn (q := 5) 0 rfl rfl rfl dX0_greaterWith_4 rfl ?_
  refine x_geti (q := 8) (ji := 4) dX0_greaterWith_5 rfl fa_X0_57 sh_42 rfl rfl (fun r2 => ?_)
  refine x_iloadn (q := 9) 1 rfl rfl dX0_greaterWith_8 rfl ?_
  refine x_iloadn (q := 10) 2 rfl rfl dX0_greaterWith_9 rfl ?_
  refine x_callS (q := 13) (d := d - 1) (as := [vI (mem 42 3), vI (mem 42 4), vI l1, vI l2]) (st := []) dX0_greaterWith_10 rfl ms_X0_78 rfl rfl (by exact Nat.le_of_ble_eq_true rfl) ⟨by show _ ≤ d; omega, by show _ ≤ 40 * d; omega⟩ ⟨Nat.le_refl _, Nat.le_refl _⟩ (ct_changedGreater (by omega) r2 ?_)
  show E_X0_greaterWith G d 13 [(0, vR 42), (1, vI l1), (2, vI l2), (3, vI l3)] [vI (chG (mem 42 3) (mem 42 4) l1 l2)] mem Q
  refine x_iloadn (q := 14) 3 rfl rfl dX0_greaterWith_13 rfl ?_
  obtain ⟨s3, H⟩ := H
  obtain ⟨H1, H2⟩ := H
  refine x_icmp_gt (tgt := 19) (q := 17) dX0_greaterWith_14 (by decide) rfl (chG_inr _ _ _ _) s3 (fun hB => ?_) (fun hB => ?_)
  · have H := H1 (hB)
    refine x_bipush (q := 21) rfl dX0_greaterWith_19 rfl ?_
    refine x_istore (q := 23) (ls' := [(4, vI 13), (0, vR 42), (1, vI l1), (2, vI l2), (3, vI l3)]) (by decide) rfl dX0_greaterWith_21 rfl ?_
    refine x_iconst (q := 24) dX0_greaterWith_23 rfl ?_
    refine x_aloadn (q := 25) 1 rfl rfl rfl dX0_greaterWith_24 rfl ?_
    refine x_getr (q := 28) dX0_greaterWith_25 rfl fa_X0_18 sh_42 rfl ?_
    refine x_geti (q := 31) (ji := 0) dX0_greaterWith_28 rfl fa_X0_34 sh_1 rfl rfl (fun r6 => ?_)
    refine x_ishl (q := 32) dX0_greaterWith_31 rfl ?_
    refine x_istore (q := 34) (ls' := [(5, vI (ishl 1 (mem 1 0))), (4, vI 13), (0, vR 42), (1, vI l1), (2, vI l2), (3, vI l3)]) (by decide) rfl dX0_greaterWith_32 rfl ?_
    refine x_iconst (q := 35) dX0_greaterWith_34 rfl ?_
    refine x_istore (q := 37) (ls' := [(6, vI 1), (5, vI (ishl 1 (mem 1 0))), (4, vI 13), (0, vR 42), (1, vI l1), (2, vI l2), (3, vI l3)]) (by decide) rfl dX0_greaterWith_35 rfl ?_
    refine x_sub [3, 4, 5, 6, 2, 1, 0] rfl ?_
    exact H
  · have H := H2 (hB)
    refine x_iloadn (q := 18) 3 rfl rfl dX0_greaterWith_17 rfl ?_
    exact x_iret rfl dX0_greaterWith_18 H
set_option maxRecDepth 20000 in
set_option maxHeartbeats 4000000 in
theorem B_X0_greaterWith_37 {G : GT} {d : Nat} {l1 : Int} {l2 : Int} {l3 : Int} {l4 : Int} {l5 : Int} {l6 : Int} {mem : Mem} {Q : Option AV → Mem → Prop} (hd : 3 ≤ d) (H : (inr l6 ∧ inr l5) ∧ (((l5 ≤ l6) → (Q (some (vI l4)) mem)) ∧ (¬ (l5 ≤ l6) → ((inr l4 ∧ inr l3) ∧ (((l4 ≤ l3) → (Q (some (vI l4)) mem)) ∧ (¬ (l4 ≤ l3) → ((0 ≤ iand (ishl 1 (mem 1 0) - 1) (ixor l6 (-1)) ∧ iand (ishl 1 (mem 1 0) - 1) (ixor l6 (-1)) < 4096) ∧ (E_X0_greaterWith G d 37 [(0, vR 42), (1, vI l1), (2, vI l2), (3, vI l3), (4, vI (tmin l4 (chG l6 (iand l6 (ixor (mem 44 (iand (ishl 1 (mem 1 0) - 1) (ixor l6 (-1)))) (-1))) l1 l2))), (5, vI l5), (6, vI (l6 + 1))] [] mem Q)))))))) : E_X0_greaterWith G d 37 [(0, vR 42), (1, vI l1), (2, vI l2), (3, vI l3), (4, vI l4), (5, vI l5), (6, vI l6)] [] mem Q := by
  refine x_iload (q := 39) 6 rfl dX0_greaterWith_37 rfl ?_
  refine x_iload (q := 41) 5 rfl dX0_greaterWith_39 rfl ?_
  obtain ⟨⟨s7, s8⟩, H⟩ := H
  obtain ⟨H1, H2⟩ := H
  refine x_icmp_ge (tgt := 76) (q := 44) dX0_greaterWith_41 (by decide) rfl s7 s8 (fun hB => ?_) (fun hB => ?_)
  · have H := H1 (hB)
    refine x_iload (q := 78) 4 rfl dX0_greaterWith_76 rfl ?_
    exact x_iret rfl dX0_greaterWith_78 H
  · have H := H2 (hB)
    refine x_iload (q := 46) 4 rfl dX0_greaterWith_44 rfl ?_
    refine x_iloadn (q := 47) 3 rfl rfl dX0_greaterWith_46 rfl ?_
    obtain ⟨⟨s11, s12⟩, H⟩ := H
    obtain ⟨H1, H2⟩ := H
    refine x_icmp_le (tgt := 76) (q := 50) dX0_greaterWith_47 (by decide) rfl s11 s12 (fun hB => ?_) (fun hB => ?_)
    · have H := H1 (hB)
      refine x_iload (q := 78) 4 rfl dX0_greaterWith_76 rfl ?_
      exact x_iret rfl dX0_greaterWith_78 H
    · have H := H2 (hB)
      refine x_iload (q := 52) 4 rfl dX0_greaterWith_50 rfl ?_
      refine x_iload (q := 54) 6 rfl dX0_greaterWith_52 rfl ?_
      refine x_aloadn (q := 55) 0 rfl rfl rfl dX0_greaterWith_54 rfl ?_
      refine x_iload (q := 57) 6 rfl dX0_greaterWith_55 rfl ?_
      obtain ⟨⟨s15, s16⟩, H⟩ := H
      refine x_callV (q := 60) (d := d - 1) (as := [vI l6]) (st := [vI l6, vI l4]) dX0_greaterWith_57 rfl mv_X0_60 sh_42 rfl rfl rfl (by exact Nat.le_of_ble_eq_true rfl) ⟨by show _ ≤ d; omega, by show _ ≤ 40 * d; omega⟩ ⟨Nat.le_refl _, Nat.le_refl _⟩ (ct_apartIn (by omega) s15 s16 ?_)
      show E_X0_greaterWith G d 60 [(0, vR 42), (1, vI l1), (2, vI l2), (3, vI l3), (4, vI l4), (5, vI l5), (6, vI l6)] [vI (iand l6 (ixor (mem 44 (iand (ishl 1 (mem 1 0) - 1) (ixor l6 (-1)))) (-1))), vI l6, vI l4] mem Q
      refine x_iloadn (q := 61) 1 rfl rfl dX0_greaterWith_60 rfl ?_
      refine x_iloadn (q := 62) 2 rfl rfl dX0_greaterWith_61 rfl ?_
      refine x_callS (q := 65) (d := d - 1) (as := [vI l6, vI (iand l6 (ixor (mem 44 (iand (ishl 1 (mem 1 0) - 1) (ixor l6 (-1)))) (-1))), vI l1, vI l2]) (st := [vI l4]) dX0_greaterWith_62 rfl ms_X0_78 rfl rfl (by exact Nat.le_of_ble_eq_true rfl) ⟨by show _ ≤ d; omega, by show _ ≤ 40 * d; omega⟩ ⟨Nat.le_refl _, Nat.le_refl _⟩ (ct_changedGreater (by omega) (iand_inr _ _) ?_)
      show E_X0_greaterWith G d 65 [(0, vR 42), (1, vI l1), (2, vI l2), (3, vI l3), (4, vI l4), (5, vI l5), (6, vI l6)] [vI (chG l6 (iand l6 (ixor (mem 44 (iand (ishl 1 (mem 1 0) - 1) (ixor l6 (-1)))) (-1))) l1 l2), vI l4] mem Q
      refine x_mmin (q := 68) dX0_greaterWith_65 rfl ml_X0_82 mm_st_min mm_ini mm_cd_min (by exact Nat.le_of_ble_eq_true rfl) ⟨by show 1 ≤ d; omega, by show 21 ≤ 40 * d; omega⟩ ⟨Nat.le_refl _, Nat.le_refl _⟩ s11 (chG_inr _ _ _ _) ?_
      refine x_istore (q := 70) (ls' := [(4, vI (tmin l4 (chG l6 (iand l6 (ixor (mem 44 (iand (ishl 1 (mem 1 0) - 1) (ixor l6 (-1)))) (-1))) l1 l2))), (0, vR 42), (1, vI l1), (2, vI l2), (3, vI l3), (5, vI l5), (6, vI l6)]) (by decide) rfl dX0_greaterWith_68 rfl ?_
      refine x_iinc (q := 73) (ls' := [(6, vI (l6 + 1)), (4, vI (tmin l4 (chG l6 (iand l6 (ixor (mem 44 (iand (ishl 1 (mem 1 0) - 1) (ixor l6 (-1)))) (-1))) l1 l2))), (0, vR 42), (1, vI l1), (2, vI l2), (3, vI l3), (5, vI l5)]) 6 rfl (by decide) rfl dX0_greaterWith_70 rfl ?_
      refine x_goto (tgt := 37) dX0_greaterWith_73 (by decide) ?_
      refine x_sub [2, 3, 4, 5, 1, 6, 0] rfl ?_
      exact H
set_option maxRecDepth 20000 in
set_option maxHeartbeats 4000000 in
theorem B_X0_bestMissingTie {G : GT} {d : Nat}  {mem : Mem} {Q : Option AV → Mem → Prop} (hd : 1 ≤ d) (H : E_X0_bestMissingTie G d 6 [(0, vR 42), (1, vI (-1)), (2, vI 0), (3, vI 0)] [] mem Q) : C_X0_bestMissingTie G d [vR 42] mem Q := by
  refine Ct_of_Ex (by decide +kernel) (by exact Nat.le_of_ble_eq_true rfl) (ls := [(0, vR 42)]) rfl ?_
  show E_X0_bestMissingTie G d 0 [(0, vR 42)] [] mem Q
  refine x_iconst (q := 1) dX0_bestMissingTie_0 rfl ?_
  refine x_istoren (q := 2) (ls' := [(1, vI (-1)), (0, vR 42)]) rfl (by decide) rfl dX0_bestMissingTie_1 rfl ?_
  refine x_iconst (q := 3) dX0_bestMissingTie_2 rfl ?_
  refine x_istoren (q := 4) (ls' := [(2, vI 0), (1, vI (-1)), (0, vR 42)]) rfl (by decide) rfl dX0_bestMissingTie_3 rfl ?_
  refine x_iconst (q := 5) dX0_bestMissingTie_4 rfl ?_
  refine x_istoren (q := 6) (ls' := [(3, vI 0), (2, vI 0), (1, vI (-1)), (0, vR 42)]) rfl (by decide) rfl dX0_bestMissingTie_5 rfl ?_
  refine x_sub [3, 2, 1, 0] rfl ?_
  exact H
set_option maxRecDepth 20000 in
set_option maxHeartbeats 4000000 in
theorem B_X0_bestMissingTie_6 {G : GT} {d : Nat} {l1 : Int} {l2 : Int} {l3 : Int} {mem : Mem} {Q : Option AV → Mem → Prop} (hd : 1 ≤ d) (H : (inr l3) ∧ (((mem 1 0 ≤ l3) → (Q (some (vI l1)) mem)) ∧ (¬ (mem 1 0 ≤ l3) → (E_X0_bestMissingTie G d 20 [(0, vR 42), (1, vI l1), (2, vI l2), (3, vI l3), (4, vI 0)] [] mem Q)))) : E_X0_bestMissingTie G d 6 [(0, vR 42), (1, vI l1), (2, vI l2), (3, vI l3)] [] mem Q := by
  refine x_iloadn (q := 7) 3 rfl rfl dX0_bestMissingTie_6 rfl ?_
  refine x_aloadn (q := 8) 0 rfl rfl rfl dX0_bestMissingTie_7 rfl ?_
  refine x_getr (q := 11) dX0_bestMissingTie_8 rfl fa_X0_18 sh_42 rfl ?_
  refine x_geti (q := 14) (ji := 0) dX0_bestMissingTie_11 rfl fa_X0_34 sh_1 rfl rfl (fun r1 => ?_)
  obtain ⟨s2, H⟩ := H
  obtain ⟨H1, H2⟩ := H
  refine x_icmp_ge (tgt := 90) (q := 17) dX0_bestMissingTie_14 (by decide) rfl s2 r1 (fun hB => ?_) (fun hB => ?_)
  · have H := H1 (hB)
    refine x_iloadn (q := 91) 1 rfl rfl dX0_bestMissingTie_90 rfl ?_
    exact x_iret rfl dX0_bestMissingTie_91 H
  · have H := H2 (hB)
    refine x_iconst (q := 18) dX0_bestMissingTie_17 rfl ?_
    refine x_istore (q := 20) (ls' := [(4, vI 0), (0, vR 42), (1, vI l1), (2, vI l2), (3, vI l3)]) (by decide) rfl dX0_bestMissingTie_18 rfl ?_
    refine x_sub [1, 2, 3, 4, 0] rfl ?_
    exact H
set_option maxRecDepth 20000 in
set_option maxHeartbeats 4000000 in
theorem B_X0_bestMissingTie_20 {G : GT} {d : Nat} {l1 : Int} {l2 : Int} {l3 : Int} {l4 : Int} {mem : Mem} {Q : Option AV → Mem → Prop} (hd : 1 ≤ d) (H : (inr l4) ∧ (((mem 1 0 ≤ l4) → (E_X0_bestMissingTie G d 6 [(0, vR 42), (1, vI l1), (2, vI l2), (3, vI (l3 + 1))] [] mem Q)) ∧ (¬ (mem 1 0 ≤ l4) → ((inr l3) ∧ (((l3 = l4) → (E_X0_bestMissingTie G d 20 [(0, vR 42), (1, vI l1), (2, vI l2), (3, vI l3), (4, vI (l4 + 1))] [] mem Q)) ∧ (¬ (l3 = l4) → ((0 ≤ l3 ∧ l3 < 12) ∧ (((iand (ishr (mem 5 l3) l4) 1 ≠ 0) → (E_X0_bestMissingTie G d 20 [(0, vR 42), (1, vI l1), (2, vI l2), (3, vI l3), (4, vI (l4 + 1))] [] mem Q)) ∧ (¬ (iand (ishr (mem 5 l3) l4) 1 ≠ 0) → (C_X0_greaterWith G (d - 1) [vR 42, vI l3, vI l4, vI l2] mem (fun r9 m16 => ∃ z17 : Int, r9 = some (vI z17) ∧ ((inr z17 ∧ inr l2) ∧ (((z17 ≤ l2) → (E_X0_bestMissingTie G d 20 [(0, vR 42), (1, vI l1), (2, vI l2), (3, vI l3), (4, vI (l4 + 1))] [] m16 Q)) ∧ (¬ (z17 ≤ l2) → (E_X0_bestMissingTie G d 20 [(0, vR 42), (1, vI ((100 * l3) + l4)), (2, vI z17), (3, vI l3), (4, vI (l4 + 1))] [] m16 Q))))))))))))))) : E_X0_bestMissingTie G d 20 [(0, vR 42), (1, vI l1), (2, vI l2), (3, vI l3), (4, vI l4)] [] mem Q := by
  refine x_iload (q := 22) 4 rfl dX0_bestMissingTie_20 rfl ?_
  refine x_aloadn (q := 23) 0 rfl rfl rfl dX0_bestMissingTie_22 rfl ?_
  refine x_getr (q := 26) dX0_bestMissingTie_23 rfl fa_X0_18 sh_42 rfl ?_
  refine x_geti (q := 29) (ji := 0) dX0_bestMissingTie_26 rfl fa_X0_34 sh_1 rfl rfl (fun r5 => ?_)
  obtain ⟨s6, H⟩ := H
  obtain ⟨H1, H2⟩ := H
  refine x_icmp_ge (tgt := 84) (q := 32) dX0_bestMissingTie_29 (by decide) rfl s6 r5 (fun hB => ?_) (fun hB => ?_)
  · have H := H1 (hB)
    refine x_iinc (q := 87) (ls' := [(3, vI (l3 + 1)), (0, vR 42), (1, vI l1), (2, vI l2), (4, vI l4)]) 3 rfl (by decide) rfl dX0_bestMissingTie_84 rfl ?_
    refine x_goto (tgt := 6) dX0_bestMissingTie_87 (by decide) ?_
    refine x_sub [1, 2, 3, 0] rfl ?_
    exact H
  · have H := H2 (hB)
    refine x_iloadn (q := 33) 3 rfl rfl dX0_bestMissingTie_32 rfl ?_
    refine x_iload (q := 35) 4 rfl dX0_bestMissingTie_33 rfl ?_
    obtain ⟨s9, H⟩ := H
    obtain ⟨H1, H2⟩ := H
    refine x_icmp_eq (tgt := 78) (q := 38) dX0_bestMissingTie_35 (by decide) rfl s9 s6 (fun hB => ?_) (fun hB => ?_)
    · have H := H1 (hB)
      refine x_iinc (q := 81) (ls' := [(4, vI (l4 + 1)), (0, vR 42), (1, vI l1), (2, vI l2), (3, vI l3)]) 4 rfl (by decide) rfl dX0_bestMissingTie_78 rfl ?_
      refine x_goto (tgt := 20) dX0_bestMissingTie_81 (by decide) ?_
      refine x_sub [1, 2, 3, 4, 0] rfl ?_
      exact H
    · have H := H2 (hB)
      refine x_aloadn (q := 39) 0 rfl rfl rfl dX0_bestMissingTie_38 rfl ?_
      refine x_getr (q := 42) dX0_bestMissingTie_39 rfl fa_X0_18 sh_42 rfl ?_
      refine x_iloadn (q := 43) 3 rfl rfl dX0_bestMissingTie_42 rfl ?_
      refine x_iload (q := 45) 4 rfl dX0_bestMissingTie_43 rfl ?_
      obtain ⟨⟨s12, s13⟩, H⟩ := H
      refine x_callV (q := 48) (d := d - 1) (as := [vI l3, vI l4]) (st := []) dX0_bestMissingTie_45 rfl mv_X0_70 sh_1 rfl rfl rfl (by exact Nat.le_of_ble_eq_true rfl) ⟨by show _ ≤ d; omega, by show _ ≤ 40 * d; omega⟩ ⟨Nat.le_refl _, Nat.le_refl _⟩ (ct_tied (by decide) s12 s13 ?_)
      show E_X0_bestMissingTie G d 48 [(0, vR 42), (1, vI l1), (2, vI l2), (3, vI l3), (4, vI l4)] [vI (bz (iand (ishr (mem 5 l3) l4) 1 ≠ 0))] mem Q
      obtain ⟨H1, H2⟩ := H
      refine x_if_ne (tgt := 78) (q := 51) dX0_bestMissingTie_48 (by decide) rfl (bz_inr _) (fun hB => ?_) (fun hB => ?_)
      · have H := H1 (bz_n0.mp hB)
        refine x_iinc (q := 81) (ls' := [(4, vI (l4 + 1)), (0, vR 42), (1, vI l1), (2, vI l2), (3, vI l3)]) 4 rfl (by decide) rfl dX0_bestMissingTie_78 rfl ?_
        refine x_goto (tgt := 20) dX0_bestMissingTie_81 (by decide) ?_
        refine x_sub [1, 2, 3, 4, 0] rfl ?_
        exact H
      · have H := H2 (fun z => hB (bz_n0.mpr z))
        refine x_aloadn (q := 52) 0 rfl rfl rfl dX0_bestMissingTie_51 rfl ?_
        refine x_iloadn (q := 53) 3 rfl rfl dX0_bestMissingTie_52 rfl ?_
        refine x_iload (q := 55) 4 rfl dX0_bestMissingTie_53 rfl ?_
        refine x_iloadn (q := 56) 2 rfl rfl dX0_bestMissingTie_55 rfl ?_
        refine x_callV (q := 59) (d := d - 1) (as := [vI l3, vI l4, vI l2]) (st := []) dX0_bestMissingTie_56 rfl mv_X0_74 sh_42 rfl rfl rfl (by exact Nat.le_of_ble_eq_true rfl) ⟨by show _ ≤ d; omega, by show _ ≤ 40 * d; omega⟩ ⟨Nat.le_refl _, Nat.le_refl _⟩ (Ct.mono H (fun r9 m16 H => ?_))
        obtain ⟨z17, rfl, H⟩ := H
        show E_X0_bestMissingTie G d 59 [(0, vR 42), (1, vI l1), (2, vI l2), (3, vI l3), (4, vI l4)] [vI z17] m16 Q
        refine x_istore (q := 61) (ls' := [(5, vI z17), (0, vR 42), (1, vI l1), (2, vI l2), (3, vI l3), (4, vI l4)]) (by decide) rfl dX0_bestMissingTie_59 rfl ?_
        refine x_iload (q := 63) 0 rfl dX0_bestMissingTie_61 rfl ?_
        refine x_iloadn (q := 64) 3 rfl rfl dX0_bestMissingTie_63 rfl ?_
        obtain ⟨⟨s18, s19⟩, H⟩ := H
        obtain ⟨H1, H2⟩ := H
        refine x_icmp_le (tgt := 78) (q := 67) dX0_bestMissingTie_64 (by decide) rfl s18 s19 (fun hB => ?_) (fun hB => ?_)
        · have H := H1 (hB)
          refine x_iinc (q := 81) (ls' := [(4, vI (l4 + 1)), (5, vI z17), (0, vR 42), (1, vI l1), (2, vI l2), (3, vI l3)]) 5 rfl (by decide) rfl dX0_bestMissingTie_78 rfl ?_
          refine x_goto (tgt := 20) dX0_bestMissingTie_81 (by decide) ?_
          refine x_sub [2, 3, 4, 5, 0] rfl ?_
          exact H
        · have H := H2 (hB)
          refine x_iload (q := 69) 0 rfl dX0_bestMissingTie_67 rfl ?_
          refine x_istoren (q := 70) (ls' := [(2, vI z17), (5, vI z17), (0, vR 42), (1, vI l1), (3, vI l3), (4, vI l4)]) rfl (by decide) rfl dX0_bestMissingTie_69 rfl ?_
          refine x_bipush (q := 72) rfl dX0_bestMissingTie_70 rfl ?_
          refine x_iloadn (q := 73) 4 rfl rfl dX0_bestMissingTie_72 rfl ?_
          refine x_imul (q := 74) dX0_bestMissingTie_73 rfl ?_
          refine x_iload (q := 76) 5 rfl dX0_bestMissingTie_74 rfl ?_
          refine x_iadd (q := 77) dX0_bestMissingTie_76 rfl ?_
          refine x_istoren (q := 78) (ls' := [(1, vI ((100 * l3) + l4)), (2, vI z17), (5, vI z17), (0, vR 42), (3, vI l3), (4, vI l4)]) rfl (by decide) rfl dX0_bestMissingTie_77 rfl ?_
          refine x_iinc (q := 81) (ls' := [(4, vI (l4 + 1)), (1, vI ((100 * l3) + l4)), (2, vI z17), (5, vI z17), (0, vR 42), (3, vI l3)]) 5 rfl (by decide) rfl dX0_bestMissingTie_78 rfl ?_
          refine x_goto (tgt := 20) dX0_bestMissingTie_81 (by decide) ?_
          refine x_sub [4, 1, 2, 5, 0] rfl ?_
          exact H
set_option maxRecDepth 20000 in
set_option maxHeartbeats 4000000 in
theorem B_X11_findFree {G : GT} {d : Nat}  {mem : Mem} {Q : Option AV → Mem → Prop} (hd : 1 ≤ d) (H : E_X11_findFree G d 2 [(0, vR 71), (1, vI 0)] [] mem Q) : C_X11_findFree G d [vR 71] mem Q := by
  refine Ct_of_Ex (by decide +kernel) (by exact Nat.le_of_ble_eq_true rfl) (ls := [(0, vR 71)]) rfl ?_
  show E_X11_findFree G d 0 [(0, vR 71)] [] mem Q
  refine x_iconst (q := 1) dX11_findFree_0 rfl ?_
  refine x_istoren (q := 2) (ls' := [(1, vI 0), (0, vR 71)]) rfl (by decide) rfl dX11_findFree_1 rfl ?_
  refine x_sub [1, 0] rfl ?_
  exact H
set_option maxRecDepth 20000 in
set_option maxHeartbeats 4000000 in
theorem B_X11_findFree_2 {G : GT} {d : Nat} {l1 : Int} {mem : Mem} {Q : Option AV → Mem → Prop} (hd : 1 ≤ d) (H : (inr l1 ∧ inr (ishl 1 (mem 72 0) - 1)) ∧ (((ishl 1 (mem 72 0) - 1 < l1) → (Q none mem)) ∧ (¬ (ishl 1 (mem 72 0) - 1 < l1) → ((0 ≤ l1 ∧ l1 < 4096) ∧ (∀ m7 : Mem, m7 = upM mem 80 l1 0 → (E_X11_findFree G d 19 [(0, vR 71), (1, vI l1), (2, vI 0)] [] m7 Q)))))) : E_X11_findFree G d 2 [(0, vR 71), (1, vI l1)] [] mem Q := by
  refine x_iloadn (q := 3) 1 rfl rfl dX11_findFree_2 rfl ?_
  refine x_aloadn (q := 4) 0 rfl rfl rfl dX11_findFree_3 rfl ?_
  refine x_callV (q := 7) (d := d - 1) (as := []) (st := [vI l1]) dX11_findFree_4 rfl mv_X11_192 sh_71 rfl rfl rfl (by exact Nat.le_of_ble_eq_true rfl) ⟨by show _ ≤ d; omega, by show _ ≤ 40 * d; omega⟩ ⟨Nat.le_refl _, Nat.le_refl _⟩ (ct_all ?_)
  show E_X11_findFree G d 7 [(0, vR 71), (1, vI l1)] [vI (ishl 1 (mem 72 0) - 1), vI l1] mem Q
  obtain ⟨⟨s1, s2⟩, H⟩ := H
  obtain ⟨H1, H2⟩ := H
  refine x_icmp_gt (tgt := 120) (q := 10) dX11_findFree_7 (by decide) rfl s1 s2 (fun hB => ?_) (fun hB => ?_)
  · have H := H1 (hB)
    exact x_vret rfl dX11_findFree_120 H
  · have H := H2 (hB)
    refine x_aloadn (q := 11) 0 rfl rfl rfl dX11_findFree_10 rfl ?_
    refine x_getr (q := 14) dX11_findFree_11 rfl fa_X11_49 sh_71 rfl ?_
    refine x_iloadn (q := 15) 1 rfl rfl dX11_findFree_14 rfl ?_
    refine x_iconst (q := 16) dX11_findFree_15 rfl ?_
    obtain ⟨⟨s5, s6⟩, H⟩ := H
    refine x_iast (q := 17) dX11_findFree_16 rfl sh_80 s5 s6 (by decide) (fun m7 em7 => ?_)
    have H := H m7 em7
    refine x_iconst (q := 18) dX11_findFree_17 rfl ?_
    refine x_istoren (q := 19) (ls' := [(2, vI 0), (0, vR 71), (1, vI l1)]) rfl (by decide) rfl dX11_findFree_18 rfl ?_
    refine x_sub [1, 2, 0] rfl ?_
    exact H
set_option maxRecDepth 20000 in
set_option maxHeartbeats 4000000 in
theorem B_X11_findFree_19 {G : GT} {d : Nat} {l1 : Int} {l2 : Int} {mem : Mem} {Q : Option AV → Mem → Prop} (hd : 1 ≤ d) (H : (inr l2) ∧ (((mem 72 0 ≤ l2) → (E_X11_findFree G d 2 [(0, vR 71), (1, vI (l1 + 1))] [] mem Q)) ∧ (¬ (mem 72 0 ≤ l2) → (E_X11_findFree G d 34 [(0, vR 71), (1, vI l1), (2, vI l2), (3, vI 0), (4, vI 0)] [] mem Q)))) : E_X11_findFree G d 19 [(0, vR 71), (1, vI l1), (2, vI l2)] [] mem Q := by
  refine x_iloadn (q := 20) 2 rfl rfl dX11_findFree_19 rfl ?_
  refine x_aloadn (q := 21) 0 rfl rfl rfl dX11_findFree_20 rfl ?_
  refine x_getr (q := 24) dX11_findFree_21 rfl fa_X11_9 sh_71 rfl ?_
  refine x_iconst (q := 25) dX11_findFree_24 rfl ?_
  refine x_iald (q := 26) dX11_findFree_25 rfl sh_72 (by decide) (by decide) (fun r8 => ?_)
  obtain ⟨s9, H⟩ := H
  obtain ⟨H1, H2⟩ := H
  refine x_icmp_ge (tgt := 114) (q := 29) dX11_findFree_26 (by decide) rfl s9 r8 (fun hB => ?_) (fun hB => ?_)
  · have H := H1 (hB)
    refine x_iinc (q := 117) (ls' := [(1, vI (l1 + 1)), (0, vR 71), (2, vI l2)]) 1 rfl (by decide) rfl dX11_findFree_114 rfl ?_
    refine x_goto (tgt := 2) dX11_findFree_117 (by decide) ?_
    refine x_sub [1, 0] rfl ?_
    exact H
  · have H := H2 (hB)
    refine x_iconst (q := 30) dX11_findFree_29 rfl ?_
    refine x_istoren (q := 31) (ls' := [(3, vI 0), (0, vR 71), (1, vI l1), (2, vI l2)]) rfl (by decide) rfl dX11_findFree_30 rfl ?_
    refine x_iconst (q := 32) dX11_findFree_31 rfl ?_
    refine x_istore (q := 34) (ls' := [(4, vI 0), (3, vI 0), (0, vR 71), (1, vI l1), (2, vI l2)]) (by decide) rfl dX11_findFree_32 rfl ?_
    refine x_sub [2, 3, 4, 1, 0] rfl ?_
    exact H
set_option maxRecDepth 20000 in
set_option maxHeartbeats 4000000 in
theorem B_X11_findFree_34 {G : GT} {d : Nat} {l1 : Int} {l2 : Int} {l3 : Int} {l4 : Int} {mem : Mem} {Q : Option AV → Mem → Prop} (hd : 1 ≤ d) (H : (inr l4) ∧ (((mem 72 0 ≤ l4) → ((0 ≤ l1 ∧ l1 < 4096) ∧ ((¬ (iand (ishr l1 l2) 1 = 1) → (∀ m21 : Mem, m21 = upM mem 80 l1 (ior (mem 80 l1) 0) → (E_X11_findFree G d 19 [(0, vR 71), (1, vI l1), (2, vI (l2 + 1))] [] m21 Q))) ∧ ((iand (ishr l1 l2) 1 = 1) → ((inr l3) ∧ (((l3 ≠ 0) → (∀ m25 : Mem, m25 = upM mem 80 l1 (ior (mem 80 l1) 0) → (E_X11_findFree G d 19 [(0, vR 71), (1, vI l1), (2, vI (l2 + 1))] [] m25 Q))) ∧ (¬ (l3 ≠ 0) → (∀ m26 : Mem, m26 = upM mem 80 l1 (ior (mem 80 l1) (ishl 1 l2)) → (E_X11_findFree G d 19 [(0, vR 71), (1, vI l1), (2, vI (l2 + 1))] [] m26 Q))))))))) ∧ (¬ (mem 72 0 ≤ l4) → ((inr l3) ∧ (((l3 ≠ 0) → (E_X11_findFree G d 34 [(0, vR 71), (1, vI l1), (2, vI l2), (3, vI 1), (4, vI (l4 + 1))] [] mem Q)) ∧ (¬ (l3 ≠ 0) → (((iand (ishr l1 l4) 1 = 1) → (E_X11_findFree G d 34 [(0, vR 71), (1, vI l1), (2, vI l2), (3, vI 0), (4, vI (l4 + 1))] [] mem Q)) ∧ (¬ (iand (ishr l1 l4) 1 = 1) → ((0 ≤ 41 + 12 * l4 + l2 ∧ 41 + 12 * l4 + l2 < 553) ∧ (((mem 72 (41 + 12 * l4 + l2) ≤ 0) → (E_X11_findFree G d 34 [(0, vR 71), (1, vI l1), (2, vI l2), (3, vI 0), (4, vI (l4 + 1))] [] mem Q)) ∧ (¬ (mem 72 (41 + 12 * l4 + l2) ≤ 0) → (E_X11_findFree G d 34 [(0, vR 71), (1, vI l1), (2, vI l2), (3, vI 1), (4, vI (l4 + 1))] [] mem Q)))))))))))) : E_X11_findFree G d 34 [(0, vR 71), (1, vI l1), (2, vI l2), (3, vI l3), (4, vI l4)] [] mem Q := by
  refine x_iload (q := 36) 4 rfl dX11_findFree_34 rfl ?_
  refine x_aloadn (q := 37) 0 rfl rfl rfl dX11_findFree_36 rfl ?_
  refine x_getr (q := 40) dX11_findFree_37 rfl fa_X11_9 sh_71 rfl ?_
  refine x_iconst (q := 41) dX11_findFree_40 rfl ?_
  refine x_iald (q := 42) dX11_findFree_41 rfl sh_72 (by decide) (by decide) (fun r12 => ?_)
  obtain ⟨s13, H⟩ := H
  obtain ⟨H1, H2⟩ := H
  refine x_icmp_ge (tgt := 80) (q := 45) dX11_findFree_42 (by decide) rfl s13 r12 (fun hB => ?_) (fun hB => ?_)
  · have H := H1 (hB)
    refine x_aloadn (q := 81) 0 rfl rfl rfl dX11_findFree_80 rfl ?_
    refine x_getr (q := 84) dX11_findFree_81 rfl fa_X11_49 sh_71 rfl ?_
    refine x_iloadn (q := 85) 1 rfl rfl dX11_findFree_84 rfl ?_
    refine x_dup2 (q := 86) (by exact Nat.ne_of_beq_eq_false rfl) (by exact Nat.ne_of_beq_eq_false rfl) dX11_findFree_85 rfl ?_
    obtain ⟨⟨s16, s17⟩, H⟩ := H
    refine x_iald (q := 87) dX11_findFree_86 rfl sh_80 s16 s17 (fun r18 => ?_)
    refine x_iloadn (q := 88) 1 rfl rfl dX11_findFree_87 rfl ?_
    refine x_iloadn (q := 89) 2 rfl rfl dX11_findFree_88 rfl ?_
    refine x_callS (q := 92) (d := d - 1) (as := [vI l1, vI l2]) (st := [vI (mem 80 l1), vI l1, vR 80]) dX11_findFree_89 rfl ms_X11_195 rfl rfl (by exact Nat.le_of_ble_eq_true rfl) ⟨by show _ ≤ d; omega, by show _ ≤ 40 * d; omega⟩ ⟨Nat.le_refl _, Nat.le_refl _⟩ (ct_hasb ?_)
    show E_X11_findFree G d 92 [(0, vR 71), (1, vI l1), (2, vI l2), (3, vI l3), (4, vI l4)] [vI (bz (iand (ishr l1 l2) 1 = 1)), vI (mem 80 l1), vI l1, vR 80] mem Q
    obtain ⟨H1, H2⟩ := H
    refine x_if_eq (tgt := 105) (q := 95) dX11_findFree_92 (by decide) rfl (bz_inr _) (fun hB => ?_) (fun hB => ?_)
    · have H := H1 (bz_0.mp hB)
      refine x_iconst (q := 106) dX11_findFree_105 rfl ?_
      refine x_ior (q := 107) dX11_findFree_106 rfl ?_
      refine x_iast (q := 108) dX11_findFree_107 rfl sh_80 s16 s17 (ior_inr _ _) (fun m21 em21 => ?_)
      have H := H m21 em21
      refine x_iinc (q := 111) (ls' := [(2, vI (l2 + 1)), (0, vR 71), (1, vI l1), (3, vI l3), (4, vI l4)]) 2 rfl (by decide) rfl dX11_findFree_108 rfl ?_
      refine x_goto (tgt := 19) dX11_findFree_111 (by decide) ?_
      refine x_sub [1, 2, 0] rfl ?_
      exact H
    · have H := H2 (Classical.byContradiction (fun z => hB (bz_0.mpr z)))
      refine x_iloadn (q := 96) 3 rfl rfl dX11_findFree_95 rfl ?_
      obtain ⟨s22, H⟩ := H
      obtain ⟨H1, H2⟩ := H
      refine x_if_ne (tgt := 105) (q := 99) dX11_findFree_96 (by decide) rfl s22 (fun hB => ?_) (fun hB => ?_)
      · have H := H1 (hB)
        refine x_iconst (q := 106) dX11_findFree_105 rfl ?_
        refine x_ior (q := 107) dX11_findFree_106 rfl ?_
        refine x_iast (q := 108) dX11_findFree_107 rfl sh_80 s16 s17 (ior_inr _ _) (fun m25 em25 => ?_)
        have H := H m25 em25
        refine x_iinc (q := 111) (ls' := [(2, vI (l2 + 1)), (0, vR 71), (1, vI l1), (3, vI l3), (4, vI l4)]) 2 rfl (by decide) rfl dX11_findFree_108 rfl ?_
        refine x_goto (tgt := 19) dX11_findFree_111 (by decide) ?_
        refine x_sub [1, 2, 0] rfl ?_
        exact H
      · have H := H2 (hB)
        refine x_iconst (q := 100) dX11_findFree_99 rfl ?_
        refine x_iloadn (q := 101) 2 rfl rfl dX11_findFree_100 rfl ?_
        refine x_ishl (q := 102) dX11_findFree_101 rfl ?_
        refine x_goto (tgt := 106) dX11_findFree_102 (by decide) ?_
        refine x_ior (q := 107) dX11_findFree_106 rfl ?_
        refine x_iast (q := 108) dX11_findFree_107 rfl sh_80 s16 s17 (ior_inr _ _) (fun m26 em26 => ?_)
        have H := H m26 em26
        refine x_iinc (q := 111) (ls' := [(2, vI (l2 + 1)), (0, vR 71), (1, vI l1), (3, vI l3), (4, vI l4)]) 2 rfl (by decide) rfl dX11_findFree_108 rfl ?_
        refine x_goto (tgt := 19) dX11_findFree_111 (by decide) ?_
        refine x_sub [1, 2, 0] rfl ?_
        exact H
  · have H := H2 (hB)
    refine x_iloadn (q := 46) 3 rfl rfl dX11_findFree_45 rfl ?_
    obtain ⟨s27, H⟩ := H
    obtain ⟨H1, H2⟩ := H
    refine x_if_ne (tgt := 68) (q := 49) dX11_findFree_46 (by decide) rfl s27 (fun hB => ?_) (fun hB => ?_)
    · have H := H1 (hB)
      refine x_iconst (q := 69) dX11_findFree_68 rfl ?_
      refine x_goto (tgt := 73) dX11_findFree_69 (by decide) ?_
      refine x_istoren (q := 74) (ls' := [(3, vI 1), (0, vR 71), (1, vI l1), (2, vI l2), (4, vI l4)]) rfl (by decide) rfl dX11_findFree_73 rfl ?_
      refine x_iinc (q := 77) (ls' := [(4, vI (l4 + 1)), (3, vI 1), (0, vR 71), (1, vI l1), (2, vI l2)]) 4 rfl (by decide) rfl dX11_findFree_74 rfl ?_
      refine x_goto (tgt := 34) dX11_findFree_77 (by decide) ?_
      refine x_sub [2, 3, 4, 1, 0] rfl ?_
      exact H
    · have H := H2 (hB)
      refine x_iloadn (q := 50) 1 rfl rfl dX11_findFree_49 rfl ?_
      refine x_iload (q := 52) 4 rfl dX11_findFree_50 rfl ?_
      refine x_callS (q := 55) (d := d - 1) (as := [vI l1, vI l4]) (st := []) dX11_findFree_52 rfl ms_X11_195 rfl rfl (by exact Nat.le_of_ble_eq_true rfl) ⟨by show _ ≤ d; omega, by show _ ≤ 40 * d; omega⟩ ⟨Nat.le_refl _, Nat.le_refl _⟩ (ct_hasb ?_)
      show E_X11_findFree G d 55 [(0, vR 71), (1, vI l1), (2, vI l2), (3, vI l3), (4, vI l4)] [vI (bz (iand (ishr l1 l4) 1 = 1))] mem Q
      obtain ⟨H1, H2⟩ := H
      refine x_if_ne (tgt := 72) (q := 58) dX11_findFree_55 (by decide) rfl (bz_inr _) (fun hB => ?_) (fun hB => ?_)
      · have H := H1 (bz_n0.mp hB)
        refine x_iconst (q := 73) dX11_findFree_72 rfl ?_
        refine x_istoren (q := 74) (ls' := [(3, vI 0), (0, vR 71), (1, vI l1), (2, vI l2), (4, vI l4)]) rfl (by decide) rfl dX11_findFree_73 rfl ?_
        refine x_iinc (q := 77) (ls' := [(4, vI (l4 + 1)), (3, vI 0), (0, vR 71), (1, vI l1), (2, vI l2)]) 4 rfl (by decide) rfl dX11_findFree_74 rfl ?_
        refine x_goto (tgt := 34) dX11_findFree_77 (by decide) ?_
        refine x_sub [2, 3, 4, 1, 0] rfl ?_
        exact H
      · have H := H2 (fun z => hB (bz_n0.mpr z))
        refine x_aloadn (q := 59) 0 rfl rfl rfl dX11_findFree_58 rfl ?_
        refine x_iload (q := 61) 4 rfl dX11_findFree_59 rfl ?_
        refine x_iloadn (q := 62) 2 rfl rfl dX11_findFree_61 rfl ?_
        obtain ⟨⟨s32, s33⟩, H⟩ := H
        refine x_callV (q := 65) (d := d - 1) (as := [vI l4, vI l2]) (st := []) dX11_findFree_62 rfl mv_X11_108 sh_71 rfl rfl rfl (by exact Nat.le_of_ble_eq_true rfl) ⟨by show _ ≤ d; omega, by show _ ≤ 40 * d; omega⟩ ⟨Nat.le_refl _, Nat.le_refl _⟩ (ct_tieOf s32 s33 ?_)
        show E_X11_findFree G d 65 [(0, vR 71), (1, vI l1), (2, vI l2), (3, vI l3), (4, vI l4)] [vI (mem 72 (41 + 12 * l4 + l2))] mem Q
        refine x_ok (fun hm34 => ?_)
        obtain ⟨H1, H2⟩ := H
        refine x_if_le (tgt := 72) (q := 68) dX11_findFree_65 (by decide) rfl (ok_ai hm34 sh_72 (by decide) _) (fun hB => ?_) (fun hB => ?_)
        · have H := H1 (hB)
          refine x_iconst (q := 73) dX11_findFree_72 rfl ?_
          refine x_istoren (q := 74) (ls' := [(3, vI 0), (0, vR 71), (1, vI l1), (2, vI l2), (4, vI l4)]) rfl (by decide) rfl dX11_findFree_73 rfl ?_
          refine x_iinc (q := 77) (ls' := [(4, vI (l4 + 1)), (3, vI 0), (0, vR 71), (1, vI l1), (2, vI l2)]) 4 rfl (by decide) rfl dX11_findFree_74 rfl ?_
          refine x_goto (tgt := 34) dX11_findFree_77 (by decide) ?_
          refine x_sub [2, 3, 4, 1, 0] rfl ?_
          exact H
        · have H := H2 (hB)
          refine x_iconst (q := 69) dX11_findFree_68 rfl ?_
          refine x_goto (tgt := 73) dX11_findFree_69 (by decide) ?_
          refine x_istoren (q := 74) (ls' := [(3, vI 1), (0, vR 71), (1, vI l1), (2, vI l2), (4, vI l4)]) rfl (by decide) rfl dX11_findFree_73 rfl ?_
          refine x_iinc (q := 77) (ls' := [(4, vI (l4 + 1)), (3, vI 1), (0, vR 71), (1, vI l1), (2, vI l2)]) 4 rfl (by decide) rfl dX11_findFree_74 rfl ?_
          refine x_goto (tgt := 34) dX11_findFree_77 (by decide) ?_
          refine x_sub [2, 3, 4, 1, 0] rfl ?_
          exact H
set_option maxRecDepth 20000 in
set_option maxHeartbeats 4000000 in
theorem B_X11_unionWith {G : GT} {d : Nat} {l1 : Int} {l2 : Int} {mem : Mem} {Q : Option AV → Mem → Prop} (hd : 1 ≤ d) (H : E_X11_unionWith G d 8 [(0, vR 71), (1, vI l1), (2, vI l2), (3, vI (-1)), (4, vI 0), (5, vI 1)] [] mem Q) : C_X11_unionWith G d [vR 71, vI l1, vI l2] mem Q := by
  refine Ct_of_Ex (by decide +kernel) (by exact Nat.le_of_ble_eq_true rfl) (ls := [(0, vR 71), (1, vI l1), (2, vI l2)]) rfl ?_
  show E_X11_unionWith G d 0 [(0, vR 71), (1, vI l1), (2, vI l2)] [] mem Q
  refine x_iconst (q := 1) dX11_unionWith_0 rfl ?_
  refine x_istoren (q := 2) (ls' := [(3, vI (-1)), (0, vR 71), (1, vI l1), (2, vI l2)]) rfl (by decide) rfl dX11_unionWith_1 rfl ?_
  refine x_iconst (q := 3) dX11_unionWith_2 rfl ?_
  refine x_istore (q := 5) (ls' := [(4, vI 0), (3, vI (-1)), (0, vR 71), (1, vI l1), (2, vI l2)]) (by decide) rfl dX11_unionWith_3 rfl ?_
  refine x_iconst (q := 6) dX11_unionWith_5 rfl ?_
  refine x_istore (q := 8) (ls' := [(5, vI 1), (4, vI 0), (3, vI (-1)), (0, vR 71), (1, vI l1), (2, vI l2)]) (by decide) rfl dX11_unionWith_6 rfl ?_
  refine x_sub [3, 4, 5, 2, 1, 0] rfl ?_
  exact H
set_option maxRecDepth 20000 in
set_option maxHeartbeats 4000000 in
theorem B_X11_unionWith_8 {G : GT} {d : Nat} {l1 : Int} {l2 : Int} {l3 : Int} {l4 : Int} {l5 : Int} {mem : Mem} {Q : Option AV → Mem → Prop} (hd : 1 ≤ d) (H : (inr l5 ∧ inr (ishl 1 (mem 72 0) - 1)) ∧ (((ishl 1 (mem 72 0) - 1 < l5) → ((inr l4) ∧ (∀ m5 : Mem, m5 = upM mem 71 14 l4 → (Q (some (vI l3)) m5)))) ∧ (¬ (ishl 1 (mem 72 0) - 1 < l5) → ((inr l1 ∧ inr l2) ∧ (((l1 = l2) → ((0 ≤ l5 ∧ l5 < 4096) ∧ (E_X11_unionWith G d 56 [(0, vR 71), (1, vI l1), (2, vI l2), (3, vI l3), (4, vI l4), (5, vI l5), (6, vI (mem 80 l5))] [] mem Q))) ∧ (¬ (l1 = l2) → (((iand (ishr l5 l1) 1 = 1) → ((0 ≤ l5 ∧ l5 < 4096) ∧ (E_X11_unionWith G d 56 [(0, vR 71), (1, vI l1), (2, vI l2), (3, vI l3), (4, vI l4), (5, vI l5), (6, vI (mem 80 l5))] [] mem Q))) ∧ (¬ (iand (ishr l5 l1) 1 = 1) → ((0 ≤ l5 ∧ l5 < 4096) ∧ (E_X11_unionWith G d 56 [(0, vR 71), (1, vI l1), (2, vI l2), (3, vI l3), (4, vI l4), (5, vI l5), (6, vI (iand (mem 80 l5) (ixor (ishl 1 l2) (-1))))] [] mem Q)))))))))) : E_X11_unionWith G d 8 [(0, vR 71), (1, vI l1), (2, vI l2), (3, vI l3), (4, vI l4), (5, vI l5)] [] mem Q := by
  refine x_iload (q := 10) 5 rfl dX11_unionWith_8 rfl ?_
  refine x_aloadn (q := 11) 0 rfl rfl rfl dX11_unionWith_10 rfl ?_
  refine x_callV (q := 14) (d := d - 1) (as := []) (st := [vI l5]) dX11_unionWith_11 rfl mv_X11_192 sh_71 rfl rfl rfl (by exact Nat.le_of_ble_eq_true rfl) ⟨by show _ ≤ d; omega, by show _ ≤ 40 * d; omega⟩ ⟨Nat.le_refl _, Nat.le_refl _⟩ (ct_all ?_)
  show E_X11_unionWith G d 14 [(0, vR 71), (1, vI l1), (2, vI l2), (3, vI l3), (4, vI l4), (5, vI l5)] [vI (ishl 1 (mem 72 0) - 1), vI l5] mem Q
  obtain ⟨⟨s1, s2⟩, H⟩ := H
  obtain ⟨H1, H2⟩ := H
  refine x_icmp_gt (tgt := 100) (q := 17) dX11_unionWith_14 (by decide) rfl s1 s2 (fun hB => ?_) (fun hB => ?_)
  · have H := H1 (hB)
    refine x_aloadn (q := 101) 0 rfl rfl rfl dX11_unionWith_100 rfl ?_
    refine x_iload (q := 103) 4 rfl dX11_unionWith_101 rfl ?_
    obtain ⟨s6, H⟩ := H
    refine x_puti (q := 106) (ji := 14) dX11_unionWith_103 rfl fp_X11_220 sh_71 rfl rfl s6 (fun m5 em5 => ?_)
    have H := H m5 em5
    refine x_iloadn (q := 107) 3 rfl rfl dX11_unionWith_106 rfl ?_
    exact x_iret rfl dX11_unionWith_107 H
  · have H := H2 (hB)
    refine x_iloadn (q := 18) 1 rfl rfl dX11_unionWith_17 rfl ?_
    refine x_iloadn (q := 19) 2 rfl rfl dX11_unionWith_18 rfl ?_
    obtain ⟨⟨s7, s8⟩, H⟩ := H
    obtain ⟨H1, H2⟩ := H
    refine x_icmp_eq (tgt := 47) (q := 22) dX11_unionWith_19 (by decide) rfl s7 s8 (fun hB => ?_) (fun hB => ?_)
    · have H := H1 (hB)
      refine x_aloadn (q := 48) 0 rfl rfl rfl dX11_unionWith_47 rfl ?_
      refine x_getr (q := 51) dX11_unionWith_48 rfl fa_X11_49 sh_71 rfl ?_
      refine x_iload (q := 53) 5 rfl dX11_unionWith_51 rfl ?_
      obtain ⟨⟨s11, s12⟩, H⟩ := H
      refine x_iald (q := 54) dX11_unionWith_53 rfl sh_80 s11 s12 (fun r13 => ?_)
      refine x_istore (q := 56) (ls' := [(6, vI (mem 80 l5)), (0, vR 71), (1, vI l1), (2, vI l2), (3, vI l3), (4, vI l4), (5, vI l5)]) (by decide) rfl dX11_unionWith_54 rfl ?_
      refine x_sub [1, 2, 3, 4, 5, 6, 0] rfl ?_
      exact H
    · have H := H2 (hB)
      refine x_iload (q := 24) 5 rfl dX11_unionWith_22 rfl ?_
      refine x_iloadn (q := 25) 1 rfl rfl dX11_unionWith_24 rfl ?_
      refine x_callS (q := 28) (d := d - 1) (as := [vI l5, vI l1]) (st := []) dX11_unionWith_25 rfl ms_X11_195 rfl rfl (by exact Nat.le_of_ble_eq_true rfl) ⟨by show _ ≤ d; omega, by show _ ≤ 40 * d; omega⟩ ⟨Nat.le_refl _, Nat.le_refl _⟩ (ct_hasb ?_)
      show E_X11_unionWith G d 28 [(0, vR 71), (1, vI l1), (2, vI l2), (3, vI l3), (4, vI l4), (5, vI l5)] [vI (bz (iand (ishr l5 l1) 1 = 1))] mem Q
      obtain ⟨H1, H2⟩ := H
      refine x_if_ne (tgt := 47) (q := 31) dX11_unionWith_28 (by decide) rfl (bz_inr _) (fun hB => ?_) (fun hB => ?_)
      · have H := H1 (bz_n0.mp hB)
        refine x_aloadn (q := 48) 0 rfl rfl rfl dX11_unionWith_47 rfl ?_
        refine x_getr (q := 51) dX11_unionWith_48 rfl fa_X11_49 sh_71 rfl ?_
        refine x_iload (q := 53) 5 rfl dX11_unionWith_51 rfl ?_
        obtain ⟨⟨s16, s17⟩, H⟩ := H
        refine x_iald (q := 54) dX11_unionWith_53 rfl sh_80 s16 s17 (fun r18 => ?_)
        refine x_istore (q := 56) (ls' := [(6, vI (mem 80 l5)), (0, vR 71), (1, vI l1), (2, vI l2), (3, vI l3), (4, vI l4), (5, vI l5)]) (by decide) rfl dX11_unionWith_54 rfl ?_
        refine x_sub [1, 2, 3, 4, 5, 6, 0] rfl ?_
        exact H
      · have H := H2 (fun z => hB (bz_n0.mpr z))
        refine x_aloadn (q := 32) 0 rfl rfl rfl dX11_unionWith_31 rfl ?_
        refine x_getr (q := 35) dX11_unionWith_32 rfl fa_X11_49 sh_71 rfl ?_
        refine x_iload (q := 37) 5 rfl dX11_unionWith_35 rfl ?_
        obtain ⟨⟨s19, s20⟩, H⟩ := H
        refine x_iald (q := 38) dX11_unionWith_37 rfl sh_80 s19 s20 (fun r21 => ?_)
        refine x_iconst (q := 39) dX11_unionWith_38 rfl ?_
        refine x_iloadn (q := 40) 2 rfl rfl dX11_unionWith_39 rfl ?_
        refine x_ishl (q := 41) dX11_unionWith_40 rfl ?_
        refine x_iconst (q := 42) dX11_unionWith_41 rfl ?_
        refine x_ixor (q := 43) dX11_unionWith_42 rfl ?_
        refine x_iand (q := 44) dX11_unionWith_43 rfl ?_
        refine x_goto (tgt := 54) dX11_unionWith_44 (by decide) ?_
        refine x_istore (q := 56) (ls' := [(6, vI (iand (mem 80 l5) (ixor (ishl 1 l2) (-1)))), (0, vR 71), (1, vI l1), (2, vI l2), (3, vI l3), (4, vI l4), (5, vI l5)]) (by decide) rfl dX11_unionWith_54 rfl ?_
        refine x_sub [1, 2, 3, 4, 5, 6, 0] rfl ?_
        exact H
set_option maxRecDepth 20000 in
set_option maxHeartbeats 4000000 in
theorem B_X11_unionWith_56 {G : GT} {d : Nat} {l1 : Int} {l2 : Int} {l3 : Int} {l4 : Int} {l5 : Int} {l6 : Int} {mem : Mem} {Q : Option AV → Mem → Prop} (hd : 1 ≤ d) (H : (inr (sm 12 (fun k => iand (ishr l6 k) 1))) ∧ ((inr l6) ∧ (((l6 = 0) → (E_X11_unionWith G d 8 [(0, vR 71), (1, vI l1), (2, vI l2), (3, vI l3), (4, vI l4), (5, vI (l5 + 1))] [] mem Q)) ∧ (¬ (l6 = 0) → ((inr l3) ∧ (((l3 < 0) → (E_X11_unionWith G d 8 [(0, vR 71), (1, vI l1), (2, vI l2), (3, vI l5), (4, vI ((sm 12 (fun k => iand (ishr l5 k) 1)) - (Int.tdiv (sm 12 (fun k => iand (ishr l6 k) 1)) 2))), (5, vI (l5 + 1))] [] mem Q)) ∧ (¬ (l3 < 0) → ((inr ((sm 12 (fun k => iand (ishr l5 k) 1)) - (Int.tdiv (sm 12 (fun k => iand (ishr l6 k) 1)) 2)) ∧ inr l4) ∧ (((l4 ≤ (sm 12 (fun k => iand (ishr l5 k) 1)) - (Int.tdiv (sm 12 (fun k => iand (ishr l6 k) 1)) 2)) → (E_X11_unionWith G d 8 [(0, vR 71), (1, vI l1), (2, vI l2), (3, vI l3), (4, vI l4), (5, vI (l5 + 1))] [] mem Q)) ∧ (¬ (l4 ≤ (sm 12 (fun k => iand (ishr l5 k) 1)) - (Int.tdiv (sm 12 (fun k => iand (ishr l6 k) 1)) 2)) → (E_X11_unionWith G d 8 [(0, vR 71), (1, vI l1), (2, vI l2), (3, vI l5), (4, vI ((sm 12 (fun k => iand (ishr l5 k) 1)) - (Int.tdiv (sm 12 (fun k => iand (ishr l6 k) 1)) 2))), (5, vI (l5 + 1))] [] mem Q))))))))))) : E_X11_unionWith G d 56 [(0, vR 71), (1, vI l1), (2, vI l2), (3, vI l3), (4, vI l4), (5, vI l5), (6, vI l6)] [] mem Q := by
  refine x_iload (q := 58) 5 rfl dX11_unionWith_56 rfl ?_
  refine x_callS (q := 61) (d := d - 1) (as := [vI l5]) (st := []) dX11_unionWith_58 rfl ms_X11_202 rfl rfl (by exact Nat.le_of_ble_eq_true rfl) ⟨by show _ ≤ d; omega, by show _ ≤ 40 * d; omega⟩ ⟨Nat.le_refl _, Nat.le_refl _⟩ (ct_bits ?_)
  show E_X11_unionWith G d 61 [(0, vR 71), (1, vI l1), (2, vI l2), (3, vI l3), (4, vI l4), (5, vI l5), (6, vI l6)] [vI (sm 12 (fun k => iand (ishr l5 k) 1))] mem Q
  refine x_iload (q := 63) 6 rfl dX11_unionWith_61 rfl ?_
  refine x_callS (q := 66) (d := d - 1) (as := [vI l6]) (st := [vI (sm 12 (fun k => iand (ishr l5 k) 1))]) dX11_unionWith_63 rfl ms_X11_202 rfl rfl (by exact Nat.le_of_ble_eq_true rfl) ⟨by show _ ≤ d; omega, by show _ ≤ 40 * d; omega⟩ ⟨Nat.le_refl _, Nat.le_refl _⟩ (ct_bits ?_)
  show E_X11_unionWith G d 66 [(0, vR 71), (1, vI l1), (2, vI l2), (3, vI l3), (4, vI l4), (5, vI l5), (6, vI l6)] [vI (sm 12 (fun k => iand (ishr l6 k) 1)), vI (sm 12 (fun k => iand (ishr l5 k) 1))] mem Q
  refine x_iconst (q := 67) dX11_unionWith_66 rfl ?_
  obtain ⟨s22, H⟩ := H
  refine x_idiv (q := 68) s22 (by decide) (by decide) dX11_unionWith_67 rfl ?_
  refine x_isub (q := 69) dX11_unionWith_68 rfl ?_
  refine x_istore (q := 71) (ls' := [(7, vI ((sm 12 (fun k => iand (ishr l5 k) 1)) - (Int.tdiv (sm 12 (fun k => iand (ishr l6 k) 1)) 2))), (0, vR 71), (1, vI l1), (2, vI l2), (3, vI l3), (4, vI l4), (5, vI l5), (6, vI l6)]) (by decide) rfl dX11_unionWith_69 rfl ?_
  refine x_iload (q := 73) 7 rfl dX11_unionWith_71 rfl ?_
  obtain ⟨s23, H⟩ := H
  obtain ⟨H1, H2⟩ := H
  refine x_if_eq (tgt := 94) (q := 76) dX11_unionWith_73 (by decide) rfl s23 (fun hB => ?_) (fun hB => ?_)
  · have H := H1 (hB)
    refine x_iinc (q := 97) (ls' := [(5, vI (l5 + 1)), (7, vI ((sm 12 (fun k => iand (ishr l5 k) 1)) - (Int.tdiv (sm 12 (fun k => iand (ishr l6 k) 1)) 2))), (0, vR 71), (1, vI l1), (2, vI l2), (3, vI l3), (4, vI l4), (6, vI l6)]) 6 rfl (by decide) rfl dX11_unionWith_94 rfl ?_
    refine x_goto (tgt := 8) dX11_unionWith_97 (by decide) ?_
    refine x_sub [2, 3, 4, 5, 6, 0] rfl ?_
    exact H
  · have H := H2 (hB)
    refine x_iloadn (q := 77) 4 rfl rfl dX11_unionWith_76 rfl ?_
    obtain ⟨s26, H⟩ := H
    obtain ⟨H1, H2⟩ := H
    refine x_if_lt (tgt := 87) (q := 80) dX11_unionWith_77 (by decide) rfl s26 (fun hB => ?_) (fun hB => ?_)
    · have H := H1 (hB)
      refine x_iload (q := 89) 6 rfl dX11_unionWith_87 rfl ?_
      refine x_istoren (q := 90) (ls' := [(3, vI l5), (7, vI ((sm 12 (fun k => iand (ishr l5 k) 1)) - (Int.tdiv (sm 12 (fun k => iand (ishr l6 k) 1)) 2))), (0, vR 71), (1, vI l1), (2, vI l2), (4, vI l4), (5, vI l5), (6, vI l6)]) rfl (by decide) rfl dX11_unionWith_89 rfl ?_
      refine x_iload (q := 92) 1 rfl dX11_unionWith_90 rfl ?_
      refine x_istore (q := 94) (ls' := [(4, vI ((sm 12 (fun k => iand (ishr l5 k) 1)) - (Int.tdiv (sm 12 (fun k => iand (ishr l6 k) 1)) 2))), (3, vI l5), (7, vI ((sm 12 (fun k => iand (ishr l5 k) 1)) - (Int.tdiv (sm 12 (fun k => iand (ishr l6 k) 1)) 2))), (0, vR 71), (1, vI l1), (2, vI l2), (5, vI l5), (6, vI l6)]) (by decide) rfl dX11_unionWith_92 rfl ?_
      refine x_iinc (q := 97) (ls' := [(5, vI (l5 + 1)), (4, vI ((sm 12 (fun k => iand (ishr l5 k) 1)) - (Int.tdiv (sm 12 (fun k => iand (ishr l6 k) 1)) 2))), (3, vI l5), (7, vI ((sm 12 (fun k => iand (ishr l5 k) 1)) - (Int.tdiv (sm 12 (fun k => iand (ishr l6 k) 1)) 2))), (0, vR 71), (1, vI l1), (2, vI l2), (6, vI l6)]) 6 rfl (by decide) rfl dX11_unionWith_94 rfl ?_
      refine x_goto (tgt := 8) dX11_unionWith_97 (by decide) ?_
      refine x_sub [4, 5, 6, 2, 1, 0] rfl ?_
      exact H
    · have H := H2 (hB)
      refine x_iload (q := 82) 0 rfl dX11_unionWith_80 rfl ?_
      refine x_iload (q := 84) 5 rfl dX11_unionWith_82 rfl ?_
      obtain ⟨⟨s29, s30⟩, H⟩ := H
      obtain ⟨H1, H2⟩ := H
      refine x_icmp_ge (tgt := 94) (q := 87) dX11_unionWith_84 (by decide) rfl s29 s30 (fun hB => ?_) (fun hB => ?_)
      · have H := H1 (hB)
        refine x_iinc (q := 97) (ls' := [(5, vI (l5 + 1)), (7, vI ((sm 12 (fun k => iand (ishr l5 k) 1)) - (Int.tdiv (sm 12 (fun k => iand (ishr l6 k) 1)) 2))), (0, vR 71), (1, vI l1), (2, vI l2), (3, vI l3), (4, vI l4), (6, vI l6)]) 6 rfl (by decide) rfl dX11_unionWith_94 rfl ?_
        refine x_goto (tgt := 8) dX11_unionWith_97 (by decide) ?_
        refine x_sub [2, 3, 4, 5, 6, 0] rfl ?_
        exact H
      · have H := H2 (hB)
        refine x_iload (q := 89) 6 rfl dX11_unionWith_87 rfl ?_
        refine x_istoren (q := 90) (ls' := [(3, vI l5), (7, vI ((sm 12 (fun k => iand (ishr l5 k) 1)) - (Int.tdiv (sm 12 (fun k => iand (ishr l6 k) 1)) 2))), (0, vR 71), (1, vI l1), (2, vI l2), (4, vI l4), (5, vI l5), (6, vI l6)]) rfl (by decide) rfl dX11_unionWith_89 rfl ?_
        refine x_iload (q := 92) 1 rfl dX11_unionWith_90 rfl ?_
        refine x_istore (q := 94) (ls' := [(4, vI ((sm 12 (fun k => iand (ishr l5 k) 1)) - (Int.tdiv (sm 12 (fun k => iand (ishr l6 k) 1)) 2))), (3, vI l5), (7, vI ((sm 12 (fun k => iand (ishr l5 k) 1)) - (Int.tdiv (sm 12 (fun k => iand (ishr l6 k) 1)) 2))), (0, vR 71), (1, vI l1), (2, vI l2), (5, vI l5), (6, vI l6)]) (by decide) rfl dX11_unionWith_92 rfl ?_
        refine x_iinc (q := 97) (ls' := [(5, vI (l5 + 1)), (4, vI ((sm 12 (fun k => iand (ishr l5 k) 1)) - (Int.tdiv (sm 12 (fun k => iand (ishr l6 k) 1)) 2))), (3, vI l5), (7, vI ((sm 12 (fun k => iand (ishr l5 k) 1)) - (Int.tdiv (sm 12 (fun k => iand (ishr l6 k) 1)) 2))), (0, vR 71), (1, vI l1), (2, vI l2), (6, vI l6)]) 6 rfl (by decide) rfl dX11_unionWith_94 rfl ?_
        refine x_goto (tgt := 8) dX11_unionWith_97 (by decide) ?_
        refine x_sub [4, 5, 6, 2, 1, 0] rfl ?_
        exact H
set_option maxRecDepth 20000 in
set_option maxHeartbeats 4000000 in
theorem B_X11_knownWith {G : GT} {d : Nat} {l1 : Int} {l2 : Int} {mem : Mem} {Q : Option AV → Mem → Prop} (hd : 1 ≤ d) (H : C_X11_unionWith G (d - 1) [vR 71, vI l1, vI l2] mem (fun r9 m1 => ∃ z2 : Int, r9 = some (vI z2) ∧ ((inr z2) ∧ (((0 ≤ z2) → (Q (some (vI ((m1 71 14) - 1))) m1)) ∧ (¬ (0 ≤ z2) → (Q (some (vI 12)) m1)))))) : C_X11_knownWith G d [vR 71, vI l1, vI l2] mem Q := by
  refine Ct_of_Ex (by decide +kernel) (by exact Nat.le_of_ble_eq_true rfl) (ls := [(0, vR 71), (1, vI l1), (2, vI l2)]) rfl ?_
  show E_X11_knownWith G d 0 [(0, vR 71), (1, vI l1), (2, vI l2)] [] mem Q
  refine x_aloadn (q := 1) 0 rfl rfl rfl dX11_knownWith_0 rfl ?_
  refine x_iloadn (q := 2) 1 rfl rfl dX11_knownWith_1 rfl ?_
  refine x_iloadn (q := 3) 2 rfl rfl dX11_knownWith_2 rfl ?_
  refine x_callV (q := 6) (d := d - 1) (as := [vI l1, vI l2]) (st := []) dX11_knownWith_3 rfl mv_X11_223 sh_71 rfl rfl rfl (by exact Nat.le_of_ble_eq_true rfl) ⟨by show _ ≤ d; omega, by show _ ≤ 40 * d; omega⟩ ⟨Nat.le_refl _, Nat.le_refl _⟩ (Ct.mono H (fun r9 m1 H => ?_))
  obtain ⟨z2, rfl, H⟩ := H
  show E_X11_knownWith G d 6 [(0, vR 71), (1, vI l1), (2, vI l2)] [vI z2] m1 Q
  obtain ⟨s3, H⟩ := H
  obtain ⟨H1, H2⟩ := H
  refine x_if_ge (tgt := 14) (q := 9) dX11_knownWith_6 (by decide) rfl s3 (fun hB => ?_) (fun hB => ?_)
  · have H := H1 (hB)
    refine x_aloadn (q := 15) 0 rfl rfl rfl dX11_knownWith_14 rfl ?_
    refine x_geti (q := 18) (ji := 14) dX11_knownWith_15 rfl fa_X11_220 sh_71 rfl rfl (fun r6 => ?_)
    refine x_iconst (q := 19) dX11_knownWith_18 rfl ?_
    refine x_isub (q := 20) dX11_knownWith_19 rfl ?_
    exact x_iret rfl dX11_knownWith_20 H
  · have H := H2 (hB)
    refine x_bipush (q := 11) rfl dX11_knownWith_9 rfl ?_
    refine x_goto (tgt := 20) dX11_knownWith_11 (by decide) ?_
    exact x_iret rfl dX11_knownWith_20 H
