abbrev E_X3_vouches (G : GT) (d pc : Nat) (ls : List (Nat × AV)) (st : List AV) (mem : Mem) (Q : Option AV → Mem → Prop) : Prop := Ex G RX3 cX3_vouches 1 (some .boolean) d pc ls st mem Q
abbrev C_X3_vouches (G : GT) (d : Nat) (as : List AV) (mem : Mem) (Q : Option AV → Mem → Prop) : Prop := Ct G yX3_vouches cX3_vouches 1 (some .boolean) d as mem Q
set_option maxRecDepth 20000 in
set_option maxHeartbeats 4000000 in
theorem B_X3_vouches {G : GT} {d : Nat} {l0 : Int} {mem : Mem} {Q : Option AV → Mem → Prop} (hd : 1 ≤ d) (H : (0 ≤ l0 ∧ l0 < 6) ∧ (((isUnd l0 3) → (Q (some (vI 0)) mem)) ∧ (¬ (isUnd l0 3) → (Q (some (vI 1)) mem)))) : C_X3_vouches G d [vI l0] mem Q := by
  refine Ct_of_Ex (by decide +kernel) (by exact Nat.le_of_ble_eq_true rfl) (ls := [(0, vI l0)]) rfl ?_
  show E_X3_vouches G d 0 [(0, vI l0)] [] mem Q
  refine x_iloadn (q := 1) 0 rfl rfl dX3_vouches_0 rfl ?_
  refine x_iconst (q := 2) dX3_vouches_1 rfl ?_
  obtain ⟨⟨s1, s2⟩, H⟩ := H
  refine x_callS (q := 5) (d := d - 1) (as := [vI l0, vI 3]) (st := []) dX3_vouches_2 rfl ms_X3_13 rfl rfl (by exact Nat.le_of_ble_eq_true rfl) ⟨by show _ ≤ d; omega, by show _ ≤ 40 * d; omega⟩ ⟨Nat.le_refl _, Nat.le_refl _⟩ (ct_under s1 s2 (by decide) ?_)
  show E_X3_vouches G d 5 [(0, vI l0)] [vI (bz (isUnd l0 3))] mem Q
  obtain ⟨H1, H2⟩ := H
  refine x_if_ne (tgt := 12) (q := 8) dX3_vouches_5 (by decide) rfl (bz_inr _) (fun hB => ?_) (fun hB => ?_)
  · have H := H1 (bz_n0.mp hB)
    refine x_iconst (q := 13) dX3_vouches_12 rfl ?_
    exact x_zret rfl dX3_vouches_13 (by decide) H
  · have H := H2 (fun z => hB (bz_n0.mpr z))
    refine x_iconst (q := 9) dX3_vouches_8 rfl ?_
    refine x_goto (tgt := 13) dX3_vouches_9 (by decide) ?_
    exact x_zret rfl dX3_vouches_13 (by decide) H
abbrev E_X3_wholeMaySay (G : GT) (d pc : Nat) (ls : List (Nat × AV)) (st : List AV) (mem : Mem) (Q : Option AV → Mem → Prop) : Prop := Ex G RX3 cX3_wholeMaySay 3 (some .boolean) d pc ls st mem Q
abbrev C_X3_wholeMaySay (G : GT) (d : Nat) (as : List AV) (mem : Mem) (Q : Option AV → Mem → Prop) : Prop := Ct G yX3_wholeMaySay cX3_wholeMaySay 3 (some .boolean) d as mem Q
set_option maxRecDepth 20000 in
set_option maxHeartbeats 4000000 in
theorem B_X3_wholeMaySay {G : GT} {d : Nat} {l0 : Int} {l1 : Int} {l2 : Int} {mem : Mem} {Q : Option AV → Mem → Prop} (hd : 1 ≤ d) (H : (0 ≤ l0 ∧ l0 < 6) ∧ ((¬ (isUnd l0 3) → ((inr l2 ∧ inr l1) ∧ (((l2 = l1) → (Q (some (vI 0)) mem)) ∧ (¬ (l2 = l1) → (Q (some (vI 1)) mem))))) ∧ ((isUnd l0 3) → ((inr l2) ∧ (((l2 ≠ 0) → (Q (some (vI 1)) mem)) ∧ (¬ (l2 ≠ 0) → ((inr l1) ∧ (((l1 = 0) → (Q (some (vI 0)) mem)) ∧ (¬ (l1 = 0) → (Q (some (vI 1)) mem)))))))))) : C_X3_wholeMaySay G d [vI l0, vI l1, vI l2] mem Q := by
  refine Ct_of_Ex (by decide +kernel) (by exact Nat.le_of_ble_eq_true rfl) (ls := [(0, vI l0), (1, vI l1), (2, vI l2)]) rfl ?_
  show E_X3_wholeMaySay G d 0 [(0, vI l0), (1, vI l1), (2, vI l2)] [] mem Q
  refine x_iloadn (q := 1) 0 rfl rfl dX3_wholeMaySay_0 rfl ?_
  refine x_iconst (q := 2) dX3_wholeMaySay_1 rfl ?_
  obtain ⟨⟨s1, s2⟩, H⟩ := H
  refine x_callS (q := 5) (d := d - 1) (as := [vI l0, vI 3]) (st := []) dX3_wholeMaySay_2 rfl ms_X3_13 rfl rfl (by exact Nat.le_of_ble_eq_true rfl) ⟨by show _ ≤ d; omega, by show _ ≤ 40 * d; omega⟩ ⟨Nat.le_refl _, Nat.le_refl _⟩ (ct_under s1 s2 (by decide) ?_)
  show E_X3_wholeMaySay G d 5 [(0, vI l0), (1, vI l1), (2, vI l2)] [vI (bz (isUnd l0 3))] mem Q
  obtain ⟨H1, H2⟩ := H
  refine x_if_eq (tgt := 22) (q := 8) dX3_wholeMaySay_5 (by decide) rfl (bz_inr _) (fun hB => ?_) (fun hB => ?_)
  · have H := H1 (bz_0.mp hB)
    refine x_iloadn (q := 23) 2 rfl rfl dX3_wholeMaySay_22 rfl ?_
    refine x_iloadn (q := 24) 1 rfl rfl dX3_wholeMaySay_23 rfl ?_
    obtain ⟨⟨s5, s6⟩, H⟩ := H
    obtain ⟨H1, H2⟩ := H
    refine x_icmp_eq (tgt := 31) (q := 27) dX3_wholeMaySay_24 (by decide) rfl s5 s6 (fun hB => ?_) (fun hB => ?_)
    · have H := H1 (hB)
      refine x_iconst (q := 32) dX3_wholeMaySay_31 rfl ?_
      exact x_zret rfl dX3_wholeMaySay_32 (by decide) H
    · have H := H2 (hB)
      refine x_iconst (q := 28) dX3_wholeMaySay_27 rfl ?_
      refine x_goto (tgt := 32) dX3_wholeMaySay_28 (by decide) ?_
      exact x_zret rfl dX3_wholeMaySay_32 (by decide) H
  · have H := H2 (Classical.byContradiction (fun z => hB (bz_0.mpr z)))
    refine x_iloadn (q := 9) 2 rfl rfl dX3_wholeMaySay_8 rfl ?_
    obtain ⟨s9, H⟩ := H
    obtain ⟨H1, H2⟩ := H
    refine x_if_ne (tgt := 16) (q := 12) dX3_wholeMaySay_9 (by decide) rfl s9 (fun hB => ?_) (fun hB => ?_)
    · have H := H1 (hB)
      refine x_iconst (q := 17) dX3_wholeMaySay_16 rfl ?_
      refine x_goto (tgt := 21) dX3_wholeMaySay_17 (by decide) ?_
      exact x_zret rfl dX3_wholeMaySay_21 (by decide) H
    · have H := H2 (hB)
      refine x_iloadn (q := 13) 1 rfl rfl dX3_wholeMaySay_12 rfl ?_
      obtain ⟨s12, H⟩ := H
      obtain ⟨H1, H2⟩ := H
      refine x_if_eq (tgt := 20) (q := 16) dX3_wholeMaySay_13 (by decide) rfl s12 (fun hB => ?_) (fun hB => ?_)
      · have H := H1 (hB)
        refine x_iconst (q := 21) dX3_wholeMaySay_20 rfl ?_
        exact x_zret rfl dX3_wholeMaySay_21 (by decide) H
      · have H := H2 (hB)
        refine x_iconst (q := 17) dX3_wholeMaySay_16 rfl ?_
        refine x_goto (tgt := 21) dX3_wholeMaySay_17 (by decide) ?_
        exact x_zret rfl dX3_wholeMaySay_21 (by decide) H
abbrev E_X11_is (G : GT) (d pc : Nat) (ls : List (Nat × AV)) (st : List AV) (mem : Mem) (Q : Option AV → Mem → Prop) : Prop := Ex G RX11 cX11_is 3 (some .boolean) d pc ls st mem Q
abbrev C_X11_is (G : GT) (d : Nat) (as : List AV) (mem : Mem) (Q : Option AV → Mem → Prop) : Prop := Ct G yX11_is cX11_is 3 (some .boolean) d as mem Q
set_option maxRecDepth 20000 in
set_option maxHeartbeats 4000000 in
theorem B_X11_is {G : GT} {d : Nat} {l1 : Int} {l2 : Int} {mem : Mem} {Q : Option AV → Mem → Prop} (hd : 1 ≤ d) (H : (0 ≤ l2 ∧ l2 < 553) ∧ ((inr l1 ∧ inr ((mem 72 l2) - 1)) ∧ (Q (some (vI (bz (0 ≤ l1 ∧ l1 ≤ (mem 72 l2) - 1)))) mem))) : C_X11_is G d [vR 71, vI l1, vI l2] mem Q := by
  refine Ct_of_Ex (by decide +kernel) (by exact Nat.le_of_ble_eq_true rfl) (ls := [(0, vR 71), (1, vI l1), (2, vI l2)]) rfl ?_
  show E_X11_is G d 0 [(0, vR 71), (1, vI l1), (2, vI l2)] [] mem Q
  refine x_iloadn (q := 1) 1 rfl rfl dX11_is_0 rfl ?_
  refine x_iconst (q := 2) dX11_is_1 rfl ?_
  refine x_aloadn (q := 3) 0 rfl rfl rfl dX11_is_2 rfl ?_
  refine x_getr (q := 6) dX11_is_3 rfl fa_X11_9 sh_71 rfl ?_
  refine x_iloadn (q := 7) 2 rfl rfl dX11_is_6 rfl ?_
  obtain ⟨⟨s1, s2⟩, H⟩ := H
  refine x_iald (q := 8) dX11_is_7 rfl sh_72 s1 s2 (fun r3 => ?_)
  refine x_iconst (q := 9) dX11_is_8 rfl ?_
  refine x_isub (q := 10) dX11_is_9 rfl ?_
  obtain ⟨⟨s4, s5⟩, H⟩ := H
  refine x_callS (q := 13) (d := d - 1) (as := [vI l1, vI 0, vI ((mem 72 l2) - 1)]) (st := []) dX11_is_10 rfl ms_X11_83 rfl rfl (by exact Nat.le_of_ble_eq_true rfl) ⟨by show _ ≤ d; omega, by show _ ≤ 40 * d; omega⟩ ⟨Nat.le_refl _, Nat.le_refl _⟩ (ct_within s4 (by decide) s5 ?_)
  show E_X11_is G d 13 [(0, vR 71), (1, vI l1), (2, vI l2)] [vI (bz (0 ≤ l1 ∧ l1 ≤ (mem 72 l2) - 1))] mem Q
  exact x_zret rfl dX11_is_13 (bz_01 _) H
abbrev E_X11_counts (G : GT) (d pc : Nat) (ls : List (Nat × AV)) (st : List AV) (mem : Mem) (Q : Option AV → Mem → Prop) : Prop := Ex G RX11 cX11_counts 2 (some .boolean) d pc ls st mem Q
abbrev C_X11_counts (G : GT) (d : Nat) (as : List AV) (mem : Mem) (Q : Option AV → Mem → Prop) : Prop := Ct G yX11_counts cX11_counts 2 (some .boolean) d as mem Q
set_option maxRecDepth 20000 in
set_option maxHeartbeats 4000000 in
theorem B_X11_counts {G : GT} {d : Nat} {l1 : Int} {mem : Mem} {Q : Option AV → Mem → Prop} (hd : 1 ≤ d) (H : (0 ≤ 185 + 4 * l1 + 3 ∧ 185 + 4 * l1 + 3 < 553) ∧ (((mem 72 (185 + 4 * l1 + 3) ≠ 1) → (Q (some (vI 0)) mem)) ∧ (¬ (mem 72 (185 + 4 * l1 + 3) ≠ 1) → (Q (some (vI 1)) mem)))) : C_X11_counts G d [vR 71, vI l1] mem Q := by
  refine Ct_of_Ex (by decide +kernel) (by exact Nat.le_of_ble_eq_true rfl) (ls := [(0, vR 71), (1, vI l1)]) rfl ?_
  show E_X11_counts G d 0 [(0, vR 71), (1, vI l1)] [] mem Q
  refine x_aloadn (q := 1) 0 rfl rfl rfl dX11_counts_0 rfl ?_
  refine x_iloadn (q := 2) 1 rfl rfl dX11_counts_1 rfl ?_
  refine x_iconst (q := 3) dX11_counts_2 rfl ?_
  obtain ⟨⟨s1, s2⟩, H⟩ := H
  refine x_callV (q := 6) (d := d - 1) (as := [vI l1, vI 3]) (st := []) dX11_counts_3 rfl mv_X11_97 sh_71 rfl rfl rfl (by exact Nat.le_of_ble_eq_true rfl) ⟨by show _ ≤ d; omega, by show _ ≤ 40 * d; omega⟩ ⟨Nat.le_refl _, Nat.le_refl _⟩ (ct_saying s1 s2 ?_)
  show E_X11_counts G d 6 [(0, vR 71), (1, vI l1)] [vI (mem 72 (185 + 4 * l1 + 3))] mem Q
  refine x_iconst (q := 7) dX11_counts_6 rfl ?_
  refine x_ok (fun hm3 => ?_)
  obtain ⟨H1, H2⟩ := H
  refine x_icmp_ne (tgt := 14) (q := 10) dX11_counts_7 (by decide) rfl (ok_ai hm3 sh_72 (by decide) _) (by decide) (fun hB => ?_) (fun hB => ?_)
  · have H := H1 (hB)
    refine x_iconst (q := 15) dX11_counts_14 rfl ?_
    exact x_zret rfl dX11_counts_15 (by decide) H
  · have H := H2 (hB)
    refine x_iconst (q := 11) dX11_counts_10 rfl ?_
    refine x_goto (tgt := 15) dX11_counts_11 (by decide) ?_
    exact x_zret rfl dX11_counts_15 (by decide) H
abbrev E_X11_isSheet (G : GT) (d pc : Nat) (ls : List (Nat × AV)) (st : List AV) (mem : Mem) (Q : Option AV → Mem → Prop) : Prop := Ex G RX11 cX11_isSheet 1 (some .boolean) d pc ls st mem Q
abbrev C_X11_isSheet (G : GT) (d : Nat) (as : List AV) (mem : Mem) (Q : Option AV → Mem → Prop) : Prop := Ct G yX11_isSheet cX11_isSheet 1 (some .boolean) d as mem Q
set_option maxRecDepth 20000 in
set_option maxHeartbeats 4000000 in
theorem B_X11_isSheet {G : GT} {d : Nat} {l0 : Int} {mem : Mem} {Q : Option AV → Mem → Prop} (hd : 1 ≤ d) (H : (inr l0) ∧ (Q (some (vI (bz (0 ≤ l0 ∧ l0 ≤ 3)))) mem)) : C_X11_isSheet G d [vI l0] mem Q := by
  refine Ct_of_Ex (by decide +kernel) (by exact Nat.le_of_ble_eq_true rfl) (ls := [(0, vI l0)]) rfl ?_
  show E_X11_isSheet G d 0 [(0, vI l0)] [] mem Q
  refine x_iloadn (q := 1) 0 rfl rfl dX11_isSheet_0 rfl ?_
  refine x_iconst (q := 2) dX11_isSheet_1 rfl ?_
  refine x_iconst (q := 3) dX11_isSheet_2 rfl ?_
  obtain ⟨s1, H⟩ := H
  refine x_callS (q := 6) (d := d - 1) (as := [vI l0, vI 0, vI 3]) (st := []) dX11_isSheet_3 rfl ms_X11_83 rfl rfl (by exact Nat.le_of_ble_eq_true rfl) ⟨by show _ ≤ d; omega, by show _ ≤ 40 * d; omega⟩ ⟨Nat.le_refl _, Nat.le_refl _⟩ (ct_within s1 (by decide) (by decide) ?_)
  show E_X11_isSheet G d 6 [(0, vI l0)] [vI (bz (0 ≤ l0 ∧ l0 ≤ 3))] mem Q
  exact x_zret rfl dX11_isSheet_6 (bz_01 _) H
abbrev E_X2_hasAll (G : GT) (d pc : Nat) (ls : List (Nat × AV)) (st : List AV) (mem : Mem) (Q : Option AV → Mem → Prop) : Prop := Ex G RX2 cX2_hasAll 2 (some .boolean) d pc ls st mem Q
abbrev C_X2_hasAll (G : GT) (d : Nat) (as : List AV) (mem : Mem) (Q : Option AV → Mem → Prop) : Prop := Ct G yX2_hasAll cX2_hasAll 2 (some .boolean) d as mem Q
set_option maxRecDepth 20000 in
set_option maxHeartbeats 4000000 in
theorem B_X2_hasAll {G : GT} {d : Nat} {h : Nat} (hh : isH h) {l1 : Int} {mem : Mem} {Q : Option AV → Mem → Prop} (hd : 1 ≤ d) (H : ((iand l1 (ixor (ishl 1 (mem h 0) - 1) (-1)) ≠ 0) → (Q (some (vI 0)) mem)) ∧ (¬ (iand l1 (ixor (ishl 1 (mem h 0) - 1) (-1)) ≠ 0) → (Q (some (vI 1)) mem))) : C_X2_hasAll G d [vR h, vI l1] mem Q := by
  refine Ct_of_Ex (by decide +kernel) (by exact Nat.le_of_ble_eq_true rfl) (ls := [(0, vR h), (1, vI l1)]) rfl ?_
  show E_X2_hasAll G d 0 [(0, vR h), (1, vI l1)] [] mem Q
  refine x_iloadn (q := 1) 1 rfl rfl dX2_hasAll_0 rfl ?_
  refine x_aloadn (q := 2) 0 rfl rfl rfl dX2_hasAll_1 rfl ?_
  refine x_callV (q := 5) (d := d - 1) (as := []) (st := [vI l1]) dX2_hasAll_2 rfl mv_X2_73 (sh_H0 hh) rfl rfl rfl (by exact Nat.le_of_ble_eq_true rfl) ⟨by show _ ≤ d; omega, by show _ ≤ 40 * d; omega⟩ ⟨Nat.le_refl _, Nat.le_refl _⟩ (ct_everyone hh ?_)
  show E_X2_hasAll G d 5 [(0, vR h), (1, vI l1)] [vI (ishl 1 (mem h 0) - 1), vI l1] mem Q
  refine x_iconst (q := 6) dX2_hasAll_5 rfl ?_
  refine x_ixor (q := 7) dX2_hasAll_6 rfl ?_
  refine x_iand (q := 8) dX2_hasAll_7 rfl ?_
  obtain ⟨H1, H2⟩ := H
  refine x_if_ne (tgt := 15) (q := 11) dX2_hasAll_8 (by decide) rfl (iand_inr _ _) (fun hB => ?_) (fun hB => ?_)
  · have H := H1 (hB)
    refine x_iconst (q := 16) dX2_hasAll_15 rfl ?_
    exact x_zret rfl dX2_hasAll_16 (by decide) H
  · have H := H2 (hB)
    refine x_iconst (q := 12) dX2_hasAll_11 rfl ?_
    refine x_goto (tgt := 16) dX2_hasAll_12 (by decide) ?_
    exact x_zret rfl dX2_hasAll_16 (by decide) H
abbrev E_X2_objectionToSaying (G : GT) (d pc : Nat) (ls : List (Nat × AV)) (st : List AV) (mem : Mem) (Q : Option AV → Mem → Prop) : Prop := Ex G RX2 cX2_objectionToSaying 3 (some .int) d pc ls st mem Q
abbrev C_X2_objectionToSaying (G : GT) (d : Nat) (as : List AV) (mem : Mem) (Q : Option AV → Mem → Prop) : Prop := Ct G yX2_objectionToSaying cX2_objectionToSaying 3 (some .int) d as mem Q
set_option maxRecDepth 20000 in
set_option maxHeartbeats 4000000 in
theorem B_X2_objectionToSaying {G : GT} {d : Nat} {h : Nat} (hh : isH h) {l1 : Int} {l2 : Int} {mem : Mem} {Q : Option AV → Mem → Prop} (hd : 1 ≤ d) (H : (inr l1) ∧ ((¬ (0 ≤ l1 ∧ l1 < mem h 0) → (Q (some (vI (-1000001))) mem)) ∧ ((0 ≤ l1 ∧ l1 < mem h 0) → ((inr l2) ∧ (((0 ≤ l2 ∧ l2 < mem h 0) → (((l1 = l2) → (Q (some (vI (-1000003))) mem)) ∧ (¬ (l1 = l2) → ((0 ≤ l1 ∧ l1 < 12) ∧ (((iand (ishr (mem (h + 4) l1) l2) 1 ≠ 0) → ((¬ (mem h 6 < 60) → (Q (some (vI (-1000004))) mem)) ∧ ((mem h 6 < 60) → (Q (some (vI 0)) mem)))) ∧ (¬ (iand (ishr (mem (h + 4) l1) l2) 1 ≠ 0) → (Q (some (vI (-1000003))) mem))))))) ∧ (¬ (0 ≤ l2 ∧ l2 < mem h 0) → (Q (some (vI (-1000001))) mem))))))) : C_X2_objectionToSaying G d [vR h, vI l1, vI l2] mem Q := by
  refine Ct_of_Ex (by decide +kernel) (by exact Nat.le_of_ble_eq_true rfl) (ls := [(0, vR h), (1, vI l1), (2, vI l2)]) rfl ?_
  show E_X2_objectionToSaying G d 0 [(0, vR h), (1, vI l1), (2, vI l2)] [] mem Q
  refine x_aloadn (q := 1) 0 rfl rfl rfl dX2_objectionToSaying_0 rfl ?_
  refine x_iloadn (q := 2) 1 rfl rfl dX2_objectionToSaying_1 rfl ?_
  obtain ⟨s1, H⟩ := H
  refine x_callV (q := 5) (d := d - 1) (as := [vI l1]) (st := []) dX2_objectionToSaying_2 rfl mv_X2_87 (sh_H0 hh) rfl rfl rfl (by exact Nat.le_of_ble_eq_true rfl) ⟨by show _ ≤ d; omega, by show _ ≤ 40 * d; omega⟩ ⟨Nat.le_refl _, Nat.le_refl _⟩ (ct_has hh s1 ?_)
  show E_X2_objectionToSaying G d 5 [(0, vR h), (1, vI l1), (2, vI l2)] [vI (bz (0 ≤ l1 ∧ l1 < mem h 0))] mem Q
  obtain ⟨H1, H2⟩ := H
  refine x_if_eq (tgt := 16) (q := 8) dX2_objectionToSaying_5 (by decide) rfl (bz_inr _) (fun hB => ?_) (fun hB => ?_)
  · have H := H1 (bz_0.mp hB)
    refine x_ldc (q := 18) (z := (-1000001)) cn_X2_91 (by decide) dX2_objectionToSaying_16 rfl ?_
    exact x_iret rfl dX2_objectionToSaying_18 H
  · have H := H2 (Classical.byContradiction (fun z => hB (bz_0.mpr z)))
    refine x_aloadn (q := 9) 0 rfl rfl rfl dX2_objectionToSaying_8 rfl ?_
    refine x_iloadn (q := 10) 2 rfl rfl dX2_objectionToSaying_9 rfl ?_
    obtain ⟨s4, H⟩ := H
    refine x_callV (q := 13) (d := d - 1) (as := [vI l2]) (st := []) dX2_objectionToSaying_10 rfl mv_X2_87 (sh_H0 hh) rfl rfl rfl (by exact Nat.le_of_ble_eq_true rfl) ⟨by show _ ≤ d; omega, by show _ ≤ 40 * d; omega⟩ ⟨Nat.le_refl _, Nat.le_refl _⟩ (ct_has hh s4 ?_)
    show E_X2_objectionToSaying G d 13 [(0, vR h), (1, vI l1), (2, vI l2)] [vI (bz (0 ≤ l2 ∧ l2 < mem h 0))] mem Q
    obtain ⟨H1, H2⟩ := H
    refine x_if_ne (tgt := 19) (q := 16) dX2_objectionToSaying_13 (by decide) rfl (bz_inr _) (fun hB => ?_) (fun hB => ?_)
    · have H := H1 (bz_n0.mp hB)
      refine x_iloadn (q := 20) 1 rfl rfl dX2_objectionToSaying_19 rfl ?_
      refine x_iloadn (q := 21) 2 rfl rfl dX2_objectionToSaying_20 rfl ?_
      obtain ⟨H1, H2⟩ := H
      refine x_icmp_eq (tgt := 33) (q := 24) dX2_objectionToSaying_21 (by decide) rfl s1 s4 (fun hB => ?_) (fun hB => ?_)
      · have H := H1 (hB)
        refine x_ldc (q := 35) (z := (-1000003)) cn_X2_96 (by decide) dX2_objectionToSaying_33 rfl ?_
        exact x_iret rfl dX2_objectionToSaying_35 H
      · have H := H2 (hB)
        refine x_aloadn (q := 25) 0 rfl rfl rfl dX2_objectionToSaying_24 rfl ?_
        refine x_iloadn (q := 26) 1 rfl rfl dX2_objectionToSaying_25 rfl ?_
        refine x_iloadn (q := 27) 2 rfl rfl dX2_objectionToSaying_26 rfl ?_
        obtain ⟨⟨s9, s10⟩, H⟩ := H
        refine x_callV (q := 30) (d := d - 1) (as := [vI l1, vI l2]) (st := []) dX2_objectionToSaying_27 rfl mv_X2_92 (sh_H0 hh) rfl rfl rfl (by exact Nat.le_of_ble_eq_true rfl) ⟨by show _ ≤ d; omega, by show _ ≤ 40 * d; omega⟩ ⟨Nat.le_refl _, Nat.le_refl _⟩ (ct_tied hh s9 s10 ?_)
        show E_X2_objectionToSaying G d 30 [(0, vR h), (1, vI l1), (2, vI l2)] [vI (bz (iand (ishr (mem (h + 4) l1) l2) 1 ≠ 0))] mem Q
        obtain ⟨H1, H2⟩ := H
        refine x_if_ne (tgt := 36) (q := 33) dX2_objectionToSaying_30 (by decide) rfl (bz_inr _) (fun hB => ?_) (fun hB => ?_)
        · have H := H1 (bz_n0.mp hB)
          refine x_aloadn (q := 37) 0 rfl rfl rfl dX2_objectionToSaying_36 rfl ?_
          refine x_callV (q := 40) (d := d - 1) (as := []) (st := []) dX2_objectionToSaying_37 rfl mv_X2_97 (sh_H0 hh) rfl rfl rfl (by exact Nat.le_of_ble_eq_true rfl) ⟨by show _ ≤ d; omega, by show _ ≤ 40 * d; omega⟩ ⟨Nat.le_refl _, Nat.le_refl _⟩ (ct_roomS hh ?_)
          show E_X2_objectionToSaying G d 40 [(0, vR h), (1, vI l1), (2, vI l2)] [vI (bz (mem h 6 < 60))] mem Q
          obtain ⟨H1, H2⟩ := H
          refine x_if_eq (tgt := 47) (q := 43) dX2_objectionToSaying_40 (by decide) rfl (bz_inr _) (fun hB => ?_) (fun hB => ?_)
          · have H := H1 (bz_0.mp hB)
            refine x_ldc (q := 49) (z := (-1000004)) cn_X2_101 (by decide) dX2_objectionToSaying_47 rfl ?_
            exact x_iret rfl dX2_objectionToSaying_49 H
          · have H := H2 (Classical.byContradiction (fun z => hB (bz_0.mpr z)))
            refine x_iconst (q := 44) dX2_objectionToSaying_43 rfl ?_
            refine x_goto (tgt := 49) dX2_objectionToSaying_44 (by decide) ?_
            exact x_iret rfl dX2_objectionToSaying_49 H
        · have H := H2 (fun z => hB (bz_n0.mpr z))
          refine x_ldc (q := 35) (z := (-1000003)) cn_X2_96 (by decide) dX2_objectionToSaying_33 rfl ?_
          exact x_iret rfl dX2_objectionToSaying_35 H
    · have H := H2 (fun z => hB (bz_n0.mpr z))
      refine x_ldc (q := 18) (z := (-1000001)) cn_X2_91 (by decide) dX2_objectionToSaying_16 rfl ?_
      exact x_iret rfl dX2_objectionToSaying_18 H
abbrev E_X2_addMachine (G : GT) (d pc : Nat) (ls : List (Nat × AV)) (st : List AV) (mem : Mem) (Q : Option AV → Mem → Prop) : Prop := Ex G RX2 cX2_addMachine 4 (some .int) d pc ls st mem Q
abbrev C_X2_addMachine (G : GT) (d : Nat) (as : List AV) (mem : Mem) (Q : Option AV → Mem → Prop) : Prop := Ct G yX2_addMachine cX2_addMachine 4 (some .int) d as mem Q
set_option maxRecDepth 20000 in
set_option maxHeartbeats 4000000 in
theorem B_X2_addMachine {G : GT} {d : Nat} {h : Nat} (hh : isH h) {l1 : Int} {l2 : Int} {l3 : Int} {mem : Mem} {Q : Option AV → Mem → Prop} (H : (0 ≤ mem h 0 ∧ mem h 0 < 12) ∧ ((inr l1) ∧ (∀ m4 : Mem, m4 = upM mem (h + 1) (mem h 0) l1 → ((0 ≤ m4 h 0 ∧ m4 h 0 < 12) ∧ ((inr l2) ∧ (∀ m9 : Mem, m9 = upM m4 (h + 2) (m4 h 0) l2 → ((0 ≤ m9 h 0 ∧ m9 h 0 < 12) ∧ ((inr l3) ∧ (∀ m14 : Mem, m14 = upM m9 (h + 3) (m9 h 0) l3 → ((inr ((m14 h 0) + 1)) ∧ (∀ m17 : Mem, m17 = upM m14 h 0 ((m14 h 0) + 1) → (∀ m19 : Mem, m19 = upM m17 h 16 1 → (Q (some (vI ((m19 h 0) - 1))) m19))))))))))))) : C_X2_addMachine G d [vR h, vI l1, vI l2, vI l3] mem Q := by
  refine Ct_of_Ex (by decide +kernel) (by exact Nat.le_of_ble_eq_true rfl) (ls := [(0, vR h), (1, vI l1), (2, vI l2), (3, vI l3)]) rfl ?_
  show E_X2_addMachine G d 0 [(0, vR h), (1, vI l1), (2, vI l2), (3, vI l3)] [] mem Q
  refine x_aloadn (q := 1) 0 rfl rfl rfl dX2_addMachine_0 rfl ?_
  refine x_getr (q := 4) dX2_addMachine_1 rfl fa_X2_9 (sh_H0 hh) rfl ?_
  refine x_aloadn (q := 5) 0 rfl rfl rfl dX2_addMachine_4 rfl ?_
  refine x_geti (q := 8) (ji := 0) dX2_addMachine_5 rfl fa_X2_48 (sh_H0 hh) rfl rfl (fun r1 => ?_)
  refine x_iloadn (q := 9) 1 rfl rfl dX2_addMachine_8 rfl ?_
  obtain ⟨⟨s2, s3⟩, H⟩ := H
  obtain ⟨s5, H⟩ := H
  refine x_iast (q := 10) dX2_addMachine_9 rfl (sh_H1 hh) s2 s3 s5 (fun m4 em4 => ?_)
  have H := H m4 em4
  refine x_aloadn (q := 11) 0 rfl rfl rfl dX2_addMachine_10 rfl ?_
  refine x_getr (q := 14) dX2_addMachine_11 rfl fa_X2_15 (sh_H0 hh) rfl ?_
  refine x_aloadn (q := 15) 0 rfl rfl rfl dX2_addMachine_14 rfl ?_
  refine x_geti (q := 18) (ji := 0) dX2_addMachine_15 rfl fa_X2_48 (sh_H0 hh) rfl rfl (fun r6 => ?_)
  refine x_iloadn (q := 19) 2 rfl rfl dX2_addMachine_18 rfl ?_
  obtain ⟨⟨s7, s8⟩, H⟩ := H
  obtain ⟨s10, H⟩ := H
  refine x_iast (q := 20) dX2_addMachine_19 rfl (sh_H2 hh) s7 s8 s10 (fun m9 em9 => ?_)
  have H := H m9 em9
  refine x_aloadn (q := 21) 0 rfl rfl rfl dX2_addMachine_20 rfl ?_
  refine x_getr (q := 24) dX2_addMachine_21 rfl fa_X2_18 (sh_H0 hh) rfl ?_
  refine x_aloadn (q := 25) 0 rfl rfl rfl dX2_addMachine_24 rfl ?_
  refine x_geti (q := 28) (ji := 0) dX2_addMachine_25 rfl fa_X2_48 (sh_H0 hh) rfl rfl (fun r11 => ?_)
  refine x_iloadn (q := 29) 3 rfl rfl dX2_addMachine_28 rfl ?_
  obtain ⟨⟨s12, s13⟩, H⟩ := H
  obtain ⟨s15, H⟩ := H
  refine x_iast (q := 30) dX2_addMachine_29 rfl (sh_H3 hh) s12 s13 s15 (fun m14 em14 => ?_)
  have H := H m14 em14
  refine x_aloadn (q := 31) 0 rfl rfl rfl dX2_addMachine_30 rfl ?_
  refine x_dup (q := 32) (by exact Nat.ne_of_beq_eq_false rfl) dX2_addMachine_31 rfl ?_
  refine x_geti (q := 35) (ji := 0) dX2_addMachine_32 rfl fa_X2_48 (sh_H0 hh) rfl rfl (fun r16 => ?_)
  refine x_iconst (q := 36) dX2_addMachine_35 rfl ?_
  refine x_iadd (q := 37) dX2_addMachine_36 rfl ?_
  obtain ⟨s18, H⟩ := H
  refine x_puti (q := 40) (ji := 0) dX2_addMachine_37 rfl fp_X2_48 (sh_H0 hh) rfl rfl s18 (fun m17 em17 => ?_)
  have H := H m17 em17
  refine x_aloadn (q := 41) 0 rfl rfl rfl dX2_addMachine_40 rfl ?_
  refine x_iconst (q := 42) dX2_addMachine_41 rfl ?_
  refine x_putz (q := 45) (ji := 16) dX2_addMachine_42 rfl fp_X2_44 (sh_H0 hh) rfl rfl (by decide) (fun m19 em19 => ?_)
  have H := H m19 em19
  refine x_aloadn (q := 46) 0 rfl rfl rfl dX2_addMachine_45 rfl ?_
  refine x_geti (q := 49) (ji := 0) dX2_addMachine_46 rfl fa_X2_48 (sh_H0 hh) rfl rfl (fun r20 => ?_)
  refine x_iconst (q := 50) dX2_addMachine_49 rfl ?_
  refine x_isub (q := 51) dX2_addMachine_50 rfl ?_
  exact x_iret rfl dX2_addMachine_51 H
abbrev E_X2_setTie (G : GT) (d pc : Nat) (ls : List (Nat × AV)) (st : List AV) (mem : Mem) (Q : Option AV → Mem → Prop) : Prop := Ex G RX2 cX2_setTie 5 (some .int) d pc ls st mem Q
abbrev C_X2_setTie (G : GT) (d : Nat) (as : List AV) (mem : Mem) (Q : Option AV → Mem → Prop) : Prop := Ct G yX2_setTie cX2_setTie 5 (some .int) d as mem Q
set_option maxRecDepth 20000 in
set_option maxHeartbeats 4000000 in
theorem B_X2_setTie {G : GT} {d : Nat} {h : Nat} (hh : isH h) {l1 : Int} {l2 : Int} {l3 : Int} {mem : Mem} {Q : Option AV → Mem → Prop} (hd : 1 ≤ d) (H : (0 ≤ l1 * 12 + l2 ∧ l1 * 12 + l2 < 144) ∧ ((0 ≤ (l1 * 12) + l2 ∧ (l1 * 12) + l2 < 144) ∧ ((inr l3) ∧ (∀ m5 : Mem, m5 = upM mem (h + 5) ((l1 * 12) + l2) l3 → (((l3 ≠ 0) → ((0 ≤ l1 ∧ l1 < 12) ∧ (∀ m12 : Mem, m12 = upM m5 (h + 4) l1 (ior (m5 (h + 4) l1) (ishl 1 l2)) → (Q (some (vI (mem (h + 5) (l1 * 12 + l2)))) m12)))) ∧ (¬ (l3 ≠ 0) → ((0 ≤ l1 ∧ l1 < 12) ∧ (∀ m16 : Mem, m16 = upM m5 (h + 4) l1 (iand (m5 (h + 4) l1) (ixor (ishl 1 l2) (-1))) → (Q (some (vI (mem (h + 5) (l1 * 12 + l2)))) m16))))))))) : C_X2_setTie G d [vR h, vI l1, vI l2, vI l3] mem Q := by
  refine Ct_of_Ex (by decide +kernel) (by exact Nat.le_of_ble_eq_true rfl) (ls := [(0, vR h), (1, vI l1), (2, vI l2), (3, vI l3)]) rfl ?_
  show E_X2_setTie G d 0 [(0, vR h), (1, vI l1), (2, vI l2), (3, vI l3)] [] mem Q
  refine x_aloadn (q := 1) 0 rfl rfl rfl dX2_setTie_0 rfl ?_
  refine x_iloadn (q := 2) 1 rfl rfl dX2_setTie_1 rfl ?_
  refine x_iloadn (q := 3) 2 rfl rfl dX2_setTie_2 rfl ?_
  obtain ⟨⟨s1, s2⟩, H⟩ := H
  refine x_callV (q := 6) (d := d - 1) (as := [vI l1, vI l2]) (st := []) dX2_setTie_3 rfl mv_X2_77 (sh_H0 hh) rfl rfl rfl (by exact Nat.le_of_ble_eq_true rfl) ⟨by show _ ≤ d; omega, by show _ ≤ 40 * d; omega⟩ ⟨Nat.le_refl _, Nat.le_refl _⟩ (ct_costOf hh s1 s2 ?_)
  show E_X2_setTie G d 6 [(0, vR h), (1, vI l1), (2, vI l2), (3, vI l3)] [vI (mem (h + 5) (l1 * 12 + l2))] mem Q
  refine x_istore (q := 8) (ls' := [(4, vI (mem (h + 5) (l1 * 12 + l2))), (0, vR h), (1, vI l1), (2, vI l2), (3, vI l3)]) (by decide) rfl dX2_setTie_6 rfl ?_
  refine x_aloadn (q := 9) 1 rfl rfl rfl dX2_setTie_8 rfl ?_
  refine x_getr (q := 12) dX2_setTie_9 rfl fa_X2_24 (sh_H0 hh) rfl ?_
  refine x_iloadn (q := 13) 2 rfl rfl dX2_setTie_12 rfl ?_
  refine x_bipush (q := 15) rfl dX2_setTie_13 rfl ?_
  refine x_imul (q := 16) dX2_setTie_15 rfl ?_
  refine x_iloadn (q := 17) 3 rfl rfl dX2_setTie_16 rfl ?_
  refine x_iadd (q := 18) dX2_setTie_17 rfl ?_
  refine x_iloadn (q := 19) 4 rfl rfl dX2_setTie_18 rfl ?_
  obtain ⟨⟨s3, s4⟩, H⟩ := H
  obtain ⟨s6, H⟩ := H
  refine x_iast (q := 20) dX2_setTie_19 rfl (sh_H5 hh) s3 s4 s6 (fun m5 em5 => ?_)
  have H := H m5 em5
  refine x_iloadn (q := 21) 4 rfl rfl dX2_setTie_20 rfl ?_
  obtain ⟨H1, H2⟩ := H
  refine x_if_ne (tgt := 41) (q := 24) dX2_setTie_21 (by decide) rfl s6 (fun hB => ?_) (fun hB => ?_)
  · have H := H1 (hB)
    refine x_aloadn (q := 42) 1 rfl rfl rfl dX2_setTie_41 rfl ?_
    refine x_getr (q := 45) dX2_setTie_42 rfl fa_X2_21 (sh_H0 hh) rfl ?_
    refine x_iloadn (q := 46) 2 rfl rfl dX2_setTie_45 rfl ?_
    refine x_dup2 (q := 47) (by exact Nat.ne_of_beq_eq_false rfl) (by exact Nat.ne_of_beq_eq_false rfl) dX2_setTie_46 rfl ?_
    obtain ⟨⟨s9, s10⟩, H⟩ := H
    refine x_iald (q := 48) dX2_setTie_47 rfl (sh_H4 hh) s9 s10 (fun r11 => ?_)
    refine x_iconst (q := 49) dX2_setTie_48 rfl ?_
    refine x_iloadn (q := 50) 3 rfl rfl dX2_setTie_49 rfl ?_
    refine x_ishl (q := 51) dX2_setTie_50 rfl ?_
    refine x_ior (q := 52) dX2_setTie_51 rfl ?_
    refine x_iast (q := 53) dX2_setTie_52 rfl (sh_H4 hh) s9 s10 (ior_inr _ _) (fun m12 em12 => ?_)
    have H := H m12 em12
    refine x_iload (q := 55) 0 rfl dX2_setTie_53 rfl ?_
    exact x_iret rfl dX2_setTie_55 H
  · have H := H2 (hB)
    refine x_aloadn (q := 25) 1 rfl rfl rfl dX2_setTie_24 rfl ?_
    refine x_getr (q := 28) dX2_setTie_25 rfl fa_X2_21 (sh_H0 hh) rfl ?_
    refine x_iloadn (q := 29) 2 rfl rfl dX2_setTie_28 rfl ?_
    refine x_dup2 (q := 30) (by exact Nat.ne_of_beq_eq_false rfl) (by exact Nat.ne_of_beq_eq_false rfl) dX2_setTie_29 rfl ?_
    obtain ⟨⟨s13, s14⟩, H⟩ := H
    refine x_iald (q := 31) dX2_setTie_30 rfl (sh_H4 hh) s13 s14 (fun r15 => ?_)
    refine x_iconst (q := 32) dX2_setTie_31 rfl ?_
    refine x_iloadn (q := 33) 3 rfl rfl dX2_setTie_32 rfl ?_
    refine x_ishl (q := 34) dX2_setTie_33 rfl ?_
    refine x_iconst (q := 35) dX2_setTie_34 rfl ?_
    refine x_ixor (q := 36) dX2_setTie_35 rfl ?_
    refine x_iand (q := 37) dX2_setTie_36 rfl ?_
    refine x_iast (q := 38) dX2_setTie_37 rfl (sh_H4 hh) s13 s14 (iand_inr _ _) (fun m16 em16 => ?_)
    have H := H m16 em16
    refine x_goto (tgt := 53) dX2_setTie_38 (by decide) ?_
    refine x_iload (q := 55) 0 rfl dX2_setTie_53 rfl ?_
    exact x_iret rfl dX2_setTie_55 H
abbrev E_X2_costOfAllTies (G : GT) (d pc : Nat) (ls : List (Nat × AV)) (st : List AV) (mem : Mem) (Q : Option AV → Mem → Prop) : Prop := Ex G RX2 cX2_costOfAllTies 3 (some .int) d pc ls st mem Q
abbrev C_X2_costOfAllTies (G : GT) (d : Nat) (as : List AV) (mem : Mem) (Q : Option AV → Mem → Prop) : Prop := Ct G yX2_costOfAllTies cX2_costOfAllTies 3 (some .int) d as mem Q
set_option maxRecDepth 20000 in
set_option maxHeartbeats 4000000 in
theorem B_X2_costOfAllTies {G : GT} {d : Nat} {h : Nat} (hh : isH h) {mem : Mem} {Q : Option AV → Mem → Prop} (H : E_X2_costOfAllTies G d 4 [(0, vR h), (1, vI 0), (2, vI 0)] [] mem Q) : C_X2_costOfAllTies G d [vR h] mem Q := by
  refine Ct_of_Ex (by decide +kernel) (by exact Nat.le_of_ble_eq_true rfl) (ls := [(0, vR h)]) rfl ?_
  show E_X2_costOfAllTies G d 0 [(0, vR h)] [] mem Q
  refine x_iconst (q := 1) dX2_costOfAllTies_0 rfl ?_
  refine x_istoren (q := 2) (ls' := [(1, vI 0), (0, vR h)]) rfl (by decide) rfl dX2_costOfAllTies_1 rfl ?_
  refine x_iconst (q := 3) dX2_costOfAllTies_2 rfl ?_
  refine x_istoren (q := 4) (ls' := [(2, vI 0), (1, vI 0), (0, vR h)]) rfl (by decide) rfl dX2_costOfAllTies_3 rfl ?_
  refine x_sub [2, 1, 0] rfl ?_
  exact H
set_option maxRecDepth 20000 in
set_option maxHeartbeats 4000000 in
theorem B_X2_costOfAllTies_4 {G : GT} {d : Nat} {h : Nat} (hh : isH h) {l1 : Int} {l2 : Int} {mem : Mem} {Q : Option AV → Mem → Prop} (H : (inr l2) ∧ (((144 ≤ l2) → (Q (some (vI l1)) mem)) ∧ (¬ (144 ≤ l2) → ((0 ≤ l2 ∧ l2 < 144) ∧ (E_X2_costOfAllTies G d 4 [(0, vR h), (1, vI (l1 + (mem (h + 5) l2))), (2, vI (l2 + 1))] [] mem Q))))) : E_X2_costOfAllTies G d 4 [(0, vR h), (1, vI l1), (2, vI l2)] [] mem Q := by
  refine x_iloadn (q := 5) 2 rfl rfl dX2_costOfAllTies_4 rfl ?_
  refine x_aloadn (q := 6) 0 rfl rfl rfl dX2_costOfAllTies_5 rfl ?_
  refine x_getr (q := 9) dX2_costOfAllTies_6 rfl fa_X2_24 (sh_H0 hh) rfl ?_
  refine x_alen (q := 10) (t := 144) dX2_costOfAllTies_9 rfl (sh_H5 hh) (by decide) rfl ?_
  obtain ⟨s1, H⟩ := H
  obtain ⟨H1, H2⟩ := H
  refine x_icmp_ge (tgt := 28) (q := 13) dX2_costOfAllTies_10 (by decide) rfl s1 (by decide) (fun hB => ?_) (fun hB => ?_)
  · have H := H1 (hB)
    refine x_iloadn (q := 29) 1 rfl rfl dX2_costOfAllTies_28 rfl ?_
    exact x_iret rfl dX2_costOfAllTies_29 H
  · have H := H2 (hB)
    refine x_iloadn (q := 14) 1 rfl rfl dX2_costOfAllTies_13 rfl ?_
    refine x_aloadn (q := 15) 0 rfl rfl rfl dX2_costOfAllTies_14 rfl ?_
    refine x_getr (q := 18) dX2_costOfAllTies_15 rfl fa_X2_24 (sh_H0 hh) rfl ?_
    refine x_iloadn (q := 19) 2 rfl rfl dX2_costOfAllTies_18 rfl ?_
    obtain ⟨⟨s4, s5⟩, H⟩ := H
    refine x_iald (q := 20) dX2_costOfAllTies_19 rfl (sh_H5 hh) s4 s5 (fun r6 => ?_)
    refine x_iadd (q := 21) dX2_costOfAllTies_20 rfl ?_
    refine x_istoren (q := 22) (ls' := [(1, vI (l1 + (mem (h + 5) l2))), (0, vR h), (2, vI l2)]) rfl (by decide) rfl dX2_costOfAllTies_21 rfl ?_
    refine x_iinc (q := 25) (ls' := [(2, vI (l2 + 1)), (1, vI (l1 + (mem (h + 5) l2))), (0, vR h)]) 2 rfl (by decide) rfl dX2_costOfAllTies_22 rfl ?_
    refine x_goto (tgt := 4) dX2_costOfAllTies_25 (by decide) ?_
    refine x_sub [2, 1, 0] rfl ?_
    exact H
abbrev E_X2_addSaying (G : GT) (d pc : Nat) (ls : List (Nat × AV)) (st : List AV) (mem : Mem) (Q : Option AV → Mem → Prop) : Prop := Ex G RX2 cX2_addSaying 6 (some .int) d pc ls st mem Q
abbrev C_X2_addSaying (G : GT) (d : Nat) (as : List AV) (mem : Mem) (Q : Option AV → Mem → Prop) : Prop := Ct G yX2_addSaying cX2_addSaying 6 (some .int) d as mem Q
set_option maxRecDepth 20000 in
set_option maxHeartbeats 4000000 in
theorem B_X2_addSaying {G : GT} {d : Nat} {h : Nat} (hh : isH h) {l1 : Int} {l2 : Int} {l3 : Int} {mem : Mem} {Q : Option AV → Mem → Prop} (H : (0 ≤ mem h 6 ∧ mem h 6 < 60) ∧ ((inr l1) ∧ (∀ m4 : Mem, m4 = upM mem (h + 6) (mem h 6) l1 → ((0 ≤ m4 h 6 ∧ m4 h 6 < 60) ∧ ((inr l2) ∧ (∀ m9 : Mem, m9 = upM m4 (h + 7) (m4 h 6) l2 → ((inr l3) ∧ (((l3 = 0) → (∀ m16 : Mem, m16 = upM m9 h 9 (land (m9 h 9) (lxor (lshl 1 (m9 h 6)) (-1))) → (∀ m18 : Mem, m18 = upM m16 h 10 (lor (m16 h 10) (lshl 1 (m9 h 6))) → ((inr ((m18 h 6) + 1)) ∧ (∀ m20 : Mem, m20 = upM m18 h 6 ((m18 h 6) + 1) → (∀ m22 : Mem, m22 = upM m20 h 16 1 → (Q (some (vI ((m22 h 6) - 1))) m22))))))) ∧ (¬ (l3 = 0) → (∀ m25 : Mem, m25 = upM m9 h 9 (lor (m9 h 9) (lshl 1 (m9 h 6))) → (∀ m27 : Mem, m27 = upM m25 h 10 (lor (m25 h 10) (lshl 1 (m9 h 6))) → ((inr ((m27 h 6) + 1)) ∧ (∀ m29 : Mem, m29 = upM m27 h 6 ((m27 h 6) + 1) → (∀ m31 : Mem, m31 = upM m29 h 16 1 → (Q (some (vI ((m31 h 6) - 1))) m31))))))))))))))) : C_X2_addSaying G d [vR h, vI l1, vI l2, vI l3] mem Q := by
  refine Ct_of_Ex (by decide +kernel) (by exact Nat.le_of_ble_eq_true rfl) (ls := [(0, vR h), (1, vI l1), (2, vI l2), (3, vI l3)]) rfl ?_
  show E_X2_addSaying G d 0 [(0, vR h), (1, vI l1), (2, vI l2), (3, vI l3)] [] mem Q
  refine x_aloadn (q := 1) 0 rfl rfl rfl dX2_addSaying_0 rfl ?_
  refine x_getr (q := 4) dX2_addSaying_1 rfl fa_X2_27 (sh_H0 hh) rfl ?_
  refine x_aloadn (q := 5) 0 rfl rfl rfl dX2_addSaying_4 rfl ?_
  refine x_geti (q := 8) (ji := 6) dX2_addSaying_5 rfl fa_X2_57 (sh_H0 hh) rfl rfl (fun r1 => ?_)
  refine x_iloadn (q := 9) 1 rfl rfl dX2_addSaying_8 rfl ?_
  obtain ⟨⟨s2, s3⟩, H⟩ := H
  obtain ⟨s5, H⟩ := H
  refine x_iast (q := 10) dX2_addSaying_9 rfl (sh_H6 hh) s2 s3 s5 (fun m4 em4 => ?_)
  have H := H m4 em4
  refine x_aloadn (q := 11) 0 rfl rfl rfl dX2_addSaying_10 rfl ?_
  refine x_getr (q := 14) dX2_addSaying_11 rfl fa_X2_30 (sh_H0 hh) rfl ?_
  refine x_aloadn (q := 15) 0 rfl rfl rfl dX2_addSaying_14 rfl ?_
  refine x_geti (q := 18) (ji := 6) dX2_addSaying_15 rfl fa_X2_57 (sh_H0 hh) rfl rfl (fun r6 => ?_)
  refine x_iloadn (q := 19) 2 rfl rfl dX2_addSaying_18 rfl ?_
  obtain ⟨⟨s7, s8⟩, H⟩ := H
  obtain ⟨s10, H⟩ := H
  refine x_iast (q := 20) dX2_addSaying_19 rfl (sh_H7 hh) s7 s8 s10 (fun m9 em9 => ?_)
  have H := H m9 em9
  refine x_lconst (q := 21) (v := 1) rfl dX2_addSaying_20 rfl ?_
  refine x_aloadn (q := 22) 0 rfl rfl rfl dX2_addSaying_21 rfl ?_
  refine x_geti (q := 25) (ji := 6) dX2_addSaying_22 rfl fa_X2_57 (sh_H0 hh) rfl rfl (fun r11 => ?_)
  refine x_lshl (q := 26) dX2_addSaying_25 rfl ?_
  refine x_lstore (q := 28) (ls' := [(4, vL (lshl 1 (m9 h 6))), (0, vR h), (1, vI l1), (2, vI l2), (3, vI l3)]) (by decide) rfl dX2_addSaying_26 rfl ?_
  refine x_aloadn (q := 29) 1 rfl rfl rfl dX2_addSaying_28 rfl ?_
  refine x_iloadn (q := 30) 4 rfl rfl dX2_addSaying_29 rfl ?_
  obtain ⟨s12, H⟩ := H
  obtain ⟨H1, H2⟩ := H
  refine x_if_eq (tgt := 43) (q := 33) dX2_addSaying_30 (by decide) rfl s12 (fun hB => ?_) (fun hB => ?_)
  · have H := H1 (hB)
    refine x_aloadn (q := 44) 1 rfl rfl rfl dX2_addSaying_43 rfl ?_
    refine x_getl (q := 47) (ji := 9) dX2_addSaying_44 rfl fa_X2_60 (sh_H0 hh) rfl rfl (fun r15 => ?_)
    refine x_lload (q := 49) 0 rfl dX2_addSaying_47 rfl ?_
    refine x_ldc2 (q := 52) (z := (-1)) cn_X2_102 (by decide) dX2_addSaying_49 rfl ?_
    refine x_lxor (q := 53) dX2_addSaying_52 rfl ?_
    refine x_land (q := 54) dX2_addSaying_53 rfl ?_
    refine x_putl (q := 57) (ji := 9) dX2_addSaying_54 rfl fp_X2_60 (sh_H0 hh) rfl rfl (land_inl _ _) (fun m16 em16 => ?_)
    have H := H m16 em16
    refine x_aloadn (q := 58) 1 rfl rfl rfl dX2_addSaying_57 rfl ?_
    refine x_dup (q := 59) (by exact Nat.ne_of_beq_eq_false rfl) dX2_addSaying_58 rfl ?_
    refine x_getl (q := 62) (ji := 10) dX2_addSaying_59 rfl fa_X2_64 (sh_H0 hh) rfl rfl (fun r17 => ?_)
    refine x_lload (q := 64) 0 rfl dX2_addSaying_62 rfl ?_
    refine x_lor (q := 65) dX2_addSaying_64 rfl ?_
    refine x_putl (q := 68) (ji := 10) dX2_addSaying_65 rfl fp_X2_64 (sh_H0 hh) rfl rfl (lor_inl _ _) (fun m18 em18 => ?_)
    have H := H m18 em18
    refine x_aloadn (q := 69) 1 rfl rfl rfl dX2_addSaying_68 rfl ?_
    refine x_dup (q := 70) (by exact Nat.ne_of_beq_eq_false rfl) dX2_addSaying_69 rfl ?_
    refine x_geti (q := 73) (ji := 6) dX2_addSaying_70 rfl fa_X2_57 (sh_H0 hh) rfl rfl (fun r19 => ?_)
    refine x_iconst (q := 74) dX2_addSaying_73 rfl ?_
    refine x_iadd (q := 75) dX2_addSaying_74 rfl ?_
    obtain ⟨s21, H⟩ := H
    refine x_puti (q := 78) (ji := 6) dX2_addSaying_75 rfl fp_X2_57 (sh_H0 hh) rfl rfl s21 (fun m20 em20 => ?_)
    have H := H m20 em20
    refine x_aloadn (q := 79) 1 rfl rfl rfl dX2_addSaying_78 rfl ?_
    refine x_iconst (q := 80) dX2_addSaying_79 rfl ?_
    refine x_putz (q := 83) (ji := 16) dX2_addSaying_80 rfl fp_X2_44 (sh_H0 hh) rfl rfl (by decide) (fun m22 em22 => ?_)
    have H := H m22 em22
    refine x_aloadn (q := 84) 1 rfl rfl rfl dX2_addSaying_83 rfl ?_
    refine x_geti (q := 87) (ji := 6) dX2_addSaying_84 rfl fa_X2_57 (sh_H0 hh) rfl rfl (fun r23 => ?_)
    refine x_iconst (q := 88) dX2_addSaying_87 rfl ?_
    refine x_isub (q := 89) dX2_addSaying_88 rfl ?_
    exact x_iret rfl dX2_addSaying_89 H
  · have H := H2 (hB)
    refine x_aloadn (q := 34) 1 rfl rfl rfl dX2_addSaying_33 rfl ?_
    refine x_getl (q := 37) (ji := 9) dX2_addSaying_34 rfl fa_X2_60 (sh_H0 hh) rfl rfl (fun r24 => ?_)
    refine x_lload (q := 39) 0 rfl dX2_addSaying_37 rfl ?_
    refine x_lor (q := 40) dX2_addSaying_39 rfl ?_
    refine x_goto (tgt := 54) dX2_addSaying_40 (by decide) ?_
    refine x_putl (q := 57) (ji := 9) dX2_addSaying_54 rfl fp_X2_60 (sh_H0 hh) rfl rfl (lor_inl _ _) (fun m25 em25 => ?_)
    have H := H m25 em25
    refine x_aloadn (q := 58) 1 rfl rfl rfl dX2_addSaying_57 rfl ?_
    refine x_dup (q := 59) (by exact Nat.ne_of_beq_eq_false rfl) dX2_addSaying_58 rfl ?_
    refine x_getl (q := 62) (ji := 10) dX2_addSaying_59 rfl fa_X2_64 (sh_H0 hh) rfl rfl (fun r26 => ?_)
    refine x_lload (q := 64) 0 rfl dX2_addSaying_62 rfl ?_
    refine x_lor (q := 65) dX2_addSaying_64 rfl ?_
    refine x_putl (q := 68) (ji := 10) dX2_addSaying_65 rfl fp_X2_64 (sh_H0 hh) rfl rfl (lor_inl _ _) (fun m27 em27 => ?_)
    have H := H m27 em27
    refine x_aloadn (q := 69) 1 rfl rfl rfl dX2_addSaying_68 rfl ?_
    refine x_dup (q := 70) (by exact Nat.ne_of_beq_eq_false rfl) dX2_addSaying_69 rfl ?_
    refine x_geti (q := 73) (ji := 6) dX2_addSaying_70 rfl fa_X2_57 (sh_H0 hh) rfl rfl (fun r28 => ?_)
    refine x_iconst (q := 74) dX2_addSaying_73 rfl ?_
    refine x_iadd (q := 75) dX2_addSaying_74 rfl ?_
    obtain ⟨s30, H⟩ := H
    refine x_puti (q := 78) (ji := 6) dX2_addSaying_75 rfl fp_X2_57 (sh_H0 hh) rfl rfl s30 (fun m29 em29 => ?_)
    have H := H m29 em29
    refine x_aloadn (q := 79) 1 rfl rfl rfl dX2_addSaying_78 rfl ?_
    refine x_iconst (q := 80) dX2_addSaying_79 rfl ?_
    refine x_putz (q := 83) (ji := 16) dX2_addSaying_80 rfl fp_X2_44 (sh_H0 hh) rfl rfl (by decide) (fun m31 em31 => ?_)
    have H := H m31 em31
    refine x_aloadn (q := 84) 1 rfl rfl rfl dX2_addSaying_83 rfl ?_
    refine x_geti (q := 87) (ji := 6) dX2_addSaying_84 rfl fa_X2_57 (sh_H0 hh) rfl rfl (fun r32 => ?_)
    refine x_iconst (q := 88) dX2_addSaying_87 rfl ?_
    refine x_isub (q := 89) dX2_addSaying_88 rfl ?_
    exact x_iret rfl dX2_addSaying_89 H
abbrev E_X2_silence (G : GT) (d pc : Nat) (ls : List (Nat × AV)) (st : List AV) (mem : Mem) (Q : Option AV → Mem → Prop) : Prop := Ex G RX2 cX2_silence 2 none d pc ls st mem Q
abbrev C_X2_silence (G : GT) (d : Nat) (as : List AV) (mem : Mem) (Q : Option AV → Mem → Prop) : Prop := Ct G yX2_silence cX2_silence 2 none d as mem Q
set_option maxRecDepth 20000 in
set_option maxHeartbeats 4000000 in
theorem B_X2_silence {G : GT} {d : Nat} {h : Nat} (hh : isH h) {l1 : Int} {mem : Mem} {Q : Option AV → Mem → Prop} (H : ∀ m2 : Mem, m2 = upM mem h 10 (land (mem h 10) (lxor (lshl 1 l1) (-1))) → (∀ m3 : Mem, m3 = upM m2 h 16 1 → (Q none m3))) : C_X2_silence G d [vR h, vI l1] mem Q := by
  refine Ct_of_Ex (by decide +kernel) (by exact Nat.le_of_ble_eq_true rfl) (ls := [(0, vR h), (1, vI l1)]) rfl ?_
  show E_X2_silence G d 0 [(0, vR h), (1, vI l1)] [] mem Q
  refine x_aloadn (q := 1) 0 rfl rfl rfl dX2_silence_0 rfl ?_
  refine x_dup (q := 2) (by exact Nat.ne_of_beq_eq_false rfl) dX2_silence_1 rfl ?_
  refine x_getl (q := 5) (ji := 10) dX2_silence_2 rfl fa_X2_64 (sh_H0 hh) rfl rfl (fun r1 => ?_)
  refine x_lconst (q := 6) (v := 1) rfl dX2_silence_5 rfl ?_
  refine x_iloadn (q := 7) 1 rfl rfl dX2_silence_6 rfl ?_
  refine x_lshl (q := 8) dX2_silence_7 rfl ?_
  refine x_ldc2 (q := 11) (z := (-1)) cn_X2_102 (by decide) dX2_silence_8 rfl ?_
  refine x_lxor (q := 12) dX2_silence_11 rfl ?_
  refine x_land (q := 13) dX2_silence_12 rfl ?_
  refine x_putl (q := 16) (ji := 10) dX2_silence_13 rfl fp_X2_64 (sh_H0 hh) rfl rfl (land_inl _ _) (fun m2 em2 => ?_)
  have H := H m2 em2
  refine x_aloadn (q := 17) 0 rfl rfl rfl dX2_silence_16 rfl ?_
  refine x_iconst (q := 18) dX2_silence_17 rfl ?_
  refine x_putz (q := 21) (ji := 16) dX2_silence_18 rfl fp_X2_44 (sh_H0 hh) rfl rfl (by decide) (fun m3 em3 => ?_)
  have H := H m3 em3
  exact x_vret rfl dX2_silence_21 H
abbrev E_X2_setMost (G : GT) (d pc : Nat) (ls : List (Nat × AV)) (st : List AV) (mem : Mem) (Q : Option AV → Mem → Prop) : Prop := Ex G RX2 cX2_setMost 3 (some .int) d pc ls st mem Q
abbrev C_X2_setMost (G : GT) (d : Nat) (as : List AV) (mem : Mem) (Q : Option AV → Mem → Prop) : Prop := Ct G yX2_setMost cX2_setMost 3 (some .int) d as mem Q
set_option maxRecDepth 20000 in
set_option maxHeartbeats 4000000 in
theorem B_X2_setMost {G : GT} {d : Nat} {h : Nat} (hh : isH h) {l1 : Int} {mem : Mem} {Q : Option AV → Mem → Prop} (H : (inr l1) ∧ (∀ m2 : Mem, m2 = upM mem h 11 l1 → (∀ m4 : Mem, m4 = upM m2 h 16 1 → (Q (some (vI (mem h 11))) m4)))) : C_X2_setMost G d [vR h, vI l1] mem Q := by
  refine Ct_of_Ex (by decide +kernel) (by exact Nat.le_of_ble_eq_true rfl) (ls := [(0, vR h), (1, vI l1)]) rfl ?_
  show E_X2_setMost G d 0 [(0, vR h), (1, vI l1)] [] mem Q
  refine x_aloadn (q := 1) 0 rfl rfl rfl dX2_setMost_0 rfl ?_
  refine x_geti (q := 4) (ji := 11) dX2_setMost_1 rfl fa_X2_33 (sh_H0 hh) rfl rfl (fun r1 => ?_)
  refine x_istoren (q := 5) (ls' := [(2, vI (mem h 11)), (0, vR h), (1, vI l1)]) rfl (by decide) rfl dX2_setMost_4 rfl ?_
  refine x_aloadn (q := 6) 1 rfl rfl rfl dX2_setMost_5 rfl ?_
  refine x_iloadn (q := 7) 2 rfl rfl dX2_setMost_6 rfl ?_
  obtain ⟨s3, H⟩ := H
  refine x_puti (q := 10) (ji := 11) dX2_setMost_7 rfl fp_X2_33 (sh_H0 hh) rfl rfl s3 (fun m2 em2 => ?_)
  have H := H m2 em2
  refine x_aloadn (q := 11) 1 rfl rfl rfl dX2_setMost_10 rfl ?_
  refine x_iconst (q := 12) dX2_setMost_11 rfl ?_
  refine x_putz (q := 15) (ji := 16) dX2_setMost_12 rfl fp_X2_44 (sh_H0 hh) rfl rfl (by decide) (fun m4 em4 => ?_)
  have H := H m4 em4
  refine x_iloadn (q := 16) 0 rfl rfl dX2_setMost_15 rfl ?_
  exact x_iret rfl dX2_setMost_16 H
abbrev E_X2_addToTape (G : GT) (d pc : Nat) (ls : List (Nat × AV)) (st : List AV) (mem : Mem) (Q : Option AV → Mem → Prop) : Prop := Ex G RX2 cX2_addToTape 5 (some .int) d pc ls st mem Q
abbrev C_X2_addToTape (G : GT) (d : Nat) (as : List AV) (mem : Mem) (Q : Option AV → Mem → Prop) : Prop := Ct G yX2_addToTape cX2_addToTape 5 (some .int) d as mem Q
set_option maxRecDepth 20000 in
set_option maxHeartbeats 4000000 in
theorem B_X2_addToTape {G : GT} {d : Nat} {h : Nat} (hh : isH h) {l1 : Int} {l3 : Int} {mem : Mem} {Q : Option AV → Mem → Prop} (H : E_X2_addToTape G d 3 [(0, vR h), (1, vL l1), (3, vI l3), (4, vI 0)] [] mem Q) : C_X2_addToTape G d [vR h, vL l1, vI l3] mem Q := by
  refine Ct_of_Ex (by decide +kernel) (by exact Nat.le_of_ble_eq_true rfl) (ls := [(0, vR h), (1, vL l1), (3, vI l3)]) rfl ?_
  show E_X2_addToTape G d 0 [(0, vR h), (1, vL l1), (3, vI l3)] [] mem Q
  refine x_iconst (q := 1) dX2_addToTape_0 rfl ?_
  refine x_istore (q := 3) (ls' := [(4, vI 0), (0, vR h), (1, vL l1), (3, vI l3)]) (by decide) rfl dX2_addToTape_1 rfl ?_
  refine x_sub [1, 2, 3, 0] rfl ?_
  exact H
set_option maxRecDepth 20000 in
set_option maxHeartbeats 4000000 in
theorem B_X2_addToTape_3 {G : GT} {d : Nat} {h : Nat} (hh : isH h) {l1 : Int} {l3 : Int} {l4 : Int} {mem : Mem} {Q : Option AV → Mem → Prop} (H : (inr l4 ∧ inr l3) ∧ (((l3 ≤ l4) → (Q (some (vI (mem h 13))) mem)) ∧ (¬ (l3 ≤ l4) → ((0 ≤ mem h 13 ∧ mem h 13 < 80) ∧ (∀ m9 : Mem, m9 = upM mem (h + 8) (mem h 13) (i2b (i2b (lshr l1 (8 * l4)))) → ((inr ((m9 h 13) + 1)) ∧ (∀ m11 : Mem, m11 = upM m9 h 13 ((m9 h 13) + 1) → (E_X2_addToTape G d 3 [(0, vR h), (1, vL l1), (3, vI l3), (4, vI (l4 + 1))] [] m11 Q)))))))) : E_X2_addToTape G d 3 [(0, vR h), (1, vL l1), (3, vI l3), (4, vI l4)] [] mem Q := by
  refine x_iload (q := 5) 3 rfl dX2_addToTape_3 rfl ?_
  refine x_iloadn (q := 6) 2 rfl rfl dX2_addToTape_5 rfl ?_
  obtain ⟨⟨s1, s2⟩, H⟩ := H
  obtain ⟨H1, H2⟩ := H
  refine x_icmp_ge (tgt := 43) (q := 9) dX2_addToTape_6 (by decide) rfl s1 s2 (fun hB => ?_) (fun hB => ?_)
  · have H := H1 (hB)
    refine x_aloadn (q := 44) 0 rfl rfl rfl dX2_addToTape_43 rfl ?_
    refine x_geti (q := 47) (ji := 13) dX2_addToTape_44 rfl fa_X2_67 (sh_H0 hh) rfl rfl (fun r5 => ?_)
    exact x_iret rfl dX2_addToTape_47 H
  · have H := H2 (hB)
    refine x_aloadn (q := 10) 0 rfl rfl rfl dX2_addToTape_9 rfl ?_
    refine x_getr (q := 13) dX2_addToTape_10 rfl fa_X2_37 (sh_H0 hh) rfl ?_
    refine x_aloadn (q := 14) 0 rfl rfl rfl dX2_addToTape_13 rfl ?_
    refine x_geti (q := 17) (ji := 13) dX2_addToTape_14 rfl fa_X2_67 (sh_H0 hh) rfl rfl (fun r6 => ?_)
    refine x_lloadn (q := 18) 1 rfl rfl dX2_addToTape_17 rfl ?_
    refine x_bipush (q := 20) rfl dX2_addToTape_18 rfl ?_
    refine x_iload (q := 22) 3 rfl dX2_addToTape_20 rfl ?_
    refine x_imul (q := 23) dX2_addToTape_22 rfl ?_
    refine x_lshr (q := 24) dX2_addToTape_23 rfl ?_
    refine x_l2i (q := 25) dX2_addToTape_24 rfl ?_
    refine x_i2b (q := 26) dX2_addToTape_25 rfl ?_
    obtain ⟨⟨s7, s8⟩, H⟩ := H
    refine x_bast (q := 27) dX2_addToTape_26 rfl (sh_H8 hh) s7 s8  (fun m9 em9 => ?_)
    have H := H m9 em9
    refine x_aloadn (q := 28) 0 rfl rfl rfl dX2_addToTape_27 rfl ?_
    refine x_dup (q := 29) (by exact Nat.ne_of_beq_eq_false rfl) dX2_addToTape_28 rfl ?_
    refine x_geti (q := 32) (ji := 13) dX2_addToTape_29 rfl fa_X2_67 (sh_H0 hh) rfl rfl (fun r10 => ?_)
    refine x_iconst (q := 33) dX2_addToTape_32 rfl ?_
    refine x_iadd (q := 34) dX2_addToTape_33 rfl ?_
    obtain ⟨s12, H⟩ := H
    refine x_puti (q := 37) (ji := 13) dX2_addToTape_34 rfl fp_X2_67 (sh_H0 hh) rfl rfl s12 (fun m11 em11 => ?_)
    have H := H m11 em11
    refine x_iinc (q := 40) (ls' := [(4, vI (l4 + 1)), (0, vR h), (1, vL l1), (3, vI l3)]) 3 rfl (by decide) rfl dX2_addToTape_37 rfl ?_
    refine x_goto (tgt := 3) dX2_addToTape_40 (by decide) ?_
    refine x_sub [1, 2, 3, 0] rfl ?_
    exact H
abbrev E_X2_addWaiting (G : GT) (d pc : Nat) (ls : List (Nat × AV)) (st : List AV) (mem : Mem) (Q : Option AV → Mem → Prop) : Prop := Ex G RX2 cX2_addWaiting 2 (some .int) d pc ls st mem Q
abbrev C_X2_addWaiting (G : GT) (d : Nat) (as : List AV) (mem : Mem) (Q : Option AV → Mem → Prop) : Prop := Ct G yX2_addWaiting cX2_addWaiting 2 (some .int) d as mem Q
set_option maxRecDepth 20000 in
set_option maxHeartbeats 4000000 in
theorem B_X2_addWaiting {G : GT} {d : Nat} {h : Nat} (hh : isH h) {l1 : Int} {mem : Mem} {Q : Option AV → Mem → Prop} (H : (0 ≤ mem h 15 ∧ mem h 15 < 48) ∧ ((inr l1) ∧ (∀ m4 : Mem, m4 = upM mem (h + 9) (mem h 15) l1 → ((inr ((m4 h 15) + 1)) ∧ (∀ m7 : Mem, m7 = upM m4 h 15 ((m4 h 15) + 1) → (Q (some (vI (m7 h 15))) m7)))))) : C_X2_addWaiting G d [vR h, vI l1] mem Q := by
  refine Ct_of_Ex (by decide +kernel) (by exact Nat.le_of_ble_eq_true rfl) (ls := [(0, vR h), (1, vI l1)]) rfl ?_
  show E_X2_addWaiting G d 0 [(0, vR h), (1, vI l1)] [] mem Q
  refine x_aloadn (q := 1) 0 rfl rfl rfl dX2_addWaiting_0 rfl ?_
  refine x_getr (q := 4) dX2_addWaiting_1 rfl fa_X2_41 (sh_H0 hh) rfl ?_
  refine x_aloadn (q := 5) 0 rfl rfl rfl dX2_addWaiting_4 rfl ?_
  refine x_geti (q := 8) (ji := 15) dX2_addWaiting_5 rfl fa_X2_70 (sh_H0 hh) rfl rfl (fun r1 => ?_)
  refine x_iloadn (q := 9) 1 rfl rfl dX2_addWaiting_8 rfl ?_
  obtain ⟨⟨s2, s3⟩, H⟩ := H
  obtain ⟨s5, H⟩ := H
  refine x_iast (q := 10) dX2_addWaiting_9 rfl (sh_H9 hh) s2 s3 s5 (fun m4 em4 => ?_)
  have H := H m4 em4
  refine x_aloadn (q := 11) 0 rfl rfl rfl dX2_addWaiting_10 rfl ?_
  refine x_dup (q := 12) (by exact Nat.ne_of_beq_eq_false rfl) dX2_addWaiting_11 rfl ?_
  refine x_geti (q := 15) (ji := 15) dX2_addWaiting_12 rfl fa_X2_70 (sh_H0 hh) rfl rfl (fun r6 => ?_)
  refine x_iconst (q := 16) dX2_addWaiting_15 rfl ?_
  refine x_iadd (q := 17) dX2_addWaiting_16 rfl ?_
  obtain ⟨s8, H⟩ := H
  refine x_puti (q := 20) (ji := 15) dX2_addWaiting_17 rfl fp_X2_70 (sh_H0 hh) rfl rfl s8 (fun m7 em7 => ?_)
  have H := H m7 em7
  refine x_aloadn (q := 21) 0 rfl rfl rfl dX2_addWaiting_20 rfl ?_
  refine x_geti (q := 24) (ji := 15) dX2_addWaiting_21 rfl fa_X2_70 (sh_H0 hh) rfl rfl (fun r9 => ?_)
  exact x_iret rfl dX2_addWaiting_24 H
abbrev E_X2_copyFrom (G : GT) (d pc : Nat) (ls : List (Nat × AV)) (st : List AV) (mem : Mem) (Q : Option AV → Mem → Prop) : Prop := Ex G RX2 cX2_copyFrom 2 none d pc ls st mem Q
abbrev C_X2_copyFrom (G : GT) (d : Nat) (as : List AV) (mem : Mem) (Q : Option AV → Mem → Prop) : Prop := Ct G yX2_copyFrom cX2_copyFrom 2 none d as mem Q
set_option maxRecDepth 20000 in
set_option maxHeartbeats 4000000 in
theorem B_X2_copyFrom {G : GT} {d : Nat} {h : Nat} (hh : isH h) {g : Nat} (hg : isH g) {mem : Mem} {Q : Option AV → Mem → Prop} (hd : 1 ≤ d) (H : ∀ m2 : Mem, m2 = upM mem h 0 (mem g 0) → (∀ m3 : Mem, m3 = cpM m2 (g + 1) (h + 1) 0 0 12 → (∀ m4 : Mem, m4 = cpM m3 (g + 2) (h + 2) 0 0 12 → (∀ m5 : Mem, m5 = cpM m4 (g + 3) (h + 3) 0 0 12 → (∀ m6 : Mem, m6 = cpM m5 (g + 4) (h + 4) 0 0 12 → (∀ m7 : Mem, m7 = cpM m6 (g + 5) (h + 5) 0 0 144 → (∀ m9 : Mem, m9 = upM m7 h 6 (m7 g 6) → (∀ m10 : Mem, m10 = cpM m9 (g + 6) (h + 6) 0 0 60 → (∀ m11 : Mem, m11 = cpM m10 (g + 7) (h + 7) 0 0 60 → (∀ m13 : Mem, m13 = upM m11 h 9 (m11 g 9) → (∀ m15 : Mem, m15 = upM m13 h 10 (m13 g 10) → (∀ m17 : Mem, m17 = upM m15 h 11 (m15 g 11) → ((∀ i : Int, 0 ≤ i → i < 80 → -128 ≤ m17 (g + 8) (0 + i) ∧ m17 (g + 8) (0 + i) < 128) ∧ (∀ m18 : Mem, m18 = cpM m17 (g + 8) (h + 8) 0 0 80 → (∀ m21 : Mem, m21 = upM m18 h 13 (m18 g 13) → (∀ m22 : Mem, m22 = cpM m21 (g + 9) (h + 9) 0 0 48 → (∀ m24 : Mem, m24 = upM m22 h 15 (m22 g 15) → (∀ m25 : Mem, m25 = upM m24 h 16 1 → (Q none m25))))))))))))))))))) : C_X2_copyFrom G d [vR h, vR g] mem Q := by
  refine Ct_of_Ex (by decide +kernel) (by exact Nat.le_of_ble_eq_true rfl) (ls := [(0, vR h), (1, vR g)]) rfl ?_
  show E_X2_copyFrom G d 0 [(0, vR h), (1, vR g)] [] mem Q
  refine x_aloadn (q := 1) 0 rfl rfl rfl dX2_copyFrom_0 rfl ?_
  refine x_aloadn (q := 2) 1 rfl rfl rfl dX2_copyFrom_1 rfl ?_
  refine x_geti (q := 5) (ji := 0) dX2_copyFrom_2 rfl fa_X2_48 (sh_H0 hg) rfl rfl (fun r1 => ?_)
  refine x_puti (q := 8) (ji := 0) dX2_copyFrom_5 rfl fp_X2_48 (sh_H0 hh) rfl rfl r1 (fun m2 em2 => ?_)
  have H := H m2 em2
  refine x_aloadn (q := 9) 1 rfl rfl rfl dX2_copyFrom_8 rfl ?_
  refine x_getr (q := 12) dX2_copyFrom_9 rfl fa_X2_9 (sh_H0 hg) rfl ?_
  refine x_iconst (q := 13) dX2_copyFrom_12 rfl ?_
  refine x_aloadn (q := 14) 0 rfl rfl rfl dX2_copyFrom_13 rfl ?_
  refine x_getr (q := 17) dX2_copyFrom_14 rfl fa_X2_9 (sh_H0 hh) rfl ?_
  refine x_iconst (q := 18) dX2_copyFrom_17 rfl ?_
  refine x_bipush (q := 20) rfl dX2_copyFrom_18 rfl ?_
  refine x_copy (q := 23) (by decide) dX2_copyFrom_20 rfl ml_X2_51 ac_nat ac_sta ac_ini (sh_H1 hg) (sh_H1 hh) (by decide) (by decide) (by decide) (by decide) (by decide) (fun h => absurd h (by decide)) ⟨by show 1 ≤ d; omega, copyR (by omega)⟩ (fun m3 em3 => ?_)
  have H := H m3 em3
  refine x_aloadn (q := 24) 1 rfl rfl rfl dX2_copyFrom_23 rfl ?_
  refine x_getr (q := 27) dX2_copyFrom_24 rfl fa_X2_15 (sh_H0 hg) rfl ?_
  refine x_iconst (q := 28) dX2_copyFrom_27 rfl ?_
  refine x_aloadn (q := 29) 0 rfl rfl rfl dX2_copyFrom_28 rfl ?_
  refine x_getr (q := 32) dX2_copyFrom_29 rfl fa_X2_15 (sh_H0 hh) rfl ?_
  refine x_iconst (q := 33) dX2_copyFrom_32 rfl ?_
  refine x_bipush (q := 35) rfl dX2_copyFrom_33 rfl ?_
  refine x_copy (q := 38) (by decide) dX2_copyFrom_35 rfl ml_X2_51 ac_nat ac_sta ac_ini (sh_H2 hg) (sh_H2 hh) (by decide) (by decide) (by decide) (by decide) (by decide) (fun h => absurd h (by decide)) ⟨by show 1 ≤ d; omega, copyR (by omega)⟩ (fun m4 em4 => ?_)
  have H := H m4 em4
  refine x_aloadn (q := 39) 1 rfl rfl rfl dX2_copyFrom_38 rfl ?_
  refine x_getr (q := 42) dX2_copyFrom_39 rfl fa_X2_18 (sh_H0 hg) rfl ?_
  refine x_iconst (q := 43) dX2_copyFrom_42 rfl ?_
  refine x_aloadn (q := 44) 0 rfl rfl rfl dX2_copyFrom_43 rfl ?_
  refine x_getr (q := 47) dX2_copyFrom_44 rfl fa_X2_18 (sh_H0 hh) rfl ?_
  refine x_iconst (q := 48) dX2_copyFrom_47 rfl ?_
  refine x_bipush (q := 50) rfl dX2_copyFrom_48 rfl ?_
  refine x_copy (q := 53) (by decide) dX2_copyFrom_50 rfl ml_X2_51 ac_nat ac_sta ac_ini (sh_H3 hg) (sh_H3 hh) (by decide) (by decide) (by decide) (by decide) (by decide) (fun h => absurd h (by decide)) ⟨by show 1 ≤ d; omega, copyR (by omega)⟩ (fun m5 em5 => ?_)
  have H := H m5 em5
  refine x_aloadn (q := 54) 1 rfl rfl rfl dX2_copyFrom_53 rfl ?_
  refine x_getr (q := 57) dX2_copyFrom_54 rfl fa_X2_21 (sh_H0 hg) rfl ?_
  refine x_iconst (q := 58) dX2_copyFrom_57 rfl ?_
  refine x_aloadn (q := 59) 0 rfl rfl rfl dX2_copyFrom_58 rfl ?_
  refine x_getr (q := 62) dX2_copyFrom_59 rfl fa_X2_21 (sh_H0 hh) rfl ?_
  refine x_iconst (q := 63) dX2_copyFrom_62 rfl ?_
  refine x_bipush (q := 65) rfl dX2_copyFrom_63 rfl ?_
  refine x_copy (q := 68) (by decide) dX2_copyFrom_65 rfl ml_X2_51 ac_nat ac_sta ac_ini (sh_H4 hg) (sh_H4 hh) (by decide) (by decide) (by decide) (by decide) (by decide) (fun h => absurd h (by decide)) ⟨by show 1 ≤ d; omega, copyR (by omega)⟩ (fun m6 em6 => ?_)
  have H := H m6 em6
  refine x_aloadn (q := 69) 1 rfl rfl rfl dX2_copyFrom_68 rfl ?_
  refine x_getr (q := 72) dX2_copyFrom_69 rfl fa_X2_24 (sh_H0 hg) rfl ?_
  refine x_iconst (q := 73) dX2_copyFrom_72 rfl ?_
  refine x_aloadn (q := 74) 0 rfl rfl rfl dX2_copyFrom_73 rfl ?_
  refine x_getr (q := 77) dX2_copyFrom_74 rfl fa_X2_24 (sh_H0 hh) rfl ?_
  refine x_iconst (q := 78) dX2_copyFrom_77 rfl ?_
  refine x_sipush (q := 81) rfl dX2_copyFrom_78 rfl ?_
  refine x_copy (q := 84) (by decide) dX2_copyFrom_81 rfl ml_X2_51 ac_nat ac_sta ac_ini (sh_H5 hg) (sh_H5 hh) (by decide) (by decide) (by decide) (by decide) (by decide) (fun h => absurd h (by decide)) ⟨by show 1 ≤ d; omega, copyR (by omega)⟩ (fun m7 em7 => ?_)
  have H := H m7 em7
  refine x_aloadn (q := 85) 0 rfl rfl rfl dX2_copyFrom_84 rfl ?_
  refine x_aloadn (q := 86) 1 rfl rfl rfl dX2_copyFrom_85 rfl ?_
  refine x_geti (q := 89) (ji := 6) dX2_copyFrom_86 rfl fa_X2_57 (sh_H0 hg) rfl rfl (fun r8 => ?_)
  refine x_puti (q := 92) (ji := 6) dX2_copyFrom_89 rfl fp_X2_57 (sh_H0 hh) rfl rfl r8 (fun m9 em9 => ?_)
  have H := H m9 em9
  refine x_aloadn (q := 93) 1 rfl rfl rfl dX2_copyFrom_92 rfl ?_
  refine x_getr (q := 96) dX2_copyFrom_93 rfl fa_X2_27 (sh_H0 hg) rfl ?_
  refine x_iconst (q := 97) dX2_copyFrom_96 rfl ?_
  refine x_aloadn (q := 98) 0 rfl rfl rfl dX2_copyFrom_97 rfl ?_
  refine x_getr (q := 101) dX2_copyFrom_98 rfl fa_X2_27 (sh_H0 hh) rfl ?_
  refine x_iconst (q := 102) dX2_copyFrom_101 rfl ?_
  refine x_bipush (q := 104) rfl dX2_copyFrom_102 rfl ?_
  refine x_copy (q := 107) (by decide) dX2_copyFrom_104 rfl ml_X2_51 ac_nat ac_sta ac_ini (sh_H6 hg) (sh_H6 hh) (by decide) (by decide) (by decide) (by decide) (by decide) (fun h => absurd h (by decide)) ⟨by show 1 ≤ d; omega, copyR (by omega)⟩ (fun m10 em10 => ?_)
  have H := H m10 em10
  refine x_aloadn (q := 108) 1 rfl rfl rfl dX2_copyFrom_107 rfl ?_
  refine x_getr (q := 111) dX2_copyFrom_108 rfl fa_X2_30 (sh_H0 hg) rfl ?_
  refine x_iconst (q := 112) dX2_copyFrom_111 rfl ?_
  refine x_aloadn (q := 113) 0 rfl rfl rfl dX2_copyFrom_112 rfl ?_
  refine x_getr (q := 116) dX2_copyFrom_113 rfl fa_X2_30 (sh_H0 hh) rfl ?_
  refine x_iconst (q := 117) dX2_copyFrom_116 rfl ?_
  refine x_bipush (q := 119) rfl dX2_copyFrom_117 rfl ?_
  refine x_copy (q := 122) (by decide) dX2_copyFrom_119 rfl ml_X2_51 ac_nat ac_sta ac_ini (sh_H7 hg) (sh_H7 hh) (by decide) (by decide) (by decide) (by decide) (by decide) (fun h => absurd h (by decide)) ⟨by show 1 ≤ d; omega, copyR (by omega)⟩ (fun m11 em11 => ?_)
  have H := H m11 em11
  refine x_aloadn (q := 123) 0 rfl rfl rfl dX2_copyFrom_122 rfl ?_
  refine x_aloadn (q := 124) 1 rfl rfl rfl dX2_copyFrom_123 rfl ?_
  refine x_getl (q := 127) (ji := 9) dX2_copyFrom_124 rfl fa_X2_60 (sh_H0 hg) rfl rfl (fun r12 => ?_)
  refine x_putl (q := 130) (ji := 9) dX2_copyFrom_127 rfl fp_X2_60 (sh_H0 hh) rfl rfl r12 (fun m13 em13 => ?_)
  have H := H m13 em13
  refine x_aloadn (q := 131) 0 rfl rfl rfl dX2_copyFrom_130 rfl ?_
  refine x_aloadn (q := 132) 1 rfl rfl rfl dX2_copyFrom_131 rfl ?_
  refine x_getl (q := 135) (ji := 10) dX2_copyFrom_132 rfl fa_X2_64 (sh_H0 hg) rfl rfl (fun r14 => ?_)
  refine x_putl (q := 138) (ji := 10) dX2_copyFrom_135 rfl fp_X2_64 (sh_H0 hh) rfl rfl r14 (fun m15 em15 => ?_)
  have H := H m15 em15
  refine x_aloadn (q := 139) 0 rfl rfl rfl dX2_copyFrom_138 rfl ?_
  refine x_aloadn (q := 140) 1 rfl rfl rfl dX2_copyFrom_139 rfl ?_
  refine x_geti (q := 143) (ji := 11) dX2_copyFrom_140 rfl fa_X2_33 (sh_H0 hg) rfl rfl (fun r16 => ?_)
  refine x_puti (q := 146) (ji := 11) dX2_copyFrom_143 rfl fp_X2_33 (sh_H0 hh) rfl rfl r16 (fun m17 em17 => ?_)
  have H := H m17 em17
  refine x_aloadn (q := 147) 1 rfl rfl rfl dX2_copyFrom_146 rfl ?_
  refine x_getr (q := 150) dX2_copyFrom_147 rfl fa_X2_37 (sh_H0 hg) rfl ?_
  refine x_iconst (q := 151) dX2_copyFrom_150 rfl ?_
  refine x_aloadn (q := 152) 0 rfl rfl rfl dX2_copyFrom_151 rfl ?_
  refine x_getr (q := 155) dX2_copyFrom_152 rfl fa_X2_37 (sh_H0 hh) rfl ?_
  refine x_iconst (q := 156) dX2_copyFrom_155 rfl ?_
  refine x_bipush (q := 158) rfl dX2_copyFrom_156 rfl ?_
  obtain ⟨s19, H⟩ := H
  refine x_copy (q := 161) (by decide) dX2_copyFrom_158 rfl ml_X2_51 ac_nat ac_sta ac_ini (sh_H8 hg) (sh_H8 hh) (by decide) (by decide) (by decide) (by decide) (by decide) (fun _ => s19) ⟨by show 1 ≤ d; omega, copyR (by omega)⟩ (fun m18 em18 => ?_)
  have H := H m18 em18
  refine x_aloadn (q := 162) 0 rfl rfl rfl dX2_copyFrom_161 rfl ?_
  refine x_aloadn (q := 163) 1 rfl rfl rfl dX2_copyFrom_162 rfl ?_
  refine x_geti (q := 166) (ji := 13) dX2_copyFrom_163 rfl fa_X2_67 (sh_H0 hg) rfl rfl (fun r20 => ?_)
  refine x_puti (q := 169) (ji := 13) dX2_copyFrom_166 rfl fp_X2_67 (sh_H0 hh) rfl rfl r20 (fun m21 em21 => ?_)
  have H := H m21 em21
  refine x_aloadn (q := 170) 1 rfl rfl rfl dX2_copyFrom_169 rfl ?_
  refine x_getr (q := 173) dX2_copyFrom_170 rfl fa_X2_41 (sh_H0 hg) rfl ?_
  refine x_iconst (q := 174) dX2_copyFrom_173 rfl ?_
  refine x_aloadn (q := 175) 0 rfl rfl rfl dX2_copyFrom_174 rfl ?_
  refine x_getr (q := 178) dX2_copyFrom_175 rfl fa_X2_41 (sh_H0 hh) rfl ?_
  refine x_iconst (q := 179) dX2_copyFrom_178 rfl ?_
  refine x_bipush (q := 181) rfl dX2_copyFrom_179 rfl ?_
  refine x_copy (q := 184) (by decide) dX2_copyFrom_181 rfl ml_X2_51 ac_nat ac_sta ac_ini (sh_H9 hg) (sh_H9 hh) (by decide) (by decide) (by decide) (by decide) (by decide) (fun h => absurd h (by decide)) ⟨by show 1 ≤ d; omega, copyR (by omega)⟩ (fun m22 em22 => ?_)
  have H := H m22 em22
  refine x_aloadn (q := 185) 0 rfl rfl rfl dX2_copyFrom_184 rfl ?_
  refine x_aloadn (q := 186) 1 rfl rfl rfl dX2_copyFrom_185 rfl ?_
  refine x_geti (q := 189) (ji := 15) dX2_copyFrom_186 rfl fa_X2_70 (sh_H0 hg) rfl rfl (fun r23 => ?_)
  refine x_puti (q := 192) (ji := 15) dX2_copyFrom_189 rfl fp_X2_70 (sh_H0 hh) rfl rfl r23 (fun m24 em24 => ?_)
  have H := H m24 em24
  refine x_aloadn (q := 193) 0 rfl rfl rfl dX2_copyFrom_192 rfl ?_
  refine x_iconst (q := 194) dX2_copyFrom_193 rfl ?_
  refine x_putz (q := 197) (ji := 16) dX2_copyFrom_194 rfl fp_X2_44 (sh_H0 hh) rfl rfl (by decide) (fun m25 em25 => ?_)
  have H := H m25 em25
  exact x_vret rfl dX2_copyFrom_197 H
abbrev E_X2_ties (G : GT) (d pc : Nat) (ls : List (Nat × AV)) (st : List AV) (mem : Mem) (Q : Option AV → Mem → Prop) : Prop := Ex G RX2 cX2_ties 3 (some .int) d pc ls st mem Q
abbrev C_X2_ties (G : GT) (d : Nat) (as : List AV) (mem : Mem) (Q : Option AV → Mem → Prop) : Prop := Ct G yX2_ties cX2_ties 3 (some .int) d as mem Q
set_option maxRecDepth 20000 in
set_option maxHeartbeats 4000000 in
theorem B_X2_ties {G : GT} {d : Nat} {h : Nat} (hh : isH h) {mem : Mem} {Q : Option AV → Mem → Prop} (hd : 1 ≤ d) (H : E_X2_ties G d 4 [(0, vR h), (1, vI 0), (2, vI 0)] [] mem Q) : C_X2_ties G d [vR h] mem Q := by
  refine Ct_of_Ex (by decide +kernel) (by exact Nat.le_of_ble_eq_true rfl) (ls := [(0, vR h)]) rfl ?_
  show E_X2_ties G d 0 [(0, vR h)] [] mem Q
  refine x_iconst (q := 1) dX2_ties_0 rfl ?_
  refine x_istoren (q := 2) (ls' := [(1, vI 0), (0, vR h)]) rfl (by decide) rfl dX2_ties_1 rfl ?_
  refine x_iconst (q := 3) dX2_ties_2 rfl ?_
  refine x_istoren (q := 4) (ls' := [(2, vI 0), (1, vI 0), (0, vR h)]) rfl (by decide) rfl dX2_ties_3 rfl ?_
  refine x_sub [2, 1, 0] rfl ?_
  exact H
set_option maxRecDepth 20000 in
set_option maxHeartbeats 4000000 in
theorem B_X2_ties_4 {G : GT} {d : Nat} {h : Nat} (hh : isH h) {l1 : Int} {l2 : Int} {mem : Mem} {Q : Option AV → Mem → Prop} (hd : 1 ≤ d) (H : (inr l2) ∧ (((mem h 0 ≤ l2) → (Q (some (vI l1)) mem)) ∧ (¬ (mem h 0 ≤ l2) → ((0 ≤ l2 ∧ l2 < 12) ∧ (E_X2_ties G d 4 [(0, vR h), (1, vI (l1 + (bitc (mem (h + 4) l2)))), (2, vI (l2 + 1))] [] mem Q))))) : E_X2_ties G d 4 [(0, vR h), (1, vI l1), (2, vI l2)] [] mem Q := by
  refine x_iloadn (q := 5) 2 rfl rfl dX2_ties_4 rfl ?_
  refine x_aloadn (q := 6) 0 rfl rfl rfl dX2_ties_5 rfl ?_
  refine x_geti (q := 9) (ji := 0) dX2_ties_6 rfl fa_X2_48 (sh_H0 hh) rfl rfl (fun r1 => ?_)
  obtain ⟨s2, H⟩ := H
  obtain ⟨H1, H2⟩ := H
  refine x_icmp_ge (tgt := 30) (q := 12) dX2_ties_9 (by decide) rfl s2 r1 (fun hB => ?_) (fun hB => ?_)
  · have H := H1 (hB)
    refine x_iloadn (q := 31) 1 rfl rfl dX2_ties_30 rfl ?_
    exact x_iret rfl dX2_ties_31 H
  · have H := H2 (hB)
    refine x_iloadn (q := 13) 1 rfl rfl dX2_ties_12 rfl ?_
    refine x_aloadn (q := 14) 0 rfl rfl rfl dX2_ties_13 rfl ?_
    refine x_getr (q := 17) dX2_ties_14 rfl fa_X2_21 (sh_H0 hh) rfl ?_
    refine x_iloadn (q := 18) 2 rfl rfl dX2_ties_17 rfl ?_
    obtain ⟨⟨s5, s6⟩, H⟩ := H
    refine x_iald (q := 19) dX2_ties_18 rfl (sh_H4 hh) s5 s6 (fun r7 => ?_)
    refine x_callS (q := 22) (d := d - 1) (as := [vI (mem (h + 4) l2)]) (st := [vI l1]) dX2_ties_19 rfl ms_X2_81 rfl rfl (by exact Nat.le_of_ble_eq_true rfl) ⟨by show _ ≤ d; omega, by show _ ≤ 40 * d; omega⟩ ⟨Nat.le_refl _, Nat.le_refl _⟩ (ct_bitc ?_)
    show E_X2_ties G d 22 [(0, vR h), (1, vI l1), (2, vI l2)] [vI (bitc (mem (h + 4) l2)), vI l1] mem Q
    refine x_iadd (q := 23) dX2_ties_22 rfl ?_
    refine x_istoren (q := 24) (ls' := [(1, vI (l1 + (bitc (mem (h + 4) l2)))), (0, vR h), (2, vI l2)]) rfl (by decide) rfl dX2_ties_23 rfl ?_
    refine x_iinc (q := 27) (ls' := [(2, vI (l2 + 1)), (1, vI (l1 + (bitc (mem (h + 4) l2)))), (0, vR h)]) 2 rfl (by decide) rfl dX2_ties_24 rfl ?_
    refine x_goto (tgt := 4) dX2_ties_27 (by decide) ?_
    refine x_sub [2, 1, 0] rfl ?_
    exact H
abbrev E_X11_makes (G : GT) (d pc : Nat) (ls : List (Nat × AV)) (st : List AV) (mem : Mem) (Q : Option AV → Mem → Prop) : Prop := Ex G RX11 cX11_makes 5 none d pc ls st mem Q
abbrev C_X11_makes (G : GT) (d : Nat) (as : List AV) (mem : Mem) (Q : Option AV → Mem → Prop) : Prop := Ct G yX11_makes cX11_makes 5 none d as mem Q
set_option maxRecDepth 20000 in
set_option maxHeartbeats 4000000 in
theorem B_X11_makes {G : GT} {d : Nat} {l1 : Int} {l2 : Int} {l3 : Int} {mem : Mem} {Q : Option AV → Mem → Prop} (H : (0 ≤ (5 + (3 * (mem 72 0))) + 0 ∧ (5 + (3 * (mem 72 0))) + 0 < 553) ∧ ((inr l1) ∧ (∀ m4 : Mem, m4 = upM mem 72 ((5 + (3 * (mem 72 0))) + 0) l1 → ((0 ≤ (5 + (3 * (mem 72 0))) + 1 ∧ (5 + (3 * (mem 72 0))) + 1 < 553) ∧ ((inr l2) ∧ (∀ m8 : Mem, m8 = upM m4 72 ((5 + (3 * (mem 72 0))) + 1) l2 → ((0 ≤ (5 + (3 * (mem 72 0))) + 2 ∧ (5 + (3 * (mem 72 0))) + 2 < 553) ∧ ((inr l3) ∧ (∀ m12 : Mem, m12 = upM m8 72 ((5 + (3 * (mem 72 0))) + 2) l3 → ((inr ((m12 72 0) + 1)) ∧ (∀ m15 : Mem, m15 = upM m12 72 0 ((m12 72 0) + 1) → (Q none m15)))))))))))) : C_X11_makes G d [vR 71, vI l1, vI l2, vI l3] mem Q := by
  refine Ct_of_Ex (by decide +kernel) (by exact Nat.le_of_ble_eq_true rfl) (ls := [(0, vR 71), (1, vI l1), (2, vI l2), (3, vI l3)]) rfl ?_
  show E_X11_makes G d 0 [(0, vR 71), (1, vI l1), (2, vI l2), (3, vI l3)] [] mem Q
  refine x_iconst (q := 1) dX11_makes_0 rfl ?_
  refine x_iconst (q := 2) dX11_makes_1 rfl ?_
  refine x_aloadn (q := 3) 0 rfl rfl rfl dX11_makes_2 rfl ?_
  refine x_getr (q := 6) dX11_makes_3 rfl fa_X11_9 sh_71 rfl ?_
  refine x_iconst (q := 7) dX11_makes_6 rfl ?_
  refine x_iald (q := 8) dX11_makes_7 rfl sh_72 (by decide) (by decide) (fun r1 => ?_)
  refine x_imul (q := 9) dX11_makes_8 rfl ?_
  refine x_iadd (q := 10) dX11_makes_9 rfl ?_
  refine x_istore (q := 12) (ls' := [(4, vI (5 + (3 * (mem 72 0)))), (0, vR 71), (1, vI l1), (2, vI l2), (3, vI l3)]) (by decide) rfl dX11_makes_10 rfl ?_
  refine x_aloadn (q := 13) 1 rfl rfl rfl dX11_makes_12 rfl ?_
  refine x_getr (q := 16) dX11_makes_13 rfl fa_X11_9 sh_71 rfl ?_
  refine x_iload (q := 18) 0 rfl dX11_makes_16 rfl ?_
  refine x_iconst (q := 19) dX11_makes_18 rfl ?_
  refine x_iadd (q := 20) dX11_makes_19 rfl ?_
  refine x_iloadn (q := 21) 2 rfl rfl dX11_makes_20 rfl ?_
  obtain ⟨⟨s2, s3⟩, H⟩ := H
  obtain ⟨s5, H⟩ := H
  refine x_iast (q := 22) dX11_makes_21 rfl sh_72 s2 s3 s5 (fun m4 em4 => ?_)
  have H := H m4 em4
  refine x_aloadn (q := 23) 1 rfl rfl rfl dX11_makes_22 rfl ?_
  refine x_getr (q := 26) dX11_makes_23 rfl fa_X11_9 sh_71 rfl ?_
  refine x_iload (q := 28) 0 rfl dX11_makes_26 rfl ?_
  refine x_iconst (q := 29) dX11_makes_28 rfl ?_
  refine x_iadd (q := 30) dX11_makes_29 rfl ?_
  refine x_iloadn (q := 31) 3 rfl rfl dX11_makes_30 rfl ?_
  obtain ⟨⟨s6, s7⟩, H⟩ := H
  obtain ⟨s9, H⟩ := H
  refine x_iast (q := 32) dX11_makes_31 rfl sh_72 s6 s7 s9 (fun m8 em8 => ?_)
  have H := H m8 em8
  refine x_aloadn (q := 33) 1 rfl rfl rfl dX11_makes_32 rfl ?_
  refine x_getr (q := 36) dX11_makes_33 rfl fa_X11_9 sh_71 rfl ?_
  refine x_iload (q := 38) 0 rfl dX11_makes_36 rfl ?_
  refine x_iconst (q := 39) dX11_makes_38 rfl ?_
  refine x_iadd (q := 40) dX11_makes_39 rfl ?_
  refine x_iloadn (q := 41) 4 rfl rfl dX11_makes_40 rfl ?_
  obtain ⟨⟨s10, s11⟩, H⟩ := H
  obtain ⟨s13, H⟩ := H
  refine x_iast (q := 42) dX11_makes_41 rfl sh_72 s10 s11 s13 (fun m12 em12 => ?_)
  have H := H m12 em12
  refine x_aloadn (q := 43) 1 rfl rfl rfl dX11_makes_42 rfl ?_
  refine x_getr (q := 46) dX11_makes_43 rfl fa_X11_9 sh_71 rfl ?_
  refine x_iconst (q := 47) dX11_makes_46 rfl ?_
  refine x_dup2 (q := 48) (by exact Nat.ne_of_beq_eq_false rfl) (by exact Nat.ne_of_beq_eq_false rfl) dX11_makes_47 rfl ?_
  refine x_iald (q := 49) dX11_makes_48 rfl sh_72 (by decide) (by decide) (fun r14 => ?_)
  refine x_iconst (q := 50) dX11_makes_49 rfl ?_
  refine x_iadd (q := 51) dX11_makes_50 rfl ?_
  obtain ⟨s16, H⟩ := H
  refine x_iast (q := 52) dX11_makes_51 rfl sh_72 (by decide) (by decide) s16 (fun m15 em15 => ?_)
  have H := H m15 em15
  exact x_vret rfl dX11_makes_52 H
abbrev E_X11_saysSo (G : GT) (d pc : Nat) (ls : List (Nat × AV)) (st : List AV) (mem : Mem) (Q : Option AV → Mem → Prop) : Prop := Ex G RX11 cX11_saysSo 5 none d pc ls st mem Q
abbrev C_X11_saysSo (G : GT) (d : Nat) (as : List AV) (mem : Mem) (Q : Option AV → Mem → Prop) : Prop := Ct G yX11_saysSo cX11_saysSo 5 none d as mem Q
set_option maxRecDepth 20000 in
set_option maxHeartbeats 4000000 in
theorem B_X11_saysSo {G : GT} {d : Nat} {l1 : Int} {l2 : Int} {l3 : Int} {mem : Mem} {Q : Option AV → Mem → Prop} (H : (0 ≤ (185 + (4 * (mem 72 1))) + 0 ∧ (185 + (4 * (mem 72 1))) + 0 < 553) ∧ ((inr l1) ∧ (∀ m4 : Mem, m4 = upM mem 72 ((185 + (4 * (mem 72 1))) + 0) l1 → ((0 ≤ (185 + (4 * (mem 72 1))) + 1 ∧ (185 + (4 * (mem 72 1))) + 1 < 553) ∧ ((inr l2) ∧ (∀ m8 : Mem, m8 = upM m4 72 ((185 + (4 * (mem 72 1))) + 1) l2 → ((inr l3) ∧ (((l3 = 0) → ((0 ≤ (185 + (4 * (mem 72 1))) + 2 ∧ (185 + (4 * (mem 72 1))) + 2 < 553) ∧ (∀ m15 : Mem, m15 = upM m8 72 ((185 + (4 * (mem 72 1))) + 2) 0 → ((0 ≤ (185 + (4 * (mem 72 1))) + 3 ∧ (185 + (4 * (mem 72 1))) + 3 < 553) ∧ (∀ m18 : Mem, m18 = upM m15 72 ((185 + (4 * (mem 72 1))) + 3) 1 → ((inr ((m18 72 1) + 1)) ∧ (∀ m20 : Mem, m20 = upM m18 72 1 ((m18 72 1) + 1) → (Q none m20)))))))) ∧ (¬ (l3 = 0) → ((0 ≤ (185 + (4 * (mem 72 1))) + 2 ∧ (185 + (4 * (mem 72 1))) + 2 < 553) ∧ (∀ m24 : Mem, m24 = upM m8 72 ((185 + (4 * (mem 72 1))) + 2) 1 → ((0 ≤ (185 + (4 * (mem 72 1))) + 3 ∧ (185 + (4 * (mem 72 1))) + 3 < 553) ∧ (∀ m27 : Mem, m27 = upM m24 72 ((185 + (4 * (mem 72 1))) + 3) 1 → ((inr ((m27 72 1) + 1)) ∧ (∀ m29 : Mem, m29 = upM m27 72 1 ((m27 72 1) + 1) → (Q none m29)))))))))))))))) : C_X11_saysSo G d [vR 71, vI l1, vI l2, vI l3] mem Q := by
  refine Ct_of_Ex (by decide +kernel) (by exact Nat.le_of_ble_eq_true rfl) (ls := [(0, vR 71), (1, vI l1), (2, vI l2), (3, vI l3)]) rfl ?_
  show E_X11_saysSo G d 0 [(0, vR 71), (1, vI l1), (2, vI l2), (3, vI l3)] [] mem Q
  refine x_sipush (q := 3) rfl dX11_saysSo_0 rfl ?_
  refine x_iconst (q := 4) dX11_saysSo_3 rfl ?_
  refine x_aloadn (q := 5) 0 rfl rfl rfl dX11_saysSo_4 rfl ?_
  refine x_getr (q := 8) dX11_saysSo_5 rfl fa_X11_9 sh_71 rfl ?_
  refine x_iconst (q := 9) dX11_saysSo_8 rfl ?_
  refine x_iald (q := 10) dX11_saysSo_9 rfl sh_72 (by decide) (by decide) (fun r1 => ?_)
  refine x_imul (q := 11) dX11_saysSo_10 rfl ?_
  refine x_iadd (q := 12) dX11_saysSo_11 rfl ?_
  refine x_istore (q := 14) (ls' := [(4, vI (185 + (4 * (mem 72 1)))), (0, vR 71), (1, vI l1), (2, vI l2), (3, vI l3)]) (by decide) rfl dX11_saysSo_12 rfl ?_
  refine x_aloadn (q := 15) 1 rfl rfl rfl dX11_saysSo_14 rfl ?_
  refine x_getr (q := 18) dX11_saysSo_15 rfl fa_X11_9 sh_71 rfl ?_
  refine x_iload (q := 20) 0 rfl dX11_saysSo_18 rfl ?_
  refine x_iconst (q := 21) dX11_saysSo_20 rfl ?_
  refine x_iadd (q := 22) dX11_saysSo_21 rfl ?_
  refine x_iloadn (q := 23) 2 rfl rfl dX11_saysSo_22 rfl ?_
  obtain ⟨⟨s2, s3⟩, H⟩ := H
  obtain ⟨s5, H⟩ := H
  refine x_iast (q := 24) dX11_saysSo_23 rfl sh_72 s2 s3 s5 (fun m4 em4 => ?_)
  have H := H m4 em4
  refine x_aloadn (q := 25) 1 rfl rfl rfl dX11_saysSo_24 rfl ?_
  refine x_getr (q := 28) dX11_saysSo_25 rfl fa_X11_9 sh_71 rfl ?_
  refine x_iload (q := 30) 0 rfl dX11_saysSo_28 rfl ?_
  refine x_iconst (q := 31) dX11_saysSo_30 rfl ?_
  refine x_iadd (q := 32) dX11_saysSo_31 rfl ?_
  refine x_iloadn (q := 33) 3 rfl rfl dX11_saysSo_32 rfl ?_
  obtain ⟨⟨s6, s7⟩, H⟩ := H
  obtain ⟨s9, H⟩ := H
  refine x_iast (q := 34) dX11_saysSo_33 rfl sh_72 s6 s7 s9 (fun m8 em8 => ?_)
  have H := H m8 em8
  refine x_aloadn (q := 35) 1 rfl rfl rfl dX11_saysSo_34 rfl ?_
  refine x_getr (q := 38) dX11_saysSo_35 rfl fa_X11_9 sh_71 rfl ?_
  refine x_iload (q := 40) 0 rfl dX11_saysSo_38 rfl ?_
  refine x_iconst (q := 41) dX11_saysSo_40 rfl ?_
  refine x_iadd (q := 42) dX11_saysSo_41 rfl ?_
  refine x_iloadn (q := 43) 4 rfl rfl dX11_saysSo_42 rfl ?_
  obtain ⟨s10, H⟩ := H
  obtain ⟨H1, H2⟩ := H
  refine x_if_eq (tgt := 50) (q := 46) dX11_saysSo_43 (by decide) rfl s10 (fun hB => ?_) (fun hB => ?_)
  · have H := H1 (hB)
    refine x_iconst (q := 51) dX11_saysSo_50 rfl ?_
    obtain ⟨⟨s13, s14⟩, H⟩ := H
    refine x_iast (q := 52) dX11_saysSo_51 rfl sh_72 s13 s14 (by decide) (fun m15 em15 => ?_)
    have H := H m15 em15
    refine x_aloadn (q := 53) 1 rfl rfl rfl dX11_saysSo_52 rfl ?_
    refine x_getr (q := 56) dX11_saysSo_53 rfl fa_X11_9 sh_71 rfl ?_
    refine x_iload (q := 58) 0 rfl dX11_saysSo_56 rfl ?_
    refine x_iconst (q := 59) dX11_saysSo_58 rfl ?_
    refine x_iadd (q := 60) dX11_saysSo_59 rfl ?_
    refine x_iconst (q := 61) dX11_saysSo_60 rfl ?_
    obtain ⟨⟨s16, s17⟩, H⟩ := H
    refine x_iast (q := 62) dX11_saysSo_61 rfl sh_72 s16 s17 (by decide) (fun m18 em18 => ?_)
    have H := H m18 em18
    refine x_aloadn (q := 63) 1 rfl rfl rfl dX11_saysSo_62 rfl ?_
    refine x_getr (q := 66) dX11_saysSo_63 rfl fa_X11_9 sh_71 rfl ?_
    refine x_iconst (q := 67) dX11_saysSo_66 rfl ?_
    refine x_dup2 (q := 68) (by exact Nat.ne_of_beq_eq_false rfl) (by exact Nat.ne_of_beq_eq_false rfl) dX11_saysSo_67 rfl ?_
    refine x_iald (q := 69) dX11_saysSo_68 rfl sh_72 (by decide) (by decide) (fun r19 => ?_)
    refine x_iconst (q := 70) dX11_saysSo_69 rfl ?_
    refine x_iadd (q := 71) dX11_saysSo_70 rfl ?_
    obtain ⟨s21, H⟩ := H
    refine x_iast (q := 72) dX11_saysSo_71 rfl sh_72 (by decide) (by decide) s21 (fun m20 em20 => ?_)
    have H := H m20 em20
    exact x_vret rfl dX11_saysSo_72 H
  · have H := H2 (hB)
    refine x_iconst (q := 47) dX11_saysSo_46 rfl ?_
    refine x_goto (tgt := 51) dX11_saysSo_47 (by decide) ?_
    obtain ⟨⟨s22, s23⟩, H⟩ := H
    refine x_iast (q := 52) dX11_saysSo_51 rfl sh_72 s22 s23 (by decide) (fun m24 em24 => ?_)
    have H := H m24 em24
    refine x_aloadn (q := 53) 1 rfl rfl rfl dX11_saysSo_52 rfl ?_
    refine x_getr (q := 56) dX11_saysSo_53 rfl fa_X11_9 sh_71 rfl ?_
    refine x_iload (q := 58) 0 rfl dX11_saysSo_56 rfl ?_
    refine x_iconst (q := 59) dX11_saysSo_58 rfl ?_
    refine x_iadd (q := 60) dX11_saysSo_59 rfl ?_
    refine x_iconst (q := 61) dX11_saysSo_60 rfl ?_
    obtain ⟨⟨s25, s26⟩, H⟩ := H
    refine x_iast (q := 62) dX11_saysSo_61 rfl sh_72 s25 s26 (by decide) (fun m27 em27 => ?_)
    have H := H m27 em27
    refine x_aloadn (q := 63) 1 rfl rfl rfl dX11_saysSo_62 rfl ?_
    refine x_getr (q := 66) dX11_saysSo_63 rfl fa_X11_9 sh_71 rfl ?_
    refine x_iconst (q := 67) dX11_saysSo_66 rfl ?_
    refine x_dup2 (q := 68) (by exact Nat.ne_of_beq_eq_false rfl) (by exact Nat.ne_of_beq_eq_false rfl) dX11_saysSo_67 rfl ?_
    refine x_iald (q := 69) dX11_saysSo_68 rfl sh_72 (by decide) (by decide) (fun r28 => ?_)
    refine x_iconst (q := 70) dX11_saysSo_69 rfl ?_
    refine x_iadd (q := 71) dX11_saysSo_70 rfl ?_
    obtain ⟨s30, H⟩ := H
    refine x_iast (q := 72) dX11_saysSo_71 rfl sh_72 (by decide) (by decide) s30 (fun m29 em29 => ?_)
    have H := H m29 em29
    exact x_vret rfl dX11_saysSo_72 H
abbrev E_X11_copy (G : GT) (d pc : Nat) (ls : List (Nat × AV)) (st : List AV) (mem : Mem) (Q : Option AV → Mem → Prop) : Prop := Ex G RX11 cX11_copy 3 none d pc ls st mem Q
abbrev C_X11_copy (G : GT) (d : Nat) (as : List AV) (mem : Mem) (Q : Option AV → Mem → Prop) : Prop := Ct G yX11_copy cX11_copy 3 none d as mem Q
set_option maxRecDepth 20000 in
set_option maxHeartbeats 4000000 in
theorem B_X11_copy {G : GT} {d : Nat} {ka : Nat} (ha : isN ka) {kb : Nat} (hb : isN kb) {mem : Mem} {Q : Option AV → Mem → Prop} (H : E_X11_copy G d 2 [(0, vR ka), (1, vR kb), (2, vI 0)] [] mem Q) : C_X11_copy G d [vR ka, vR kb] mem Q := by
  refine Ct_of_Ex (by decide +kernel) (by exact Nat.le_of_ble_eq_true rfl) (ls := [(0, vR ka), (1, vR kb)]) rfl ?_
  show E_X11_copy G d 0 [(0, vR ka), (1, vR kb)] [] mem Q
  refine x_iconst (q := 1) dX11_copy_0 rfl ?_
  refine x_istoren (q := 2) (ls' := [(2, vI 0), (0, vR ka), (1, vR kb)]) rfl (by decide) rfl dX11_copy_1 rfl ?_
  refine x_sub [1, 2, 0] rfl ?_
  exact H
set_option maxRecDepth 20000 in
set_option maxHeartbeats 4000000 in
theorem B_X11_copy_2 {G : GT} {d : Nat} {ka : Nat} (ha : isN ka) {kb : Nat} (hb : isN kb) {l2 : Int} {mem : Mem} {Q : Option AV → Mem → Prop} (H : (inr l2) ∧ (((553 ≤ l2) → (Q none mem)) ∧ (¬ (553 ≤ l2) → ((0 ≤ l2 ∧ l2 < 553) ∧ (∀ m7 : Mem, m7 = upM mem kb l2 (mem ka l2) → (E_X11_copy G d 2 [(0, vR ka), (1, vR kb), (2, vI (l2 + 1))] [] m7 Q)))))) : E_X11_copy G d 2 [(0, vR ka), (1, vR kb), (2, vI l2)] [] mem Q := by
  refine x_iloadn (q := 3) 2 rfl rfl dX11_copy_2 rfl ?_
  refine x_sipush (q := 6) rfl dX11_copy_3 rfl ?_
  obtain ⟨s1, H⟩ := H
  obtain ⟨H1, H2⟩ := H
  refine x_icmp_ge (tgt := 21) (q := 9) dX11_copy_6 (by decide) rfl s1 (by decide) (fun hB => ?_) (fun hB => ?_)
  · have H := H1 (hB)
    exact x_vret rfl dX11_copy_21 H
  · have H := H2 (hB)
    refine x_aloadn (q := 10) 1 rfl rfl rfl dX11_copy_9 rfl ?_
    refine x_iloadn (q := 11) 2 rfl rfl dX11_copy_10 rfl ?_
    refine x_aloadn (q := 12) 0 rfl rfl rfl dX11_copy_11 rfl ?_
    refine x_iloadn (q := 13) 2 rfl rfl dX11_copy_12 rfl ?_
    obtain ⟨⟨s4, s5⟩, H⟩ := H
    refine x_iald (q := 14) dX11_copy_13 rfl (sh_N ha) s4 s5 (fun r6 => ?_)
    refine x_iast (q := 15) dX11_copy_14 rfl (sh_N hb) s4 s5 r6 (fun m7 em7 => ?_)
    have H := H m7 em7
    refine x_iinc (q := 18) (ls' := [(2, vI (l2 + 1)), (0, vR ka), (1, vR kb)]) 2 rfl (by decide) rfl dX11_copy_15 rfl ?_
    refine x_goto (tgt := 2) dX11_copy_18 (by decide) ?_
    refine x_sub [1, 2, 0] rfl ?_
    exact H
abbrev E_X11_isLet (G : GT) (d pc : Nat) (ls : List (Nat × AV)) (st : List AV) (mem : Mem) (Q : Option AV → Mem → Prop) : Prop := Ex G RX11 cX11_isLet 7 (some .boolean) d pc ls st mem Q
abbrev C_X11_isLet (G : GT) (d : Nat) (as : List AV) (mem : Mem) (Q : Option AV → Mem → Prop) : Prop := Ct G yX11_isLet cX11_isLet 7 (some .boolean) d as mem Q
set_option maxRecDepth 20000 in
set_option maxHeartbeats 4000000 in
theorem B_X11_isLet {G : GT} {d : Nat} {l1 : Int} {l2 : Int} {l3 : Int} {l4 : Int} {mem : Mem} {Q : Option AV → Mem → Prop} (hd : 1 ≤ d) (H : (0 ≤ 5 + 3 * l2 + 0 ∧ 5 + 3 * l2 + 0 < 553) ∧ (((iand (ishr l1 l2) 1 = 1) → ((mem 72 (5 + 3 * l2 + 0) = 1 → ((l4 = 0 ∨ l4 = 1) ∧ (Q (some (vI l4)) mem))) ∧ (mem 72 (5 + 3 * l2 + 0) = 2 → ((inr l4) ∧ (((l4 ≠ bz (iand (ishr l1 l3) 1 = 1)) → (Q (some (vI 0)) mem)) ∧ (¬ (l4 ≠ bz (iand (ishr l1 l3) 1 = 1)) → (Q (some (vI 1)) mem))))) ∧ (mem 72 (5 + 3 * l2 + 0) = 3 → (Q (some (vI 1)) mem)) ∧ (mem 72 (5 + 3 * l2 + 0) = 4 → ((inr l4) ∧ (((l4 ≠ 0) → (Q (some (vI 1)) mem)) ∧ (¬ (l4 ≠ 0) → (((iand (ishr l1 l3) 1 = 1) → (Q (some (vI 0)) mem)) ∧ (¬ (iand (ishr l1 l3) 1 = 1) → (Q (some (vI 1)) mem))))))) ∧ (mem 72 (5 + 3 * l2 + 0) = 5 → (Q (some (vI 0)) mem)) ∧ ((mem 72 (5 + 3 * l2 + 0) < 1 ∨ 5 < mem 72 (5 + 3 * l2 + 0)) → (Q (some (vI 1)) mem)))) ∧ (¬ (iand (ishr l1 l2) 1 = 1) → (((mem 72 (5 + 3 * l2 + 0) = 3) → ((inr l4) ∧ (((l4 ≠ 0) → (Q (some (vI 1)) mem)) ∧ (¬ (l4 ≠ 0) → ((¬ (iand (ishr l1 l3) 1 = 1) → (Q (some (vI 0)) mem)) ∧ ((iand (ishr l1 l3) 1 = 1) → (Q (some (vI 1)) mem))))))) ∧ (¬ (mem 72 (5 + 3 * l2 + 0) = 3) → (((mem 72 (5 + 3 * l2 + 0) ≠ 5) → ((inr l4) ∧ (((l4 = bz (iand (ishr l1 l3) 1 = 1)) → (Q (some (vI 0)) mem)) ∧ (¬ (l4 = bz (iand (ishr l1 l3) 1 = 1)) → (Q (some (vI 1)) mem))))) ∧ (¬ (mem 72 (5 + 3 * l2 + 0) ≠ 5) → ((inr l4) ∧ (((l4 ≠ 0) → (Q (some (vI 1)) mem)) ∧ (¬ (l4 ≠ 0) → ((¬ (iand (ishr l1 l3) 1 = 1) → (Q (some (vI 0)) mem)) ∧ ((iand (ishr l1 l3) 1 = 1) → (Q (some (vI 1)) mem))))))))))))) : C_X11_isLet G d [vR 71, vI l1, vI l2, vI l3, vI l4] mem Q := by
  refine Ct_of_Ex (by decide +kernel) (by exact Nat.le_of_ble_eq_true rfl) (ls := [(0, vR 71), (1, vI l1), (2, vI l2), (3, vI l3), (4, vI l4)]) rfl ?_
  show E_X11_isLet G d 0 [(0, vR 71), (1, vI l1), (2, vI l2), (3, vI l3), (4, vI l4)] [] mem Q
  refine x_iloadn (q := 1) 1 rfl rfl dX11_isLet_0 rfl ?_
  refine x_iloadn (q := 2) 3 rfl rfl dX11_isLet_1 rfl ?_
  refine x_callS (q := 5) (d := d - 1) (as := [vI l1, vI l3]) (st := []) dX11_isLet_2 rfl ms_X11_195 rfl rfl (by exact Nat.le_of_ble_eq_true rfl) ⟨by show _ ≤ d; omega, by show _ ≤ 40 * d; omega⟩ ⟨Nat.le_refl _, Nat.le_refl _⟩ (ct_hasb ?_)
  show E_X11_isLet G d 5 [(0, vR 71), (1, vI l1), (2, vI l2), (3, vI l3), (4, vI l4)] [vI (bz (iand (ishr l1 l3) 1 = 1))] mem Q
  refine x_istore (q := 7) (ls' := [(5, vI (bz (iand (ishr l1 l3) 1 = 1))), (0, vR 71), (1, vI l1), (2, vI l2), (3, vI l3), (4, vI l4)]) (by decide) rfl dX11_isLet_5 rfl ?_
  refine x_aloadn (q := 8) 1 rfl rfl rfl dX11_isLet_7 rfl ?_
  refine x_iloadn (q := 9) 3 rfl rfl dX11_isLet_8 rfl ?_
  refine x_iconst (q := 10) dX11_isLet_9 rfl ?_
  obtain ⟨⟨s1, s2⟩, H⟩ := H
  refine x_callV (q := 13) (d := d - 1) (as := [vI l2, vI 0]) (st := []) dX11_isLet_10 rfl mv_X11_105 sh_71 rfl rfl rfl (by exact Nat.le_of_ble_eq_true rfl) ⟨by show _ ≤ d; omega, by show _ ≤ 40 * d; omega⟩ ⟨Nat.le_refl _, Nat.le_refl _⟩ (ct_machine11 s1 s2 ?_)
  show E_X11_isLet G d 13 [(5, vI (bz (iand (ishr l1 l3) 1 = 1))), (0, vR 71), (1, vI l1), (2, vI l2), (3, vI l3), (4, vI l4)] [vI (mem 72 (5 + 3 * l2 + 0))] mem Q
  refine x_istore (q := 15) (ls' := [(6, vI (mem 72 (5 + 3 * l2 + 0))), (5, vI (bz (iand (ishr l1 l3) 1 = 1))), (0, vR 71), (1, vI l1), (2, vI l2), (3, vI l3), (4, vI l4)]) (by decide) rfl dX11_isLet_13 rfl ?_
  refine x_iloadn (q := 16) 3 rfl rfl dX11_isLet_15 rfl ?_
  refine x_iloadn (q := 17) 4 rfl rfl dX11_isLet_16 rfl ?_
  refine x_callS (q := 20) (d := d - 1) (as := [vI l1, vI l2]) (st := []) dX11_isLet_17 rfl ms_X11_195 rfl rfl (by exact Nat.le_of_ble_eq_true rfl) ⟨by show _ ≤ d; omega, by show _ ≤ 40 * d; omega⟩ ⟨Nat.le_refl _, Nat.le_refl _⟩ (ct_hasb ?_)
  show E_X11_isLet G d 20 [(6, vI (mem 72 (5 + 3 * l2 + 0))), (5, vI (bz (iand (ishr l1 l3) 1 = 1))), (0, vR 71), (1, vI l1), (2, vI l2), (3, vI l3), (4, vI l4)] [vI (bz (iand (ishr l1 l2) 1 = 1))] mem Q
  obtain ⟨H1, H2⟩ := H
  refine x_if_ne (tgt := 66) (q := 23) dX11_isLet_20 (by decide) rfl (bz_inr _) (fun hB => ?_) (fun hB => ?_)
  · have H := H1 (bz_n0.mp hB)
    refine x_iload (q := 68) 0 rfl dX11_isLet_66 rfl ?_
    refine x_ok (fun hm5 => ?_)
    obtain ⟨H0, H1, H2, H3, H4, H5⟩ := H
    rcases (show mem 72 (5 + 3 * l2 + 0) = 1 ∨ mem 72 (5 + 3 * l2 + 0) = 2 ∨ mem 72 (5 + 3 * l2 + 0) = 3 ∨ mem 72 (5 + 3 * l2 + 0) = 4 ∨ mem 72 (5 + 3 * l2 + 0) = 5 ∨ (mem 72 (5 + 3 * l2 + 0) < 1 ∨ 5 < mem 72 (5 + 3 * l2 + 0)) by omega) with hB | hB | hB | hB | hB | hB
    · have H := H0 hB
      refine x_tswIn (z := 1) (tgt := 104) dX11_isLet_68 hB (by decide) (by decide) (by decide) rfl (by decide) ?_
      refine x_iload (q := 106) 6 rfl dX11_isLet_104 rfl ?_
      obtain ⟨s6, H⟩ := H
      exact x_zret rfl dX11_isLet_106 s6 H
    · have H := H1 hB
      refine x_tswIn (z := 2) (tgt := 107) dX11_isLet_68 hB (by decide) (by decide) (by decide) rfl (by decide) ?_
      refine x_iload (q := 109) 6 rfl dX11_isLet_107 rfl ?_
      refine x_iload (q := 111) 1 rfl dX11_isLet_109 rfl ?_
      obtain ⟨s7, H⟩ := H
      obtain ⟨H1, H2⟩ := H
      refine x_icmp_ne (tgt := 118) (q := 114) dX11_isLet_111 (by decide) rfl s7 (bz_inr _) (fun hB => ?_) (fun hB => ?_)
      · have H := H1 (hB)
        refine x_iconst (q := 119) dX11_isLet_118 rfl ?_
        exact x_zret rfl dX11_isLet_119 (by decide) H
      · have H := H2 (hB)
        refine x_iconst (q := 115) dX11_isLet_114 rfl ?_
        refine x_goto (tgt := 119) dX11_isLet_115 (by decide) ?_
        exact x_zret rfl dX11_isLet_119 (by decide) H
    · have H := H2 hB
      refine x_tswIn (z := 3) (tgt := 138) dX11_isLet_68 hB (by decide) (by decide) (by decide) rfl (by decide) ?_
      refine x_iconst (q := 139) dX11_isLet_138 rfl ?_
      exact x_zret rfl dX11_isLet_139 (by decide) H
    · have H := H3 hB
      refine x_tswIn (z := 4) (tgt := 120) dX11_isLet_68 hB (by decide) (by decide) (by decide) rfl (by decide) ?_
      refine x_iload (q := 122) 6 rfl dX11_isLet_120 rfl ?_
      obtain ⟨s10, H⟩ := H
      obtain ⟨H1, H2⟩ := H
      refine x_if_ne (tgt := 130) (q := 125) dX11_isLet_122 (by decide) rfl s10 (fun hB => ?_) (fun hB => ?_)
      · have H := H1 (hB)
        refine x_iconst (q := 131) dX11_isLet_130 rfl ?_
        refine x_goto (tgt := 135) dX11_isLet_131 (by decide) ?_
        exact x_zret rfl dX11_isLet_135 (by decide) H
      · have H := H2 (hB)
        refine x_iload (q := 127) 1 rfl dX11_isLet_125 rfl ?_
        obtain ⟨H1, H2⟩ := H
        refine x_if_ne (tgt := 134) (q := 130) dX11_isLet_127 (by decide) rfl (bz_inr _) (fun hB => ?_) (fun hB => ?_)
        · have H := H1 (bz_n0.mp hB)
          refine x_iconst (q := 135) dX11_isLet_134 rfl ?_
          exact x_zret rfl dX11_isLet_135 (by decide) H
        · have H := H2 (fun z => hB (bz_n0.mpr z))
          refine x_iconst (q := 131) dX11_isLet_130 rfl ?_
          refine x_goto (tgt := 135) dX11_isLet_131 (by decide) ?_
          exact x_zret rfl dX11_isLet_135 (by decide) H
    · have H := H4 hB
      refine x_tswIn (z := 5) (tgt := 136) dX11_isLet_68 hB (by decide) (by decide) (by decide) rfl (by decide) ?_
      refine x_iconst (q := 137) dX11_isLet_136 rfl ?_
      exact x_zret rfl dX11_isLet_137 (by decide) H
    · have H := H5 hB
      refine x_tswOut (tgt := 138) dX11_isLet_68 (ok_ai hm5 sh_72 (by decide) _) hB (by decide) ?_
      refine x_iconst (q := 139) dX11_isLet_138 rfl ?_
      exact x_zret rfl dX11_isLet_139 (by decide) H
  · have H := H2 (fun z => hB (bz_n0.mpr z))
    refine x_iload (q := 25) 0 rfl dX11_isLet_23 rfl ?_
    refine x_iconst (q := 26) dX11_isLet_25 rfl ?_
    refine x_ok (fun hm15 => ?_)
    obtain ⟨H1, H2⟩ := H
    refine x_icmp_eq (tgt := 35) (q := 29) dX11_isLet_26 (by decide) rfl (ok_ai hm15 sh_72 (by decide) _) (by decide) (fun hB => ?_) (fun hB => ?_)
    · have H := H1 (hB)
      refine x_iload (q := 37) 6 rfl dX11_isLet_35 rfl ?_
      obtain ⟨s18, H⟩ := H
      obtain ⟨H1, H2⟩ := H
      refine x_if_ne (tgt := 45) (q := 40) dX11_isLet_37 (by decide) rfl s18 (fun hB => ?_) (fun hB => ?_)
      · have H := H1 (hB)
        refine x_iconst (q := 46) dX11_isLet_45 rfl ?_
        refine x_goto (tgt := 65) dX11_isLet_46 (by decide) ?_
        exact x_zret rfl dX11_isLet_65 (by decide) H
      · have H := H2 (hB)
        refine x_iload (q := 42) 1 rfl dX11_isLet_40 rfl ?_
        obtain ⟨H1, H2⟩ := H
        refine x_if_eq (tgt := 49) (q := 45) dX11_isLet_42 (by decide) rfl (bz_inr _) (fun hB => ?_) (fun hB => ?_)
        · have H := H1 (bz_0.mp hB)
          refine x_iconst (q := 50) dX11_isLet_49 rfl ?_
          refine x_goto (tgt := 65) dX11_isLet_50 (by decide) ?_
          exact x_zret rfl dX11_isLet_65 (by decide) H
        · have H := H2 (Classical.byContradiction (fun z => hB (bz_0.mpr z)))
          refine x_iconst (q := 46) dX11_isLet_45 rfl ?_
          refine x_goto (tgt := 65) dX11_isLet_46 (by decide) ?_
          exact x_zret rfl dX11_isLet_65 (by decide) H
    · have H := H2 (hB)
      refine x_iload (q := 31) 0 rfl dX11_isLet_29 rfl ?_
      refine x_iconst (q := 32) dX11_isLet_31 rfl ?_
      obtain ⟨H1, H2⟩ := H
      refine x_icmp_ne (tgt := 53) (q := 35) dX11_isLet_32 (by decide) rfl (ok_ai hm15 sh_72 (by decide) _) (by decide) (fun hB => ?_) (fun hB => ?_)
      · have H := H1 (hB)
        refine x_iload (q := 55) 6 rfl dX11_isLet_53 rfl ?_
        refine x_iload (q := 57) 1 rfl dX11_isLet_55 rfl ?_
        obtain ⟨s25, H⟩ := H
        obtain ⟨H1, H2⟩ := H
        refine x_icmp_eq (tgt := 64) (q := 60) dX11_isLet_57 (by decide) rfl s25 (bz_inr _) (fun hB => ?_) (fun hB => ?_)
        · have H := H1 (hB)
          refine x_iconst (q := 65) dX11_isLet_64 rfl ?_
          exact x_zret rfl dX11_isLet_65 (by decide) H
        · have H := H2 (hB)
          refine x_iconst (q := 61) dX11_isLet_60 rfl ?_
          refine x_goto (tgt := 65) dX11_isLet_61 (by decide) ?_
          exact x_zret rfl dX11_isLet_65 (by decide) H
      · have H := H2 (hB)
        refine x_iload (q := 37) 6 rfl dX11_isLet_35 rfl ?_
        obtain ⟨s28, H⟩ := H
        obtain ⟨H1, H2⟩ := H
        refine x_if_ne (tgt := 45) (q := 40) dX11_isLet_37 (by decide) rfl s28 (fun hB => ?_) (fun hB => ?_)
        · have H := H1 (hB)
          refine x_iconst (q := 46) dX11_isLet_45 rfl ?_
          refine x_goto (tgt := 65) dX11_isLet_46 (by decide) ?_
          exact x_zret rfl dX11_isLet_65 (by decide) H
        · have H := H2 (hB)
          refine x_iload (q := 42) 1 rfl dX11_isLet_40 rfl ?_
          obtain ⟨H1, H2⟩ := H
          refine x_if_eq (tgt := 49) (q := 45) dX11_isLet_42 (by decide) rfl (bz_inr _) (fun hB => ?_) (fun hB => ?_)
          · have H := H1 (bz_0.mp hB)
            refine x_iconst (q := 50) dX11_isLet_49 rfl ?_
            refine x_goto (tgt := 65) dX11_isLet_50 (by decide) ?_
            exact x_zret rfl dX11_isLet_65 (by decide) H
          · have H := H2 (Classical.byContradiction (fun z => hB (bz_0.mpr z)))
            refine x_iconst (q := 46) dX11_isLet_45 rfl ?_
            refine x_goto (tgt := 65) dX11_isLet_46 (by decide) ?_
            exact x_zret rfl dX11_isLet_65 (by decide) H
abbrev E_X11_tieMany (G : GT) (d pc : Nat) (ls : List (Nat × AV)) (st : List AV) (mem : Mem) (Q : Option AV → Mem → Prop) : Prop := Ex G RX11 cX11_tieMany 3 (some .int) d pc ls st mem Q
abbrev C_X11_tieMany (G : GT) (d : Nat) (as : List AV) (mem : Mem) (Q : Option AV → Mem → Prop) : Prop := Ct G yX11_tieMany cX11_tieMany 3 (some .int) d as mem Q
set_option maxRecDepth 20000 in
set_option maxHeartbeats 4000000 in
theorem B_X11_tieMany {G : GT} {d : Nat}  {mem : Mem} {Q : Option AV → Mem → Prop} (H : E_X11_tieMany G d 4 [(0, vR 71), (1, vI 0), (2, vI 0)] [] mem Q) : C_X11_tieMany G d [vR 71] mem Q := by
  refine Ct_of_Ex (by decide +kernel) (by exact Nat.le_of_ble_eq_true rfl) (ls := [(0, vR 71)]) rfl ?_
  show E_X11_tieMany G d 0 [(0, vR 71)] [] mem Q
  refine x_iconst (q := 1) dX11_tieMany_0 rfl ?_
  refine x_istoren (q := 2) (ls' := [(1, vI 0), (0, vR 71)]) rfl (by decide) rfl dX11_tieMany_1 rfl ?_
  refine x_iconst (q := 3) dX11_tieMany_2 rfl ?_
  refine x_istoren (q := 4) (ls' := [(2, vI 0), (1, vI 0), (0, vR 71)]) rfl (by decide) rfl dX11_tieMany_3 rfl ?_
  refine x_sub [2, 1, 0] rfl ?_
  exact H
set_option maxRecDepth 20000 in
set_option maxHeartbeats 4000000 in
theorem B_X11_tieMany_4 {G : GT} {d : Nat} {l1 : Int} {l2 : Int} {mem : Mem} {Q : Option AV → Mem → Prop} (H : (inr l2) ∧ (((144 ≤ l2) → (Q (some (vI l1)) mem)) ∧ (¬ (144 ≤ l2) → ((0 ≤ 41 + l2 ∧ 41 + l2 < 553) ∧ (((mem 72 (41 + l2) ≤ 0) → (E_X11_tieMany G d 4 [(0, vR 71), (1, vI (l1 + 0)), (2, vI (l2 + 1))] [] mem Q)) ∧ (¬ (mem 72 (41 + l2) ≤ 0) → (E_X11_tieMany G d 4 [(0, vR 71), (1, vI (l1 + 1)), (2, vI (l2 + 1))] [] mem Q))))))) : E_X11_tieMany G d 4 [(0, vR 71), (1, vI l1), (2, vI l2)] [] mem Q := by
  refine x_iloadn (q := 5) 2 rfl rfl dX11_tieMany_4 rfl ?_
  refine x_sipush (q := 8) rfl dX11_tieMany_5 rfl ?_
  obtain ⟨s1, H⟩ := H
  obtain ⟨H1, H2⟩ := H
  refine x_icmp_ge (tgt := 37) (q := 11) dX11_tieMany_8 (by decide) rfl s1 (by decide) (fun hB => ?_) (fun hB => ?_)
  · have H := H1 (hB)
    refine x_iloadn (q := 38) 1 rfl rfl dX11_tieMany_37 rfl ?_
    exact x_iret rfl dX11_tieMany_38 H
  · have H := H2 (hB)
    refine x_iloadn (q := 12) 1 rfl rfl dX11_tieMany_11 rfl ?_
    refine x_aloadn (q := 13) 0 rfl rfl rfl dX11_tieMany_12 rfl ?_
    refine x_getr (q := 16) dX11_tieMany_13 rfl fa_X11_9 sh_71 rfl ?_
    refine x_bipush (q := 18) rfl dX11_tieMany_16 rfl ?_
    refine x_iloadn (q := 19) 2 rfl rfl dX11_tieMany_18 rfl ?_
    refine x_iadd (q := 20) dX11_tieMany_19 rfl ?_
    obtain ⟨⟨s4, s5⟩, H⟩ := H
    refine x_iald (q := 21) dX11_tieMany_20 rfl sh_72 s4 s5 (fun r6 => ?_)
    obtain ⟨H1, H2⟩ := H
    refine x_if_le (tgt := 28) (q := 24) dX11_tieMany_21 (by decide) rfl r6 (fun hB => ?_) (fun hB => ?_)
    · have H := H1 (hB)
      refine x_iconst (q := 29) dX11_tieMany_28 rfl ?_
      refine x_iadd (q := 30) dX11_tieMany_29 rfl ?_
      refine x_istoren (q := 31) (ls' := [(1, vI (l1 + 0)), (0, vR 71), (2, vI l2)]) rfl (by decide) rfl dX11_tieMany_30 rfl ?_
      refine x_iinc (q := 34) (ls' := [(2, vI (l2 + 1)), (1, vI (l1 + 0)), (0, vR 71)]) 2 rfl (by decide) rfl dX11_tieMany_31 rfl ?_
      refine x_goto (tgt := 4) dX11_tieMany_34 (by decide) ?_
      refine x_sub [2, 1, 0] rfl ?_
      exact H
    · have H := H2 (hB)
      refine x_iconst (q := 25) dX11_tieMany_24 rfl ?_
      refine x_goto (tgt := 29) dX11_tieMany_25 (by decide) ?_
      refine x_iadd (q := 30) dX11_tieMany_29 rfl ?_
      refine x_istoren (q := 31) (ls' := [(1, vI (l1 + 1)), (0, vR 71), (2, vI l2)]) rfl (by decide) rfl dX11_tieMany_30 rfl ?_
      refine x_iinc (q := 34) (ls' := [(2, vI (l2 + 1)), (1, vI (l1 + 1)), (0, vR 71)]) 2 rfl (by decide) rfl dX11_tieMany_31 rfl ?_
      refine x_goto (tgt := 4) dX11_tieMany_34 (by decide) ?_
      refine x_sub [2, 1, 0] rfl ?_
      exact H
abbrev E_X11_isByte (G : GT) (d pc : Nat) (ls : List (Nat × AV)) (st : List AV) (mem : Mem) (Q : Option AV → Mem → Prop) : Prop := Ex G RX11 cX11_isByte 4 (some .boolean) d pc ls st mem Q
abbrev C_X11_isByte (G : GT) (d : Nat) (as : List AV) (mem : Mem) (Q : Option AV → Mem → Prop) : Prop := Ct G yX11_isByte cX11_isByte 4 (some .boolean) d as mem Q
set_option maxRecDepth 20000 in
set_option maxHeartbeats 4000000 in
theorem B_X11_isByte {G : GT} {d : Nat} {l1 : Int} {l2 : Int} {l3 : Int} {mem : Mem} {Q : Option AV → Mem → Prop} (hd : 1 ≤ d) (H : (inr l1) ∧ (((mem 72 3 ≤ l1) → (Q (some (vI 0)) mem)) ∧ (¬ (mem 72 3 ≤ l1) → ((0 ≤ 425 + l1 ∧ 425 + l1 < 553) ∧ ((inr l2 ∧ inr l3) ∧ ((¬ (l2 ≤ mem 72 (425 + l1) ∧ mem 72 (425 + l1) ≤ l3) → (Q (some (vI 0)) mem)) ∧ ((l2 ≤ mem 72 (425 + l1) ∧ mem 72 (425 + l1) ≤ l3) → (Q (some (vI 1)) mem)))))))) : C_X11_isByte G d [vR 71, vI l1, vI l2, vI l3] mem Q := by
  refine Ct_of_Ex (by decide +kernel) (by exact Nat.le_of_ble_eq_true rfl) (ls := [(0, vR 71), (1, vI l1), (2, vI l2), (3, vI l3)]) rfl ?_
  show E_X11_isByte G d 0 [(0, vR 71), (1, vI l1), (2, vI l2), (3, vI l3)] [] mem Q
  refine x_iloadn (q := 1) 1 rfl rfl dX11_isByte_0 rfl ?_
  refine x_aloadn (q := 2) 0 rfl rfl rfl dX11_isByte_1 rfl ?_
  refine x_getr (q := 5) dX11_isByte_2 rfl fa_X11_9 sh_71 rfl ?_
  refine x_iconst (q := 6) dX11_isByte_5 rfl ?_
  refine x_iald (q := 7) dX11_isByte_6 rfl sh_72 (by decide) (by decide) (fun r1 => ?_)
  obtain ⟨s2, H⟩ := H
  obtain ⟨H1, H2⟩ := H
  refine x_icmp_ge (tgt := 32) (q := 10) dX11_isByte_7 (by decide) rfl s2 r1 (fun hB => ?_) (fun hB => ?_)
  · have H := H1 (hB)
    refine x_iconst (q := 33) dX11_isByte_32 rfl ?_
    exact x_zret rfl dX11_isByte_33 (by decide) H
  · have H := H2 (hB)
    refine x_aloadn (q := 11) 0 rfl rfl rfl dX11_isByte_10 rfl ?_
    refine x_getr (q := 14) dX11_isByte_11 rfl fa_X11_9 sh_71 rfl ?_
    refine x_sipush (q := 17) rfl dX11_isByte_14 rfl ?_
    refine x_iloadn (q := 18) 1 rfl rfl dX11_isByte_17 rfl ?_
    refine x_iadd (q := 19) dX11_isByte_18 rfl ?_
    obtain ⟨⟨s5, s6⟩, H⟩ := H
    refine x_iald (q := 20) dX11_isByte_19 rfl sh_72 s5 s6 (fun r7 => ?_)
    refine x_iloadn (q := 21) 2 rfl rfl dX11_isByte_20 rfl ?_
    refine x_iloadn (q := 22) 3 rfl rfl dX11_isByte_21 rfl ?_
    obtain ⟨⟨s8, s9⟩, H⟩ := H
    refine x_callS (q := 25) (d := d - 1) (as := [vI (mem 72 (425 + l1)), vI l2, vI l3]) (st := []) dX11_isByte_22 rfl ms_X11_83 rfl rfl (by exact Nat.le_of_ble_eq_true rfl) ⟨by show _ ≤ d; omega, by show _ ≤ 40 * d; omega⟩ ⟨Nat.le_refl _, Nat.le_refl _⟩ (ct_within r7 s8 s9 ?_)
    show E_X11_isByte G d 25 [(0, vR 71), (1, vI l1), (2, vI l2), (3, vI l3)] [vI (bz (l2 ≤ mem 72 (425 + l1) ∧ mem 72 (425 + l1) ≤ l3))] mem Q
    obtain ⟨H1, H2⟩ := H
    refine x_if_eq (tgt := 32) (q := 28) dX11_isByte_25 (by decide) rfl (bz_inr _) (fun hB => ?_) (fun hB => ?_)
    · have H := H1 (bz_0.mp hB)
      refine x_iconst (q := 33) dX11_isByte_32 rfl ?_
      exact x_zret rfl dX11_isByte_33 (by decide) H
    · have H := H2 (Classical.byContradiction (fun z => hB (bz_0.mpr z)))
      refine x_iconst (q := 29) dX11_isByte_28 rfl ?_
      refine x_goto (tgt := 33) dX11_isByte_29 (by decide) ?_
      exact x_zret rfl dX11_isByte_33 (by decide) H
abbrev E_X11_began (G : GT) (d pc : Nat) (ls : List (Nat × AV)) (st : List AV) (mem : Mem) (Q : Option AV → Mem → Prop) : Prop := Ex G RX11 cX11_began 2 none d pc ls st mem Q
abbrev C_X11_began (G : GT) (d : Nat) (as : List AV) (mem : Mem) (Q : Option AV → Mem → Prop) : Prop := Ct G yX11_began cX11_began 2 none d as mem Q
set_option maxRecDepth 20000 in
set_option maxHeartbeats 4000000 in
theorem B_X11_began {G : GT} {d : Nat} {l1 : Int} {mem : Mem} {Q : Option AV → Mem → Prop} (H : ((30 ≤ mem 71 21) → (Q none mem)) ∧ (¬ (30 ≤ mem 71 21) → ((0 ≤ mem 71 21 ∧ mem 71 21 < 30) ∧ ((inr l1) ∧ (∀ m7 : Mem, m7 = upM mem 86 (mem 71 21) l1 → ((inr ((m7 71 21) + 1)) ∧ (∀ m10 : Mem, m10 = upM m7 71 21 ((m7 71 21) + 1) → (Q none m10)))))))) : C_X11_began G d [vR 71, vI l1] mem Q := by
  refine Ct_of_Ex (by decide +kernel) (by exact Nat.le_of_ble_eq_true rfl) (ls := [(0, vR 71), (1, vI l1)]) rfl ?_
  show E_X11_began G d 0 [(0, vR 71), (1, vI l1)] [] mem Q
  refine x_aloadn (q := 1) 0 rfl rfl rfl dX11_began_0 rfl ?_
  refine x_geti (q := 4) (ji := 21) dX11_began_1 rfl fa_X11_271 sh_71 rfl rfl (fun r1 => ?_)
  refine x_bipush (q := 6) rfl dX11_began_4 rfl ?_
  obtain ⟨H1, H2⟩ := H
  refine x_icmp_ge (tgt := 29) (q := 9) dX11_began_6 (by decide) rfl r1 (by decide) (fun hB => ?_) (fun hB => ?_)
  · have H := H1 (hB)
    exact x_vret rfl dX11_began_29 H
  · have H := H2 (hB)
    refine x_aloadn (q := 10) 0 rfl rfl rfl dX11_began_9 rfl ?_
    refine x_getr (q := 13) dX11_began_10 rfl fa_X11_67 sh_71 rfl ?_
    refine x_aloadn (q := 14) 0 rfl rfl rfl dX11_began_13 rfl ?_
    refine x_geti (q := 17) (ji := 21) dX11_began_14 rfl fa_X11_271 sh_71 rfl rfl (fun r4 => ?_)
    refine x_iloadn (q := 18) 1 rfl rfl dX11_began_17 rfl ?_
    obtain ⟨⟨s5, s6⟩, H⟩ := H
    obtain ⟨s8, H⟩ := H
    refine x_iast (q := 19) dX11_began_18 rfl sh_86 s5 s6 s8 (fun m7 em7 => ?_)
    have H := H m7 em7
    refine x_aloadn (q := 20) 0 rfl rfl rfl dX11_began_19 rfl ?_
    refine x_dup (q := 21) (by exact Nat.ne_of_beq_eq_false rfl) dX11_began_20 rfl ?_
    refine x_geti (q := 24) (ji := 21) dX11_began_21 rfl fa_X11_271 sh_71 rfl rfl (fun r9 => ?_)
    refine x_iconst (q := 25) dX11_began_24 rfl ?_
    refine x_iadd (q := 26) dX11_began_25 rfl ?_
    obtain ⟨s11, H⟩ := H
    refine x_puti (q := 29) (ji := 21) dX11_began_26 rfl fp_X11_271 sh_71 rfl rfl s11 (fun m10 em10 => ?_)
    have H := H m10 em10
    exact x_vret rfl dX11_began_29 H
abbrev E_X10_objectionToSheet (G : GT) (d pc : Nat) (ls : List (Nat × AV)) (st : List AV) (mem : Mem) (Q : Option AV → Mem → Prop) : Prop := Ex G RX10 cX10_objectionToSheet 2 (some .int) d pc ls st mem Q
abbrev C_X10_objectionToSheet (G : GT) (d : Nat) (as : List AV) (mem : Mem) (Q : Option AV → Mem → Prop) : Prop := Ct G yX10_objectionToSheet cX10_objectionToSheet 2 (some .int) d as mem Q
set_option maxRecDepth 20000 in
set_option maxHeartbeats 4000000 in
theorem B_X10_objectionToSheet {G : GT} {d : Nat} {l1 : Int} {mem : Mem} {Q : Option AV → Mem → Prop} (hd : 1 ≤ d) (H : (inr l1) ∧ ((¬ (l1 < 0 ∨ 3 < l1) → ((0 ≤ l1 ∧ l1 < 4) ∧ ((¬ (mem (63 + 2 * (l1).toNat) 1 = 0) → (Q (some (vI 0)) mem)) ∧ ((mem (63 + 2 * (l1).toNat) 1 = 0) → (Q (some (vI (-1000002))) mem))))) ∧ ((l1 < 0 ∨ 3 < l1) → (Q (some (vI (-1000001))) mem)))) : C_X10_objectionToSheet G d [vR 0, vI l1] mem Q := by
  refine Ct_of_Ex (by decide +kernel) (by exact Nat.le_of_ble_eq_true rfl) (ls := [(0, vR 0), (1, vI l1)]) rfl ?_
  show E_X10_objectionToSheet G d 0 [(0, vR 0), (1, vI l1)] [] mem Q
  refine x_iloadn (q := 1) 1 rfl rfl dX10_objectionToSheet_0 rfl ?_
  refine x_iconst (q := 2) dX10_objectionToSheet_1 rfl ?_
  refine x_iconst (q := 3) dX10_objectionToSheet_2 rfl ?_
  obtain ⟨s1, H⟩ := H
  refine x_callS (q := 6) (d := d - 1) (as := [vI l1, vI 0, vI 3]) (st := []) dX10_objectionToSheet_3 rfl ms_X10_79 rfl rfl (by exact Nat.le_of_ble_eq_true rfl) ⟨by show _ ≤ d; omega, by show _ ≤ 40 * d; omega⟩ ⟨Nat.le_refl _, Nat.le_refl _⟩ (ct_outside s1 (by decide) (by decide) ?_)
  show E_X10_objectionToSheet G d 6 [(0, vR 0), (1, vI l1)] [vI (bz (l1 < 0 ∨ 3 < l1))] mem Q
  obtain ⟨H1, H2⟩ := H
  refine x_if_eq (tgt := 12) (q := 9) dX10_objectionToSheet_6 (by decide) rfl (bz_inr _) (fun hB => ?_) (fun hB => ?_)
  · have H := H1 (bz_0.mp hB)
    refine x_aloadn (q := 13) 0 rfl rfl rfl dX10_objectionToSheet_12 rfl ?_
    refine x_getr (q := 16) dX10_objectionToSheet_13 rfl fa_X10_70 sh_0 rfl ?_
    refine x_iloadn (q := 17) 1 rfl rfl dX10_objectionToSheet_16 rfl ?_
    obtain ⟨⟨s4, s5⟩, H⟩ := H
    refine x_aldS (q := 18) dX10_objectionToSheet_17 rfl sh_61 s4 s5 ?_
    refine x_callV (q := 21) (d := d - 1) (as := []) (st := []) dX10_objectionToSheet_18 rfl mv_X10_312 (sh_S0 (isSh_at s4 s5)) rfl rfl rfl (by exact Nat.le_of_ble_eq_true rfl) ⟨by show _ ≤ d; omega, by show _ ≤ 40 * d; omega⟩ ⟨Nat.le_refl _, Nat.le_refl _⟩ (ct_isMissing (isSh_at s4 s5) ?_)
    show E_X10_objectionToSheet G d 21 [(0, vR 0), (1, vI l1)] [vI (bz (mem (63 + 2 * (l1).toNat) 1 = 0))] mem Q
    obtain ⟨H1, H2⟩ := H
    refine x_if_eq (tgt := 29) (q := 24) dX10_objectionToSheet_21 (by decide) rfl (bz_inr _) (fun hB => ?_) (fun hB => ?_)
    · have H := H1 (bz_0.mp hB)
      refine x_iconst (q := 30) dX10_objectionToSheet_29 rfl ?_
      exact x_iret rfl dX10_objectionToSheet_30 H
    · have H := H2 (Classical.byContradiction (fun z => hB (bz_0.mpr z)))
      refine x_ldc (q := 26) (z := (-1000002)) cn_X10_201 (by decide) dX10_objectionToSheet_24 rfl ?_
      refine x_goto (tgt := 30) dX10_objectionToSheet_26 (by decide) ?_
      exact x_iret rfl dX10_objectionToSheet_30 H
  · have H := H2 (Classical.byContradiction (fun z => hB (bz_0.mpr z)))
    refine x_ldc (q := 11) (z := (-1000001)) cn_X10_83 (by decide) dX10_objectionToSheet_9 rfl ?_
    exact x_iret rfl dX10_objectionToSheet_11 H
abbrev E_X6_lay (G : GT) (d pc : Nat) (ls : List (Nat × AV)) (st : List AV) (mem : Mem) (Q : Option AV → Mem → Prop) : Prop := Ex G RX6 cX6_lay 4 none d pc ls st mem Q
abbrev C_X6_lay (G : GT) (d : Nat) (as : List AV) (mem : Mem) (Q : Option AV → Mem → Prop) : Prop := Ct G yX6_lay cX6_lay 4 none d as mem Q
set_option maxRecDepth 20000 in
set_option maxHeartbeats 4000000 in
theorem B_X6_lay {G : GT} {d : Nat} {k : Nat} (hk : isSh k) {l1 : Int} {l2 : Int} {mem : Mem} {Q : Option AV → Mem → Prop} (H : (inr l1) ∧ (∀ m1 : Mem, m1 = upM mem k 1 l1 → ((inr l2) ∧ (∀ m3 : Mem, m3 = upM m1 k 2 l2 → (E_X6_lay G d 12 [(0, vR k), (3, vI 0)] [] m3 Q))))) : C_X6_lay G d [vR k, vI l1, vI l2] mem Q := by
  refine Ct_of_Ex (by decide +kernel) (by exact Nat.le_of_ble_eq_true rfl) (ls := [(0, vR k), (1, vI l1), (2, vI l2)]) rfl ?_
  show E_X6_lay G d 0 [(0, vR k), (1, vI l1), (2, vI l2)] [] mem Q
  refine x_aloadn (q := 1) 0 rfl rfl rfl dX6_lay_0 rfl ?_
  refine x_iloadn (q := 2) 1 rfl rfl dX6_lay_1 rfl ?_
  obtain ⟨s2, H⟩ := H
  refine x_puti (q := 5) (ji := 1) dX6_lay_2 rfl fp_X6_15 (sh_S0 hk) rfl rfl s2 (fun m1 em1 => ?_)
  have H := H m1 em1
  refine x_aloadn (q := 6) 0 rfl rfl rfl dX6_lay_5 rfl ?_
  refine x_iloadn (q := 7) 2 rfl rfl dX6_lay_6 rfl ?_
  obtain ⟨s4, H⟩ := H
  refine x_puti (q := 10) (ji := 2) dX6_lay_7 rfl fp_X6_19 (sh_S0 hk) rfl rfl s4 (fun m3 em3 => ?_)
  have H := H m3 em3
  refine x_iconst (q := 11) dX6_lay_10 rfl ?_
  refine x_istoren (q := 12) (ls' := [(3, vI 0), (0, vR k), (1, vI l1), (2, vI l2)]) rfl (by decide) rfl dX6_lay_11 rfl ?_
  refine x_sub [1, 0] rfl ?_
  exact H
set_option maxRecDepth 20000 in
set_option maxHeartbeats 4000000 in
theorem B_X6_lay_12 {G : GT} {d : Nat} {k : Nat} (hk : isSh k) {l3 : Int} {mem : Mem} {Q : Option AV → Mem → Prop} (H : (inr l3) ∧ (((24 ≤ l3) → (Q none mem)) ∧ (¬ (24 ≤ l3) → ((0 ≤ l3 ∧ l3 < 24) ∧ (∀ m10 : Mem, m10 = upM mem (k + 1) l3 0 → (E_X6_lay G d 12 [(0, vR k), (3, vI (l3 + 1))] [] m10 Q)))))) : E_X6_lay G d 12 [(0, vR k), (3, vI l3)] [] mem Q := by
  refine x_iloadn (q := 13) 1 rfl rfl dX6_lay_12 rfl ?_
  refine x_aloadn (q := 14) 0 rfl rfl rfl dX6_lay_13 rfl ?_
  refine x_getr (q := 17) dX6_lay_14 rfl fa_X6_9 (sh_S0 hk) rfl ?_
  refine x_alen (q := 18) (t := 24) dX6_lay_17 rfl (sh_S1 hk) (by decide) rfl ?_
  obtain ⟨s5, H⟩ := H
  obtain ⟨H1, H2⟩ := H
  refine x_icmp_ge (tgt := 34) (q := 21) dX6_lay_18 (by decide) rfl s5 (by decide) (fun hB => ?_) (fun hB => ?_)
  · have H := H1 (hB)
    exact x_vret rfl dX6_lay_34 H
  · have H := H2 (hB)
    refine x_aloadn (q := 22) 0 rfl rfl rfl dX6_lay_21 rfl ?_
    refine x_getr (q := 25) dX6_lay_22 rfl fa_X6_9 (sh_S0 hk) rfl ?_
    refine x_iloadn (q := 26) 1 rfl rfl dX6_lay_25 rfl ?_
    refine x_iconst (q := 27) dX6_lay_26 rfl ?_
    obtain ⟨⟨s8, s9⟩, H⟩ := H
    refine x_iast (q := 28) dX6_lay_27 rfl (sh_S1 hk) s8 s9 (by decide) (fun m10 em10 => ?_)
    have H := H m10 em10
    refine x_iinc (q := 31) (ls' := [(3, vI (l3 + 1)), (0, vR k)]) 1 rfl (by decide) rfl dX6_lay_28 rfl ?_
    refine x_goto (tgt := 12) dX6_lay_31 (by decide) ?_
    refine x_sub [1, 0] rfl ?_
    exact H
abbrev E_X6_write (G : GT) (d pc : Nat) (ls : List (Nat × AV)) (st : List AV) (mem : Mem) (Q : Option AV → Mem → Prop) : Prop := Ex G RX6 cX6_write 3 none d pc ls st mem Q
abbrev C_X6_write (G : GT) (d : Nat) (as : List AV) (mem : Mem) (Q : Option AV → Mem → Prop) : Prop := Ct G yX6_write cX6_write 3 none d as mem Q
set_option maxRecDepth 20000 in
set_option maxHeartbeats 4000000 in
theorem B_X6_write {G : GT} {d : Nat} {k : Nat} (hk : isSh k) {l1 : Int} {l2 : Int} {mem : Mem} {Q : Option AV → Mem → Prop} (H : ((mem k 1 ≠ 8) → (((mem k 1 ≠ 16) → ((0 ≤ l1 ∧ l1 < 24) ∧ ((inr l2) ∧ (∀ m9 : Mem, m9 = upM mem (k + 1) l1 l2 → (Q none m9))))) ∧ (¬ (mem k 1 ≠ 16) → ((0 ≤ l1 ∧ l1 < 24) ∧ (∀ m13 : Mem, m13 = upM mem (k + 1) l1 (i2s l2) → (Q none m13)))))) ∧ (¬ (mem k 1 ≠ 8) → ((0 ≤ l1 ∧ l1 < 24) ∧ (∀ m16 : Mem, m16 = upM mem (k + 1) l1 (i2b l2) → (Q none m16))))) : C_X6_write G d [vR k, vI l1, vI l2] mem Q := by
  refine Ct_of_Ex (by decide +kernel) (by exact Nat.le_of_ble_eq_true rfl) (ls := [(0, vR k), (1, vI l1), (2, vI l2)]) rfl ?_
  show E_X6_write G d 0 [(0, vR k), (1, vI l1), (2, vI l2)] [] mem Q
  refine x_aloadn (q := 1) 0 rfl rfl rfl dX6_write_0 rfl ?_
  refine x_getr (q := 4) dX6_write_1 rfl fa_X6_9 (sh_S0 hk) rfl ?_
  refine x_iloadn (q := 5) 1 rfl rfl dX6_write_4 rfl ?_
  refine x_aloadn (q := 6) 0 rfl rfl rfl dX6_write_5 rfl ?_
  refine x_geti (q := 9) (ji := 1) dX6_write_6 rfl fa_X6_15 (sh_S0 hk) rfl rfl (fun r1 => ?_)
  refine x_bipush (q := 11) rfl dX6_write_9 rfl ?_
  obtain ⟨H1, H2⟩ := H
  refine x_icmp_ne (tgt := 19) (q := 14) dX6_write_11 (by decide) rfl r1 (by decide) (fun hB => ?_) (fun hB => ?_)
  · have H := H1 (hB)
    refine x_aloadn (q := 20) 0 rfl rfl rfl dX6_write_19 rfl ?_
    refine x_geti (q := 23) (ji := 1) dX6_write_20 rfl fa_X6_15 (sh_S0 hk) rfl rfl (fun r4 => ?_)
    refine x_bipush (q := 25) rfl dX6_write_23 rfl ?_
    obtain ⟨H1, H2⟩ := H
    refine x_icmp_ne (tgt := 33) (q := 28) dX6_write_25 (by decide) rfl r4 (by decide) (fun hB => ?_) (fun hB => ?_)
    · have H := H1 (hB)
      refine x_iloadn (q := 34) 2 rfl rfl dX6_write_33 rfl ?_
      obtain ⟨⟨s7, s8⟩, H⟩ := H
      obtain ⟨s10, H⟩ := H
      refine x_iast (q := 35) dX6_write_34 rfl (sh_S1 hk) s7 s8 s10 (fun m9 em9 => ?_)
      have H := H m9 em9
      exact x_vret rfl dX6_write_35 H
    · have H := H2 (hB)
      refine x_iloadn (q := 29) 2 rfl rfl dX6_write_28 rfl ?_
      refine x_i2s (q := 30) dX6_write_29 rfl ?_
      refine x_goto (tgt := 34) dX6_write_30 (by decide) ?_
      obtain ⟨⟨s11, s12⟩, H⟩ := H
      refine x_iast (q := 35) dX6_write_34 rfl (sh_S1 hk) s11 s12 (i2s_inr _) (fun m13 em13 => ?_)
      have H := H m13 em13
      exact x_vret rfl dX6_write_35 H
  · have H := H2 (hB)
    refine x_iloadn (q := 15) 2 rfl rfl dX6_write_14 rfl ?_
    refine x_i2b (q := 16) dX6_write_15 rfl ?_
    refine x_goto (tgt := 34) dX6_write_16 (by decide) ?_
    obtain ⟨⟨s14, s15⟩, H⟩ := H
    refine x_iast (q := 35) dX6_write_34 rfl (sh_S1 hk) s14 s15 (i2b_inr _) (fun m16 em16 => ?_)
    have H := H m16 em16
    exact x_vret rfl dX6_write_35 H
