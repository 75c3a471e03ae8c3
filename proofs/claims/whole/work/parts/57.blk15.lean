abbrev E_X10_machine (G : GT) (d pc : Nat) (ls : List (Nat × AV)) (st : List AV) (mem : Mem) (Q : Option AV → Mem → Prop) : Prop := Ex G RX10 cX10_machine 4 (some .int) d pc ls st mem Q
abbrev C_X10_machine (G : GT) (d : Nat) (as : List AV) (mem : Mem) (Q : Option AV → Mem → Prop) : Prop := Ct G yX10_machine cX10_machine 4 (some .int) d as mem Q
abbrev E_X10_machineIs (G : GT) (d pc : Nat) (ls : List (Nat × AV)) (st : List AV) (mem : Mem) (Q : Option AV → Mem → Prop) : Prop := Ex G RX10 cX10_machineIs 3 (some .int) d pc ls st mem Q
abbrev C_X10_machineIs (G : GT) (d : Nat) (as : List AV) (mem : Mem) (Q : Option AV → Mem → Prop) : Prop := Ct G yX10_machineIs cX10_machineIs 3 (some .int) d as mem Q
abbrev E_X10_as (G : GT) (d pc : Nat) (ls : List (Nat × AV)) (st : List AV) (mem : Mem) (Q : Option AV → Mem → Prop) : Prop := Ex G RX10 cX10_as 3 (some .int) d pc ls st mem Q
abbrev C_X10_as (G : GT) (d : Nat) (as : List AV) (mem : Mem) (Q : Option AV → Mem → Prop) : Prop := Ct G yX10_as cX10_as 3 (some .int) d as mem Q
abbrev E_X10_tie (G : GT) (d pc : Nat) (ls : List (Nat × AV)) (st : List AV) (mem : Mem) (Q : Option AV → Mem → Prop) : Prop := Ex G RX10 cX10_tie 4 (some .int) d pc ls st mem Q
abbrev C_X10_tie (G : GT) (d : Nat) (as : List AV) (mem : Mem) (Q : Option AV → Mem → Prop) : Prop := Ct G yX10_tie cX10_tie 4 (some .int) d as mem Q
abbrev E_X10_say (G : GT) (d pc : Nat) (ls : List (Nat × AV)) (st : List AV) (mem : Mem) (Q : Option AV → Mem → Prop) : Prop := Ex G RX10 cX10_say 5 (some .int) d pc ls st mem Q
abbrev C_X10_say (G : GT) (d : Nat) (as : List AV) (mem : Mem) (Q : Option AV → Mem → Prop) : Prop := Ct G yX10_say cX10_say 5 (some .int) d as mem Q
abbrev E_X10_sayingIs (G : GT) (d pc : Nat) (ls : List (Nat × AV)) (st : List AV) (mem : Mem) (Q : Option AV → Mem → Prop) : Prop := Ex G RX10 cX10_sayingIs 3 (some .int) d pc ls st mem Q
abbrev C_X10_sayingIs (G : GT) (d : Nat) (as : List AV) (mem : Mem) (Q : Option AV → Mem → Prop) : Prop := Ct G yX10_sayingIs cX10_sayingIs 3 (some .int) d as mem Q
abbrev E_X10_unsay (G : GT) (d pc : Nat) (ls : List (Nat × AV)) (st : List AV) (mem : Mem) (Q : Option AV → Mem → Prop) : Prop := Ex G RX10 cX10_unsay 2 (some .int) d pc ls st mem Q
abbrev C_X10_unsay (G : GT) (d : Nat) (as : List AV) (mem : Mem) (Q : Option AV → Mem → Prop) : Prop := Ct G yX10_unsay cX10_unsay 2 (some .int) d as mem Q
abbrev E_X10_most (G : GT) (d pc : Nat) (ls : List (Nat × AV)) (st : List AV) (mem : Mem) (Q : Option AV → Mem → Prop) : Prop := Ex G RX10 cX10_most 2 (some .int) d pc ls st mem Q
abbrev C_X10_most (G : GT) (d : Nat) (as : List AV) (mem : Mem) (Q : Option AV → Mem → Prop) : Prop := Ct G yX10_most cX10_most 2 (some .int) d as mem Q
abbrev E_X10_feed (G : GT) (d pc : Nat) (ls : List (Nat × AV)) (st : List AV) (mem : Mem) (Q : Option AV → Mem → Prop) : Prop := Ex G RX10 cX10_feed 4 (some .int) d pc ls st mem Q
abbrev C_X10_feed (G : GT) (d : Nat) (as : List AV) (mem : Mem) (Q : Option AV → Mem → Prop) : Prop := Ct G yX10_feed cX10_feed 4 (some .int) d as mem Q
abbrev E_X10_tell (G : GT) (d pc : Nat) (ls : List (Nat × AV)) (st : List AV) (mem : Mem) (Q : Option AV → Mem → Prop) : Prop := Ex G RX10 cX10_tell 2 (some .int) d pc ls st mem Q
abbrev C_X10_tell (G : GT) (d : Nat) (as : List AV) (mem : Mem) (Q : Option AV → Mem → Prop) : Prop := Ct G yX10_tell cX10_tell 2 (some .int) d as mem Q
abbrev E_X10_told (G : GT) (d pc : Nat) (ls : List (Nat × AV)) (st : List AV) (mem : Mem) (Q : Option AV → Mem → Prop) : Prop := Ex G RX10 cX10_told 2 (some .int) d pc ls st mem Q
abbrev C_X10_told (G : GT) (d : Nat) (as : List AV) (mem : Mem) (Q : Option AV → Mem → Prop) : Prop := Ct G yX10_told cX10_told 2 (some .int) d as mem Q
abbrev E_X10_count (G : GT) (d pc : Nat) (ls : List (Nat × AV)) (st : List AV) (mem : Mem) (Q : Option AV → Mem → Prop) : Prop := Ex G RX10 cX10_count 2 (some .int) d pc ls st mem Q
abbrev C_X10_count (G : GT) (d : Nat) (as : List AV) (mem : Mem) (Q : Option AV → Mem → Prop) : Prop := Ct G yX10_count cX10_count 2 (some .int) d as mem Q
abbrev E_X10_image (G : GT) (d pc : Nat) (ls : List (Nat × AV)) (st : List AV) (mem : Mem) (Q : Option AV → Mem → Prop) : Prop := Ex G RX10 cX10_image 1 (some .int) d pc ls st mem Q
abbrev C_X10_image (G : GT) (d : Nat) (as : List AV) (mem : Mem) (Q : Option AV → Mem → Prop) : Prop := Ct G yX10_image cX10_image 1 (some .int) d as mem Q
abbrev E_X10_restore (G : GT) (d pc : Nat) (ls : List (Nat × AV)) (st : List AV) (mem : Mem) (Q : Option AV → Mem → Prop) : Prop := Ex G RX10 cX10_restore 1 (some .int) d pc ls st mem Q
abbrev C_X10_restore (G : GT) (d : Nat) (as : List AV) (mem : Mem) (Q : Option AV → Mem → Prop) : Prop := Ct G yX10_restore cX10_restore 1 (some .int) d as mem Q
abbrev E_X10_mended (G : GT) (d pc : Nat) (ls : List (Nat × AV)) (st : List AV) (mem : Mem) (Q : Option AV → Mem → Prop) : Prop := Ex G RX10 cX10_mended 2 (some .int) d pc ls st mem Q
abbrev C_X10_mended (G : GT) (d : Nat) (as : List AV) (mem : Mem) (Q : Option AV → Mem → Prop) : Prop := Ct G yX10_mended cX10_mended 2 (some .int) d as mem Q
abbrev E_X10_text (G : GT) (d pc : Nat) (ls : List (Nat × AV)) (st : List AV) (mem : Mem) (Q : Option AV → Mem → Prop) : Prop := Ex G RX10 cX10_text 2 (some .int) d pc ls st mem Q
abbrev C_X10_text (G : GT) (d : Nat) (as : List AV) (mem : Mem) (Q : Option AV → Mem → Prop) : Prop := Ct G yX10_text cX10_text 2 (some .int) d as mem Q
abbrev E_X11_machine_ (G : GT) (d pc : Nat) (ls : List (Nat × AV)) (st : List AV) (mem : Mem) (Q : Option AV → Mem → Prop) : Prop := Ex G RX11 cX11_machine_ 4 (some .int) d pc ls st mem Q
abbrev C_X11_machine_ (G : GT) (d : Nat) (as : List AV) (mem : Mem) (Q : Option AV → Mem → Prop) : Prop := Ct G yX11_machine_ cX11_machine_ 4 (some .int) d as mem Q
abbrev E_X11_machineIs (G : GT) (d pc : Nat) (ls : List (Nat × AV)) (st : List AV) (mem : Mem) (Q : Option AV → Mem → Prop) : Prop := Ex G RX11 cX11_machineIs 5 (some .int) d pc ls st mem Q
abbrev C_X11_machineIs (G : GT) (d : Nat) (as : List AV) (mem : Mem) (Q : Option AV → Mem → Prop) : Prop := Ct G yX11_machineIs cX11_machineIs 5 (some .int) d as mem Q
abbrev E_X11_as (G : GT) (d pc : Nat) (ls : List (Nat × AV)) (st : List AV) (mem : Mem) (Q : Option AV → Mem → Prop) : Prop := Ex G RX11 cX11_as 4 (some .int) d pc ls st mem Q
abbrev C_X11_as (G : GT) (d : Nat) (as : List AV) (mem : Mem) (Q : Option AV → Mem → Prop) : Prop := Ct G yX11_as cX11_as 4 (some .int) d as mem Q
abbrev E_X11_tie (G : GT) (d pc : Nat) (ls : List (Nat × AV)) (st : List AV) (mem : Mem) (Q : Option AV → Mem → Prop) : Prop := Ex G RX11 cX11_tie 5 (some .int) d pc ls st mem Q
abbrev C_X11_tie (G : GT) (d : Nat) (as : List AV) (mem : Mem) (Q : Option AV → Mem → Prop) : Prop := Ct G yX11_tie cX11_tie 5 (some .int) d as mem Q
abbrev E_X11_say (G : GT) (d pc : Nat) (ls : List (Nat × AV)) (st : List AV) (mem : Mem) (Q : Option AV → Mem → Prop) : Prop := Ex G RX11 cX11_say 5 (some .int) d pc ls st mem Q
abbrev C_X11_say (G : GT) (d : Nat) (as : List AV) (mem : Mem) (Q : Option AV → Mem → Prop) : Prop := Ct G yX11_say cX11_say 5 (some .int) d as mem Q
abbrev E_X11_sayingIs (G : GT) (d pc : Nat) (ls : List (Nat × AV)) (st : List AV) (mem : Mem) (Q : Option AV → Mem → Prop) : Prop := Ex G RX11 cX11_sayingIs 3 (some .int) d pc ls st mem Q
abbrev C_X11_sayingIs (G : GT) (d : Nat) (as : List AV) (mem : Mem) (Q : Option AV → Mem → Prop) : Prop := Ct G yX11_sayingIs cX11_sayingIs 3 (some .int) d as mem Q
abbrev E_X11_unsay (G : GT) (d pc : Nat) (ls : List (Nat × AV)) (st : List AV) (mem : Mem) (Q : Option AV → Mem → Prop) : Prop := Ex G RX11 cX11_unsay 2 (some .int) d pc ls st mem Q
abbrev C_X11_unsay (G : GT) (d : Nat) (as : List AV) (mem : Mem) (Q : Option AV → Mem → Prop) : Prop := Ct G yX11_unsay cX11_unsay 2 (some .int) d as mem Q
abbrev E_X11_most (G : GT) (d pc : Nat) (ls : List (Nat × AV)) (st : List AV) (mem : Mem) (Q : Option AV → Mem → Prop) : Prop := Ex G RX11 cX11_most 3 (some .int) d pc ls st mem Q
abbrev C_X11_most (G : GT) (d : Nat) (as : List AV) (mem : Mem) (Q : Option AV → Mem → Prop) : Prop := Ct G yX11_most cX11_most 3 (some .int) d as mem Q
abbrev E_X11_feed (G : GT) (d pc : Nat) (ls : List (Nat × AV)) (st : List AV) (mem : Mem) (Q : Option AV → Mem → Prop) : Prop := Ex G RX11 cX11_feed 5 (some .int) d pc ls st mem Q
abbrev C_X11_feed (G : GT) (d : Nat) (as : List AV) (mem : Mem) (Q : Option AV → Mem → Prop) : Prop := Ct G yX11_feed cX11_feed 5 (some .int) d as mem Q
abbrev E_X11_tell (G : GT) (d pc : Nat) (ls : List (Nat × AV)) (st : List AV) (mem : Mem) (Q : Option AV → Mem → Prop) : Prop := Ex G RX11 cX11_tell 2 (some .int) d pc ls st mem Q
abbrev C_X11_tell (G : GT) (d : Nat) (as : List AV) (mem : Mem) (Q : Option AV → Mem → Prop) : Prop := Ct G yX11_tell cX11_tell 2 (some .int) d as mem Q
abbrev E_X11_told (G : GT) (d pc : Nat) (ls : List (Nat × AV)) (st : List AV) (mem : Mem) (Q : Option AV → Mem → Prop) : Prop := Ex G RX11 cX11_told 2 (some .int) d pc ls st mem Q
abbrev C_X11_told (G : GT) (d : Nat) (as : List AV) (mem : Mem) (Q : Option AV → Mem → Prop) : Prop := Ct G yX11_told cX11_told 2 (some .int) d as mem Q
abbrev E_X11_count (G : GT) (d pc : Nat) (ls : List (Nat × AV)) (st : List AV) (mem : Mem) (Q : Option AV → Mem → Prop) : Prop := Ex G RX11 cX11_count 4 (some .int) d pc ls st mem Q
abbrev C_X11_count (G : GT) (d : Nat) (as : List AV) (mem : Mem) (Q : Option AV → Mem → Prop) : Prop := Ct G yX11_count cX11_count 4 (some .int) d as mem Q
abbrev E_X11_image (G : GT) (d pc : Nat) (ls : List (Nat × AV)) (st : List AV) (mem : Mem) (Q : Option AV → Mem → Prop) : Prop := Ex G RX11 cX11_image 1 (some .int) d pc ls st mem Q
abbrev C_X11_image (G : GT) (d : Nat) (as : List AV) (mem : Mem) (Q : Option AV → Mem → Prop) : Prop := Ct G yX11_image cX11_image 1 (some .int) d as mem Q
abbrev E_X11_restore (G : GT) (d pc : Nat) (ls : List (Nat × AV)) (st : List AV) (mem : Mem) (Q : Option AV → Mem → Prop) : Prop := Ex G RX11 cX11_restore 1 (some .int) d pc ls st mem Q
abbrev C_X11_restore (G : GT) (d : Nat) (as : List AV) (mem : Mem) (Q : Option AV → Mem → Prop) : Prop := Ct G yX11_restore cX11_restore 1 (some .int) d as mem Q
abbrev E_X11_mended (G : GT) (d pc : Nat) (ls : List (Nat × AV)) (st : List AV) (mem : Mem) (Q : Option AV → Mem → Prop) : Prop := Ex G RX11 cX11_mended 4 (some .int) d pc ls st mem Q
abbrev C_X11_mended (G : GT) (d : Nat) (as : List AV) (mem : Mem) (Q : Option AV → Mem → Prop) : Prop := Ct G yX11_mended cX11_mended 4 (some .int) d as mem Q
set_option maxRecDepth 20000 in
set_option maxHeartbeats 4000000 in
theorem B_X10_machine {G : GT} {d : Nat} {l1 : Int} {l2 : Int} {l3 : Int} {mem : Mem} {Q : Option AV → Mem → Prop} (hd : 2 ≤ d) (H : (inr l1) ∧ (((l1 < 0 ∨ 5 < l1) → (∀ m4 : Mem, m4 = refM mem (-1000001) → (Q (some (vI (-1000001))) m4))) ∧ (¬ (l1 < 0 ∨ 5 < l1) → ((inr l2) ∧ (((l2 < 1 ∨ 99 < l2) → (∀ m8 : Mem, m8 = refM mem (-1000001) → (Q (some (vI (-1000001))) m8))) ∧ (¬ (l2 < 1 ∨ 99 < l2) → ((inr l3) ∧ ((¬ (l3 < 1 ∨ 9 < l3) → (((mem 1 0 < 12) → ((0 ≤ mem 1 0 ∧ mem 1 0 < 12) ∧ (∀ m16 : Mem, m16 = addMcM mem 1 l1 l2 l3 → (Q (some (vI (mem 1 0))) m16)))) ∧ (¬ (mem 1 0 < 12) → (∀ m17 : Mem, m17 = refM mem (-1000004) → (Q (some (vI (-1000004))) m17))))) ∧ ((l3 < 1 ∨ 9 < l3) → (∀ m18 : Mem, m18 = refM mem (-1000001) → (Q (some (vI (-1000001))) m18))))))))))) : C_X10_machine G d [vR 0, vI l1, vI l2, vI l3] mem Q := by
  refine Ct_of_Ex (by decide +kernel) (by exact Nat.le_of_ble_eq_true rfl) (ls := [(0, vR 0), (1, vI l1), (2, vI l2), (3, vI l3)]) rfl ?_
  show E_X10_machine G d 0 [(0, vR 0), (1, vI l1), (2, vI l2), (3, vI l3)] [] mem Q
  refine x_iloadn (q := 1) 1 rfl rfl dX10_machine_0 rfl ?_
  refine x_iconst (q := 2) dX10_machine_1 rfl ?_
  refine x_iconst (q := 3) dX10_machine_2 rfl ?_
  obtain ⟨s1, H⟩ := H
  refine x_callS (q := 6) (d := d - 1) (as := [vI l1, vI 0, vI 5]) (st := []) dX10_machine_3 rfl ms_X10_79 rfl rfl (by exact Nat.le_of_ble_eq_true rfl) ⟨by show _ ≤ d; omega, by show _ ≤ 40 * d; omega⟩ ⟨Nat.le_refl _, Nat.le_refl _⟩ (ct_outside s1 (by decide) (by decide) ?_)
  show E_X10_machine G d 6 [(0, vR 0), (1, vI l1), (2, vI l2), (3, vI l3)] [vI (bz (l1 < 0 ∨ 5 < l1))] mem Q
  obtain ⟨H1, H2⟩ := H
  refine x_if_ne (tgt := 29) (q := 9) dX10_machine_6 (by decide) rfl (bz_inr _) (fun hB => ?_) (fun hB => ?_)
  · have H := H1 (bz_n0.mp hB)
    refine x_aloadn (q := 30) 0 rfl rfl rfl dX10_machine_29 rfl ?_
    refine x_ldc (q := 32) (z := (-1000001)) cn_X10_83 (by decide) dX10_machine_30 rfl ?_
    obtain ⟨m4, em4⟩ : ∃ m9 : Mem, m9 = refM mem (-1000001) := ⟨_, rfl⟩
    have H := H m4 em4
    refine x_callV (q := 35) (d := d - 1) (as := [vI (-1000001)]) (st := []) dX10_machine_32 rfl mv_X10_84 sh_0 rfl rfl rfl (by exact Nat.le_of_ble_eq_true rfl) ⟨by show _ ≤ d; omega, by show _ ≤ 40 * d; omega⟩ ⟨Nat.le_refl _, Nat.le_refl _⟩ (ct_refuse (by omega) (by decide) (by decide) ?_)
    rw [← em4]
    show E_X10_machine G d 35 [(0, vR 0), (1, vI l1), (2, vI l2), (3, vI l3)] [vI (-1000001)] m4 Q
    exact x_iret rfl dX10_machine_35 H
  · have H := H2 (fun z => hB (bz_n0.mpr z))
    refine x_iloadn (q := 10) 2 rfl rfl dX10_machine_9 rfl ?_
    refine x_iconst (q := 11) dX10_machine_10 rfl ?_
    refine x_bipush (q := 13) rfl dX10_machine_11 rfl ?_
    obtain ⟨s5, H⟩ := H
    refine x_callS (q := 16) (d := d - 1) (as := [vI l2, vI 1, vI 99]) (st := []) dX10_machine_13 rfl ms_X10_79 rfl rfl (by exact Nat.le_of_ble_eq_true rfl) ⟨by show _ ≤ d; omega, by show _ ≤ 40 * d; omega⟩ ⟨Nat.le_refl _, Nat.le_refl _⟩ (ct_outside s5 (by decide) (by decide) ?_)
    show E_X10_machine G d 16 [(0, vR 0), (1, vI l1), (2, vI l2), (3, vI l3)] [vI (bz (l2 < 1 ∨ 99 < l2))] mem Q
    obtain ⟨H1, H2⟩ := H
    refine x_if_ne (tgt := 29) (q := 19) dX10_machine_16 (by decide) rfl (bz_inr _) (fun hB => ?_) (fun hB => ?_)
    · have H := H1 (bz_n0.mp hB)
      refine x_aloadn (q := 30) 0 rfl rfl rfl dX10_machine_29 rfl ?_
      refine x_ldc (q := 32) (z := (-1000001)) cn_X10_83 (by decide) dX10_machine_30 rfl ?_
      obtain ⟨m8, em8⟩ : ∃ m9 : Mem, m9 = refM mem (-1000001) := ⟨_, rfl⟩
      have H := H m8 em8
      refine x_callV (q := 35) (d := d - 1) (as := [vI (-1000001)]) (st := []) dX10_machine_32 rfl mv_X10_84 sh_0 rfl rfl rfl (by exact Nat.le_of_ble_eq_true rfl) ⟨by show _ ≤ d; omega, by show _ ≤ 40 * d; omega⟩ ⟨Nat.le_refl _, Nat.le_refl _⟩ (ct_refuse (by omega) (by decide) (by decide) ?_)
      rw [← em8]
      show E_X10_machine G d 35 [(0, vR 0), (1, vI l1), (2, vI l2), (3, vI l3)] [vI (-1000001)] m8 Q
      exact x_iret rfl dX10_machine_35 H
    · have H := H2 (fun z => hB (bz_n0.mpr z))
      refine x_iloadn (q := 20) 3 rfl rfl dX10_machine_19 rfl ?_
      refine x_iconst (q := 21) dX10_machine_20 rfl ?_
      refine x_bipush (q := 23) rfl dX10_machine_21 rfl ?_
      obtain ⟨s9, H⟩ := H
      refine x_callS (q := 26) (d := d - 1) (as := [vI l3, vI 1, vI 9]) (st := []) dX10_machine_23 rfl ms_X10_79 rfl rfl (by exact Nat.le_of_ble_eq_true rfl) ⟨by show _ ≤ d; omega, by show _ ≤ 40 * d; omega⟩ ⟨Nat.le_refl _, Nat.le_refl _⟩ (ct_outside s9 (by decide) (by decide) ?_)
      show E_X10_machine G d 26 [(0, vR 0), (1, vI l1), (2, vI l2), (3, vI l3)] [vI (bz (l3 < 1 ∨ 9 < l3))] mem Q
      obtain ⟨H1, H2⟩ := H
      refine x_if_eq (tgt := 36) (q := 29) dX10_machine_26 (by decide) rfl (bz_inr _) (fun hB => ?_) (fun hB => ?_)
      · have H := H1 (bz_0.mp hB)
        refine x_aloadn (q := 37) 0 rfl rfl rfl dX10_machine_36 rfl ?_
        refine x_getr (q := 40) dX10_machine_37 rfl fa_X10_12 sh_0 rfl ?_
        refine x_callV (q := 43) (d := d - 1) (as := []) (st := []) dX10_machine_40 rfl mv_X10_88 sh_1 rfl rfl rfl (by exact Nat.le_of_ble_eq_true rfl) ⟨by show _ ≤ d; omega, by show _ ≤ 40 * d; omega⟩ ⟨Nat.le_refl _, Nat.le_refl _⟩ (ct_roomM (by decide) ?_)
        show E_X10_machine G d 43 [(0, vR 0), (1, vI l1), (2, vI l2), (3, vI l3)] [vI (bz (mem 1 0 < 12))] mem Q
        obtain ⟨H1, H2⟩ := H
        refine x_if_ne (tgt := 53) (q := 46) dX10_machine_43 (by decide) rfl (bz_inr _) (fun hB => ?_) (fun hB => ?_)
        · have H := H1 (bz_n0.mp hB)
          refine x_aloadn (q := 54) 0 rfl rfl rfl dX10_machine_53 rfl ?_
          refine x_getr (q := 57) dX10_machine_54 rfl fa_X10_12 sh_0 rfl ?_
          refine x_iloadn (q := 58) 1 rfl rfl dX10_machine_57 rfl ?_
          refine x_iloadn (q := 59) 2 rfl rfl dX10_machine_58 rfl ?_
          refine x_iloadn (q := 60) 3 rfl rfl dX10_machine_59 rfl ?_
          obtain ⟨⟨s14, s15⟩, H⟩ := H
          obtain ⟨m16, em16⟩ : ∃ m9 : Mem, m9 = addMcM mem 1 l1 l2 l3 := ⟨_, rfl⟩
          have H := H m16 em16
          refine x_callV (q := 63) (d := d - 1) (as := [vI l1, vI l2, vI l3]) (st := []) dX10_machine_60 rfl mv_X10_93 sh_1 rfl rfl rfl (by exact Nat.le_of_ble_eq_true rfl) ⟨by show _ ≤ d; omega, by show _ ≤ 40 * d; omega⟩ ⟨Nat.le_refl _, Nat.le_refl _⟩ (ct_addMachine (by decide) s14 s15 s1 s5 s9 ?_)
          rw [← em16]
          show E_X10_machine G d 63 [(0, vR 0), (1, vI l1), (2, vI l2), (3, vI l3)] [vI (mem 1 0)] m16 Q
          exact x_iret rfl dX10_machine_63 H
        · have H := H2 (fun z => hB (bz_n0.mpr z))
          refine x_aloadn (q := 47) 0 rfl rfl rfl dX10_machine_46 rfl ?_
          refine x_ldc (q := 49) (z := (-1000004)) cn_X10_92 (by decide) dX10_machine_47 rfl ?_
          obtain ⟨m17, em17⟩ : ∃ m9 : Mem, m9 = refM mem (-1000004) := ⟨_, rfl⟩
          have H := H m17 em17
          refine x_callV (q := 52) (d := d - 1) (as := [vI (-1000004)]) (st := []) dX10_machine_49 rfl mv_X10_84 sh_0 rfl rfl rfl (by exact Nat.le_of_ble_eq_true rfl) ⟨by show _ ≤ d; omega, by show _ ≤ 40 * d; omega⟩ ⟨Nat.le_refl _, Nat.le_refl _⟩ (ct_refuse (by omega) (by decide) (by decide) ?_)
          rw [← em17]
          show E_X10_machine G d 52 [(0, vR 0), (1, vI l1), (2, vI l2), (3, vI l3)] [vI (-1000004)] m17 Q
          exact x_iret rfl dX10_machine_52 H
      · have H := H2 (Classical.byContradiction (fun z => hB (bz_0.mpr z)))
        refine x_aloadn (q := 30) 0 rfl rfl rfl dX10_machine_29 rfl ?_
        refine x_ldc (q := 32) (z := (-1000001)) cn_X10_83 (by decide) dX10_machine_30 rfl ?_
        obtain ⟨m18, em18⟩ : ∃ m9 : Mem, m9 = refM mem (-1000001) := ⟨_, rfl⟩
        have H := H m18 em18
        refine x_callV (q := 35) (d := d - 1) (as := [vI (-1000001)]) (st := []) dX10_machine_32 rfl mv_X10_84 sh_0 rfl rfl rfl (by exact Nat.le_of_ble_eq_true rfl) ⟨by show _ ≤ d; omega, by show _ ≤ 40 * d; omega⟩ ⟨Nat.le_refl _, Nat.le_refl _⟩ (ct_refuse (by omega) (by decide) (by decide) ?_)
        rw [← em18]
        show E_X10_machine G d 35 [(0, vR 0), (1, vI l1), (2, vI l2), (3, vI l3)] [vI (-1000001)] m18 Q
        exact x_iret rfl dX10_machine_35 H
set_option maxRecDepth 20000 in
set_option maxHeartbeats 4000000 in
theorem B_X10_machineIs {G : GT} {d : Nat} {l1 : Int} {l2 : Int} {mem : Mem} {Q : Option AV → Mem → Prop} (hd : 2 ≤ d) (H : (inr l1) ∧ ((¬ (0 ≤ l1 ∧ l1 < mem 1 0) → (∀ m4 : Mem, m4 = refM mem (-1000001) → (Q (some (vI (-1000001))) m4))) ∧ ((0 ≤ l1 ∧ l1 < mem 1 0) → ((inr l2) ∧ ((¬ (l2 < 0 ∨ 5 < l2) → ((l2 = 0 → ((0 ≤ l1 ∧ l1 < 12) ∧ (Q (some (vI (mem 2 l1))) mem))) ∧ (l2 = 1 → ((0 ≤ l1 ∧ l1 < 12) ∧ (Q (some (vI (mem 3 l1))) mem))) ∧ (l2 = 2 → ((0 ≤ l1 ∧ l1 < 12) ∧ (Q (some (vI (mem 4 l1))) mem))) ∧ (l2 = 3 → ((0 ≤ l1 ∧ l1 < 12) ∧ (Q (some (vI (mem 5 l1))) mem))) ∧ (l2 = 4 → (C_X2_sayingsBy G (d - 1) [vR 1, vI l1] mem (fun r9 m20 => ∃ z21 : Int, r9 = some (vI z21) ∧ (Q (some (vI z21)) m20)))) ∧ ((l2 < 0 ∨ 4 < l2) → (C_X2_sayingsOf G (d - 1) [vR 1, vI l1] mem (fun r9 m22 => ∃ z23 : Int, r9 = some (vI z23) ∧ (Q (some (vI z23)) m22)))))) ∧ ((l2 < 0 ∨ 5 < l2) → (∀ m24 : Mem, m24 = refM mem (-1000001) → (Q (some (vI (-1000001))) m24)))))))) : C_X10_machineIs G d [vR 0, vI l1, vI l2] mem Q := by
  refine Ct_of_Ex (by decide +kernel) (by exact Nat.le_of_ble_eq_true rfl) (ls := [(0, vR 0), (1, vI l1), (2, vI l2)]) rfl ?_
  show E_X10_machineIs G d 0 [(0, vR 0), (1, vI l1), (2, vI l2)] [] mem Q
  refine x_aloadn (q := 1) 0 rfl rfl rfl dX10_machineIs_0 rfl ?_
  refine x_getr (q := 4) dX10_machineIs_1 rfl fa_X10_12 sh_0 rfl ?_
  refine x_iloadn (q := 5) 1 rfl rfl dX10_machineIs_4 rfl ?_
  obtain ⟨s1, H⟩ := H
  refine x_callV (q := 8) (d := d - 1) (as := [vI l1]) (st := []) dX10_machineIs_5 rfl mv_X10_97 sh_1 rfl rfl rfl (by exact Nat.le_of_ble_eq_true rfl) ⟨by show _ ≤ d; omega, by show _ ≤ 40 * d; omega⟩ ⟨Nat.le_refl _, Nat.le_refl _⟩ (ct_has (by decide) s1 ?_)
  show E_X10_machineIs G d 8 [(0, vR 0), (1, vI l1), (2, vI l2)] [vI (bz (0 ≤ l1 ∧ l1 < mem 1 0))] mem Q
  obtain ⟨H1, H2⟩ := H
  refine x_if_eq (tgt := 20) (q := 11) dX10_machineIs_8 (by decide) rfl (bz_inr _) (fun hB => ?_) (fun hB => ?_)
  · have H := H1 (bz_0.mp hB)
    refine x_aloadn (q := 21) 0 rfl rfl rfl dX10_machineIs_20 rfl ?_
    refine x_ldc (q := 23) (z := (-1000001)) cn_X10_83 (by decide) dX10_machineIs_21 rfl ?_
    obtain ⟨m4, em4⟩ : ∃ m9 : Mem, m9 = refM mem (-1000001) := ⟨_, rfl⟩
    have H := H m4 em4
    refine x_callV (q := 26) (d := d - 1) (as := [vI (-1000001)]) (st := []) dX10_machineIs_23 rfl mv_X10_84 sh_0 rfl rfl rfl (by exact Nat.le_of_ble_eq_true rfl) ⟨by show _ ≤ d; omega, by show _ ≤ 40 * d; omega⟩ ⟨Nat.le_refl _, Nat.le_refl _⟩ (ct_refuse (by omega) (by decide) (by decide) ?_)
    rw [← em4]
    show E_X10_machineIs G d 26 [(0, vR 0), (1, vI l1), (2, vI l2)] [vI (-1000001)] m4 Q
    exact x_iret rfl dX10_machineIs_26 H
  · have H := H2 (Classical.byContradiction (fun z => hB (bz_0.mpr z)))
    refine x_iloadn (q := 12) 2 rfl rfl dX10_machineIs_11 rfl ?_
    refine x_iconst (q := 13) dX10_machineIs_12 rfl ?_
    refine x_iconst (q := 14) dX10_machineIs_13 rfl ?_
    obtain ⟨s5, H⟩ := H
    refine x_callS (q := 17) (d := d - 1) (as := [vI l2, vI 0, vI 5]) (st := []) dX10_machineIs_14 rfl ms_X10_79 rfl rfl (by exact Nat.le_of_ble_eq_true rfl) ⟨by show _ ≤ d; omega, by show _ ≤ 40 * d; omega⟩ ⟨Nat.le_refl _, Nat.le_refl _⟩ (ct_outside s5 (by decide) (by decide) ?_)
    show E_X10_machineIs G d 17 [(0, vR 0), (1, vI l1), (2, vI l2)] [vI (bz (l2 < 0 ∨ 5 < l2))] mem Q
    obtain ⟨H1, H2⟩ := H
    refine x_if_eq (tgt := 27) (q := 20) dX10_machineIs_17 (by decide) rfl (bz_inr _) (fun hB => ?_) (fun hB => ?_)
    · have H := H1 (bz_0.mp hB)
      refine x_iloadn (q := 28) 2 rfl rfl dX10_machineIs_27 rfl ?_
      obtain ⟨H0, H1, H2, H3, H4, H5⟩ := H
      rcases (show l2 = 0 ∨ l2 = 1 ∨ l2 = 2 ∨ l2 = 3 ∨ l2 = 4 ∨ (l2 < 0 ∨ 4 < l2) by omega) with hB | hB | hB | hB | hB | hB
      · have H := H0 hB
        refine x_tswIn (z := 0) (tgt := 64) dX10_machineIs_28 hB (by decide) (by decide) (by decide) rfl (by decide) ?_
        refine x_aloadn (q := 65) 0 rfl rfl rfl dX10_machineIs_64 rfl ?_
        refine x_getr (q := 68) dX10_machineIs_65 rfl fa_X10_12 sh_0 rfl ?_
        refine x_getr (q := 71) dX10_machineIs_68 rfl fa_X10_101 sh_1 rfl ?_
        refine x_iloadn (q := 72) 1 rfl rfl dX10_machineIs_71 rfl ?_
        obtain ⟨⟨s8, s9⟩, H⟩ := H
        refine x_iald (q := 73) dX10_machineIs_72 rfl sh_2 s8 s9 (fun r10 => ?_)
        exact x_iret rfl dX10_machineIs_73 H
      · have H := H1 hB
        refine x_tswIn (z := 1) (tgt := 74) dX10_machineIs_28 hB (by decide) (by decide) (by decide) rfl (by decide) ?_
        refine x_aloadn (q := 75) 0 rfl rfl rfl dX10_machineIs_74 rfl ?_
        refine x_getr (q := 78) dX10_machineIs_75 rfl fa_X10_12 sh_0 rfl ?_
        refine x_getr (q := 81) dX10_machineIs_78 rfl fa_X10_104 sh_1 rfl ?_
        refine x_iloadn (q := 82) 1 rfl rfl dX10_machineIs_81 rfl ?_
        obtain ⟨⟨s11, s12⟩, H⟩ := H
        refine x_iald (q := 83) dX10_machineIs_82 rfl sh_3 s11 s12 (fun r13 => ?_)
        exact x_iret rfl dX10_machineIs_83 H
      · have H := H2 hB
        refine x_tswIn (z := 2) (tgt := 84) dX10_machineIs_28 hB (by decide) (by decide) (by decide) rfl (by decide) ?_
        refine x_aloadn (q := 85) 0 rfl rfl rfl dX10_machineIs_84 rfl ?_
        refine x_getr (q := 88) dX10_machineIs_85 rfl fa_X10_12 sh_0 rfl ?_
        refine x_getr (q := 91) dX10_machineIs_88 rfl fa_X10_107 sh_1 rfl ?_
        refine x_iloadn (q := 92) 1 rfl rfl dX10_machineIs_91 rfl ?_
        obtain ⟨⟨s14, s15⟩, H⟩ := H
        refine x_iald (q := 93) dX10_machineIs_92 rfl sh_4 s14 s15 (fun r16 => ?_)
        exact x_iret rfl dX10_machineIs_93 H
      · have H := H3 hB
        refine x_tswIn (z := 3) (tgt := 94) dX10_machineIs_28 hB (by decide) (by decide) (by decide) rfl (by decide) ?_
        refine x_aloadn (q := 95) 0 rfl rfl rfl dX10_machineIs_94 rfl ?_
        refine x_getr (q := 98) dX10_machineIs_95 rfl fa_X10_12 sh_0 rfl ?_
        refine x_getr (q := 101) dX10_machineIs_98 rfl fa_X10_110 sh_1 rfl ?_
        refine x_iloadn (q := 102) 1 rfl rfl dX10_machineIs_101 rfl ?_
        obtain ⟨⟨s17, s18⟩, H⟩ := H
        refine x_iald (q := 103) dX10_machineIs_102 rfl sh_5 s17 s18 (fun r19 => ?_)
        exact x_iret rfl dX10_machineIs_103 H
      · have H := H4 hB
        refine x_tswIn (z := 4) (tgt := 104) dX10_machineIs_28 hB (by decide) (by decide) (by decide) rfl (by decide) ?_
        refine x_aloadn (q := 105) 0 rfl rfl rfl dX10_machineIs_104 rfl ?_
        refine x_getr (q := 108) dX10_machineIs_105 rfl fa_X10_12 sh_0 rfl ?_
        refine x_iloadn (q := 109) 1 rfl rfl dX10_machineIs_108 rfl ?_
        refine x_callV (q := 112) (d := d - 1) (as := [vI l1]) (st := []) dX10_machineIs_109 rfl mv_X10_113 sh_1 rfl rfl rfl (by exact Nat.le_of_ble_eq_true rfl) ⟨by show _ ≤ d; omega, by show _ ≤ 40 * d; omega⟩ ⟨Nat.le_refl _, Nat.le_refl _⟩ (Ct.mono H (fun r9 m20 H => ?_))
        obtain ⟨z21, rfl, H⟩ := H
        show E_X10_machineIs G d 112 [(0, vR 0), (1, vI l1), (2, vI l2)] [vI z21] m20 Q
        exact x_iret rfl dX10_machineIs_112 H
      · have H := H5 hB
        refine x_tswOut (tgt := 113) dX10_machineIs_28 s5 hB (by decide) ?_
        refine x_aloadn (q := 114) 0 rfl rfl rfl dX10_machineIs_113 rfl ?_
        refine x_getr (q := 117) dX10_machineIs_114 rfl fa_X10_12 sh_0 rfl ?_
        refine x_iloadn (q := 118) 1 rfl rfl dX10_machineIs_117 rfl ?_
        refine x_callV (q := 121) (d := d - 1) (as := [vI l1]) (st := []) dX10_machineIs_118 rfl mv_X10_116 sh_1 rfl rfl rfl (by exact Nat.le_of_ble_eq_true rfl) ⟨by show _ ≤ d; omega, by show _ ≤ 40 * d; omega⟩ ⟨Nat.le_refl _, Nat.le_refl _⟩ (Ct.mono H (fun r9 m22 H => ?_))
        obtain ⟨z23, rfl, H⟩ := H
        show E_X10_machineIs G d 121 [(0, vR 0), (1, vI l1), (2, vI l2)] [vI z23] m22 Q
        exact x_iret rfl dX10_machineIs_121 H
    · have H := H2 (Classical.byContradiction (fun z => hB (bz_0.mpr z)))
      refine x_aloadn (q := 21) 0 rfl rfl rfl dX10_machineIs_20 rfl ?_
      refine x_ldc (q := 23) (z := (-1000001)) cn_X10_83 (by decide) dX10_machineIs_21 rfl ?_
      obtain ⟨m24, em24⟩ : ∃ m9 : Mem, m9 = refM mem (-1000001) := ⟨_, rfl⟩
      have H := H m24 em24
      refine x_callV (q := 26) (d := d - 1) (as := [vI (-1000001)]) (st := []) dX10_machineIs_23 rfl mv_X10_84 sh_0 rfl rfl rfl (by exact Nat.le_of_ble_eq_true rfl) ⟨by show _ ≤ d; omega, by show _ ≤ 40 * d; omega⟩ ⟨Nat.le_refl _, Nat.le_refl _⟩ (ct_refuse (by omega) (by decide) (by decide) ?_)
      rw [← em24]
      show E_X10_machineIs G d 26 [(0, vR 0), (1, vI l1), (2, vI l2)] [vI (-1000001)] m24 Q
      exact x_iret rfl dX10_machineIs_26 H
set_option maxRecDepth 20000 in
set_option maxHeartbeats 4000000 in
theorem B_X10_as {G : GT} {d : Nat} {l1 : Int} {l2 : Int} {mem : Mem} {Q : Option AV → Mem → Prop} (hd : 2 ≤ d) (H : (inr l1) ∧ ((¬ (0 ≤ l1 ∧ l1 < mem 1 0) → (∀ m4 : Mem, m4 = refM mem (-1000001) → (Q (some (vI (-1000001))) m4))) ∧ ((0 ≤ l1 ∧ l1 < mem 1 0) → ((inr l2) ∧ ((¬ (l2 < 0 ∨ 5 < l2) → ((0 ≤ l1 ∧ l1 < 12) ∧ ((0 ≤ mem 2 l1 ∧ mem 2 l1 < 6) ∧ (((isUnd (mem 2 l1) l2) → (Q (some (vI (mem 3 l1))) mem)) ∧ (¬ (isUnd (mem 2 l1) l2) → (∀ m16 : Mem, m16 = refM mem (-1000005) → (Q (some (vI (-1000005))) m16))))))) ∧ ((l2 < 0 ∨ 5 < l2) → (∀ m17 : Mem, m17 = refM mem (-1000001) → (Q (some (vI (-1000001))) m17)))))))) : C_X10_as G d [vR 0, vI l1, vI l2] mem Q := by
  refine Ct_of_Ex (by decide +kernel) (by exact Nat.le_of_ble_eq_true rfl) (ls := [(0, vR 0), (1, vI l1), (2, vI l2)]) rfl ?_
  show E_X10_as G d 0 [(0, vR 0), (1, vI l1), (2, vI l2)] [] mem Q
  refine x_aloadn (q := 1) 0 rfl rfl rfl dX10_as_0 rfl ?_
  refine x_getr (q := 4) dX10_as_1 rfl fa_X10_12 sh_0 rfl ?_
  refine x_iloadn (q := 5) 1 rfl rfl dX10_as_4 rfl ?_
  obtain ⟨s1, H⟩ := H
  refine x_callV (q := 8) (d := d - 1) (as := [vI l1]) (st := []) dX10_as_5 rfl mv_X10_97 sh_1 rfl rfl rfl (by exact Nat.le_of_ble_eq_true rfl) ⟨by show _ ≤ d; omega, by show _ ≤ 40 * d; omega⟩ ⟨Nat.le_refl _, Nat.le_refl _⟩ (ct_has (by decide) s1 ?_)
  show E_X10_as G d 8 [(0, vR 0), (1, vI l1), (2, vI l2)] [vI (bz (0 ≤ l1 ∧ l1 < mem 1 0))] mem Q
  obtain ⟨H1, H2⟩ := H
  refine x_if_eq (tgt := 20) (q := 11) dX10_as_8 (by decide) rfl (bz_inr _) (fun hB => ?_) (fun hB => ?_)
  · have H := H1 (bz_0.mp hB)
    refine x_aloadn (q := 21) 0 rfl rfl rfl dX10_as_20 rfl ?_
    refine x_ldc (q := 23) (z := (-1000001)) cn_X10_83 (by decide) dX10_as_21 rfl ?_
    obtain ⟨m4, em4⟩ : ∃ m9 : Mem, m9 = refM mem (-1000001) := ⟨_, rfl⟩
    have H := H m4 em4
    refine x_callV (q := 26) (d := d - 1) (as := [vI (-1000001)]) (st := []) dX10_as_23 rfl mv_X10_84 sh_0 rfl rfl rfl (by exact Nat.le_of_ble_eq_true rfl) ⟨by show _ ≤ d; omega, by show _ ≤ 40 * d; omega⟩ ⟨Nat.le_refl _, Nat.le_refl _⟩ (ct_refuse (by omega) (by decide) (by decide) ?_)
    rw [← em4]
    show E_X10_as G d 26 [(0, vR 0), (1, vI l1), (2, vI l2)] [vI (-1000001)] m4 Q
    exact x_iret rfl dX10_as_26 H
  · have H := H2 (Classical.byContradiction (fun z => hB (bz_0.mpr z)))
    refine x_iloadn (q := 12) 2 rfl rfl dX10_as_11 rfl ?_
    refine x_iconst (q := 13) dX10_as_12 rfl ?_
    refine x_iconst (q := 14) dX10_as_13 rfl ?_
    obtain ⟨s5, H⟩ := H
    refine x_callS (q := 17) (d := d - 1) (as := [vI l2, vI 0, vI 5]) (st := []) dX10_as_14 rfl ms_X10_79 rfl rfl (by exact Nat.le_of_ble_eq_true rfl) ⟨by show _ ≤ d; omega, by show _ ≤ 40 * d; omega⟩ ⟨Nat.le_refl _, Nat.le_refl _⟩ (ct_outside s5 (by decide) (by decide) ?_)
    show E_X10_as G d 17 [(0, vR 0), (1, vI l1), (2, vI l2)] [vI (bz (l2 < 0 ∨ 5 < l2))] mem Q
    obtain ⟨H1, H2⟩ := H
    refine x_if_eq (tgt := 27) (q := 20) dX10_as_17 (by decide) rfl (bz_inr _) (fun hB => ?_) (fun hB => ?_)
    · have H := H1 (bz_0.mp hB)
      refine x_aloadn (q := 28) 0 rfl rfl rfl dX10_as_27 rfl ?_
      refine x_getr (q := 31) dX10_as_28 rfl fa_X10_12 sh_0 rfl ?_
      refine x_getr (q := 34) dX10_as_31 rfl fa_X10_101 sh_1 rfl ?_
      refine x_iloadn (q := 35) 1 rfl rfl dX10_as_34 rfl ?_
      obtain ⟨⟨s8, s9⟩, H⟩ := H
      refine x_iald (q := 36) dX10_as_35 rfl sh_2 s8 s9 (fun r10 => ?_)
      refine x_iloadn (q := 37) 2 rfl rfl dX10_as_36 rfl ?_
      obtain ⟨⟨s11, s12⟩, H⟩ := H
      refine x_callS (q := 40) (d := d - 1) (as := [vI (mem 2 l1), vI l2]) (st := []) dX10_as_37 rfl ms_X10_119 rfl rfl (by exact Nat.le_of_ble_eq_true rfl) ⟨by show _ ≤ d; omega, by show _ ≤ 40 * d; omega⟩ ⟨Nat.le_refl _, Nat.le_refl _⟩ (ct_under s11 s12 s5 ?_)
      show E_X10_as G d 40 [(0, vR 0), (1, vI l1), (2, vI l2)] [vI (bz (isUnd (mem 2 l1) l2))] mem Q
      obtain ⟨H1, H2⟩ := H
      refine x_if_ne (tgt := 50) (q := 43) dX10_as_40 (by decide) rfl (bz_inr _) (fun hB => ?_) (fun hB => ?_)
      · have H := H1 (bz_n0.mp hB)
        refine x_aloadn (q := 51) 0 rfl rfl rfl dX10_as_50 rfl ?_
        refine x_getr (q := 54) dX10_as_51 rfl fa_X10_12 sh_0 rfl ?_
        refine x_getr (q := 57) dX10_as_54 rfl fa_X10_104 sh_1 rfl ?_
        refine x_iloadn (q := 58) 1 rfl rfl dX10_as_57 rfl ?_
        refine x_iald (q := 59) dX10_as_58 rfl sh_3 s8 s9 (fun r15 => ?_)
        exact x_iret rfl dX10_as_59 H
      · have H := H2 (fun z => hB (bz_n0.mpr z))
        refine x_aloadn (q := 44) 0 rfl rfl rfl dX10_as_43 rfl ?_
        refine x_ldc (q := 46) (z := (-1000005)) cn_X10_125 (by decide) dX10_as_44 rfl ?_
        obtain ⟨m16, em16⟩ : ∃ m9 : Mem, m9 = refM mem (-1000005) := ⟨_, rfl⟩
        have H := H m16 em16
        refine x_callV (q := 49) (d := d - 1) (as := [vI (-1000005)]) (st := []) dX10_as_46 rfl mv_X10_84 sh_0 rfl rfl rfl (by exact Nat.le_of_ble_eq_true rfl) ⟨by show _ ≤ d; omega, by show _ ≤ 40 * d; omega⟩ ⟨Nat.le_refl _, Nat.le_refl _⟩ (ct_refuse (by omega) (by decide) (by decide) ?_)
        rw [← em16]
        show E_X10_as G d 49 [(0, vR 0), (1, vI l1), (2, vI l2)] [vI (-1000005)] m16 Q
        exact x_iret rfl dX10_as_49 H
    · have H := H2 (Classical.byContradiction (fun z => hB (bz_0.mpr z)))
      refine x_aloadn (q := 21) 0 rfl rfl rfl dX10_as_20 rfl ?_
      refine x_ldc (q := 23) (z := (-1000001)) cn_X10_83 (by decide) dX10_as_21 rfl ?_
      obtain ⟨m17, em17⟩ : ∃ m9 : Mem, m9 = refM mem (-1000001) := ⟨_, rfl⟩
      have H := H m17 em17
      refine x_callV (q := 26) (d := d - 1) (as := [vI (-1000001)]) (st := []) dX10_as_23 rfl mv_X10_84 sh_0 rfl rfl rfl (by exact Nat.le_of_ble_eq_true rfl) ⟨by show _ ≤ d; omega, by show _ ≤ 40 * d; omega⟩ ⟨Nat.le_refl _, Nat.le_refl _⟩ (ct_refuse (by omega) (by decide) (by decide) ?_)
      rw [← em17]
      show E_X10_as G d 26 [(0, vR 0), (1, vI l1), (2, vI l2)] [vI (-1000001)] m17 Q
      exact x_iret rfl dX10_as_26 H
set_option maxRecDepth 20000 in
set_option maxHeartbeats 4000000 in
theorem B_X10_tie {G : GT} {d : Nat} {l1 : Int} {l2 : Int} {l3 : Int} {mem : Mem} {Q : Option AV → Mem → Prop} (hd : 2 ≤ d) (H : (inr l1) ∧ ((¬ (0 ≤ l1 ∧ l1 < mem 1 0) → (∀ m4 : Mem, m4 = refM mem (-1000001) → (Q (some (vI (-1000001))) m4))) ∧ ((0 ≤ l1 ∧ l1 < mem 1 0) → ((inr l2) ∧ ((¬ (0 ≤ l2 ∧ l2 < mem 1 0) → (∀ m8 : Mem, m8 = refM mem (-1000001) → (Q (some (vI (-1000001))) m8))) ∧ ((0 ≤ l2 ∧ l2 < mem 1 0) → ((inr l3) ∧ ((¬ (l3 < 0 ∨ 99 < l3) → (((l1 ≠ l2) → ((0 ≤ l1 ∧ l1 < 12 ∧ 0 ≤ l2 ∧ l2 < 12) ∧ (∀ m18 : Mem, m18 = setTieM mem 1 l1 l2 l3 → (Q (some (vI (mem 6 (l1 * 12 + l2)))) m18)))) ∧ (¬ (l1 ≠ l2) → (∀ m19 : Mem, m19 = refM mem (-1000003) → (Q (some (vI (-1000003))) m19))))) ∧ ((l3 < 0 ∨ 99 < l3) → (∀ m20 : Mem, m20 = refM mem (-1000001) → (Q (some (vI (-1000001))) m20))))))))))) : C_X10_tie G d [vR 0, vI l1, vI l2, vI l3] mem Q := by
  refine Ct_of_Ex (by decide +kernel) (by exact Nat.le_of_ble_eq_true rfl) (ls := [(0, vR 0), (1, vI l1), (2, vI l2), (3, vI l3)]) rfl ?_
  show E_X10_tie G d 0 [(0, vR 0), (1, vI l1), (2, vI l2), (3, vI l3)] [] mem Q
  refine x_aloadn (q := 1) 0 rfl rfl rfl dX10_tie_0 rfl ?_
  refine x_getr (q := 4) dX10_tie_1 rfl fa_X10_12 sh_0 rfl ?_
  refine x_iloadn (q := 5) 1 rfl rfl dX10_tie_4 rfl ?_
  obtain ⟨s1, H⟩ := H
  refine x_callV (q := 8) (d := d - 1) (as := [vI l1]) (st := []) dX10_tie_5 rfl mv_X10_97 sh_1 rfl rfl rfl (by exact Nat.le_of_ble_eq_true rfl) ⟨by show _ ≤ d; omega, by show _ ≤ 40 * d; omega⟩ ⟨Nat.le_refl _, Nat.le_refl _⟩ (ct_has (by decide) s1 ?_)
  show E_X10_tie G d 8 [(0, vR 0), (1, vI l1), (2, vI l2), (3, vI l3)] [vI (bz (0 ≤ l1 ∧ l1 < mem 1 0))] mem Q
  obtain ⟨H1, H2⟩ := H
  refine x_if_eq (tgt := 32) (q := 11) dX10_tie_8 (by decide) rfl (bz_inr _) (fun hB => ?_) (fun hB => ?_)
  · have H := H1 (bz_0.mp hB)
    refine x_aloadn (q := 33) 0 rfl rfl rfl dX10_tie_32 rfl ?_
    refine x_ldc (q := 35) (z := (-1000001)) cn_X10_83 (by decide) dX10_tie_33 rfl ?_
    obtain ⟨m4, em4⟩ : ∃ m9 : Mem, m9 = refM mem (-1000001) := ⟨_, rfl⟩
    have H := H m4 em4
    refine x_callV (q := 38) (d := d - 1) (as := [vI (-1000001)]) (st := []) dX10_tie_35 rfl mv_X10_84 sh_0 rfl rfl rfl (by exact Nat.le_of_ble_eq_true rfl) ⟨by show _ ≤ d; omega, by show _ ≤ 40 * d; omega⟩ ⟨Nat.le_refl _, Nat.le_refl _⟩ (ct_refuse (by omega) (by decide) (by decide) ?_)
    rw [← em4]
    show E_X10_tie G d 38 [(0, vR 0), (1, vI l1), (2, vI l2), (3, vI l3)] [vI (-1000001)] m4 Q
    exact x_iret rfl dX10_tie_38 H
  · have H := H2 (Classical.byContradiction (fun z => hB (bz_0.mpr z)))
    refine x_aloadn (q := 12) 0 rfl rfl rfl dX10_tie_11 rfl ?_
    refine x_getr (q := 15) dX10_tie_12 rfl fa_X10_12 sh_0 rfl ?_
    refine x_iloadn (q := 16) 2 rfl rfl dX10_tie_15 rfl ?_
    obtain ⟨s5, H⟩ := H
    refine x_callV (q := 19) (d := d - 1) (as := [vI l2]) (st := []) dX10_tie_16 rfl mv_X10_97 sh_1 rfl rfl rfl (by exact Nat.le_of_ble_eq_true rfl) ⟨by show _ ≤ d; omega, by show _ ≤ 40 * d; omega⟩ ⟨Nat.le_refl _, Nat.le_refl _⟩ (ct_has (by decide) s5 ?_)
    show E_X10_tie G d 19 [(0, vR 0), (1, vI l1), (2, vI l2), (3, vI l3)] [vI (bz (0 ≤ l2 ∧ l2 < mem 1 0))] mem Q
    obtain ⟨H1, H2⟩ := H
    refine x_if_eq (tgt := 32) (q := 22) dX10_tie_19 (by decide) rfl (bz_inr _) (fun hB => ?_) (fun hB => ?_)
    · have H := H1 (bz_0.mp hB)
      refine x_aloadn (q := 33) 0 rfl rfl rfl dX10_tie_32 rfl ?_
      refine x_ldc (q := 35) (z := (-1000001)) cn_X10_83 (by decide) dX10_tie_33 rfl ?_
      obtain ⟨m8, em8⟩ : ∃ m9 : Mem, m9 = refM mem (-1000001) := ⟨_, rfl⟩
      have H := H m8 em8
      refine x_callV (q := 38) (d := d - 1) (as := [vI (-1000001)]) (st := []) dX10_tie_35 rfl mv_X10_84 sh_0 rfl rfl rfl (by exact Nat.le_of_ble_eq_true rfl) ⟨by show _ ≤ d; omega, by show _ ≤ 40 * d; omega⟩ ⟨Nat.le_refl _, Nat.le_refl _⟩ (ct_refuse (by omega) (by decide) (by decide) ?_)
      rw [← em8]
      show E_X10_tie G d 38 [(0, vR 0), (1, vI l1), (2, vI l2), (3, vI l3)] [vI (-1000001)] m8 Q
      exact x_iret rfl dX10_tie_38 H
    · have H := H2 (Classical.byContradiction (fun z => hB (bz_0.mpr z)))
      refine x_iloadn (q := 23) 3 rfl rfl dX10_tie_22 rfl ?_
      refine x_iconst (q := 24) dX10_tie_23 rfl ?_
      refine x_bipush (q := 26) rfl dX10_tie_24 rfl ?_
      obtain ⟨s9, H⟩ := H
      refine x_callS (q := 29) (d := d - 1) (as := [vI l3, vI 0, vI 99]) (st := []) dX10_tie_26 rfl ms_X10_79 rfl rfl (by exact Nat.le_of_ble_eq_true rfl) ⟨by show _ ≤ d; omega, by show _ ≤ 40 * d; omega⟩ ⟨Nat.le_refl _, Nat.le_refl _⟩ (ct_outside s9 (by decide) (by decide) ?_)
      show E_X10_tie G d 29 [(0, vR 0), (1, vI l1), (2, vI l2), (3, vI l3)] [vI (bz (l3 < 0 ∨ 99 < l3))] mem Q
      obtain ⟨H1, H2⟩ := H
      refine x_if_eq (tgt := 39) (q := 32) dX10_tie_29 (by decide) rfl (bz_inr _) (fun hB => ?_) (fun hB => ?_)
      · have H := H1 (bz_0.mp hB)
        refine x_iloadn (q := 40) 1 rfl rfl dX10_tie_39 rfl ?_
        refine x_iloadn (q := 41) 2 rfl rfl dX10_tie_40 rfl ?_
        obtain ⟨H1, H2⟩ := H
        refine x_icmp_ne (tgt := 51) (q := 44) dX10_tie_41 (by decide) rfl s1 s5 (fun hB => ?_) (fun hB => ?_)
        · have H := H1 (hB)
          refine x_aloadn (q := 52) 0 rfl rfl rfl dX10_tie_51 rfl ?_
          refine x_getr (q := 55) dX10_tie_52 rfl fa_X10_12 sh_0 rfl ?_
          refine x_iloadn (q := 56) 1 rfl rfl dX10_tie_55 rfl ?_
          refine x_iloadn (q := 57) 2 rfl rfl dX10_tie_56 rfl ?_
          refine x_iloadn (q := 58) 3 rfl rfl dX10_tie_57 rfl ?_
          obtain ⟨⟨s14, s15, s16, s17⟩, H⟩ := H
          obtain ⟨m18, em18⟩ : ∃ m9 : Mem, m9 = setTieM mem 1 l1 l2 l3 := ⟨_, rfl⟩
          have H := H m18 em18
          refine x_callV (q := 61) (d := d - 1) (as := [vI l1, vI l2, vI l3]) (st := []) dX10_tie_58 rfl mv_X10_127 sh_1 rfl rfl rfl (by exact Nat.le_of_ble_eq_true rfl) ⟨by show _ ≤ d; omega, by show _ ≤ 40 * d; omega⟩ ⟨Nat.le_refl _, Nat.le_refl _⟩ (ct_setTie (by decide) (by omega) s14 s15 s16 s17 s9 ?_)
          rw [← em18]
          show E_X10_tie G d 61 [(0, vR 0), (1, vI l1), (2, vI l2), (3, vI l3)] [vI (mem 6 (l1 * 12 + l2))] m18 Q
          exact x_iret rfl dX10_tie_61 H
        · have H := H2 (hB)
          refine x_aloadn (q := 45) 0 rfl rfl rfl dX10_tie_44 rfl ?_
          refine x_ldc (q := 47) (z := (-1000003)) cn_X10_126 (by decide) dX10_tie_45 rfl ?_
          obtain ⟨m19, em19⟩ : ∃ m9 : Mem, m9 = refM mem (-1000003) := ⟨_, rfl⟩
          have H := H m19 em19
          refine x_callV (q := 50) (d := d - 1) (as := [vI (-1000003)]) (st := []) dX10_tie_47 rfl mv_X10_84 sh_0 rfl rfl rfl (by exact Nat.le_of_ble_eq_true rfl) ⟨by show _ ≤ d; omega, by show _ ≤ 40 * d; omega⟩ ⟨Nat.le_refl _, Nat.le_refl _⟩ (ct_refuse (by omega) (by decide) (by decide) ?_)
          rw [← em19]
          show E_X10_tie G d 50 [(0, vR 0), (1, vI l1), (2, vI l2), (3, vI l3)] [vI (-1000003)] m19 Q
          exact x_iret rfl dX10_tie_50 H
      · have H := H2 (Classical.byContradiction (fun z => hB (bz_0.mpr z)))
        refine x_aloadn (q := 33) 0 rfl rfl rfl dX10_tie_32 rfl ?_
        refine x_ldc (q := 35) (z := (-1000001)) cn_X10_83 (by decide) dX10_tie_33 rfl ?_
        obtain ⟨m20, em20⟩ : ∃ m9 : Mem, m9 = refM mem (-1000001) := ⟨_, rfl⟩
        have H := H m20 em20
        refine x_callV (q := 38) (d := d - 1) (as := [vI (-1000001)]) (st := []) dX10_tie_35 rfl mv_X10_84 sh_0 rfl rfl rfl (by exact Nat.le_of_ble_eq_true rfl) ⟨by show _ ≤ d; omega, by show _ ≤ 40 * d; omega⟩ ⟨Nat.le_refl _, Nat.le_refl _⟩ (ct_refuse (by omega) (by decide) (by decide) ?_)
        rw [← em20]
        show E_X10_tie G d 38 [(0, vR 0), (1, vI l1), (2, vI l2), (3, vI l3)] [vI (-1000001)] m20 Q
        exact x_iret rfl dX10_tie_38 H
set_option maxRecDepth 20000 in
set_option maxHeartbeats 4000000 in
theorem B_X10_say {G : GT} {d : Nat} {l1 : Int} {l2 : Int} {l3 : Int} {mem : Mem} {Q : Option AV → Mem → Prop} (hd : 2 ≤ d) (H : (inr l1 ∧ inr l2) ∧ ((mem 1 0 ≤ 12) ∧ (((objS mem 1 l1 l2 = 0) → ((inr l3) ∧ ((0 ≤ mem 1 6 ∧ mem 1 6 < 60) ∧ (∀ m9 : Mem, m9 = addSyM mem 1 l1 l2 l3 → (Q (some (vI (mem 1 6))) m9))))) ∧ (¬ (objS mem 1 l1 l2 = 0) → ((-1000006 ≤ objS mem 1 l1 l2 ∧ objS mem 1 l1 l2 ≤ -1000001) ∧ (∀ m12 : Mem, m12 = refM mem (objS mem 1 l1 l2) → (Q (some (vI (objS mem 1 l1 l2))) m12))))))) : C_X10_say G d [vR 0, vI l1, vI l2, vI l3] mem Q := by
  refine Ct_of_Ex (by decide +kernel) (by exact Nat.le_of_ble_eq_true rfl) (ls := [(0, vR 0), (1, vI l1), (2, vI l2), (3, vI l3)]) rfl ?_
  show E_X10_say G d 0 [(0, vR 0), (1, vI l1), (2, vI l2), (3, vI l3)] [] mem Q
  refine x_aloadn (q := 1) 0 rfl rfl rfl dX10_say_0 rfl ?_
  refine x_getr (q := 4) dX10_say_1 rfl fa_X10_12 sh_0 rfl ?_
  refine x_iloadn (q := 5) 1 rfl rfl dX10_say_4 rfl ?_
  refine x_iloadn (q := 6) 2 rfl rfl dX10_say_5 rfl ?_
  obtain ⟨⟨s1, s2⟩, H⟩ := H
  obtain ⟨s3, H⟩ := H
  refine x_callV (q := 9) (d := d - 1) (as := [vI l1, vI l2]) (st := []) dX10_say_6 rfl mv_X10_130 sh_1 rfl rfl rfl (by exact Nat.le_of_ble_eq_true rfl) ⟨by show _ ≤ d; omega, by show _ ≤ 40 * d; omega⟩ ⟨Nat.le_refl _, Nat.le_refl _⟩ (ct_objS (by decide) (by omega) s1 s2 s3 ?_)
  show E_X10_say G d 9 [(0, vR 0), (1, vI l1), (2, vI l2), (3, vI l3)] [vI (objS mem 1 l1 l2)] mem Q
  refine x_istore (q := 11) (ls' := [(4, vI (objS mem 1 l1 l2)), (0, vR 0), (1, vI l1), (2, vI l2), (3, vI l3)]) (by decide) rfl dX10_say_9 rfl ?_
  refine x_iload (q := 13) 0 rfl dX10_say_11 rfl ?_
  obtain ⟨H1, H2⟩ := H
  refine x_if_eq (tgt := 23) (q := 16) dX10_say_13 (by decide) rfl (objS_inr _ _ _ _) (fun hB => ?_) (fun hB => ?_)
  · have H := H1 (hB)
    refine x_aloadn (q := 24) 1 rfl rfl rfl dX10_say_23 rfl ?_
    refine x_getr (q := 27) dX10_say_24 rfl fa_X10_12 sh_0 rfl ?_
    refine x_iloadn (q := 28) 2 rfl rfl dX10_say_27 rfl ?_
    refine x_iloadn (q := 29) 3 rfl rfl dX10_say_28 rfl ?_
    refine x_iloadn (q := 30) 4 rfl rfl dX10_say_29 rfl ?_
    obtain ⟨s6, H⟩ := H
    obtain ⟨⟨s7, s8⟩, H⟩ := H
    obtain ⟨m9, em9⟩ : ∃ m9 : Mem, m9 = addSyM mem 1 l1 l2 l3 := ⟨_, rfl⟩
    have H := H m9 em9
    refine x_callV (q := 33) (d := d - 1) (as := [vI l1, vI l2, vI l3]) (st := []) dX10_say_30 rfl mv_X10_134 sh_1 rfl rfl rfl (by exact Nat.le_of_ble_eq_true rfl) ⟨by show _ ≤ d; omega, by show _ ≤ 40 * d; omega⟩ ⟨Nat.le_refl _, Nat.le_refl _⟩ (ct_addSaying (by decide) s7 s8 s1 s2 s6 ?_)
    rw [← em9]
    show E_X10_say G d 33 [(4, vI (objS mem 1 l1 l2)), (0, vR 0), (1, vI l1), (2, vI l2), (3, vI l3)] [vI (mem 1 6)] m9 Q
    exact x_iret rfl dX10_say_33 H
  · have H := H2 (hB)
    refine x_aloadn (q := 17) 1 rfl rfl rfl dX10_say_16 rfl ?_
    refine x_iload (q := 19) 0 rfl dX10_say_17 rfl ?_
    obtain ⟨⟨s10, s11⟩, H⟩ := H
    obtain ⟨m12, em12⟩ : ∃ m9 : Mem, m9 = refM mem (objS mem 1 l1 l2) := ⟨_, rfl⟩
    have H := H m12 em12
    refine x_callV (q := 22) (d := d - 1) (as := [vI (objS mem 1 l1 l2)]) (st := []) dX10_say_19 rfl mv_X10_84 sh_0 rfl rfl rfl (by exact Nat.le_of_ble_eq_true rfl) ⟨by show _ ≤ d; omega, by show _ ≤ 40 * d; omega⟩ ⟨Nat.le_refl _, Nat.le_refl _⟩ (ct_refuse (by omega) s10 s11 ?_)
    rw [← em12]
    show E_X10_say G d 22 [(4, vI (objS mem 1 l1 l2)), (0, vR 0), (1, vI l1), (2, vI l2), (3, vI l3)] [vI (objS mem 1 l1 l2)] m12 Q
    exact x_iret rfl dX10_say_22 H
set_option maxRecDepth 20000 in
set_option maxHeartbeats 4000000 in
theorem B_X10_sayingIs {G : GT} {d : Nat} {l1 : Int} {l2 : Int} {mem : Mem} {Q : Option AV → Mem → Prop} (hd : 2 ≤ d) (H : (inr l1) ∧ ((¬ (0 ≤ l1 ∧ l1 < mem 1 6) → (∀ m4 : Mem, m4 = refM mem (-1000001) → (Q (some (vI (-1000001))) m4))) ∧ ((0 ≤ l1 ∧ l1 < mem 1 6) → ((inr l2) ∧ ((¬ (l2 < 0 ∨ 3 < l2) → ((l2 = 0 → ((0 ≤ l1 ∧ l1 < 60) ∧ (Q (some (vI (mem 7 l1))) mem))) ∧ (l2 = 1 → ((0 ≤ l1 ∧ l1 < 60) ∧ (Q (some (vI (mem 8 l1))) mem))) ∧ (l2 = 2 → ((¬ (land (lshr (mem 1 9) l1) 1 ≠ 0) → (Q (some (vI 0)) mem)) ∧ ((land (lshr (mem 1 9) l1) 1 ≠ 0) → (Q (some (vI 1)) mem)))) ∧ ((l2 < 0 ∨ 2 < l2) → ((¬ (land (lshr (mem 1 10) l1) 1 ≠ 0) → (Q (some (vI 0)) mem)) ∧ ((land (lshr (mem 1 10) l1) 1 ≠ 0) → (Q (some (vI 1)) mem)))))) ∧ ((l2 < 0 ∨ 3 < l2) → (∀ m18 : Mem, m18 = refM mem (-1000001) → (Q (some (vI (-1000001))) m18)))))))) : C_X10_sayingIs G d [vR 0, vI l1, vI l2] mem Q := by
  refine Ct_of_Ex (by decide +kernel) (by exact Nat.le_of_ble_eq_true rfl) (ls := [(0, vR 0), (1, vI l1), (2, vI l2)]) rfl ?_
  show E_X10_sayingIs G d 0 [(0, vR 0), (1, vI l1), (2, vI l2)] [] mem Q
  refine x_aloadn (q := 1) 0 rfl rfl rfl dX10_sayingIs_0 rfl ?_
  refine x_getr (q := 4) dX10_sayingIs_1 rfl fa_X10_12 sh_0 rfl ?_
  refine x_iloadn (q := 5) 1 rfl rfl dX10_sayingIs_4 rfl ?_
  obtain ⟨s1, H⟩ := H
  refine x_callV (q := 8) (d := d - 1) (as := [vI l1]) (st := []) dX10_sayingIs_5 rfl mv_X10_138 sh_1 rfl rfl rfl (by exact Nat.le_of_ble_eq_true rfl) ⟨by show _ ≤ d; omega, by show _ ≤ 40 * d; omega⟩ ⟨Nat.le_refl _, Nat.le_refl _⟩ (ct_hasSaying (by decide) s1 ?_)
  show E_X10_sayingIs G d 8 [(0, vR 0), (1, vI l1), (2, vI l2)] [vI (bz (0 ≤ l1 ∧ l1 < mem 1 6))] mem Q
  obtain ⟨H1, H2⟩ := H
  refine x_if_eq (tgt := 20) (q := 11) dX10_sayingIs_8 (by decide) rfl (bz_inr _) (fun hB => ?_) (fun hB => ?_)
  · have H := H1 (bz_0.mp hB)
    refine x_aloadn (q := 21) 0 rfl rfl rfl dX10_sayingIs_20 rfl ?_
    refine x_ldc (q := 23) (z := (-1000001)) cn_X10_83 (by decide) dX10_sayingIs_21 rfl ?_
    obtain ⟨m4, em4⟩ : ∃ m9 : Mem, m9 = refM mem (-1000001) := ⟨_, rfl⟩
    have H := H m4 em4
    refine x_callV (q := 26) (d := d - 1) (as := [vI (-1000001)]) (st := []) dX10_sayingIs_23 rfl mv_X10_84 sh_0 rfl rfl rfl (by exact Nat.le_of_ble_eq_true rfl) ⟨by show _ ≤ d; omega, by show _ ≤ 40 * d; omega⟩ ⟨Nat.le_refl _, Nat.le_refl _⟩ (ct_refuse (by omega) (by decide) (by decide) ?_)
    rw [← em4]
    show E_X10_sayingIs G d 26 [(0, vR 0), (1, vI l1), (2, vI l2)] [vI (-1000001)] m4 Q
    exact x_iret rfl dX10_sayingIs_26 H
  · have H := H2 (Classical.byContradiction (fun z => hB (bz_0.mpr z)))
    refine x_iloadn (q := 12) 2 rfl rfl dX10_sayingIs_11 rfl ?_
    refine x_iconst (q := 13) dX10_sayingIs_12 rfl ?_
    refine x_iconst (q := 14) dX10_sayingIs_13 rfl ?_
    obtain ⟨s5, H⟩ := H
    refine x_callS (q := 17) (d := d - 1) (as := [vI l2, vI 0, vI 3]) (st := []) dX10_sayingIs_14 rfl ms_X10_79 rfl rfl (by exact Nat.le_of_ble_eq_true rfl) ⟨by show _ ≤ d; omega, by show _ ≤ 40 * d; omega⟩ ⟨Nat.le_refl _, Nat.le_refl _⟩ (ct_outside s5 (by decide) (by decide) ?_)
    show E_X10_sayingIs G d 17 [(0, vR 0), (1, vI l1), (2, vI l2)] [vI (bz (l2 < 0 ∨ 3 < l2))] mem Q
    obtain ⟨H1, H2⟩ := H
    refine x_if_eq (tgt := 27) (q := 20) dX10_sayingIs_17 (by decide) rfl (bz_inr _) (fun hB => ?_) (fun hB => ?_)
    · have H := H1 (bz_0.mp hB)
      refine x_iloadn (q := 28) 2 rfl rfl dX10_sayingIs_27 rfl ?_
      obtain ⟨H0, H1, H2, H3⟩ := H
      rcases (show l2 = 0 ∨ l2 = 1 ∨ l2 = 2 ∨ (l2 < 0 ∨ 2 < l2) by omega) with hB | hB | hB | hB
      · have H := H0 hB
        refine x_tswIn (z := 0) (tgt := 56) dX10_sayingIs_28 hB (by decide) (by decide) (by decide) rfl (by decide) ?_
        refine x_aloadn (q := 57) 0 rfl rfl rfl dX10_sayingIs_56 rfl ?_
        refine x_getr (q := 60) dX10_sayingIs_57 rfl fa_X10_12 sh_0 rfl ?_
        refine x_getr (q := 63) dX10_sayingIs_60 rfl fa_X10_141 sh_1 rfl ?_
        refine x_iloadn (q := 64) 1 rfl rfl dX10_sayingIs_63 rfl ?_
        obtain ⟨⟨s8, s9⟩, H⟩ := H
        refine x_iald (q := 65) dX10_sayingIs_64 rfl sh_7 s8 s9 (fun r10 => ?_)
        exact x_iret rfl dX10_sayingIs_65 H
      · have H := H1 hB
        refine x_tswIn (z := 1) (tgt := 66) dX10_sayingIs_28 hB (by decide) (by decide) (by decide) rfl (by decide) ?_
        refine x_aloadn (q := 67) 0 rfl rfl rfl dX10_sayingIs_66 rfl ?_
        refine x_getr (q := 70) dX10_sayingIs_67 rfl fa_X10_12 sh_0 rfl ?_
        refine x_getr (q := 73) dX10_sayingIs_70 rfl fa_X10_144 sh_1 rfl ?_
        refine x_iloadn (q := 74) 1 rfl rfl dX10_sayingIs_73 rfl ?_
        obtain ⟨⟨s11, s12⟩, H⟩ := H
        refine x_iald (q := 75) dX10_sayingIs_74 rfl sh_8 s11 s12 (fun r13 => ?_)
        exact x_iret rfl dX10_sayingIs_75 H
      · have H := H2 hB
        refine x_tswIn (z := 2) (tgt := 76) dX10_sayingIs_28 hB (by decide) (by decide) (by decide) rfl (by decide) ?_
        refine x_aloadn (q := 77) 0 rfl rfl rfl dX10_sayingIs_76 rfl ?_
        refine x_getr (q := 80) dX10_sayingIs_77 rfl fa_X10_12 sh_0 rfl ?_
        refine x_iloadn (q := 81) 1 rfl rfl dX10_sayingIs_80 rfl ?_
        refine x_callV (q := 84) (d := d - 1) (as := [vI l1]) (st := []) dX10_sayingIs_81 rfl mv_X10_147 sh_1 rfl rfl rfl (by exact Nat.le_of_ble_eq_true rfl) ⟨by show _ ≤ d; omega, by show _ ≤ 40 * d; omega⟩ ⟨Nat.le_refl _, Nat.le_refl _⟩ (ct_saidWhole (by decide) ?_)
        show E_X10_sayingIs G d 84 [(0, vR 0), (1, vI l1), (2, vI l2)] [vI (bz (land (lshr (mem 1 9) l1) 1 ≠ 0))] mem Q
        obtain ⟨H1, H2⟩ := H
        refine x_if_eq (tgt := 91) (q := 87) dX10_sayingIs_84 (by decide) rfl (bz_inr _) (fun hB => ?_) (fun hB => ?_)
        · have H := H1 (bz_0.mp hB)
          refine x_iconst (q := 92) dX10_sayingIs_91 rfl ?_
          exact x_iret rfl dX10_sayingIs_92 H
        · have H := H2 (Classical.byContradiction (fun z => hB (bz_0.mpr z)))
          refine x_iconst (q := 88) dX10_sayingIs_87 rfl ?_
          refine x_goto (tgt := 92) dX10_sayingIs_88 (by decide) ?_
          exact x_iret rfl dX10_sayingIs_92 H
      · have H := H3 hB
        refine x_tswOut (tgt := 93) dX10_sayingIs_28 s5 hB (by decide) ?_
        refine x_aloadn (q := 94) 0 rfl rfl rfl dX10_sayingIs_93 rfl ?_
        refine x_getr (q := 97) dX10_sayingIs_94 rfl fa_X10_12 sh_0 rfl ?_
        refine x_iloadn (q := 98) 1 rfl rfl dX10_sayingIs_97 rfl ?_
        refine x_callV (q := 101) (d := d - 1) (as := [vI l1]) (st := []) dX10_sayingIs_98 rfl mv_X10_150 sh_1 rfl rfl rfl (by exact Nat.le_of_ble_eq_true rfl) ⟨by show _ ≤ d; omega, by show _ ≤ 40 * d; omega⟩ ⟨Nat.le_refl _, Nat.le_refl _⟩ (ct_isValid (by decide) ?_)
        show E_X10_sayingIs G d 101 [(0, vR 0), (1, vI l1), (2, vI l2)] [vI (bz (land (lshr (mem 1 10) l1) 1 ≠ 0))] mem Q
        obtain ⟨H1, H2⟩ := H
        refine x_if_eq (tgt := 108) (q := 104) dX10_sayingIs_101 (by decide) rfl (bz_inr _) (fun hB => ?_) (fun hB => ?_)
        · have H := H1 (bz_0.mp hB)
          refine x_iconst (q := 109) dX10_sayingIs_108 rfl ?_
          exact x_iret rfl dX10_sayingIs_109 H
        · have H := H2 (Classical.byContradiction (fun z => hB (bz_0.mpr z)))
          refine x_iconst (q := 105) dX10_sayingIs_104 rfl ?_
          refine x_goto (tgt := 109) dX10_sayingIs_105 (by decide) ?_
          exact x_iret rfl dX10_sayingIs_109 H
    · have H := H2 (Classical.byContradiction (fun z => hB (bz_0.mpr z)))
      refine x_aloadn (q := 21) 0 rfl rfl rfl dX10_sayingIs_20 rfl ?_
      refine x_ldc (q := 23) (z := (-1000001)) cn_X10_83 (by decide) dX10_sayingIs_21 rfl ?_
      obtain ⟨m18, em18⟩ : ∃ m9 : Mem, m9 = refM mem (-1000001) := ⟨_, rfl⟩
      have H := H m18 em18
      refine x_callV (q := 26) (d := d - 1) (as := [vI (-1000001)]) (st := []) dX10_sayingIs_23 rfl mv_X10_84 sh_0 rfl rfl rfl (by exact Nat.le_of_ble_eq_true rfl) ⟨by show _ ≤ d; omega, by show _ ≤ 40 * d; omega⟩ ⟨Nat.le_refl _, Nat.le_refl _⟩ (ct_refuse (by omega) (by decide) (by decide) ?_)
      rw [← em18]
      show E_X10_sayingIs G d 26 [(0, vR 0), (1, vI l1), (2, vI l2)] [vI (-1000001)] m18 Q
      exact x_iret rfl dX10_sayingIs_26 H
set_option maxRecDepth 20000 in
set_option maxHeartbeats 4000000 in
theorem B_X10_unsay {G : GT} {d : Nat} {l1 : Int} {mem : Mem} {Q : Option AV → Mem → Prop} (hd : 2 ≤ d) (H : (inr l1) ∧ (((0 ≤ l1 ∧ l1 < mem 1 6) → (((land (lshr (mem 1 10) l1) 1 ≠ 0) → (∀ m6 : Mem, m6 = silM mem 1 l1 → (Q (some (vI 1)) m6))) ∧ (¬ (land (lshr (mem 1 10) l1) 1 ≠ 0) → (∀ m7 : Mem, m7 = refM mem (-1000003) → (Q (some (vI (-1000003))) m7))))) ∧ (¬ (0 ≤ l1 ∧ l1 < mem 1 6) → (∀ m8 : Mem, m8 = refM mem (-1000001) → (Q (some (vI (-1000001))) m8))))) : C_X10_unsay G d [vR 0, vI l1] mem Q := by
  refine Ct_of_Ex (by decide +kernel) (by exact Nat.le_of_ble_eq_true rfl) (ls := [(0, vR 0), (1, vI l1)]) rfl ?_
  show E_X10_unsay G d 0 [(0, vR 0), (1, vI l1)] [] mem Q
  refine x_aloadn (q := 1) 0 rfl rfl rfl dX10_unsay_0 rfl ?_
  refine x_getr (q := 4) dX10_unsay_1 rfl fa_X10_12 sh_0 rfl ?_
  refine x_iloadn (q := 5) 1 rfl rfl dX10_unsay_4 rfl ?_
  obtain ⟨s1, H⟩ := H
  refine x_callV (q := 8) (d := d - 1) (as := [vI l1]) (st := []) dX10_unsay_5 rfl mv_X10_138 sh_1 rfl rfl rfl (by exact Nat.le_of_ble_eq_true rfl) ⟨by show _ ≤ d; omega, by show _ ≤ 40 * d; omega⟩ ⟨Nat.le_refl _, Nat.le_refl _⟩ (ct_hasSaying (by decide) s1 ?_)
  show E_X10_unsay G d 8 [(0, vR 0), (1, vI l1)] [vI (bz (0 ≤ l1 ∧ l1 < mem 1 6))] mem Q
  obtain ⟨H1, H2⟩ := H
  refine x_if_ne (tgt := 18) (q := 11) dX10_unsay_8 (by decide) rfl (bz_inr _) (fun hB => ?_) (fun hB => ?_)
  · have H := H1 (bz_n0.mp hB)
    refine x_aloadn (q := 19) 0 rfl rfl rfl dX10_unsay_18 rfl ?_
    refine x_getr (q := 22) dX10_unsay_19 rfl fa_X10_12 sh_0 rfl ?_
    refine x_iloadn (q := 23) 1 rfl rfl dX10_unsay_22 rfl ?_
    refine x_callV (q := 26) (d := d - 1) (as := [vI l1]) (st := []) dX10_unsay_23 rfl mv_X10_150 sh_1 rfl rfl rfl (by exact Nat.le_of_ble_eq_true rfl) ⟨by show _ ≤ d; omega, by show _ ≤ 40 * d; omega⟩ ⟨Nat.le_refl _, Nat.le_refl _⟩ (ct_isValid (by decide) ?_)
    show E_X10_unsay G d 26 [(0, vR 0), (1, vI l1)] [vI (bz (land (lshr (mem 1 10) l1) 1 ≠ 0))] mem Q
    obtain ⟨H1, H2⟩ := H
    refine x_if_ne (tgt := 36) (q := 29) dX10_unsay_26 (by decide) rfl (bz_inr _) (fun hB => ?_) (fun hB => ?_)
    · have H := H1 (bz_n0.mp hB)
      refine x_aloadn (q := 37) 0 rfl rfl rfl dX10_unsay_36 rfl ?_
      refine x_getr (q := 40) dX10_unsay_37 rfl fa_X10_12 sh_0 rfl ?_
      refine x_iloadn (q := 41) 1 rfl rfl dX10_unsay_40 rfl ?_
      obtain ⟨m6, em6⟩ : ∃ m9 : Mem, m9 = silM mem 1 l1 := ⟨_, rfl⟩
      have H := H m6 em6
      refine x_callV (q := 44) (d := d - 1) (as := [vI l1]) (st := []) dX10_unsay_41 rfl mv_X10_153 sh_1 rfl rfl rfl (by exact Nat.le_of_ble_eq_true rfl) ⟨by show _ ≤ d; omega, by show _ ≤ 40 * d; omega⟩ ⟨Nat.le_refl _, Nat.le_refl _⟩ (ct_silence (by decide) ?_)
      rw [← em6]
      show E_X10_unsay G d 44 [(0, vR 0), (1, vI l1)] [] m6 Q
      refine x_iconst (q := 45) dX10_unsay_44 rfl ?_
      exact x_iret rfl dX10_unsay_45 H
    · have H := H2 (fun z => hB (bz_n0.mpr z))
      refine x_aloadn (q := 30) 0 rfl rfl rfl dX10_unsay_29 rfl ?_
      refine x_ldc (q := 32) (z := (-1000003)) cn_X10_126 (by decide) dX10_unsay_30 rfl ?_
      obtain ⟨m7, em7⟩ : ∃ m9 : Mem, m9 = refM mem (-1000003) := ⟨_, rfl⟩
      have H := H m7 em7
      refine x_callV (q := 35) (d := d - 1) (as := [vI (-1000003)]) (st := []) dX10_unsay_32 rfl mv_X10_84 sh_0 rfl rfl rfl (by exact Nat.le_of_ble_eq_true rfl) ⟨by show _ ≤ d; omega, by show _ ≤ 40 * d; omega⟩ ⟨Nat.le_refl _, Nat.le_refl _⟩ (ct_refuse (by omega) (by decide) (by decide) ?_)
      rw [← em7]
      show E_X10_unsay G d 35 [(0, vR 0), (1, vI l1)] [vI (-1000003)] m7 Q
      exact x_iret rfl dX10_unsay_35 H
  · have H := H2 (fun z => hB (bz_n0.mpr z))
    refine x_aloadn (q := 12) 0 rfl rfl rfl dX10_unsay_11 rfl ?_
    refine x_ldc (q := 14) (z := (-1000001)) cn_X10_83 (by decide) dX10_unsay_12 rfl ?_
    obtain ⟨m8, em8⟩ : ∃ m9 : Mem, m9 = refM mem (-1000001) := ⟨_, rfl⟩
    have H := H m8 em8
    refine x_callV (q := 17) (d := d - 1) (as := [vI (-1000001)]) (st := []) dX10_unsay_14 rfl mv_X10_84 sh_0 rfl rfl rfl (by exact Nat.le_of_ble_eq_true rfl) ⟨by show _ ≤ d; omega, by show _ ≤ 40 * d; omega⟩ ⟨Nat.le_refl _, Nat.le_refl _⟩ (ct_refuse (by omega) (by decide) (by decide) ?_)
    rw [← em8]
    show E_X10_unsay G d 17 [(0, vR 0), (1, vI l1)] [vI (-1000001)] m8 Q
    exact x_iret rfl dX10_unsay_17 H
set_option maxRecDepth 20000 in
set_option maxHeartbeats 4000000 in
theorem B_X10_most {G : GT} {d : Nat} {l1 : Int} {mem : Mem} {Q : Option AV → Mem → Prop} (hd : 2 ≤ d) (H : (inr l1) ∧ ((¬ (l1 < 0 ∨ 12 < l1) → (∀ m4 : Mem, m4 = upM (upM mem 1 11 l1) 1 16 1 → (Q (some (vI (mem 1 11))) m4))) ∧ ((l1 < 0 ∨ 12 < l1) → (∀ m5 : Mem, m5 = refM mem (-1000001) → (Q (some (vI (-1000001))) m5))))) : C_X10_most G d [vR 0, vI l1] mem Q := by
  refine Ct_of_Ex (by decide +kernel) (by exact Nat.le_of_ble_eq_true rfl) (ls := [(0, vR 0), (1, vI l1)]) rfl ?_
  show E_X10_most G d 0 [(0, vR 0), (1, vI l1)] [] mem Q
  refine x_iloadn (q := 1) 1 rfl rfl dX10_most_0 rfl ?_
  refine x_iconst (q := 2) dX10_most_1 rfl ?_
  refine x_bipush (q := 4) rfl dX10_most_2 rfl ?_
  obtain ⟨s1, H⟩ := H
  refine x_callS (q := 7) (d := d - 1) (as := [vI l1, vI 0, vI 12]) (st := []) dX10_most_4 rfl ms_X10_79 rfl rfl (by exact Nat.le_of_ble_eq_true rfl) ⟨by show _ ≤ d; omega, by show _ ≤ 40 * d; omega⟩ ⟨Nat.le_refl _, Nat.le_refl _⟩ (ct_outside s1 (by decide) (by decide) ?_)
  show E_X10_most G d 7 [(0, vR 0), (1, vI l1)] [vI (bz (l1 < 0 ∨ 12 < l1))] mem Q
  obtain ⟨H1, H2⟩ := H
  refine x_if_eq (tgt := 17) (q := 10) dX10_most_7 (by decide) rfl (bz_inr _) (fun hB => ?_) (fun hB => ?_)
  · have H := H1 (bz_0.mp hB)
    refine x_aloadn (q := 18) 0 rfl rfl rfl dX10_most_17 rfl ?_
    refine x_getr (q := 21) dX10_most_18 rfl fa_X10_12 sh_0 rfl ?_
    refine x_iloadn (q := 22) 1 rfl rfl dX10_most_21 rfl ?_
    obtain ⟨m4, em4⟩ : ∃ m9 : Mem, m9 = upM (upM mem 1 11 l1) 1 16 1 := ⟨_, rfl⟩
    have H := H m4 em4
    refine x_callV (q := 25) (d := d - 1) (as := [vI l1]) (st := []) dX10_most_22 rfl mv_X10_157 sh_1 rfl rfl rfl (by exact Nat.le_of_ble_eq_true rfl) ⟨by show _ ≤ d; omega, by show _ ≤ 40 * d; omega⟩ ⟨Nat.le_refl _, Nat.le_refl _⟩ (ct_setMost (by decide) s1 ?_)
    rw [← em4]
    show E_X10_most G d 25 [(0, vR 0), (1, vI l1)] [vI (mem 1 11)] m4 Q
    exact x_iret rfl dX10_most_25 H
  · have H := H2 (Classical.byContradiction (fun z => hB (bz_0.mpr z)))
    refine x_aloadn (q := 11) 0 rfl rfl rfl dX10_most_10 rfl ?_
    refine x_ldc (q := 13) (z := (-1000001)) cn_X10_83 (by decide) dX10_most_11 rfl ?_
    obtain ⟨m5, em5⟩ : ∃ m9 : Mem, m9 = refM mem (-1000001) := ⟨_, rfl⟩
    have H := H m5 em5
    refine x_callV (q := 16) (d := d - 1) (as := [vI (-1000001)]) (st := []) dX10_most_13 rfl mv_X10_84 sh_0 rfl rfl rfl (by exact Nat.le_of_ble_eq_true rfl) ⟨by show _ ≤ d; omega, by show _ ≤ 40 * d; omega⟩ ⟨Nat.le_refl _, Nat.le_refl _⟩ (ct_refuse (by omega) (by decide) (by decide) ?_)
    rw [← em5]
    show E_X10_most G d 16 [(0, vR 0), (1, vI l1)] [vI (-1000001)] m5 Q
    exact x_iret rfl dX10_most_16 H
set_option maxRecDepth 20000 in
set_option maxHeartbeats 4000000 in
theorem B_X10_feed {G : GT} {d : Nat} {l1 : Int} {l3 : Int} {mem : Mem} {Q : Option AV → Mem → Prop} (hd : 2 ≤ d) (H : (inr l3) ∧ ((¬ (l3 < 1 ∨ 8 < l3) → ((inr (80 - (mem 1 13))) ∧ (((l3 ≤ 80 - (mem 1 13)) → (C_X2_addToTape G (d - 1) [vR 1, vL l1, vI l3] mem (fun r9 m8 => ∃ z9 : Int, r9 = some (vI z9) ∧ (Q (some (vI z9)) m8)))) ∧ (¬ (l3 ≤ 80 - (mem 1 13)) → (∀ m10 : Mem, m10 = refM mem (-1000004) → (Q (some (vI (-1000004))) m10)))))) ∧ ((l3 < 1 ∨ 8 < l3) → (∀ m11 : Mem, m11 = refM mem (-1000001) → (Q (some (vI (-1000001))) m11))))) : C_X10_feed G d [vR 0, vL l1, vI l3] mem Q := by
  refine Ct_of_Ex (by decide +kernel) (by exact Nat.le_of_ble_eq_true rfl) (ls := [(0, vR 0), (1, vL l1), (3, vI l3)]) rfl ?_
  show E_X10_feed G d 0 [(0, vR 0), (1, vL l1), (3, vI l3)] [] mem Q
  refine x_iloadn (q := 1) 2 rfl rfl dX10_feed_0 rfl ?_
  refine x_iconst (q := 2) dX10_feed_1 rfl ?_
  refine x_bipush (q := 4) rfl dX10_feed_2 rfl ?_
  obtain ⟨s1, H⟩ := H
  refine x_callS (q := 7) (d := d - 1) (as := [vI l3, vI 1, vI 8]) (st := []) dX10_feed_4 rfl ms_X10_79 rfl rfl (by exact Nat.le_of_ble_eq_true rfl) ⟨by show _ ≤ d; omega, by show _ ≤ 40 * d; omega⟩ ⟨Nat.le_refl _, Nat.le_refl _⟩ (ct_outside s1 (by decide) (by decide) ?_)
  show E_X10_feed G d 7 [(0, vR 0), (1, vL l1), (3, vI l3)] [vI (bz (l3 < 1 ∨ 8 < l3))] mem Q
  obtain ⟨H1, H2⟩ := H
  refine x_if_eq (tgt := 17) (q := 10) dX10_feed_7 (by decide) rfl (bz_inr _) (fun hB => ?_) (fun hB => ?_)
  · have H := H1 (bz_0.mp hB)
    refine x_iloadn (q := 18) 2 rfl rfl dX10_feed_17 rfl ?_
    refine x_bipush (q := 20) rfl dX10_feed_18 rfl ?_
    refine x_aloadn (q := 21) 0 rfl rfl rfl dX10_feed_20 rfl ?_
    refine x_getr (q := 24) dX10_feed_21 rfl fa_X10_12 sh_0 rfl ?_
    refine x_geti (q := 27) (ji := 13) dX10_feed_24 rfl fa_X10_160 sh_1 rfl rfl (fun r4 => ?_)
    refine x_isub (q := 28) dX10_feed_27 rfl ?_
    obtain ⟨s5, H⟩ := H
    obtain ⟨H1, H2⟩ := H
    refine x_icmp_le (tgt := 38) (q := 31) dX10_feed_28 (by decide) rfl s1 s5 (fun hB => ?_) (fun hB => ?_)
    · have H := H1 (hB)
      refine x_aloadn (q := 39) 0 rfl rfl rfl dX10_feed_38 rfl ?_
      refine x_getr (q := 42) dX10_feed_39 rfl fa_X10_12 sh_0 rfl ?_
      refine x_lloadn (q := 43) 1 rfl rfl dX10_feed_42 rfl ?_
      refine x_iloadn (q := 44) 2 rfl rfl dX10_feed_43 rfl ?_
      refine x_callV (q := 47) (d := d - 1) (as := [vL l1, vI l3]) (st := []) dX10_feed_44 rfl mv_X10_164 sh_1 rfl rfl rfl (by exact Nat.le_of_ble_eq_true rfl) ⟨by show _ ≤ d; omega, by show _ ≤ 40 * d; omega⟩ ⟨Nat.le_refl _, Nat.le_refl _⟩ (Ct.mono H (fun r9 m8 H => ?_))
      obtain ⟨z9, rfl, H⟩ := H
      show E_X10_feed G d 47 [(0, vR 0), (1, vL l1), (3, vI l3)] [vI z9] m8 Q
      exact x_iret rfl dX10_feed_47 H
    · have H := H2 (hB)
      refine x_aloadn (q := 32) 0 rfl rfl rfl dX10_feed_31 rfl ?_
      refine x_ldc (q := 34) (z := (-1000004)) cn_X10_92 (by decide) dX10_feed_32 rfl ?_
      obtain ⟨m10, em10⟩ : ∃ m9 : Mem, m9 = refM mem (-1000004) := ⟨_, rfl⟩
      have H := H m10 em10
      refine x_callV (q := 37) (d := d - 1) (as := [vI (-1000004)]) (st := []) dX10_feed_34 rfl mv_X10_84 sh_0 rfl rfl rfl (by exact Nat.le_of_ble_eq_true rfl) ⟨by show _ ≤ d; omega, by show _ ≤ 40 * d; omega⟩ ⟨Nat.le_refl _, Nat.le_refl _⟩ (ct_refuse (by omega) (by decide) (by decide) ?_)
      rw [← em10]
      show E_X10_feed G d 37 [(0, vR 0), (1, vL l1), (3, vI l3)] [vI (-1000004)] m10 Q
      exact x_iret rfl dX10_feed_37 H
  · have H := H2 (Classical.byContradiction (fun z => hB (bz_0.mpr z)))
    refine x_aloadn (q := 11) 0 rfl rfl rfl dX10_feed_10 rfl ?_
    refine x_ldc (q := 13) (z := (-1000001)) cn_X10_83 (by decide) dX10_feed_11 rfl ?_
    obtain ⟨m11, em11⟩ : ∃ m9 : Mem, m9 = refM mem (-1000001) := ⟨_, rfl⟩
    have H := H m11 em11
    refine x_callV (q := 16) (d := d - 1) (as := [vI (-1000001)]) (st := []) dX10_feed_13 rfl mv_X10_84 sh_0 rfl rfl rfl (by exact Nat.le_of_ble_eq_true rfl) ⟨by show _ ≤ d; omega, by show _ ≤ 40 * d; omega⟩ ⟨Nat.le_refl _, Nat.le_refl _⟩ (ct_refuse (by omega) (by decide) (by decide) ?_)
    rw [← em11]
    show E_X10_feed G d 16 [(0, vR 0), (1, vL l1), (3, vI l3)] [vI (-1000001)] m11 Q
    exact x_iret rfl dX10_feed_16 H
set_option maxRecDepth 20000 in
set_option maxHeartbeats 4000000 in
theorem B_X10_tell {G : GT} {d : Nat} {l1 : Int} {mem : Mem} {Q : Option AV → Mem → Prop} (hd : 2 ≤ d) (H : ((mem 1 15 < 48) → ((inr l1) ∧ ((0 ≤ mem 1 15 ∧ mem 1 15 < 48) ∧ (∀ m7 : Mem, m7 = upM (upM mem 10 (mem 1 15) l1) 1 15 (mem 1 15 + 1) → (Q (some (vI (mem 1 15 + 1))) m7))))) ∧ (¬ (mem 1 15 < 48) → (∀ m8 : Mem, m8 = refM mem (-1000004) → (Q (some (vI (-1000004))) m8)))) : C_X10_tell G d [vR 0, vI l1] mem Q := by
  refine Ct_of_Ex (by decide +kernel) (by exact Nat.le_of_ble_eq_true rfl) (ls := [(0, vR 0), (1, vI l1)]) rfl ?_
  show E_X10_tell G d 0 [(0, vR 0), (1, vI l1)] [] mem Q
  refine x_aloadn (q := 1) 0 rfl rfl rfl dX10_tell_0 rfl ?_
  refine x_getr (q := 4) dX10_tell_1 rfl fa_X10_12 sh_0 rfl ?_
  refine x_geti (q := 7) (ji := 15) dX10_tell_4 rfl fa_X10_333 sh_1 rfl rfl (fun r1 => ?_)
  refine x_bipush (q := 9) rfl dX10_tell_7 rfl ?_
  obtain ⟨H1, H2⟩ := H
  refine x_icmp_lt (tgt := 19) (q := 12) dX10_tell_9 (by decide) rfl r1 (by decide) (fun hB => ?_) (fun hB => ?_)
  · have H := H1 (hB)
    refine x_aloadn (q := 20) 0 rfl rfl rfl dX10_tell_19 rfl ?_
    refine x_getr (q := 23) dX10_tell_20 rfl fa_X10_12 sh_0 rfl ?_
    refine x_iloadn (q := 24) 1 rfl rfl dX10_tell_23 rfl ?_
    obtain ⟨s4, H⟩ := H
    obtain ⟨⟨s5, s6⟩, H⟩ := H
    obtain ⟨m7, em7⟩ : ∃ m9 : Mem, m9 = upM (upM mem 10 (mem 1 15) l1) 1 15 (mem 1 15 + 1) := ⟨_, rfl⟩
    have H := H m7 em7
    refine x_callV (q := 27) (d := d - 1) (as := [vI l1]) (st := []) dX10_tell_24 rfl mv_X10_336 sh_1 rfl rfl rfl (by exact Nat.le_of_ble_eq_true rfl) ⟨by show _ ≤ d; omega, by show _ ≤ 40 * d; omega⟩ ⟨Nat.le_refl _, Nat.le_refl _⟩ (ct_addWaiting (by decide) s4 s5 s6 ?_)
    rw [← em7]
    show E_X10_tell G d 27 [(0, vR 0), (1, vI l1)] [vI (mem 1 15 + 1)] m7 Q
    exact x_iret rfl dX10_tell_27 H
  · have H := H2 (hB)
    refine x_aloadn (q := 13) 0 rfl rfl rfl dX10_tell_12 rfl ?_
    refine x_ldc (q := 15) (z := (-1000004)) cn_X10_92 (by decide) dX10_tell_13 rfl ?_
    obtain ⟨m8, em8⟩ : ∃ m9 : Mem, m9 = refM mem (-1000004) := ⟨_, rfl⟩
    have H := H m8 em8
    refine x_callV (q := 18) (d := d - 1) (as := [vI (-1000004)]) (st := []) dX10_tell_15 rfl mv_X10_84 sh_0 rfl rfl rfl (by exact Nat.le_of_ble_eq_true rfl) ⟨by show _ ≤ d; omega, by show _ ≤ 40 * d; omega⟩ ⟨Nat.le_refl _, Nat.le_refl _⟩ (ct_refuse (by omega) (by decide) (by decide) ?_)
    rw [← em8]
    show E_X10_tell G d 18 [(0, vR 0), (1, vI l1)] [vI (-1000004)] m8 Q
    exact x_iret rfl dX10_tell_18 H
set_option maxRecDepth 20000 in
set_option maxHeartbeats 4000000 in
theorem B_X10_told {G : GT} {d : Nat} {l1 : Int} {mem : Mem} {Q : Option AV → Mem → Prop} (hd : 2 ≤ d) (H : (inr l1) ∧ ((¬ (l1 < 1 ∨ 6 < l1) → ((0 ≤ l1 ∧ l1 < 7) ∧ (Q (some (vI (mem 62 l1))) mem))) ∧ ((l1 < 1 ∨ 6 < l1) → (∀ m7 : Mem, m7 = refM mem (-1000001) → (Q (some (vI (-1000001))) m7))))) : C_X10_told G d [vR 0, vI l1] mem Q := by
  refine Ct_of_Ex (by decide +kernel) (by exact Nat.le_of_ble_eq_true rfl) (ls := [(0, vR 0), (1, vI l1)]) rfl ?_
  show E_X10_told G d 0 [(0, vR 0), (1, vI l1)] [] mem Q
  refine x_iloadn (q := 1) 1 rfl rfl dX10_told_0 rfl ?_
  refine x_iconst (q := 2) dX10_told_1 rfl ?_
  refine x_bipush (q := 4) rfl dX10_told_2 rfl ?_
  obtain ⟨s1, H⟩ := H
  refine x_callS (q := 7) (d := d - 1) (as := [vI l1, vI 1, vI 6]) (st := []) dX10_told_4 rfl ms_X10_79 rfl rfl (by exact Nat.le_of_ble_eq_true rfl) ⟨by show _ ≤ d; omega, by show _ ≤ 40 * d; omega⟩ ⟨Nat.le_refl _, Nat.le_refl _⟩ (ct_outside s1 (by decide) (by decide) ?_)
  show E_X10_told G d 7 [(0, vR 0), (1, vI l1)] [vI (bz (l1 < 1 ∨ 6 < l1))] mem Q
  obtain ⟨H1, H2⟩ := H
  refine x_if_eq (tgt := 17) (q := 10) dX10_told_7 (by decide) rfl (bz_inr _) (fun hB => ?_) (fun hB => ?_)
  · have H := H1 (bz_0.mp hB)
    refine x_aloadn (q := 18) 0 rfl rfl rfl dX10_told_17 rfl ?_
    refine x_getr (q := 21) dX10_told_18 rfl fa_X10_74 sh_0 rfl ?_
    refine x_iloadn (q := 22) 1 rfl rfl dX10_told_21 rfl ?_
    obtain ⟨⟨s4, s5⟩, H⟩ := H
    refine x_iald (q := 23) dX10_told_22 rfl sh_62 s4 s5 (fun r6 => ?_)
    exact x_iret rfl dX10_told_23 H
  · have H := H2 (Classical.byContradiction (fun z => hB (bz_0.mpr z)))
    refine x_aloadn (q := 11) 0 rfl rfl rfl dX10_told_10 rfl ?_
    refine x_ldc (q := 13) (z := (-1000001)) cn_X10_83 (by decide) dX10_told_11 rfl ?_
    obtain ⟨m7, em7⟩ : ∃ m9 : Mem, m9 = refM mem (-1000001) := ⟨_, rfl⟩
    have H := H m7 em7
    refine x_callV (q := 16) (d := d - 1) (as := [vI (-1000001)]) (st := []) dX10_told_13 rfl mv_X10_84 sh_0 rfl rfl rfl (by exact Nat.le_of_ble_eq_true rfl) ⟨by show _ ≤ d; omega, by show _ ≤ 40 * d; omega⟩ ⟨Nat.le_refl _, Nat.le_refl _⟩ (ct_refuse (by omega) (by decide) (by decide) ?_)
    rw [← em7]
    show E_X10_told G d 16 [(0, vR 0), (1, vI l1)] [vI (-1000001)] m7 Q
    exact x_iret rfl dX10_told_16 H
set_option maxRecDepth 20000 in
set_option maxHeartbeats 4000000 in
theorem B_X10_count {G : GT} {d : Nat} {l1 : Int} {mem : Mem} {Q : Option AV → Mem → Prop} (hd : 2 ≤ d) (H : (inr l1) ∧ ((l1 = 0 → (Q (some (vI (mem 1 0))) mem)) ∧ (l1 = 1 → (C_X2_ties G (d - 1) [vR 1] mem (fun r9 m3 => ∃ z4 : Int, r9 = some (vI z4) ∧ (Q (some (vI z4)) m3)))) ∧ (l1 = 2 → (Q (some (vI (mem 1 6))) mem)) ∧ (l1 = 3 → (C_X2_validSayings G (d - 1) [vR 1] mem (fun r9 m6 => ∃ z7 : Int, r9 = some (vI z7) ∧ (Q (some (vI z7)) m6)))) ∧ (l1 = 4 → (Q (some (vI (mem 1 13))) mem)) ∧ (l1 = 5 → (Q (some (vI (mem 1 15))) mem)) ∧ (l1 = 6 → (Q (some (vI (mem 59 1))) mem)) ∧ (l1 = 7 → (Q (some (vI (sm 144 (fun k => mem 6 k)))) mem)) ∧ ((l1 < 0 ∨ 7 < l1) → (∀ m11 : Mem, m11 = refM mem (-1000001) → (Q (some (vI (-1000001))) m11))))) : C_X10_count G d [vR 0, vI l1] mem Q := by
  refine Ct_of_Ex (by decide +kernel) (by exact Nat.le_of_ble_eq_true rfl) (ls := [(0, vR 0), (1, vI l1)]) rfl ?_
  show E_X10_count G d 0 [(0, vR 0), (1, vI l1)] [] mem Q
  refine x_iloadn (q := 1) 1 rfl rfl dX10_count_0 rfl ?_
  obtain ⟨s1, H⟩ := H
  obtain ⟨H0, H1, H2, H3, H4, H5, H6, H7, H8⟩ := H
  rcases (show l1 = 0 ∨ l1 = 1 ∨ l1 = 2 ∨ l1 = 3 ∨ l1 = 4 ∨ l1 = 5 ∨ l1 = 6 ∨ l1 = 7 ∨ (l1 < 0 ∨ 7 < l1) by omega) with hB | hB | hB | hB | hB | hB | hB | hB | hB
  · have H := H0 hB
    refine x_tswIn (z := 0) (tgt := 48) dX10_count_1 hB (by decide) (by decide) (by decide) rfl (by decide) ?_
    refine x_aloadn (q := 49) 0 rfl rfl rfl dX10_count_48 rfl ?_
    refine x_getr (q := 52) dX10_count_49 rfl fa_X10_12 sh_0 rfl ?_
    refine x_geti (q := 55) (ji := 0) dX10_count_52 rfl fa_X10_245 sh_1 rfl rfl (fun r2 => ?_)
    exact x_iret rfl dX10_count_55 H
  · have H := H1 hB
    refine x_tswIn (z := 1) (tgt := 56) dX10_count_1 hB (by decide) (by decide) (by decide) rfl (by decide) ?_
    refine x_aloadn (q := 57) 0 rfl rfl rfl dX10_count_56 rfl ?_
    refine x_getr (q := 60) dX10_count_57 rfl fa_X10_12 sh_0 rfl ?_
    refine x_callV (q := 63) (d := d - 1) (as := []) (st := []) dX10_count_60 rfl mv_X10_248 sh_1 rfl rfl rfl (by exact Nat.le_of_ble_eq_true rfl) ⟨by show _ ≤ d; omega, by show _ ≤ 40 * d; omega⟩ ⟨Nat.le_refl _, Nat.le_refl _⟩ (Ct.mono H (fun r9 m3 H => ?_))
    obtain ⟨z4, rfl, H⟩ := H
    show E_X10_count G d 63 [(0, vR 0), (1, vI l1)] [vI z4] m3 Q
    exact x_iret rfl dX10_count_63 H
  · have H := H2 hB
    refine x_tswIn (z := 2) (tgt := 64) dX10_count_1 hB (by decide) (by decide) (by decide) rfl (by decide) ?_
    refine x_aloadn (q := 65) 0 rfl rfl rfl dX10_count_64 rfl ?_
    refine x_getr (q := 68) dX10_count_65 rfl fa_X10_12 sh_0 rfl ?_
    refine x_geti (q := 71) (ji := 6) dX10_count_68 rfl fa_X10_342 sh_1 rfl rfl (fun r5 => ?_)
    exact x_iret rfl dX10_count_71 H
  · have H := H3 hB
    refine x_tswIn (z := 3) (tgt := 72) dX10_count_1 hB (by decide) (by decide) (by decide) rfl (by decide) ?_
    refine x_aloadn (q := 73) 0 rfl rfl rfl dX10_count_72 rfl ?_
    refine x_getr (q := 76) dX10_count_73 rfl fa_X10_12 sh_0 rfl ?_
    refine x_callV (q := 79) (d := d - 1) (as := []) (st := []) dX10_count_76 rfl mv_X10_345 sh_1 rfl rfl rfl (by exact Nat.le_of_ble_eq_true rfl) ⟨by show _ ≤ d; omega, by show _ ≤ 40 * d; omega⟩ ⟨Nat.le_refl _, Nat.le_refl _⟩ (Ct.mono H (fun r9 m6 H => ?_))
    obtain ⟨z7, rfl, H⟩ := H
    show E_X10_count G d 79 [(0, vR 0), (1, vI l1)] [vI z7] m6 Q
    exact x_iret rfl dX10_count_79 H
  · have H := H4 hB
    refine x_tswIn (z := 4) (tgt := 80) dX10_count_1 hB (by decide) (by decide) (by decide) rfl (by decide) ?_
    refine x_aloadn (q := 81) 0 rfl rfl rfl dX10_count_80 rfl ?_
    refine x_getr (q := 84) dX10_count_81 rfl fa_X10_12 sh_0 rfl ?_
    refine x_geti (q := 87) (ji := 13) dX10_count_84 rfl fa_X10_160 sh_1 rfl rfl (fun r8 => ?_)
    exact x_iret rfl dX10_count_87 H
  · have H := H5 hB
    refine x_tswIn (z := 5) (tgt := 88) dX10_count_1 hB (by decide) (by decide) (by decide) rfl (by decide) ?_
    refine x_aloadn (q := 89) 0 rfl rfl rfl dX10_count_88 rfl ?_
    refine x_getr (q := 92) dX10_count_89 rfl fa_X10_12 sh_0 rfl ?_
    refine x_geti (q := 95) (ji := 15) dX10_count_92 rfl fa_X10_333 sh_1 rfl rfl (fun r9 => ?_)
    exact x_iret rfl dX10_count_95 H
  · have H := H6 hB
    refine x_tswIn (z := 6) (tgt := 96) dX10_count_1 hB (by decide) (by decide) (by decide) rfl (by decide) ?_
    refine x_aloadn (q := 97) 0 rfl rfl rfl dX10_count_96 rfl ?_
    refine x_getr (q := 100) dX10_count_97 rfl fa_X10_64 sh_0 rfl ?_
    refine x_geti (q := 103) (ji := 1) dX10_count_100 rfl fa_X10_291 sh_59 rfl rfl (fun r10 => ?_)
    exact x_iret rfl dX10_count_103 H
  · have H := H7 hB
    refine x_tswIn (z := 7) (tgt := 104) dX10_count_1 hB (by decide) (by decide) (by decide) rfl (by decide) ?_
    refine x_aloadn (q := 105) 0 rfl rfl rfl dX10_count_104 rfl ?_
    refine x_getr (q := 108) dX10_count_105 rfl fa_X10_12 sh_0 rfl ?_
    refine x_callV (q := 111) (d := d - 1) (as := []) (st := []) dX10_count_108 rfl mv_X10_348 sh_1 rfl rfl rfl (by exact Nat.le_of_ble_eq_true rfl) ⟨by show _ ≤ d; omega, by show _ ≤ 40 * d; omega⟩ ⟨Nat.le_refl _, Nat.le_refl _⟩ (ct_costAll (by decide) ?_)
    show E_X10_count G d 111 [(0, vR 0), (1, vI l1)] [vI (sm 144 (fun k => mem 6 k))] mem Q
    exact x_iret rfl dX10_count_111 H
  · have H := H8 hB
    refine x_tswOut (tgt := 112) dX10_count_1 s1 hB (by decide) ?_
    refine x_aloadn (q := 113) 0 rfl rfl rfl dX10_count_112 rfl ?_
    refine x_ldc (q := 115) (z := (-1000001)) cn_X10_83 (by decide) dX10_count_113 rfl ?_
    obtain ⟨m11, em11⟩ : ∃ m9 : Mem, m9 = refM mem (-1000001) := ⟨_, rfl⟩
    have H := H m11 em11
    refine x_callV (q := 118) (d := d - 1) (as := [vI (-1000001)]) (st := []) dX10_count_115 rfl mv_X10_84 sh_0 rfl rfl rfl (by exact Nat.le_of_ble_eq_true rfl) ⟨by show _ ≤ d; omega, by show _ ≤ 40 * d; omega⟩ ⟨Nat.le_refl _, Nat.le_refl _⟩ (ct_refuse (by omega) (by decide) (by decide) ?_)
    rw [← em11]
    show E_X10_count G d 118 [(0, vR 0), (1, vI l1)] [vI (-1000001)] m11 Q
    exact x_iret rfl dX10_count_118 H
set_option maxRecDepth 20000 in
set_option maxHeartbeats 4000000 in
theorem B_X10_image {G : GT} {d : Nat}  {mem : Mem} {Q : Option AV → Mem → Prop} (hd : 1 ≤ d) (H : C_X2_copyFrom G (d - 1) [vR 11, vR 1] mem (fun r9 m1 => r9 = none ∧ ((inr ((m1 0 11) + 1)) ∧ (∀ m3 : Mem, m3 = upM m1 0 11 ((m1 0 11) + 1) → (Q (some (vI (m3 0 11))) m3))))) : C_X10_image G d [vR 0] mem Q := by
  refine Ct_of_Ex (by decide +kernel) (by exact Nat.le_of_ble_eq_true rfl) (ls := [(0, vR 0)]) rfl ?_
  show E_X10_image G d 0 [(0, vR 0)] [] mem Q
  refine x_aloadn (q := 1) 0 rfl rfl rfl dX10_image_0 rfl ?_
  refine x_getr (q := 4) dX10_image_1 rfl fa_X10_16 sh_0 rfl ?_
  refine x_aloadn (q := 5) 0 rfl rfl rfl dX10_image_4 rfl ?_
  refine x_getr (q := 8) dX10_image_5 rfl fa_X10_12 sh_0 rfl ?_
  refine x_callV (q := 11) (d := d - 1) (as := [vR 1]) (st := []) dX10_image_8 rfl mv_X10_168 sh_11 rfl rfl rfl (by exact Nat.le_of_ble_eq_true rfl) ⟨by show _ ≤ d; omega, by show _ ≤ 40 * d; omega⟩ ⟨Nat.le_refl _, Nat.le_refl _⟩ (Ct.mono H (fun r9 m1 H => ?_))
  obtain ⟨rfl, H⟩ := H
  show E_X10_image G d 11 [(0, vR 0)] [] m1 Q
  refine x_aloadn (q := 12) 0 rfl rfl rfl dX10_image_11 rfl ?_
  refine x_dup (q := 13) (by exact Nat.ne_of_beq_eq_false rfl) dX10_image_12 rfl ?_
  refine x_geti (q := 16) (ji := 11) dX10_image_13 rfl fa_X10_330 sh_0 rfl rfl (fun r2 => ?_)
  refine x_iconst (q := 17) dX10_image_16 rfl ?_
  refine x_iadd (q := 18) dX10_image_17 rfl ?_
  obtain ⟨s4, H⟩ := H
  refine x_puti (q := 21) (ji := 11) dX10_image_18 rfl fp_X10_330 sh_0 rfl rfl s4 (fun m3 em3 => ?_)
  have H := H m3 em3
  refine x_aloadn (q := 22) 0 rfl rfl rfl dX10_image_21 rfl ?_
  refine x_geti (q := 25) (ji := 11) dX10_image_22 rfl fa_X10_330 sh_0 rfl rfl (fun r5 => ?_)
  exact x_iret rfl dX10_image_25 H
set_option maxRecDepth 20000 in
set_option maxHeartbeats 4000000 in
theorem B_X10_restore {G : GT} {d : Nat}  {mem : Mem} {Q : Option AV → Mem → Prop} (hd : 2 ≤ d) (H : ((mem 0 11 ≠ 0) → (C_X2_copyFrom G (d - 1) [vR 1, vR 11] mem (fun r9 m4 => r9 = none ∧ (Q (some (vI (m4 1 0))) m4)))) ∧ (¬ (mem 0 11 ≠ 0) → (∀ m6 : Mem, m6 = refM mem (-1000002) → (Q (some (vI (-1000002))) m6)))) : C_X10_restore G d [vR 0] mem Q := by
  refine Ct_of_Ex (by decide +kernel) (by exact Nat.le_of_ble_eq_true rfl) (ls := [(0, vR 0)]) rfl ?_
  show E_X10_restore G d 0 [(0, vR 0)] [] mem Q
  refine x_aloadn (q := 1) 0 rfl rfl rfl dX10_restore_0 rfl ?_
  refine x_geti (q := 4) (ji := 11) dX10_restore_1 rfl fa_X10_330 sh_0 rfl rfl (fun r1 => ?_)
  obtain ⟨H1, H2⟩ := H
  refine x_if_ne (tgt := 14) (q := 7) dX10_restore_4 (by decide) rfl r1 (fun hB => ?_) (fun hB => ?_)
  · have H := H1 (hB)
    refine x_aloadn (q := 15) 0 rfl rfl rfl dX10_restore_14 rfl ?_
    refine x_getr (q := 18) dX10_restore_15 rfl fa_X10_12 sh_0 rfl ?_
    refine x_aloadn (q := 19) 0 rfl rfl rfl dX10_restore_18 rfl ?_
    refine x_getr (q := 22) dX10_restore_19 rfl fa_X10_16 sh_0 rfl ?_
    refine x_callV (q := 25) (d := d - 1) (as := [vR 11]) (st := []) dX10_restore_22 rfl mv_X10_168 sh_1 rfl rfl rfl (by exact Nat.le_of_ble_eq_true rfl) ⟨by show _ ≤ d; omega, by show _ ≤ 40 * d; omega⟩ ⟨Nat.le_refl _, Nat.le_refl _⟩ (Ct.mono H (fun r9 m4 H => ?_))
    obtain ⟨rfl, H⟩ := H
    show E_X10_restore G d 25 [(0, vR 0)] [] m4 Q
    refine x_aloadn (q := 26) 0 rfl rfl rfl dX10_restore_25 rfl ?_
    refine x_getr (q := 29) dX10_restore_26 rfl fa_X10_12 sh_0 rfl ?_
    refine x_geti (q := 32) (ji := 0) dX10_restore_29 rfl fa_X10_245 sh_1 rfl rfl (fun r5 => ?_)
    exact x_iret rfl dX10_restore_32 H
  · have H := H2 (hB)
    refine x_aloadn (q := 8) 0 rfl rfl rfl dX10_restore_7 rfl ?_
    refine x_ldc (q := 10) (z := (-1000002)) cn_X10_201 (by decide) dX10_restore_8 rfl ?_
    obtain ⟨m6, em6⟩ : ∃ m9 : Mem, m9 = refM mem (-1000002) := ⟨_, rfl⟩
    have H := H m6 em6
    refine x_callV (q := 13) (d := d - 1) (as := [vI (-1000002)]) (st := []) dX10_restore_10 rfl mv_X10_84 sh_0 rfl rfl rfl (by exact Nat.le_of_ble_eq_true rfl) ⟨by show _ ≤ d; omega, by show _ ≤ 40 * d; omega⟩ ⟨Nat.le_refl _, Nat.le_refl _⟩ (ct_refuse (by omega) (by decide) (by decide) ?_)
    rw [← em6]
    show E_X10_restore G d 13 [(0, vR 0)] [vI (-1000002)] m6 Q
    exact x_iret rfl dX10_restore_13 H
set_option maxRecDepth 20000 in
set_option maxHeartbeats 4000000 in
theorem B_X10_mended {G : GT} {d : Nat} {l1 : Int} {mem : Mem} {Q : Option AV → Mem → Prop} (hd : 2 ≤ d) (H : (inr l1) ∧ (((0 ≤ l1 ∧ l1 < mem 1 0) → (C_X2_silenceAllAbout G (d - 1) [vR 1, vI l1] mem (fun r9 m4 => ∃ z5 : Int, r9 = some (vI z5) ∧ (Q (some (vI z5)) m4)))) ∧ (¬ (0 ≤ l1 ∧ l1 < mem 1 0) → (∀ m6 : Mem, m6 = refM mem (-1000001) → (Q (some (vI (-1000001))) m6))))) : C_X10_mended G d [vR 0, vI l1] mem Q := by
  refine Ct_of_Ex (by decide +kernel) (by exact Nat.le_of_ble_eq_true rfl) (ls := [(0, vR 0), (1, vI l1)]) rfl ?_
  show E_X10_mended G d 0 [(0, vR 0), (1, vI l1)] [] mem Q
  refine x_aloadn (q := 1) 0 rfl rfl rfl dX10_mended_0 rfl ?_
  refine x_getr (q := 4) dX10_mended_1 rfl fa_X10_12 sh_0 rfl ?_
  refine x_iloadn (q := 5) 1 rfl rfl dX10_mended_4 rfl ?_
  obtain ⟨s1, H⟩ := H
  refine x_callV (q := 8) (d := d - 1) (as := [vI l1]) (st := []) dX10_mended_5 rfl mv_X10_97 sh_1 rfl rfl rfl (by exact Nat.le_of_ble_eq_true rfl) ⟨by show _ ≤ d; omega, by show _ ≤ 40 * d; omega⟩ ⟨Nat.le_refl _, Nat.le_refl _⟩ (ct_has (by decide) s1 ?_)
  show E_X10_mended G d 8 [(0, vR 0), (1, vI l1)] [vI (bz (0 ≤ l1 ∧ l1 < mem 1 0))] mem Q
  obtain ⟨H1, H2⟩ := H
  refine x_if_ne (tgt := 18) (q := 11) dX10_mended_8 (by decide) rfl (bz_inr _) (fun hB => ?_) (fun hB => ?_)
  · have H := H1 (bz_n0.mp hB)
    refine x_aloadn (q := 19) 0 rfl rfl rfl dX10_mended_18 rfl ?_
    refine x_getr (q := 22) dX10_mended_19 rfl fa_X10_12 sh_0 rfl ?_
    refine x_iloadn (q := 23) 1 rfl rfl dX10_mended_22 rfl ?_
    refine x_callV (q := 26) (d := d - 1) (as := [vI l1]) (st := []) dX10_mended_23 rfl mv_X10_279 sh_1 rfl rfl rfl (by exact Nat.le_of_ble_eq_true rfl) ⟨by show _ ≤ d; omega, by show _ ≤ 40 * d; omega⟩ ⟨Nat.le_refl _, Nat.le_refl _⟩ (Ct.mono H (fun r9 m4 H => ?_))
    obtain ⟨z5, rfl, H⟩ := H
    show E_X10_mended G d 26 [(0, vR 0), (1, vI l1)] [vI z5] m4 Q
    exact x_iret rfl dX10_mended_26 H
  · have H := H2 (fun z => hB (bz_n0.mpr z))
    refine x_aloadn (q := 12) 0 rfl rfl rfl dX10_mended_11 rfl ?_
    refine x_ldc (q := 14) (z := (-1000001)) cn_X10_83 (by decide) dX10_mended_12 rfl ?_
    obtain ⟨m6, em6⟩ : ∃ m9 : Mem, m9 = refM mem (-1000001) := ⟨_, rfl⟩
    have H := H m6 em6
    refine x_callV (q := 17) (d := d - 1) (as := [vI (-1000001)]) (st := []) dX10_mended_14 rfl mv_X10_84 sh_0 rfl rfl rfl (by exact Nat.le_of_ble_eq_true rfl) ⟨by show _ ≤ d; omega, by show _ ≤ 40 * d; omega⟩ ⟨Nat.le_refl _, Nat.le_refl _⟩ (ct_refuse (by omega) (by decide) (by decide) ?_)
    rw [← em6]
    show E_X10_mended G d 17 [(0, vR 0), (1, vI l1)] [vI (-1000001)] m6 Q
    exact x_iret rfl dX10_mended_17 H
set_option maxRecDepth 20000 in
set_option maxHeartbeats 4000000 in
theorem B_X10_text {G : GT} {d : Nat}  {mem : Mem} {Q : Option AV → Mem → Prop} (hd : 1 ≤ d) (H : C_X2_copyFrom G (d - 1) [vR 21, vR 1] mem (fun r9 m1 => r9 = none ∧ (C_X4_read G (d - 1) [vR 31] m1 (fun r9 m2 => ∃ z3 : Int, r9 = some (vI z3) ∧ ((inr z3) ∧ (((z3 < 0) → (∀ m7 : Mem, m7 = upM m2 1 13 0 → (Q (some (vI z3)) m7))) ∧ (¬ (z3 < 0) → (C_X2_copyFrom G (d - 1) [vR 1, vR 21] m2 (fun r9 m8 => r9 = none ∧ (∀ m9 : Mem, m9 = upM m8 1 13 0 → (Q (some (vI z3)) m9))))))))))) : C_X10_text G d [vR 0] mem Q := by
  refine Ct_of_Ex (by decide +kernel) (by exact Nat.le_of_ble_eq_true rfl) (ls := [(0, vR 0)]) rfl ?_
  show E_X10_text G d 0 [(0, vR 0)] [] mem Q
  refine x_aloadn (q := 1) 0 rfl rfl rfl dX10_text_0 rfl ?_
  refine x_getr (q := 4) dX10_text_1 rfl fa_X10_19 sh_0 rfl ?_
  refine x_aloadn (q := 5) 0 rfl rfl rfl dX10_text_4 rfl ?_
  refine x_getr (q := 8) dX10_text_5 rfl fa_X10_12 sh_0 rfl ?_
  refine x_callV (q := 11) (d := d - 1) (as := [vR 1]) (st := []) dX10_text_8 rfl mv_X10_168 sh_21 rfl rfl rfl (by exact Nat.le_of_ble_eq_true rfl) ⟨by show _ ≤ d; omega, by show _ ≤ 40 * d; omega⟩ ⟨Nat.le_refl _, Nat.le_refl _⟩ (Ct.mono H (fun r9 m1 H => ?_))
  obtain ⟨rfl, H⟩ := H
  show E_X10_text G d 11 [(0, vR 0)] [] m1 Q
  refine x_aloadn (q := 12) 0 rfl rfl rfl dX10_text_11 rfl ?_
  refine x_getr (q := 15) dX10_text_12 rfl fa_X10_27 sh_0 rfl ?_
  refine x_callV (q := 18) (d := d - 1) (as := []) (st := []) dX10_text_15 rfl mv_X10_171 sh_31 rfl rfl rfl (by exact Nat.le_of_ble_eq_true rfl) ⟨by show _ ≤ d; omega, by show _ ≤ 40 * d; omega⟩ ⟨Nat.le_refl _, Nat.le_refl _⟩ (Ct.mono H (fun r9 m2 H => ?_))
  obtain ⟨z3, rfl, H⟩ := H
  show E_X10_text G d 18 [(0, vR 0)] [vI z3] m2 Q
  refine x_istoren (q := 19) (ls' := [(1, vI z3), (0, vR 0)]) rfl (by decide) rfl dX10_text_18 rfl ?_
  refine x_iloadn (q := 20) 0 rfl rfl dX10_text_19 rfl ?_
  obtain ⟨s4, H⟩ := H
  obtain ⟨H1, H2⟩ := H
  refine x_if_lt (tgt := 34) (q := 23) dX10_text_20 (by decide) rfl s4 (fun hB => ?_) (fun hB => ?_)
  · have H := H1 (hB)
    refine x_aloadn (q := 35) 1 rfl rfl rfl dX10_text_34 rfl ?_
    refine x_getr (q := 38) dX10_text_35 rfl fa_X10_12 sh_0 rfl ?_
    refine x_iconst (q := 39) dX10_text_38 rfl ?_
    refine x_puti (q := 42) (ji := 13) dX10_text_39 rfl fp_X10_160 sh_1 rfl rfl (by decide) (fun m7 em7 => ?_)
    have H := H m7 em7
    refine x_iloadn (q := 43) 0 rfl rfl dX10_text_42 rfl ?_
    exact x_iret rfl dX10_text_43 H
  · have H := H2 (hB)
    refine x_aloadn (q := 24) 1 rfl rfl rfl dX10_text_23 rfl ?_
    refine x_getr (q := 27) dX10_text_24 rfl fa_X10_12 sh_0 rfl ?_
    refine x_aloadn (q := 28) 1 rfl rfl rfl dX10_text_27 rfl ?_
    refine x_getr (q := 31) dX10_text_28 rfl fa_X10_19 sh_0 rfl ?_
    refine x_callV (q := 34) (d := d - 1) (as := [vR 21]) (st := []) dX10_text_31 rfl mv_X10_168 sh_1 rfl rfl rfl (by exact Nat.le_of_ble_eq_true rfl) ⟨by show _ ≤ d; omega, by show _ ≤ 40 * d; omega⟩ ⟨Nat.le_refl _, Nat.le_refl _⟩ (Ct.mono H (fun r9 m8 H => ?_))
    obtain ⟨rfl, H⟩ := H
    show E_X10_text G d 34 [(1, vI z3), (0, vR 0)] [] m8 Q
    refine x_aloadn (q := 35) 1 rfl rfl rfl dX10_text_34 rfl ?_
    refine x_getr (q := 38) dX10_text_35 rfl fa_X10_12 sh_0 rfl ?_
    refine x_iconst (q := 39) dX10_text_38 rfl ?_
    refine x_puti (q := 42) (ji := 13) dX10_text_39 rfl fp_X10_160 sh_1 rfl rfl (by decide) (fun m9 em9 => ?_)
    have H := H m9 em9
    refine x_iloadn (q := 43) 0 rfl rfl dX10_text_42 rfl ?_
    exact x_iret rfl dX10_text_43 H
set_option maxRecDepth 20000 in
set_option maxHeartbeats 4000000 in
theorem B_X11_machine_ {G : GT} {d : Nat} {l1 : Int} {l2 : Int} {l3 : Int} {mem : Mem} {Q : Option AV → Mem → Prop} (hd : 1 ≤ d) (H : (inr l1) ∧ ((¬ (0 ≤ l1 ∧ l1 ≤ 5) → (∀ m4 : Mem, m4 = fndM mem (-1000001) → (Q (some (vI (-1000001))) m4))) ∧ ((0 ≤ l1 ∧ l1 ≤ 5) → ((inr l2) ∧ ((¬ (1 ≤ l2 ∧ l2 ≤ 99) → (∀ m8 : Mem, m8 = fndM mem (-1000001) → (Q (some (vI (-1000001))) m8))) ∧ ((1 ≤ l2 ∧ l2 ≤ 99) → ((inr l3) ∧ (((1 ≤ l3 ∧ l3 ≤ 9) → (((mem 72 0 ≠ 12) → ((0 ≤ mem 72 0 ∧ mem 72 0 < 12) ∧ (∀ m17 : Mem, m17 = mkM mem l1 l2 l3 → (Q (some (vI ((m17 72 0) - 1))) m17)))) ∧ (¬ (mem 72 0 ≠ 12) → (∀ m19 : Mem, m19 = fndM mem (-1000004) → (Q (some (vI (-1000004))) m19))))) ∧ (¬ (1 ≤ l3 ∧ l3 ≤ 9) → (∀ m20 : Mem, m20 = fndM mem (-1000001) → (Q (some (vI (-1000001))) m20))))))))))) : C_X11_machine_ G d [vR 71, vI l1, vI l2, vI l3] mem Q := by
  refine Ct_of_Ex (by decide +kernel) (by exact Nat.le_of_ble_eq_true rfl) (ls := [(0, vR 71), (1, vI l1), (2, vI l2), (3, vI l3)]) rfl ?_
  show E_X11_machine_ G d 0 [(0, vR 71), (1, vI l1), (2, vI l2), (3, vI l3)] [] mem Q
  refine x_iloadn (q := 1) 1 rfl rfl dX11_machine__0 rfl ?_
  refine x_iconst (q := 2) dX11_machine__1 rfl ?_
  refine x_iconst (q := 3) dX11_machine__2 rfl ?_
  obtain ⟨s1, H⟩ := H
  refine x_callS (q := 6) (d := d - 1) (as := [vI l1, vI 0, vI 5]) (st := []) dX11_machine__3 rfl ms_X11_83 rfl rfl (by exact Nat.le_of_ble_eq_true rfl) ⟨by show _ ≤ d; omega, by show _ ≤ 40 * d; omega⟩ ⟨Nat.le_refl _, Nat.le_refl _⟩ (ct_within s1 (by decide) (by decide) ?_)
  show E_X11_machine_ G d 6 [(0, vR 71), (1, vI l1), (2, vI l2), (3, vI l3)] [vI (bz (0 ≤ l1 ∧ l1 ≤ 5))] mem Q
  obtain ⟨H1, H2⟩ := H
  refine x_if_eq (tgt := 29) (q := 9) dX11_machine__6 (by decide) rfl (bz_inr _) (fun hB => ?_) (fun hB => ?_)
  · have H := H1 (bz_0.mp hB)
    refine x_aloadn (q := 30) 0 rfl rfl rfl dX11_machine__29 rfl ?_
    refine x_ldc (q := 32) (z := (-1000001)) cn_X11_87 (by decide) dX11_machine__30 rfl ?_
    obtain ⟨m4, em4⟩ : ∃ m9 : Mem, m9 = fndM mem (-1000001) := ⟨_, rfl⟩
    have H := H m4 em4
    refine x_callV (q := 35) (d := d - 1) (as := [vI (-1000001)]) (st := []) dX11_machine__32 rfl mv_X11_88 sh_71 rfl rfl rfl (by exact Nat.le_of_ble_eq_true rfl) ⟨by show _ ≤ d; omega, by show _ ≤ 40 * d; omega⟩ ⟨Nat.le_refl _, Nat.le_refl _⟩ (ct_finding (by decide) (by decide) ?_)
    rw [← em4]
    show E_X11_machine_ G d 35 [(0, vR 71), (1, vI l1), (2, vI l2), (3, vI l3)] [vI (-1000001)] m4 Q
    exact x_iret rfl dX11_machine__35 H
  · have H := H2 (Classical.byContradiction (fun z => hB (bz_0.mpr z)))
    refine x_iloadn (q := 10) 2 rfl rfl dX11_machine__9 rfl ?_
    refine x_iconst (q := 11) dX11_machine__10 rfl ?_
    refine x_bipush (q := 13) rfl dX11_machine__11 rfl ?_
    obtain ⟨s5, H⟩ := H
    refine x_callS (q := 16) (d := d - 1) (as := [vI l2, vI 1, vI 99]) (st := []) dX11_machine__13 rfl ms_X11_83 rfl rfl (by exact Nat.le_of_ble_eq_true rfl) ⟨by show _ ≤ d; omega, by show _ ≤ 40 * d; omega⟩ ⟨Nat.le_refl _, Nat.le_refl _⟩ (ct_within s5 (by decide) (by decide) ?_)
    show E_X11_machine_ G d 16 [(0, vR 71), (1, vI l1), (2, vI l2), (3, vI l3)] [vI (bz (1 ≤ l2 ∧ l2 ≤ 99))] mem Q
    obtain ⟨H1, H2⟩ := H
    refine x_if_eq (tgt := 29) (q := 19) dX11_machine__16 (by decide) rfl (bz_inr _) (fun hB => ?_) (fun hB => ?_)
    · have H := H1 (bz_0.mp hB)
      refine x_aloadn (q := 30) 0 rfl rfl rfl dX11_machine__29 rfl ?_
      refine x_ldc (q := 32) (z := (-1000001)) cn_X11_87 (by decide) dX11_machine__30 rfl ?_
      obtain ⟨m8, em8⟩ : ∃ m9 : Mem, m9 = fndM mem (-1000001) := ⟨_, rfl⟩
      have H := H m8 em8
      refine x_callV (q := 35) (d := d - 1) (as := [vI (-1000001)]) (st := []) dX11_machine__32 rfl mv_X11_88 sh_71 rfl rfl rfl (by exact Nat.le_of_ble_eq_true rfl) ⟨by show _ ≤ d; omega, by show _ ≤ 40 * d; omega⟩ ⟨Nat.le_refl _, Nat.le_refl _⟩ (ct_finding (by decide) (by decide) ?_)
      rw [← em8]
      show E_X11_machine_ G d 35 [(0, vR 71), (1, vI l1), (2, vI l2), (3, vI l3)] [vI (-1000001)] m8 Q
      exact x_iret rfl dX11_machine__35 H
    · have H := H2 (Classical.byContradiction (fun z => hB (bz_0.mpr z)))
      refine x_iloadn (q := 20) 3 rfl rfl dX11_machine__19 rfl ?_
      refine x_iconst (q := 21) dX11_machine__20 rfl ?_
      refine x_bipush (q := 23) rfl dX11_machine__21 rfl ?_
      obtain ⟨s9, H⟩ := H
      refine x_callS (q := 26) (d := d - 1) (as := [vI l3, vI 1, vI 9]) (st := []) dX11_machine__23 rfl ms_X11_83 rfl rfl (by exact Nat.le_of_ble_eq_true rfl) ⟨by show _ ≤ d; omega, by show _ ≤ 40 * d; omega⟩ ⟨Nat.le_refl _, Nat.le_refl _⟩ (ct_within s9 (by decide) (by decide) ?_)
      show E_X11_machine_ G d 26 [(0, vR 71), (1, vI l1), (2, vI l2), (3, vI l3)] [vI (bz (1 ≤ l3 ∧ l3 ≤ 9))] mem Q
      obtain ⟨H1, H2⟩ := H
      refine x_if_ne (tgt := 36) (q := 29) dX11_machine__26 (by decide) rfl (bz_inr _) (fun hB => ?_) (fun hB => ?_)
      · have H := H1 (bz_n0.mp hB)
        refine x_aloadn (q := 37) 0 rfl rfl rfl dX11_machine__36 rfl ?_
        refine x_getr (q := 40) dX11_machine__37 rfl fa_X11_9 sh_71 rfl ?_
        refine x_iconst (q := 41) dX11_machine__40 rfl ?_
        refine x_iald (q := 42) dX11_machine__41 rfl sh_72 (by decide) (by decide) (fun r12 => ?_)
        refine x_bipush (q := 44) rfl dX11_machine__42 rfl ?_
        obtain ⟨H1, H2⟩ := H
        refine x_icmp_ne (tgt := 54) (q := 47) dX11_machine__44 (by decide) rfl r12 (by decide) (fun hB => ?_) (fun hB => ?_)
        · have H := H1 (hB)
          refine x_aloadn (q := 55) 0 rfl rfl rfl dX11_machine__54 rfl ?_
          refine x_iloadn (q := 56) 1 rfl rfl dX11_machine__55 rfl ?_
          refine x_iloadn (q := 57) 2 rfl rfl dX11_machine__56 rfl ?_
          refine x_iloadn (q := 58) 3 rfl rfl dX11_machine__57 rfl ?_
          obtain ⟨⟨s15, s16⟩, H⟩ := H
          obtain ⟨m17, em17⟩ : ∃ m9 : Mem, m9 = mkM mem l1 l2 l3 := ⟨_, rfl⟩
          have H := H m17 em17
          refine x_callV (q := 61) (d := d - 1) (as := [vI l1, vI l2, vI l3]) (st := []) dX11_machine__58 rfl mv_X11_93 sh_71 rfl rfl rfl (by exact Nat.le_of_ble_eq_true rfl) ⟨by show _ ≤ d; omega, by show _ ≤ 40 * d; omega⟩ ⟨Nat.le_refl _, Nat.le_refl _⟩ (ct_makes s15 s16 s1 s5 s9 ?_)
          rw [← em17]
          show E_X11_machine_ G d 61 [(0, vR 71), (1, vI l1), (2, vI l2), (3, vI l3)] [] m17 Q
          refine x_aloadn (q := 62) 0 rfl rfl rfl dX11_machine__61 rfl ?_
          refine x_getr (q := 65) dX11_machine__62 rfl fa_X11_9 sh_71 rfl ?_
          refine x_iconst (q := 66) dX11_machine__65 rfl ?_
          refine x_iald (q := 67) dX11_machine__66 rfl sh_72 (by decide) (by decide) (fun r18 => ?_)
          refine x_iconst (q := 68) dX11_machine__67 rfl ?_
          refine x_isub (q := 69) dX11_machine__68 rfl ?_
          exact x_iret rfl dX11_machine__69 H
        · have H := H2 (hB)
          refine x_aloadn (q := 48) 0 rfl rfl rfl dX11_machine__47 rfl ?_
          refine x_ldc (q := 50) (z := (-1000004)) cn_X11_92 (by decide) dX11_machine__48 rfl ?_
          obtain ⟨m19, em19⟩ : ∃ m9 : Mem, m9 = fndM mem (-1000004) := ⟨_, rfl⟩
          have H := H m19 em19
          refine x_callV (q := 53) (d := d - 1) (as := [vI (-1000004)]) (st := []) dX11_machine__50 rfl mv_X11_88 sh_71 rfl rfl rfl (by exact Nat.le_of_ble_eq_true rfl) ⟨by show _ ≤ d; omega, by show _ ≤ 40 * d; omega⟩ ⟨Nat.le_refl _, Nat.le_refl _⟩ (ct_finding (by decide) (by decide) ?_)
          rw [← em19]
          show E_X11_machine_ G d 53 [(0, vR 71), (1, vI l1), (2, vI l2), (3, vI l3)] [vI (-1000004)] m19 Q
          exact x_iret rfl dX11_machine__53 H
      · have H := H2 (fun z => hB (bz_n0.mpr z))
        refine x_aloadn (q := 30) 0 rfl rfl rfl dX11_machine__29 rfl ?_
        refine x_ldc (q := 32) (z := (-1000001)) cn_X11_87 (by decide) dX11_machine__30 rfl ?_
        obtain ⟨m20, em20⟩ : ∃ m9 : Mem, m9 = fndM mem (-1000001) := ⟨_, rfl⟩
        have H := H m20 em20
        refine x_callV (q := 35) (d := d - 1) (as := [vI (-1000001)]) (st := []) dX11_machine__32 rfl mv_X11_88 sh_71 rfl rfl rfl (by exact Nat.le_of_ble_eq_true rfl) ⟨by show _ ≤ d; omega, by show _ ≤ 40 * d; omega⟩ ⟨Nat.le_refl _, Nat.le_refl _⟩ (ct_finding (by decide) (by decide) ?_)
        rw [← em20]
        show E_X11_machine_ G d 35 [(0, vR 71), (1, vI l1), (2, vI l2), (3, vI l3)] [vI (-1000001)] m20 Q
        exact x_iret rfl dX11_machine__35 H
set_option maxRecDepth 20000 in
set_option maxHeartbeats 4000000 in
theorem B_X11_machineIs {G : GT} {d : Nat} {l1 : Int} {l2 : Int} {mem : Mem} {Q : Option AV → Mem → Prop} (hd : 2 ≤ d) (H : (inr l1) ∧ ((0 ≤ mem 72 0) ∧ ((¬ (0 ≤ l1 ∧ l1 < mem 72 0) → (∀ m5 : Mem, m5 = fndM mem (-1000001) → (Q (some (vI (-1000001))) m5))) ∧ ((0 ≤ l1 ∧ l1 < mem 72 0) → ((inr l2) ∧ (((0 ≤ l2 ∧ l2 ≤ 5) → (((3 ≤ l2) → (E_X11_machineIs G d 42 [(0, vR 71), (1, vI l1), (2, vI l2), (3, vI 0), (4, vI 0)] [] mem Q)) ∧ (¬ (3 ≤ l2) → ((0 ≤ 5 + 3 * l1 + l2 ∧ 5 + 3 * l1 + l2 < 553) ∧ (Q (some (vI (mem 72 (5 + 3 * l1 + l2)))) mem))))) ∧ (¬ (0 ≤ l2 ∧ l2 ≤ 5) → (∀ m13 : Mem, m13 = fndM mem (-1000001) → (Q (some (vI (-1000001))) m13))))))))) : C_X11_machineIs G d [vR 71, vI l1, vI l2] mem Q := by
  refine Ct_of_Ex (by decide +kernel) (by exact Nat.le_of_ble_eq_true rfl) (ls := [(0, vR 71), (1, vI l1), (2, vI l2)]) rfl ?_
  show E_X11_machineIs G d 0 [(0, vR 71), (1, vI l1), (2, vI l2)] [] mem Q
  refine x_aloadn (q := 1) 0 rfl rfl rfl dX11_machineIs_0 rfl ?_
  refine x_iloadn (q := 2) 1 rfl rfl dX11_machineIs_1 rfl ?_
  refine x_iconst (q := 3) dX11_machineIs_2 rfl ?_
  obtain ⟨s1, H⟩ := H
  obtain ⟨s2, H⟩ := H
  refine x_callV (q := 6) (d := d - 1) (as := [vI l1, vI 0]) (st := []) dX11_machineIs_3 rfl mv_X11_101 sh_71 rfl rfl rfl (by exact Nat.le_of_ble_eq_true rfl) ⟨by show _ ≤ d; omega, by show _ ≤ 40 * d; omega⟩ ⟨Nat.le_refl _, Nat.le_refl _⟩ ((fun hq9 => ct_is (by omega) (by decide) (by decide) s1 (fun _ => hq9) s2)  ?_)
  show E_X11_machineIs G d 6 [(0, vR 71), (1, vI l1), (2, vI l2)] [vI (bz (0 ≤ l1 ∧ l1 < mem 72 0))] mem Q
  obtain ⟨H1, H2⟩ := H
  refine x_if_eq (tgt := 18) (q := 9) dX11_machineIs_6 (by decide) rfl (bz_inr _) (fun hB => ?_) (fun hB => ?_)
  · have H := H1 (bz_0.mp hB)
    refine x_aloadn (q := 19) 0 rfl rfl rfl dX11_machineIs_18 rfl ?_
    refine x_ldc (q := 21) (z := (-1000001)) cn_X11_87 (by decide) dX11_machineIs_19 rfl ?_
    obtain ⟨m5, em5⟩ : ∃ m9 : Mem, m9 = fndM mem (-1000001) := ⟨_, rfl⟩
    have H := H m5 em5
    refine x_callV (q := 24) (d := d - 1) (as := [vI (-1000001)]) (st := []) dX11_machineIs_21 rfl mv_X11_88 sh_71 rfl rfl rfl (by exact Nat.le_of_ble_eq_true rfl) ⟨by show _ ≤ d; omega, by show _ ≤ 40 * d; omega⟩ ⟨Nat.le_refl _, Nat.le_refl _⟩ (ct_finding (by decide) (by decide) ?_)
    rw [← em5]
    show E_X11_machineIs G d 24 [(0, vR 71), (1, vI l1), (2, vI l2)] [vI (-1000001)] m5 Q
    exact x_iret rfl dX11_machineIs_24 H
  · have H := H2 (Classical.byContradiction (fun z => hB (bz_0.mpr z)))
    refine x_iloadn (q := 10) 2 rfl rfl dX11_machineIs_9 rfl ?_
    refine x_iconst (q := 11) dX11_machineIs_10 rfl ?_
    refine x_iconst (q := 12) dX11_machineIs_11 rfl ?_
    obtain ⟨s6, H⟩ := H
    refine x_callS (q := 15) (d := d - 1) (as := [vI l2, vI 0, vI 5]) (st := []) dX11_machineIs_12 rfl ms_X11_83 rfl rfl (by exact Nat.le_of_ble_eq_true rfl) ⟨by show _ ≤ d; omega, by show _ ≤ 40 * d; omega⟩ ⟨Nat.le_refl _, Nat.le_refl _⟩ (ct_within s6 (by decide) (by decide) ?_)
    show E_X11_machineIs G d 15 [(0, vR 71), (1, vI l1), (2, vI l2)] [vI (bz (0 ≤ l2 ∧ l2 ≤ 5))] mem Q
    obtain ⟨H1, H2⟩ := H
    refine x_if_ne (tgt := 25) (q := 18) dX11_machineIs_15 (by decide) rfl (bz_inr _) (fun hB => ?_) (fun hB => ?_)
    · have H := H1 (bz_n0.mp hB)
      refine x_iloadn (q := 26) 2 rfl rfl dX11_machineIs_25 rfl ?_
      refine x_iconst (q := 27) dX11_machineIs_26 rfl ?_
      obtain ⟨H1, H2⟩ := H
      refine x_icmp_ge (tgt := 37) (q := 30) dX11_machineIs_27 (by decide) rfl s6 (by decide) (fun hB => ?_) (fun hB => ?_)
      · have H := H1 (hB)
        refine x_iconst (q := 38) dX11_machineIs_37 rfl ?_
        refine x_istoren (q := 39) (ls' := [(3, vI 0), (0, vR 71), (1, vI l1), (2, vI l2)]) rfl (by decide) rfl dX11_machineIs_38 rfl ?_
        refine x_iconst (q := 40) dX11_machineIs_39 rfl ?_
        refine x_istore (q := 42) (ls' := [(4, vI 0), (3, vI 0), (0, vR 71), (1, vI l1), (2, vI l2)]) (by decide) rfl dX11_machineIs_40 rfl ?_
        refine x_sub [2, 3, 4, 1, 0] rfl ?_
        exact H
      · have H := H2 (hB)
        refine x_aloadn (q := 31) 0 rfl rfl rfl dX11_machineIs_30 rfl ?_
        refine x_iloadn (q := 32) 1 rfl rfl dX11_machineIs_31 rfl ?_
        refine x_iloadn (q := 33) 2 rfl rfl dX11_machineIs_32 rfl ?_
        obtain ⟨⟨s11, s12⟩, H⟩ := H
        refine x_callV (q := 36) (d := d - 1) (as := [vI l1, vI l2]) (st := []) dX11_machineIs_33 rfl mv_X11_105 sh_71 rfl rfl rfl (by exact Nat.le_of_ble_eq_true rfl) ⟨by show _ ≤ d; omega, by show _ ≤ 40 * d; omega⟩ ⟨Nat.le_refl _, Nat.le_refl _⟩ (ct_machine11 s11 s12 ?_)
        show E_X11_machineIs G d 36 [(0, vR 71), (1, vI l1), (2, vI l2)] [vI (mem 72 (5 + 3 * l1 + l2))] mem Q
        exact x_iret rfl dX11_machineIs_36 H
    · have H := H2 (fun z => hB (bz_n0.mpr z))
      refine x_aloadn (q := 19) 0 rfl rfl rfl dX11_machineIs_18 rfl ?_
      refine x_ldc (q := 21) (z := (-1000001)) cn_X11_87 (by decide) dX11_machineIs_19 rfl ?_
      obtain ⟨m13, em13⟩ : ∃ m9 : Mem, m9 = fndM mem (-1000001) := ⟨_, rfl⟩
      have H := H m13 em13
      refine x_callV (q := 24) (d := d - 1) (as := [vI (-1000001)]) (st := []) dX11_machineIs_21 rfl mv_X11_88 sh_71 rfl rfl rfl (by exact Nat.le_of_ble_eq_true rfl) ⟨by show _ ≤ d; omega, by show _ ≤ 40 * d; omega⟩ ⟨Nat.le_refl _, Nat.le_refl _⟩ (ct_finding (by decide) (by decide) ?_)
      rw [← em13]
      show E_X11_machineIs G d 24 [(0, vR 71), (1, vI l1), (2, vI l2)] [vI (-1000001)] m13 Q
      exact x_iret rfl dX11_machineIs_24 H
set_option maxRecDepth 20000 in
set_option maxHeartbeats 4000000 in
theorem B_X11_machineIs_42 {G : GT} {d : Nat} {l1 : Int} {l2 : Int} {l3 : Int} {l4 : Int} {mem : Mem} {Q : Option AV → Mem → Prop} (hd : 2 ≤ d) (H : (inr l4) ∧ (((mem 72 0 ≤ l4) → (E_X11_machineIs G d 88 [(0, vR 71), (1, vI l1), (2, vI l2), (3, vI l3), (4, vI 0)] [] mem Q)) ∧ (¬ (mem 72 0 ≤ l4) → ((inr l2) ∧ (((l2 ≠ 3) → (E_X11_machineIs G d 88 [(0, vR 71), (1, vI l1), (2, vI l2), (3, vI l3), (4, vI 0)] [] mem Q)) ∧ (¬ (l2 ≠ 3) → ((0 ≤ 41 + 12 * l1 + l4 ∧ 41 + 12 * l1 + l4 < 553) ∧ (((mem 72 (41 + 12 * l1 + l4) ≤ 0) → (E_X11_machineIs G d 42 [(0, vR 71), (1, vI l1), (2, vI l2), (3, vI (ior l3 0)), (4, vI (l4 + 1))] [] mem Q)) ∧ (¬ (mem 72 (41 + 12 * l1 + l4) ≤ 0) → (E_X11_machineIs G d 42 [(0, vR 71), (1, vI l1), (2, vI l2), (3, vI (ior l3 (ishl 1 l4))), (4, vI (l4 + 1))] [] mem Q)))))))))) : E_X11_machineIs G d 42 [(0, vR 71), (1, vI l1), (2, vI l2), (3, vI l3), (4, vI l4)] [] mem Q := by
  refine x_iload (q := 44) 4 rfl dX11_machineIs_42 rfl ?_
  refine x_aloadn (q := 45) 0 rfl rfl rfl dX11_machineIs_44 rfl ?_
  refine x_getr (q := 48) dX11_machineIs_45 rfl fa_X11_9 sh_71 rfl ?_
  refine x_iconst (q := 49) dX11_machineIs_48 rfl ?_
  refine x_iald (q := 50) dX11_machineIs_49 rfl sh_72 (by decide) (by decide) (fun r14 => ?_)
  obtain ⟨s15, H⟩ := H
  obtain ⟨H1, H2⟩ := H
  refine x_icmp_ge (tgt := 85) (q := 53) dX11_machineIs_50 (by decide) rfl s15 r14 (fun hB => ?_) (fun hB => ?_)
  · have H := H1 (hB)
    refine x_iconst (q := 86) dX11_machineIs_85 rfl ?_
    refine x_istore (q := 88) (ls' := [(4, vI 0), (0, vR 71), (1, vI l1), (2, vI l2), (3, vI l3)]) (by decide) rfl dX11_machineIs_86 rfl ?_
    refine x_sub [1, 2, 3, 4, 0] rfl ?_
    exact H
  · have H := H2 (hB)
    refine x_iloadn (q := 54) 2 rfl rfl dX11_machineIs_53 rfl ?_
    refine x_iconst (q := 55) dX11_machineIs_54 rfl ?_
    obtain ⟨s18, H⟩ := H
    obtain ⟨H1, H2⟩ := H
    refine x_icmp_ne (tgt := 85) (q := 58) dX11_machineIs_55 (by decide) rfl s18 (by decide) (fun hB => ?_) (fun hB => ?_)
    · have H := H1 (hB)
      refine x_iconst (q := 86) dX11_machineIs_85 rfl ?_
      refine x_istore (q := 88) (ls' := [(4, vI 0), (0, vR 71), (1, vI l1), (2, vI l2), (3, vI l3)]) (by decide) rfl dX11_machineIs_86 rfl ?_
      refine x_sub [1, 2, 3, 4, 0] rfl ?_
      exact H
    · have H := H2 (hB)
      refine x_iloadn (q := 59) 3 rfl rfl dX11_machineIs_58 rfl ?_
      refine x_aloadn (q := 60) 0 rfl rfl rfl dX11_machineIs_59 rfl ?_
      refine x_iloadn (q := 61) 1 rfl rfl dX11_machineIs_60 rfl ?_
      refine x_iload (q := 63) 4 rfl dX11_machineIs_61 rfl ?_
      obtain ⟨⟨s21, s22⟩, H⟩ := H
      refine x_callV (q := 66) (d := d - 1) (as := [vI l1, vI l4]) (st := [vI l3]) dX11_machineIs_63 rfl mv_X11_108 sh_71 rfl rfl rfl (by exact Nat.le_of_ble_eq_true rfl) ⟨by show _ ≤ d; omega, by show _ ≤ 40 * d; omega⟩ ⟨Nat.le_refl _, Nat.le_refl _⟩ (ct_tieOf s21 s22 ?_)
      show E_X11_machineIs G d 66 [(0, vR 71), (1, vI l1), (2, vI l2), (3, vI l3), (4, vI l4)] [vI (mem 72 (41 + 12 * l1 + l4)), vI l3] mem Q
      refine x_ok (fun hm23 => ?_)
      obtain ⟨H1, H2⟩ := H
      refine x_if_le (tgt := 76) (q := 69) dX11_machineIs_66 (by decide) rfl (ok_ai hm23 sh_72 (by decide) _) (fun hB => ?_) (fun hB => ?_)
      · have H := H1 (hB)
        refine x_iconst (q := 77) dX11_machineIs_76 rfl ?_
        refine x_ior (q := 78) dX11_machineIs_77 rfl ?_
        refine x_istoren (q := 79) (ls' := [(3, vI (ior l3 0)), (0, vR 71), (1, vI l1), (2, vI l2), (4, vI l4)]) rfl (by decide) rfl dX11_machineIs_78 rfl ?_
        refine x_iinc (q := 82) (ls' := [(4, vI (l4 + 1)), (3, vI (ior l3 0)), (0, vR 71), (1, vI l1), (2, vI l2)]) 4 rfl (by decide) rfl dX11_machineIs_79 rfl ?_
        refine x_goto (tgt := 42) dX11_machineIs_82 (by decide) ?_
        refine x_sub [2, 3, 4, 1, 0] rfl ?_
        exact H
      · have H := H2 (hB)
        refine x_iconst (q := 70) dX11_machineIs_69 rfl ?_
        refine x_iload (q := 72) 4 rfl dX11_machineIs_70 rfl ?_
        refine x_ishl (q := 73) dX11_machineIs_72 rfl ?_
        refine x_goto (tgt := 77) dX11_machineIs_73 (by decide) ?_
        refine x_ior (q := 78) dX11_machineIs_77 rfl ?_
        refine x_istoren (q := 79) (ls' := [(3, vI (ior l3 (ishl 1 l4))), (0, vR 71), (1, vI l1), (2, vI l2), (4, vI l4)]) rfl (by decide) rfl dX11_machineIs_78 rfl ?_
        refine x_iinc (q := 82) (ls' := [(4, vI (l4 + 1)), (3, vI (ior l3 (ishl 1 l4))), (0, vR 71), (1, vI l1), (2, vI l2)]) 4 rfl (by decide) rfl dX11_machineIs_79 rfl ?_
        refine x_goto (tgt := 42) dX11_machineIs_82 (by decide) ?_
        refine x_sub [2, 3, 4, 1, 0] rfl ?_
        exact H
set_option maxRecDepth 20000 in
set_option maxHeartbeats 4000000 in
theorem B_X11_machineIs_88 {G : GT} {d : Nat} {l1 : Int} {l2 : Int} {l3 : Int} {l4 : Int} {mem : Mem} {Q : Option AV → Mem → Prop} (hd : 2 ≤ d) (H : (inr l4) ∧ (((mem 72 1 ≤ l4) → (Q (some (vI l3)) mem)) ∧ (¬ (mem 72 1 ≤ l4) → ((inr l2) ∧ (((l2 ≤ 3) → (Q (some (vI l3)) mem)) ∧ (¬ (l2 ≤ 3) → ((0 ≤ l4 ∧ l4 < 60) ∧ ((¬ (mem 72 (185 + 4 * l4 + 3) = 1) → (E_X11_machineIs G d 88 [(0, vR 71), (1, vI l1), (2, vI l2), (3, vI (l3 + 0)), (4, vI (l4 + 1))] [] mem Q)) ∧ ((mem 72 (185 + 4 * l4 + 3) = 1) → (((l2 ≠ 4) → ((0 ≤ 185 + 4 * l4 + 1 ∧ 185 + 4 * l4 + 1 < 553) ∧ ((inr l1) ∧ (((mem 72 (185 + 4 * l4 + 1) ≠ l1) → (E_X11_machineIs G d 88 [(0, vR 71), (1, vI l1), (2, vI l2), (3, vI (l3 + 0)), (4, vI (l4 + 1))] [] mem Q)) ∧ (¬ (mem 72 (185 + 4 * l4 + 1) ≠ l1) → (E_X11_machineIs G d 88 [(0, vR 71), (1, vI l1), (2, vI l2), (3, vI (l3 + 1)), (4, vI (l4 + 1))] [] mem Q)))))) ∧ (¬ (l2 ≠ 4) → ((0 ≤ 185 + 4 * l4 + 0 ∧ 185 + 4 * l4 + 0 < 553) ∧ ((inr l1) ∧ (((mem 72 (185 + 4 * l4 + 0) ≠ l1) → (E_X11_machineIs G d 88 [(0, vR 71), (1, vI l1), (2, vI l2), (3, vI (l3 + 0)), (4, vI (l4 + 1))] [] mem Q)) ∧ (¬ (mem 72 (185 + 4 * l4 + 0) ≠ l1) → (E_X11_machineIs G d 88 [(0, vR 71), (1, vI l1), (2, vI l2), (3, vI (l3 + 1)), (4, vI (l4 + 1))] [] mem Q)))))))))))))))) : E_X11_machineIs G d 88 [(0, vR 71), (1, vI l1), (2, vI l2), (3, vI l3), (4, vI l4)] [] mem Q := by
  refine x_iload (q := 90) 4 rfl dX11_machineIs_88 rfl ?_
  refine x_aloadn (q := 91) 0 rfl rfl rfl dX11_machineIs_90 rfl ?_
  refine x_getr (q := 94) dX11_machineIs_91 rfl fa_X11_9 sh_71 rfl ?_
  refine x_iconst (q := 95) dX11_machineIs_94 rfl ?_
  refine x_iald (q := 96) dX11_machineIs_95 rfl sh_72 (by decide) (by decide) (fun r26 => ?_)
  obtain ⟨s27, H⟩ := H
  obtain ⟨H1, H2⟩ := H
  refine x_icmp_ge (tgt := 147) (q := 99) dX11_machineIs_96 (by decide) rfl s27 r26 (fun hB => ?_) (fun hB => ?_)
  · have H := H1 (hB)
    refine x_iloadn (q := 148) 3 rfl rfl dX11_machineIs_147 rfl ?_
    exact x_iret rfl dX11_machineIs_148 H
  · have H := H2 (hB)
    refine x_iloadn (q := 100) 2 rfl rfl dX11_machineIs_99 rfl ?_
    refine x_iconst (q := 101) dX11_machineIs_100 rfl ?_
    obtain ⟨s30, H⟩ := H
    obtain ⟨H1, H2⟩ := H
    refine x_icmp_le (tgt := 147) (q := 104) dX11_machineIs_101 (by decide) rfl s30 (by decide) (fun hB => ?_) (fun hB => ?_)
    · have H := H1 (hB)
      refine x_iloadn (q := 148) 3 rfl rfl dX11_machineIs_147 rfl ?_
      exact x_iret rfl dX11_machineIs_148 H
    · have H := H2 (hB)
      refine x_iloadn (q := 105) 3 rfl rfl dX11_machineIs_104 rfl ?_
      refine x_aloadn (q := 106) 0 rfl rfl rfl dX11_machineIs_105 rfl ?_
      refine x_iload (q := 108) 4 rfl dX11_machineIs_106 rfl ?_
      obtain ⟨⟨s33, s34⟩, H⟩ := H
      refine x_callV (q := 111) (d := d - 1) (as := [vI l4]) (st := [vI l3]) dX11_machineIs_108 rfl mv_X11_111 sh_71 rfl rfl rfl (by exact Nat.le_of_ble_eq_true rfl) ⟨by show _ ≤ d; omega, by show _ ≤ 40 * d; omega⟩ ⟨Nat.le_refl _, Nat.le_refl _⟩ (ct_counts (by omega) s33 s34 ?_)
      show E_X11_machineIs G d 111 [(0, vR 71), (1, vI l1), (2, vI l2), (3, vI l3), (4, vI l4)] [vI (bz (mem 72 (185 + 4 * l4 + 3) = 1)), vI l3] mem Q
      obtain ⟨H1, H2⟩ := H
      refine x_if_eq (tgt := 138) (q := 114) dX11_machineIs_111 (by decide) rfl (bz_inr _) (fun hB => ?_) (fun hB => ?_)
      · have H := H1 (bz_0.mp hB)
        refine x_iconst (q := 139) dX11_machineIs_138 rfl ?_
        refine x_iadd (q := 140) dX11_machineIs_139 rfl ?_
        refine x_istoren (q := 141) (ls' := [(3, vI (l3 + 0)), (0, vR 71), (1, vI l1), (2, vI l2), (4, vI l4)]) rfl (by decide) rfl dX11_machineIs_140 rfl ?_
        refine x_iinc (q := 144) (ls' := [(4, vI (l4 + 1)), (3, vI (l3 + 0)), (0, vR 71), (1, vI l1), (2, vI l2)]) 4 rfl (by decide) rfl dX11_machineIs_141 rfl ?_
        refine x_goto (tgt := 88) dX11_machineIs_144 (by decide) ?_
        refine x_sub [2, 3, 4, 1, 0] rfl ?_
        exact H
      · have H := H2 (Classical.byContradiction (fun z => hB (bz_0.mpr z)))
        refine x_aloadn (q := 115) 0 rfl rfl rfl dX11_machineIs_114 rfl ?_
        refine x_iload (q := 117) 4 rfl dX11_machineIs_115 rfl ?_
        refine x_iloadn (q := 118) 2 rfl rfl dX11_machineIs_117 rfl ?_
        refine x_iconst (q := 119) dX11_machineIs_118 rfl ?_
        obtain ⟨H1, H2⟩ := H
        refine x_icmp_ne (tgt := 126) (q := 122) dX11_machineIs_119 (by decide) rfl s30 (by decide) (fun hB => ?_) (fun hB => ?_)
        · have H := H1 (hB)
          refine x_iconst (q := 127) dX11_machineIs_126 rfl ?_
          obtain ⟨⟨s39, s40⟩, H⟩ := H
          refine x_callV (q := 130) (d := d - 1) (as := [vI l4, vI 1]) (st := [vI l3]) dX11_machineIs_127 rfl mv_X11_97 sh_71 rfl rfl rfl (by exact Nat.le_of_ble_eq_true rfl) ⟨by show _ ≤ d; omega, by show _ ≤ 40 * d; omega⟩ ⟨Nat.le_refl _, Nat.le_refl _⟩ (ct_saying s39 s40 ?_)
          show E_X11_machineIs G d 130 [(0, vR 71), (1, vI l1), (2, vI l2), (3, vI l3), (4, vI l4)] [vI (mem 72 (185 + 4 * l4 + 1)), vI l3] mem Q
          refine x_iloadn (q := 131) 1 rfl rfl dX11_machineIs_130 rfl ?_
          refine x_ok (fun hm41 => ?_)
          obtain ⟨s42, H⟩ := H
          obtain ⟨H1, H2⟩ := H
          refine x_icmp_ne (tgt := 138) (q := 134) dX11_machineIs_131 (by decide) rfl (ok_ai hm41 sh_72 (by decide) _) s42 (fun hB => ?_) (fun hB => ?_)
          · have H := H1 (hB)
            refine x_iconst (q := 139) dX11_machineIs_138 rfl ?_
            refine x_iadd (q := 140) dX11_machineIs_139 rfl ?_
            refine x_istoren (q := 141) (ls' := [(3, vI (l3 + 0)), (0, vR 71), (1, vI l1), (2, vI l2), (4, vI l4)]) rfl (by decide) rfl dX11_machineIs_140 rfl ?_
            refine x_iinc (q := 144) (ls' := [(4, vI (l4 + 1)), (3, vI (l3 + 0)), (0, vR 71), (1, vI l1), (2, vI l2)]) 4 rfl (by decide) rfl dX11_machineIs_141 rfl ?_
            refine x_goto (tgt := 88) dX11_machineIs_144 (by decide) ?_
            refine x_sub [2, 3, 4, 1, 0] rfl ?_
            exact H
          · have H := H2 (hB)
            refine x_iconst (q := 135) dX11_machineIs_134 rfl ?_
            refine x_goto (tgt := 139) dX11_machineIs_135 (by decide) ?_
            refine x_iadd (q := 140) dX11_machineIs_139 rfl ?_
            refine x_istoren (q := 141) (ls' := [(3, vI (l3 + 1)), (0, vR 71), (1, vI l1), (2, vI l2), (4, vI l4)]) rfl (by decide) rfl dX11_machineIs_140 rfl ?_
            refine x_iinc (q := 144) (ls' := [(4, vI (l4 + 1)), (3, vI (l3 + 1)), (0, vR 71), (1, vI l1), (2, vI l2)]) 4 rfl (by decide) rfl dX11_machineIs_141 rfl ?_
            refine x_goto (tgt := 88) dX11_machineIs_144 (by decide) ?_
            refine x_sub [2, 3, 4, 1, 0] rfl ?_
            exact H
        · have H := H2 (hB)
          refine x_iconst (q := 123) dX11_machineIs_122 rfl ?_
          refine x_goto (tgt := 127) dX11_machineIs_123 (by decide) ?_
          obtain ⟨⟨s45, s46⟩, H⟩ := H
          refine x_callV (q := 130) (d := d - 1) (as := [vI l4, vI 0]) (st := [vI l3]) dX11_machineIs_127 rfl mv_X11_97 sh_71 rfl rfl rfl (by exact Nat.le_of_ble_eq_true rfl) ⟨by show _ ≤ d; omega, by show _ ≤ 40 * d; omega⟩ ⟨Nat.le_refl _, Nat.le_refl _⟩ (ct_saying s45 s46 ?_)
          show E_X11_machineIs G d 130 [(0, vR 71), (1, vI l1), (2, vI l2), (3, vI l3), (4, vI l4)] [vI (mem 72 (185 + 4 * l4 + 0)), vI l3] mem Q
          refine x_iloadn (q := 131) 1 rfl rfl dX11_machineIs_130 rfl ?_
          refine x_ok (fun hm47 => ?_)
          obtain ⟨s48, H⟩ := H
          obtain ⟨H1, H2⟩ := H
          refine x_icmp_ne (tgt := 138) (q := 134) dX11_machineIs_131 (by decide) rfl (ok_ai hm47 sh_72 (by decide) _) s48 (fun hB => ?_) (fun hB => ?_)
          · have H := H1 (hB)
            refine x_iconst (q := 139) dX11_machineIs_138 rfl ?_
            refine x_iadd (q := 140) dX11_machineIs_139 rfl ?_
            refine x_istoren (q := 141) (ls' := [(3, vI (l3 + 0)), (0, vR 71), (1, vI l1), (2, vI l2), (4, vI l4)]) rfl (by decide) rfl dX11_machineIs_140 rfl ?_
            refine x_iinc (q := 144) (ls' := [(4, vI (l4 + 1)), (3, vI (l3 + 0)), (0, vR 71), (1, vI l1), (2, vI l2)]) 4 rfl (by decide) rfl dX11_machineIs_141 rfl ?_
            refine x_goto (tgt := 88) dX11_machineIs_144 (by decide) ?_
            refine x_sub [2, 3, 4, 1, 0] rfl ?_
            exact H
          · have H := H2 (hB)
            refine x_iconst (q := 135) dX11_machineIs_134 rfl ?_
            refine x_goto (tgt := 139) dX11_machineIs_135 (by decide) ?_
            refine x_iadd (q := 140) dX11_machineIs_139 rfl ?_
            refine x_istoren (q := 141) (ls' := [(3, vI (l3 + 1)), (0, vR 71), (1, vI l1), (2, vI l2), (4, vI l4)]) rfl (by decide) rfl dX11_machineIs_140 rfl ?_
            refine x_iinc (q := 144) (ls' := [(4, vI (l4 + 1)), (3, vI (l3 + 1)), (0, vR 71), (1, vI l1), (2, vI l2)]) 4 rfl (by decide) rfl dX11_machineIs_141 rfl ?_
            refine x_goto (tgt := 88) dX11_machineIs_144 (by decide) ?_
            refine x_sub [2, 3, 4, 1, 0] rfl ?_
            exact H
set_option maxRecDepth 20000 in
set_option maxHeartbeats 4000000 in
theorem B_X11_as {G : GT} {d : Nat} {l1 : Int} {l2 : Int} {mem : Mem} {Q : Option AV → Mem → Prop} (hd : 2 ≤ d) (H : (inr l1) ∧ ((0 ≤ mem 72 0) ∧ ((¬ (0 ≤ l1 ∧ l1 < mem 72 0) → (∀ m5 : Mem, m5 = fndM mem (-1000001) → (Q (some (vI (-1000001))) m5))) ∧ ((0 ≤ l1 ∧ l1 < mem 72 0) → ((inr l2) ∧ (((0 ≤ l2 ∧ l2 ≤ 5) → ((0 ≤ 5 + 3 * l1 + 0 ∧ 5 + 3 * l1 + 0 < 553) ∧ (E_X11_as G d 32 [(0, vR 71), (1, vI l1), (2, vI l2), (3, vI (mem 72 (5 + 3 * l1 + 0)))] [] mem Q))) ∧ (¬ (0 ≤ l2 ∧ l2 ≤ 5) → (∀ m11 : Mem, m11 = fndM mem (-1000001) → (Q (some (vI (-1000001))) m11))))))))) : C_X11_as G d [vR 71, vI l1, vI l2] mem Q := by
  refine Ct_of_Ex (by decide +kernel) (by exact Nat.le_of_ble_eq_true rfl) (ls := [(0, vR 71), (1, vI l1), (2, vI l2)]) rfl ?_
  show E_X11_as G d 0 [(0, vR 71), (1, vI l1), (2, vI l2)] [] mem Q
  refine x_aloadn (q := 1) 0 rfl rfl rfl dX11_as_0 rfl ?_
  refine x_iloadn (q := 2) 1 rfl rfl dX11_as_1 rfl ?_
  refine x_iconst (q := 3) dX11_as_2 rfl ?_
  obtain ⟨s1, H⟩ := H
  obtain ⟨s2, H⟩ := H
  refine x_callV (q := 6) (d := d - 1) (as := [vI l1, vI 0]) (st := []) dX11_as_3 rfl mv_X11_101 sh_71 rfl rfl rfl (by exact Nat.le_of_ble_eq_true rfl) ⟨by show _ ≤ d; omega, by show _ ≤ 40 * d; omega⟩ ⟨Nat.le_refl _, Nat.le_refl _⟩ ((fun hq9 => ct_is (by omega) (by decide) (by decide) s1 (fun _ => hq9) s2)  ?_)
  show E_X11_as G d 6 [(0, vR 71), (1, vI l1), (2, vI l2)] [vI (bz (0 ≤ l1 ∧ l1 < mem 72 0))] mem Q
  obtain ⟨H1, H2⟩ := H
  refine x_if_eq (tgt := 18) (q := 9) dX11_as_6 (by decide) rfl (bz_inr _) (fun hB => ?_) (fun hB => ?_)
  · have H := H1 (bz_0.mp hB)
    refine x_aloadn (q := 19) 0 rfl rfl rfl dX11_as_18 rfl ?_
    refine x_ldc (q := 21) (z := (-1000001)) cn_X11_87 (by decide) dX11_as_19 rfl ?_
    obtain ⟨m5, em5⟩ : ∃ m9 : Mem, m9 = fndM mem (-1000001) := ⟨_, rfl⟩
    have H := H m5 em5
    refine x_callV (q := 24) (d := d - 1) (as := [vI (-1000001)]) (st := []) dX11_as_21 rfl mv_X11_88 sh_71 rfl rfl rfl (by exact Nat.le_of_ble_eq_true rfl) ⟨by show _ ≤ d; omega, by show _ ≤ 40 * d; omega⟩ ⟨Nat.le_refl _, Nat.le_refl _⟩ (ct_finding (by decide) (by decide) ?_)
    rw [← em5]
    show E_X11_as G d 24 [(0, vR 71), (1, vI l1), (2, vI l2)] [vI (-1000001)] m5 Q
    exact x_iret rfl dX11_as_24 H
  · have H := H2 (Classical.byContradiction (fun z => hB (bz_0.mpr z)))
    refine x_iloadn (q := 10) 2 rfl rfl dX11_as_9 rfl ?_
    refine x_iconst (q := 11) dX11_as_10 rfl ?_
    refine x_iconst (q := 12) dX11_as_11 rfl ?_
    obtain ⟨s6, H⟩ := H
    refine x_callS (q := 15) (d := d - 1) (as := [vI l2, vI 0, vI 5]) (st := []) dX11_as_12 rfl ms_X11_83 rfl rfl (by exact Nat.le_of_ble_eq_true rfl) ⟨by show _ ≤ d; omega, by show _ ≤ 40 * d; omega⟩ ⟨Nat.le_refl _, Nat.le_refl _⟩ (ct_within s6 (by decide) (by decide) ?_)
    show E_X11_as G d 15 [(0, vR 71), (1, vI l1), (2, vI l2)] [vI (bz (0 ≤ l2 ∧ l2 ≤ 5))] mem Q
    obtain ⟨H1, H2⟩ := H
    refine x_if_ne (tgt := 25) (q := 18) dX11_as_15 (by decide) rfl (bz_inr _) (fun hB => ?_) (fun hB => ?_)
    · have H := H1 (bz_n0.mp hB)
      refine x_aloadn (q := 26) 0 rfl rfl rfl dX11_as_25 rfl ?_
      refine x_iloadn (q := 27) 1 rfl rfl dX11_as_26 rfl ?_
      refine x_iconst (q := 28) dX11_as_27 rfl ?_
      obtain ⟨⟨s9, s10⟩, H⟩ := H
      refine x_callV (q := 31) (d := d - 1) (as := [vI l1, vI 0]) (st := []) dX11_as_28 rfl mv_X11_105 sh_71 rfl rfl rfl (by exact Nat.le_of_ble_eq_true rfl) ⟨by show _ ≤ d; omega, by show _ ≤ 40 * d; omega⟩ ⟨Nat.le_refl _, Nat.le_refl _⟩ (ct_machine11 s9 s10 ?_)
      show E_X11_as G d 31 [(0, vR 71), (1, vI l1), (2, vI l2)] [vI (mem 72 (5 + 3 * l1 + 0))] mem Q
      refine x_istoren (q := 32) (ls' := [(3, vI (mem 72 (5 + 3 * l1 + 0))), (0, vR 71), (1, vI l1), (2, vI l2)]) rfl (by decide) rfl dX11_as_31 rfl ?_
      refine x_sub [1, 2, 3, 0] rfl ?_
      exact H
    · have H := H2 (fun z => hB (bz_n0.mpr z))
      refine x_aloadn (q := 19) 0 rfl rfl rfl dX11_as_18 rfl ?_
      refine x_ldc (q := 21) (z := (-1000001)) cn_X11_87 (by decide) dX11_as_19 rfl ?_
      obtain ⟨m11, em11⟩ : ∃ m9 : Mem, m9 = fndM mem (-1000001) := ⟨_, rfl⟩
      have H := H m11 em11
      refine x_callV (q := 24) (d := d - 1) (as := [vI (-1000001)]) (st := []) dX11_as_21 rfl mv_X11_88 sh_71 rfl rfl rfl (by exact Nat.le_of_ble_eq_true rfl) ⟨by show _ ≤ d; omega, by show _ ≤ 40 * d; omega⟩ ⟨Nat.le_refl _, Nat.le_refl _⟩ (ct_finding (by decide) (by decide) ?_)
      rw [← em11]
      show E_X11_as G d 24 [(0, vR 71), (1, vI l1), (2, vI l2)] [vI (-1000001)] m11 Q
      exact x_iret rfl dX11_as_24 H
set_option maxRecDepth 20000 in
set_option maxHeartbeats 4000000 in
theorem B_X11_as_32 {G : GT} {d : Nat} {l1 : Int} {l2 : Int} {l3 : Int} {mem : Mem} {Q : Option AV → Mem → Prop} (hd : 2 ≤ d) (H : (inr l3) ∧ (((l3 < 0) → (((0 ≤ l3) → ((0 ≤ 5 + 3 * l1 + 1 ∧ 5 + 3 * l1 + 1 < 553) ∧ (Q (some (vI (mem 72 (5 + 3 * l1 + 1)))) mem))) ∧ (¬ (0 ≤ l3) → (∀ m19 : Mem, m19 = fndM mem (-1000005) → (Q (some (vI (-1000005))) m19))))) ∧ (¬ (l3 < 0) → ((inr l2) ∧ (((l3 = l2) → (((0 ≤ l3) → ((0 ≤ 5 + 3 * l1 + 1 ∧ 5 + 3 * l1 + 1 < 553) ∧ (Q (some (vI (mem 72 (5 + 3 * l1 + 1)))) mem))) ∧ (¬ (0 ≤ l3) → (∀ m27 : Mem, m27 = fndM mem (-1000005) → (Q (some (vI (-1000005))) m27))))) ∧ (¬ (l3 = l2) → (C_X11_above G (d - 1) [vI l3] mem (fun r9 m28 => ∃ z29 : Int, r9 = some (vI z29) ∧ (E_X11_as G d 32 [(0, vR 71), (1, vI l1), (2, vI l2), (3, vI z29)] [] m28 Q))))))))) : E_X11_as G d 32 [(0, vR 71), (1, vI l1), (2, vI l2), (3, vI l3)] [] mem Q := by
  refine x_iloadn (q := 33) 3 rfl rfl dX11_as_32 rfl ?_
  obtain ⟨s12, H⟩ := H
  obtain ⟨H1, H2⟩ := H
  refine x_if_lt (tgt := 49) (q := 36) dX11_as_33 (by decide) rfl s12 (fun hB => ?_) (fun hB => ?_)
  · have H := H1 (hB)
    refine x_iloadn (q := 50) 3 rfl rfl dX11_as_49 rfl ?_
    obtain ⟨H1, H2⟩ := H
    refine x_if_ge (tgt := 62) (q := 53) dX11_as_50 (by decide) rfl s12 (fun hB => ?_) (fun hB => ?_)
    · have H := H1 (hB)
      refine x_aloadn (q := 63) 0 rfl rfl rfl dX11_as_62 rfl ?_
      refine x_iloadn (q := 64) 1 rfl rfl dX11_as_63 rfl ?_
      refine x_iconst (q := 65) dX11_as_64 rfl ?_
      obtain ⟨⟨s17, s18⟩, H⟩ := H
      refine x_callV (q := 68) (d := d - 1) (as := [vI l1, vI 1]) (st := []) dX11_as_65 rfl mv_X11_105 sh_71 rfl rfl rfl (by exact Nat.le_of_ble_eq_true rfl) ⟨by show _ ≤ d; omega, by show _ ≤ 40 * d; omega⟩ ⟨Nat.le_refl _, Nat.le_refl _⟩ (ct_machine11 s17 s18 ?_)
      show E_X11_as G d 68 [(0, vR 71), (1, vI l1), (2, vI l2), (3, vI l3)] [vI (mem 72 (5 + 3 * l1 + 1))] mem Q
      exact x_iret rfl dX11_as_68 H
    · have H := H2 (hB)
      refine x_aloadn (q := 54) 0 rfl rfl rfl dX11_as_53 rfl ?_
      refine x_ldc (q := 56) (z := (-1000005)) cn_X11_118 (by decide) dX11_as_54 rfl ?_
      obtain ⟨m19, em19⟩ : ∃ m9 : Mem, m9 = fndM mem (-1000005) := ⟨_, rfl⟩
      have H := H m19 em19
      refine x_callV (q := 59) (d := d - 1) (as := [vI (-1000005)]) (st := []) dX11_as_56 rfl mv_X11_88 sh_71 rfl rfl rfl (by exact Nat.le_of_ble_eq_true rfl) ⟨by show _ ≤ d; omega, by show _ ≤ 40 * d; omega⟩ ⟨Nat.le_refl _, Nat.le_refl _⟩ (ct_finding (by decide) (by decide) ?_)
      rw [← em19]
      show E_X11_as G d 59 [(0, vR 71), (1, vI l1), (2, vI l2), (3, vI l3)] [vI (-1000005)] m19 Q
      refine x_goto (tgt := 68) dX11_as_59 (by decide) ?_
      exact x_iret rfl dX11_as_68 H
  · have H := H2 (hB)
    refine x_iloadn (q := 37) 3 rfl rfl dX11_as_36 rfl ?_
    refine x_iloadn (q := 38) 2 rfl rfl dX11_as_37 rfl ?_
    obtain ⟨s20, H⟩ := H
    obtain ⟨H1, H2⟩ := H
    refine x_icmp_eq (tgt := 49) (q := 41) dX11_as_38 (by decide) rfl s12 s20 (fun hB => ?_) (fun hB => ?_)
    · have H := H1 (hB)
      refine x_iloadn (q := 50) 3 rfl rfl dX11_as_49 rfl ?_
      obtain ⟨H1, H2⟩ := H
      refine x_if_ge (tgt := 62) (q := 53) dX11_as_50 (by decide) rfl s12 (fun hB => ?_) (fun hB => ?_)
      · have H := H1 (hB)
        refine x_aloadn (q := 63) 0 rfl rfl rfl dX11_as_62 rfl ?_
        refine x_iloadn (q := 64) 1 rfl rfl dX11_as_63 rfl ?_
        refine x_iconst (q := 65) dX11_as_64 rfl ?_
        obtain ⟨⟨s25, s26⟩, H⟩ := H
        refine x_callV (q := 68) (d := d - 1) (as := [vI l1, vI 1]) (st := []) dX11_as_65 rfl mv_X11_105 sh_71 rfl rfl rfl (by exact Nat.le_of_ble_eq_true rfl) ⟨by show _ ≤ d; omega, by show _ ≤ 40 * d; omega⟩ ⟨Nat.le_refl _, Nat.le_refl _⟩ (ct_machine11 s25 s26 ?_)
        show E_X11_as G d 68 [(0, vR 71), (1, vI l1), (2, vI l2), (3, vI l3)] [vI (mem 72 (5 + 3 * l1 + 1))] mem Q
        exact x_iret rfl dX11_as_68 H
      · have H := H2 (hB)
        refine x_aloadn (q := 54) 0 rfl rfl rfl dX11_as_53 rfl ?_
        refine x_ldc (q := 56) (z := (-1000005)) cn_X11_118 (by decide) dX11_as_54 rfl ?_
        obtain ⟨m27, em27⟩ : ∃ m9 : Mem, m9 = fndM mem (-1000005) := ⟨_, rfl⟩
        have H := H m27 em27
        refine x_callV (q := 59) (d := d - 1) (as := [vI (-1000005)]) (st := []) dX11_as_56 rfl mv_X11_88 sh_71 rfl rfl rfl (by exact Nat.le_of_ble_eq_true rfl) ⟨by show _ ≤ d; omega, by show _ ≤ 40 * d; omega⟩ ⟨Nat.le_refl _, Nat.le_refl _⟩ (ct_finding (by decide) (by decide) ?_)
        rw [← em27]
        show E_X11_as G d 59 [(0, vR 71), (1, vI l1), (2, vI l2), (3, vI l3)] [vI (-1000005)] m27 Q
        refine x_goto (tgt := 68) dX11_as_59 (by decide) ?_
        exact x_iret rfl dX11_as_68 H
    · have H := H2 (hB)
      refine x_iloadn (q := 42) 3 rfl rfl dX11_as_41 rfl ?_
      refine x_callS (q := 45) (d := d - 1) (as := [vI l3]) (st := []) dX11_as_42 rfl ms_X11_115 rfl rfl (by exact Nat.le_of_ble_eq_true rfl) ⟨by show _ ≤ d; omega, by show _ ≤ 40 * d; omega⟩ ⟨Nat.le_refl _, Nat.le_refl _⟩ (Ct.mono H (fun r9 m28 H => ?_))
      obtain ⟨z29, rfl, H⟩ := H
      show E_X11_as G d 45 [(0, vR 71), (1, vI l1), (2, vI l2), (3, vI l3)] [vI z29] m28 Q
      refine x_istoren (q := 46) (ls' := [(3, vI z29), (0, vR 71), (1, vI l1), (2, vI l2)]) rfl (by decide) rfl dX11_as_45 rfl ?_
      refine x_goto (tgt := 32) dX11_as_46 (by decide) ?_
      refine x_sub [1, 2, 3, 0] rfl ?_
      exact H
set_option maxRecDepth 20000 in
set_option maxHeartbeats 4000000 in
theorem B_X11_tie {G : GT} {d : Nat} {l1 : Int} {l2 : Int} {l3 : Int} {mem : Mem} {Q : Option AV → Mem → Prop} (hd : 3 ≤ d) (H : (inr l1 ∧ inr l2) ∧ ((0 ≤ mem 72 0) ∧ ((¬ ((0 ≤ l1 ∧ l1 < mem 72 0) ∧ (0 ≤ l2 ∧ l2 < mem 72 0)) → (∀ m6 : Mem, m6 = fndM mem (-1000001) → (Q (some (vI (-1000001))) m6))) ∧ (((0 ≤ l1 ∧ l1 < mem 72 0) ∧ (0 ≤ l2 ∧ l2 < mem 72 0)) → ((inr l3) ∧ (((0 ≤ l3 ∧ l3 ≤ 99) → (((l1 ≠ l2) → ((0 ≤ 41 + 12 * l1 + l2 ∧ 41 + 12 * l1 + l2 < 553) ∧ ((0 ≤ (41 + (12 * l1)) + l2 ∧ (41 + (12 * l1)) + l2 < 553) ∧ (∀ m16 : Mem, m16 = upM mem 72 ((41 + (12 * l1)) + l2) l3 → (Q (some (vI (mem 72 (41 + 12 * l1 + l2)))) m16))))) ∧ (¬ (l1 ≠ l2) → (∀ m17 : Mem, m17 = fndM mem (-1000003) → (Q (some (vI (-1000003))) m17))))) ∧ (¬ (0 ≤ l3 ∧ l3 ≤ 99) → (∀ m18 : Mem, m18 = fndM mem (-1000001) → (Q (some (vI (-1000001))) m18))))))))) : C_X11_tie G d [vR 71, vI l1, vI l2, vI l3] mem Q := by
  refine Ct_of_Ex (by decide +kernel) (by exact Nat.le_of_ble_eq_true rfl) (ls := [(0, vR 71), (1, vI l1), (2, vI l2), (3, vI l3)]) rfl ?_
  show E_X11_tie G d 0 [(0, vR 71), (1, vI l1), (2, vI l2), (3, vI l3)] [] mem Q
  refine x_aloadn (q := 1) 0 rfl rfl rfl dX11_tie_0 rfl ?_
  refine x_iloadn (q := 2) 1 rfl rfl dX11_tie_1 rfl ?_
  refine x_iloadn (q := 3) 2 rfl rfl dX11_tie_2 rfl ?_
  obtain ⟨⟨s1, s2⟩, H⟩ := H
  obtain ⟨s3, H⟩ := H
  refine x_callV (q := 6) (d := d - 1) (as := [vI l1, vI l2]) (st := []) dX11_tie_3 rfl mv_X11_119 sh_71 rfl rfl rfl (by exact Nat.le_of_ble_eq_true rfl) ⟨by show _ ≤ d; omega, by show _ ≤ 40 * d; omega⟩ ⟨Nat.le_refl _, Nat.le_refl _⟩ (ct_areMachines (by omega) s3 s1 s2 ?_)
  show E_X11_tie G d 6 [(0, vR 71), (1, vI l1), (2, vI l2), (3, vI l3)] [vI (bz ((0 ≤ l1 ∧ l1 < mem 72 0) ∧ (0 ≤ l2 ∧ l2 < mem 72 0)))] mem Q
  obtain ⟨H1, H2⟩ := H
  refine x_if_eq (tgt := 19) (q := 9) dX11_tie_6 (by decide) rfl (bz_inr _) (fun hB => ?_) (fun hB => ?_)
  · have H := H1 (bz_0.mp hB)
    refine x_aloadn (q := 20) 0 rfl rfl rfl dX11_tie_19 rfl ?_
    refine x_ldc (q := 22) (z := (-1000001)) cn_X11_87 (by decide) dX11_tie_20 rfl ?_
    obtain ⟨m6, em6⟩ : ∃ m9 : Mem, m9 = fndM mem (-1000001) := ⟨_, rfl⟩
    have H := H m6 em6
    refine x_callV (q := 25) (d := d - 1) (as := [vI (-1000001)]) (st := []) dX11_tie_22 rfl mv_X11_88 sh_71 rfl rfl rfl (by exact Nat.le_of_ble_eq_true rfl) ⟨by show _ ≤ d; omega, by show _ ≤ 40 * d; omega⟩ ⟨Nat.le_refl _, Nat.le_refl _⟩ (ct_finding (by decide) (by decide) ?_)
    rw [← em6]
    show E_X11_tie G d 25 [(0, vR 71), (1, vI l1), (2, vI l2), (3, vI l3)] [vI (-1000001)] m6 Q
    exact x_iret rfl dX11_tie_25 H
  · have H := H2 (Classical.byContradiction (fun z => hB (bz_0.mpr z)))
    refine x_iloadn (q := 10) 3 rfl rfl dX11_tie_9 rfl ?_
    refine x_iconst (q := 11) dX11_tie_10 rfl ?_
    refine x_bipush (q := 13) rfl dX11_tie_11 rfl ?_
    obtain ⟨s7, H⟩ := H
    refine x_callS (q := 16) (d := d - 1) (as := [vI l3, vI 0, vI 99]) (st := []) dX11_tie_13 rfl ms_X11_83 rfl rfl (by exact Nat.le_of_ble_eq_true rfl) ⟨by show _ ≤ d; omega, by show _ ≤ 40 * d; omega⟩ ⟨Nat.le_refl _, Nat.le_refl _⟩ (ct_within s7 (by decide) (by decide) ?_)
    show E_X11_tie G d 16 [(0, vR 71), (1, vI l1), (2, vI l2), (3, vI l3)] [vI (bz (0 ≤ l3 ∧ l3 ≤ 99))] mem Q
    obtain ⟨H1, H2⟩ := H
    refine x_if_ne (tgt := 26) (q := 19) dX11_tie_16 (by decide) rfl (bz_inr _) (fun hB => ?_) (fun hB => ?_)
    · have H := H1 (bz_n0.mp hB)
      refine x_iloadn (q := 27) 1 rfl rfl dX11_tie_26 rfl ?_
      refine x_iloadn (q := 28) 2 rfl rfl dX11_tie_27 rfl ?_
      obtain ⟨H1, H2⟩ := H
      refine x_icmp_ne (tgt := 38) (q := 31) dX11_tie_28 (by decide) rfl s1 s2 (fun hB => ?_) (fun hB => ?_)
      · have H := H1 (hB)
        refine x_aloadn (q := 39) 0 rfl rfl rfl dX11_tie_38 rfl ?_
        refine x_iloadn (q := 40) 1 rfl rfl dX11_tie_39 rfl ?_
        refine x_iloadn (q := 41) 2 rfl rfl dX11_tie_40 rfl ?_
        obtain ⟨⟨s12, s13⟩, H⟩ := H
        refine x_callV (q := 44) (d := d - 1) (as := [vI l1, vI l2]) (st := []) dX11_tie_41 rfl mv_X11_108 sh_71 rfl rfl rfl (by exact Nat.le_of_ble_eq_true rfl) ⟨by show _ ≤ d; omega, by show _ ≤ 40 * d; omega⟩ ⟨Nat.le_refl _, Nat.le_refl _⟩ (ct_tieOf s12 s13 ?_)
        show E_X11_tie G d 44 [(0, vR 71), (1, vI l1), (2, vI l2), (3, vI l3)] [vI (mem 72 (41 + 12 * l1 + l2))] mem Q
        refine x_istore (q := 46) (ls' := [(4, vI (mem 72 (41 + 12 * l1 + l2))), (0, vR 71), (1, vI l1), (2, vI l2), (3, vI l3)]) (by decide) rfl dX11_tie_44 rfl ?_
        refine x_aloadn (q := 47) 1 rfl rfl rfl dX11_tie_46 rfl ?_
        refine x_getr (q := 50) dX11_tie_47 rfl fa_X11_9 sh_71 rfl ?_
        refine x_bipush (q := 52) rfl dX11_tie_50 rfl ?_
        refine x_bipush (q := 54) rfl dX11_tie_52 rfl ?_
        refine x_iloadn (q := 55) 2 rfl rfl dX11_tie_54 rfl ?_
        refine x_imul (q := 56) dX11_tie_55 rfl ?_
        refine x_iadd (q := 57) dX11_tie_56 rfl ?_
        refine x_iloadn (q := 58) 3 rfl rfl dX11_tie_57 rfl ?_
        refine x_iadd (q := 59) dX11_tie_58 rfl ?_
        refine x_iloadn (q := 60) 4 rfl rfl dX11_tie_59 rfl ?_
        obtain ⟨⟨s14, s15⟩, H⟩ := H
        refine x_iast (q := 61) dX11_tie_60 rfl sh_72 s14 s15 s7 (fun m16 em16 => ?_)
        have H := H m16 em16
        refine x_iload (q := 63) 0 rfl dX11_tie_61 rfl ?_
        exact x_iret rfl dX11_tie_63 H
      · have H := H2 (hB)
        refine x_aloadn (q := 32) 0 rfl rfl rfl dX11_tie_31 rfl ?_
        refine x_ldc (q := 34) (z := (-1000003)) cn_X11_122 (by decide) dX11_tie_32 rfl ?_
        obtain ⟨m17, em17⟩ : ∃ m9 : Mem, m9 = fndM mem (-1000003) := ⟨_, rfl⟩
        have H := H m17 em17
        refine x_callV (q := 37) (d := d - 1) (as := [vI (-1000003)]) (st := []) dX11_tie_34 rfl mv_X11_88 sh_71 rfl rfl rfl (by exact Nat.le_of_ble_eq_true rfl) ⟨by show _ ≤ d; omega, by show _ ≤ 40 * d; omega⟩ ⟨Nat.le_refl _, Nat.le_refl _⟩ (ct_finding (by decide) (by decide) ?_)
        rw [← em17]
        show E_X11_tie G d 37 [(0, vR 71), (1, vI l1), (2, vI l2), (3, vI l3)] [vI (-1000003)] m17 Q
        exact x_iret rfl dX11_tie_37 H
    · have H := H2 (fun z => hB (bz_n0.mpr z))
      refine x_aloadn (q := 20) 0 rfl rfl rfl dX11_tie_19 rfl ?_
      refine x_ldc (q := 22) (z := (-1000001)) cn_X11_87 (by decide) dX11_tie_20 rfl ?_
      obtain ⟨m18, em18⟩ : ∃ m9 : Mem, m9 = fndM mem (-1000001) := ⟨_, rfl⟩
      have H := H m18 em18
      refine x_callV (q := 25) (d := d - 1) (as := [vI (-1000001)]) (st := []) dX11_tie_22 rfl mv_X11_88 sh_71 rfl rfl rfl (by exact Nat.le_of_ble_eq_true rfl) ⟨by show _ ≤ d; omega, by show _ ≤ 40 * d; omega⟩ ⟨Nat.le_refl _, Nat.le_refl _⟩ (ct_finding (by decide) (by decide) ?_)
      rw [← em18]
      show E_X11_tie G d 25 [(0, vR 71), (1, vI l1), (2, vI l2), (3, vI l3)] [vI (-1000001)] m18 Q
      exact x_iret rfl dX11_tie_25 H
set_option maxRecDepth 20000 in
set_option maxHeartbeats 4000000 in
theorem B_X11_say {G : GT} {d : Nat} {l1 : Int} {l2 : Int} {l3 : Int} {mem : Mem} {Q : Option AV → Mem → Prop} (hd : 1 ≤ d) (H : C_X11_whyNot G (d - 1) [vR 71, vI l1, vI l2] mem (fun r9 m1 => ∃ z2 : Int, r9 = some (vI z2) ∧ ((inr z2) ∧ (((z2 = 0) → ((inr l1 ∧ inr l2 ∧ inr l3) ∧ ((0 ≤ m1 72 1 ∧ m1 72 1 < 60) ∧ (∀ m11 : Mem, m11 = ssM m1 l1 l2 l3 → (Q (some (vI ((m11 72 1) - 1))) m11))))) ∧ (¬ (z2 = 0) → ((-1000006 ≤ z2 ∧ z2 ≤ -1000001) ∧ (∀ m15 : Mem, m15 = fndM m1 z2 → (Q (some (vI z2)) m15)))))))) : C_X11_say G d [vR 71, vI l1, vI l2, vI l3] mem Q := by
  refine Ct_of_Ex (by decide +kernel) (by exact Nat.le_of_ble_eq_true rfl) (ls := [(0, vR 71), (1, vI l1), (2, vI l2), (3, vI l3)]) rfl ?_
  show E_X11_say G d 0 [(0, vR 71), (1, vI l1), (2, vI l2), (3, vI l3)] [] mem Q
  refine x_aloadn (q := 1) 0 rfl rfl rfl dX11_say_0 rfl ?_
  refine x_iloadn (q := 2) 1 rfl rfl dX11_say_1 rfl ?_
  refine x_iloadn (q := 3) 2 rfl rfl dX11_say_2 rfl ?_
  refine x_callV (q := 6) (d := d - 1) (as := [vI l1, vI l2]) (st := []) dX11_say_3 rfl mv_X11_123 sh_71 rfl rfl rfl (by exact Nat.le_of_ble_eq_true rfl) ⟨by show _ ≤ d; omega, by show _ ≤ 40 * d; omega⟩ ⟨Nat.le_refl _, Nat.le_refl _⟩ (Ct.mono H (fun r9 m1 H => ?_))
  obtain ⟨z2, rfl, H⟩ := H
  show E_X11_say G d 6 [(0, vR 71), (1, vI l1), (2, vI l2), (3, vI l3)] [vI z2] m1 Q
  refine x_istore (q := 8) (ls' := [(4, vI z2), (0, vR 71), (1, vI l1), (2, vI l2), (3, vI l3)]) (by decide) rfl dX11_say_6 rfl ?_
  refine x_iload (q := 10) 0 rfl dX11_say_8 rfl ?_
  obtain ⟨s3, H⟩ := H
  obtain ⟨H1, H2⟩ := H
  refine x_if_eq (tgt := 20) (q := 13) dX11_say_10 (by decide) rfl s3 (fun hB => ?_) (fun hB => ?_)
  · have H := H1 (hB)
    refine x_aloadn (q := 21) 1 rfl rfl rfl dX11_say_20 rfl ?_
    refine x_iloadn (q := 22) 2 rfl rfl dX11_say_21 rfl ?_
    refine x_iloadn (q := 23) 3 rfl rfl dX11_say_22 rfl ?_
    refine x_iloadn (q := 24) 4 rfl rfl dX11_say_23 rfl ?_
    obtain ⟨⟨s6, s7, s8⟩, H⟩ := H
    obtain ⟨⟨s9, s10⟩, H⟩ := H
    obtain ⟨m11, em11⟩ : ∃ m9 : Mem, m9 = ssM m1 l1 l2 l3 := ⟨_, rfl⟩
    have H := H m11 em11
    refine x_callV (q := 27) (d := d - 1) (as := [vI l1, vI l2, vI l3]) (st := []) dX11_say_24 rfl mv_X11_126 sh_71 rfl rfl rfl (by exact Nat.le_of_ble_eq_true rfl) ⟨by show _ ≤ d; omega, by show _ ≤ 40 * d; omega⟩ ⟨Nat.le_refl _, Nat.le_refl _⟩ (ct_saysSo s9 s10 s6 s7 s8 ?_)
    rw [← em11]
    show E_X11_say G d 27 [(4, vI z2), (0, vR 71), (1, vI l1), (2, vI l2), (3, vI l3)] [] m11 Q
    refine x_aloadn (q := 28) 1 rfl rfl rfl dX11_say_27 rfl ?_
    refine x_getr (q := 31) dX11_say_28 rfl fa_X11_9 sh_71 rfl ?_
    refine x_iconst (q := 32) dX11_say_31 rfl ?_
    refine x_iald (q := 33) dX11_say_32 rfl sh_72 (by decide) (by decide) (fun r12 => ?_)
    refine x_iconst (q := 34) dX11_say_33 rfl ?_
    refine x_isub (q := 35) dX11_say_34 rfl ?_
    exact x_iret rfl dX11_say_35 H
  · have H := H2 (hB)
    refine x_aloadn (q := 14) 1 rfl rfl rfl dX11_say_13 rfl ?_
    refine x_iload (q := 16) 0 rfl dX11_say_14 rfl ?_
    obtain ⟨⟨s13, s14⟩, H⟩ := H
    obtain ⟨m15, em15⟩ : ∃ m9 : Mem, m9 = fndM m1 z2 := ⟨_, rfl⟩
    have H := H m15 em15
    refine x_callV (q := 19) (d := d - 1) (as := [vI z2]) (st := []) dX11_say_16 rfl mv_X11_88 sh_71 rfl rfl rfl (by exact Nat.le_of_ble_eq_true rfl) ⟨by show _ ≤ d; omega, by show _ ≤ 40 * d; omega⟩ ⟨Nat.le_refl _, Nat.le_refl _⟩ (ct_finding s13 s14 ?_)
    rw [← em15]
    show E_X11_say G d 19 [(4, vI z2), (0, vR 71), (1, vI l1), (2, vI l2), (3, vI l3)] [vI z2] m15 Q
    exact x_iret rfl dX11_say_19 H
set_option maxRecDepth 20000 in
set_option maxHeartbeats 4000000 in
theorem B_X11_sayingIs {G : GT} {d : Nat} {l1 : Int} {l2 : Int} {mem : Mem} {Q : Option AV → Mem → Prop} (hd : 2 ≤ d) (H : (inr l1) ∧ ((0 ≤ mem 72 1) ∧ ((¬ (0 ≤ l1 ∧ l1 < mem 72 1) → (∀ m5 : Mem, m5 = fndM mem (-1000001) → (Q (some (vI (-1000001))) m5))) ∧ ((0 ≤ l1 ∧ l1 < mem 72 1) → ((inr l2) ∧ ((¬ (0 ≤ l2 ∧ l2 ≤ 3) → (∀ m9 : Mem, m9 = fndM mem (-1000001) → (Q (some (vI (-1000001))) m9))) ∧ ((0 ≤ l2 ∧ l2 ≤ 3) → ((0 ≤ 185 + 4 * l1 + l2 ∧ 185 + 4 * l1 + l2 < 553) ∧ (Q (some (vI (mem 72 (185 + 4 * l1 + l2)))) mem))))))))) : C_X11_sayingIs G d [vR 71, vI l1, vI l2] mem Q := by
  refine Ct_of_Ex (by decide +kernel) (by exact Nat.le_of_ble_eq_true rfl) (ls := [(0, vR 71), (1, vI l1), (2, vI l2)]) rfl ?_
  show E_X11_sayingIs G d 0 [(0, vR 71), (1, vI l1), (2, vI l2)] [] mem Q
  refine x_aloadn (q := 1) 0 rfl rfl rfl dX11_sayingIs_0 rfl ?_
  refine x_iloadn (q := 2) 1 rfl rfl dX11_sayingIs_1 rfl ?_
  refine x_iconst (q := 3) dX11_sayingIs_2 rfl ?_
  obtain ⟨s1, H⟩ := H
  obtain ⟨s2, H⟩ := H
  refine x_callV (q := 6) (d := d - 1) (as := [vI l1, vI 1]) (st := []) dX11_sayingIs_3 rfl mv_X11_101 sh_71 rfl rfl rfl (by exact Nat.le_of_ble_eq_true rfl) ⟨by show _ ≤ d; omega, by show _ ≤ 40 * d; omega⟩ ⟨Nat.le_refl _, Nat.le_refl _⟩ ((fun hq9 => ct_is (by omega) (by decide) (by decide) s1 (fun _ => hq9) s2)  ?_)
  show E_X11_sayingIs G d 6 [(0, vR 71), (1, vI l1), (2, vI l2)] [vI (bz (0 ≤ l1 ∧ l1 < mem 72 1))] mem Q
  obtain ⟨H1, H2⟩ := H
  refine x_if_eq (tgt := 27) (q := 9) dX11_sayingIs_6 (by decide) rfl (bz_inr _) (fun hB => ?_) (fun hB => ?_)
  · have H := H1 (bz_0.mp hB)
    refine x_aloadn (q := 28) 0 rfl rfl rfl dX11_sayingIs_27 rfl ?_
    refine x_ldc (q := 30) (z := (-1000001)) cn_X11_87 (by decide) dX11_sayingIs_28 rfl ?_
    obtain ⟨m5, em5⟩ : ∃ m9 : Mem, m9 = fndM mem (-1000001) := ⟨_, rfl⟩
    have H := H m5 em5
    refine x_callV (q := 33) (d := d - 1) (as := [vI (-1000001)]) (st := []) dX11_sayingIs_30 rfl mv_X11_88 sh_71 rfl rfl rfl (by exact Nat.le_of_ble_eq_true rfl) ⟨by show _ ≤ d; omega, by show _ ≤ 40 * d; omega⟩ ⟨Nat.le_refl _, Nat.le_refl _⟩ (ct_finding (by decide) (by decide) ?_)
    rw [← em5]
    show E_X11_sayingIs G d 33 [(0, vR 71), (1, vI l1), (2, vI l2)] [vI (-1000001)] m5 Q
    exact x_iret rfl dX11_sayingIs_33 H
  · have H := H2 (Classical.byContradiction (fun z => hB (bz_0.mpr z)))
    refine x_iloadn (q := 10) 2 rfl rfl dX11_sayingIs_9 rfl ?_
    refine x_iconst (q := 11) dX11_sayingIs_10 rfl ?_
    refine x_iconst (q := 12) dX11_sayingIs_11 rfl ?_
    obtain ⟨s6, H⟩ := H
    refine x_callS (q := 15) (d := d - 1) (as := [vI l2, vI 0, vI 3]) (st := []) dX11_sayingIs_12 rfl ms_X11_83 rfl rfl (by exact Nat.le_of_ble_eq_true rfl) ⟨by show _ ≤ d; omega, by show _ ≤ 40 * d; omega⟩ ⟨Nat.le_refl _, Nat.le_refl _⟩ (ct_within s6 (by decide) (by decide) ?_)
    show E_X11_sayingIs G d 15 [(0, vR 71), (1, vI l1), (2, vI l2)] [vI (bz (0 ≤ l2 ∧ l2 ≤ 3))] mem Q
    obtain ⟨H1, H2⟩ := H
    refine x_if_eq (tgt := 27) (q := 18) dX11_sayingIs_15 (by decide) rfl (bz_inr _) (fun hB => ?_) (fun hB => ?_)
    · have H := H1 (bz_0.mp hB)
      refine x_aloadn (q := 28) 0 rfl rfl rfl dX11_sayingIs_27 rfl ?_
      refine x_ldc (q := 30) (z := (-1000001)) cn_X11_87 (by decide) dX11_sayingIs_28 rfl ?_
      obtain ⟨m9, em9⟩ : ∃ m9 : Mem, m9 = fndM mem (-1000001) := ⟨_, rfl⟩
      have H := H m9 em9
      refine x_callV (q := 33) (d := d - 1) (as := [vI (-1000001)]) (st := []) dX11_sayingIs_30 rfl mv_X11_88 sh_71 rfl rfl rfl (by exact Nat.le_of_ble_eq_true rfl) ⟨by show _ ≤ d; omega, by show _ ≤ 40 * d; omega⟩ ⟨Nat.le_refl _, Nat.le_refl _⟩ (ct_finding (by decide) (by decide) ?_)
      rw [← em9]
      show E_X11_sayingIs G d 33 [(0, vR 71), (1, vI l1), (2, vI l2)] [vI (-1000001)] m9 Q
      exact x_iret rfl dX11_sayingIs_33 H
    · have H := H2 (Classical.byContradiction (fun z => hB (bz_0.mpr z)))
      refine x_aloadn (q := 19) 0 rfl rfl rfl dX11_sayingIs_18 rfl ?_
      refine x_iloadn (q := 20) 1 rfl rfl dX11_sayingIs_19 rfl ?_
      refine x_iloadn (q := 21) 2 rfl rfl dX11_sayingIs_20 rfl ?_
      obtain ⟨⟨s10, s11⟩, H⟩ := H
      refine x_callV (q := 24) (d := d - 1) (as := [vI l1, vI l2]) (st := []) dX11_sayingIs_21 rfl mv_X11_97 sh_71 rfl rfl rfl (by exact Nat.le_of_ble_eq_true rfl) ⟨by show _ ≤ d; omega, by show _ ≤ 40 * d; omega⟩ ⟨Nat.le_refl _, Nat.le_refl _⟩ (ct_saying s10 s11 ?_)
      show E_X11_sayingIs G d 24 [(0, vR 71), (1, vI l1), (2, vI l2)] [vI (mem 72 (185 + 4 * l1 + l2))] mem Q
      refine x_goto (tgt := 33) dX11_sayingIs_24 (by decide) ?_
      exact x_iret rfl dX11_sayingIs_33 H
set_option maxRecDepth 20000 in
set_option maxHeartbeats 4000000 in
theorem B_X11_unsay {G : GT} {d : Nat} {l1 : Int} {mem : Mem} {Q : Option AV → Mem → Prop} (hd : 2 ≤ d) (H : (inr l1) ∧ ((0 ≤ mem 72 1) ∧ (((0 ≤ l1 ∧ l1 < mem 72 1) → ((0 ≤ l1 ∧ l1 < 60) ∧ (((mem 72 (185 + 4 * l1 + 3) = 1) → ((0 ≤ (185 + (4 * l1)) + 3 ∧ (185 + (4 * l1)) + 3 < 553) ∧ (∀ m11 : Mem, m11 = upM mem 72 ((185 + (4 * l1)) + 3) 0 → (Q (some (vI 1)) m11)))) ∧ (¬ (mem 72 (185 + 4 * l1 + 3) = 1) → (∀ m12 : Mem, m12 = fndM mem (-1000003) → (Q (some (vI (-1000003))) m12)))))) ∧ (¬ (0 ≤ l1 ∧ l1 < mem 72 1) → (∀ m13 : Mem, m13 = fndM mem (-1000001) → (Q (some (vI (-1000001))) m13)))))) : C_X11_unsay G d [vR 71, vI l1] mem Q := by
  refine Ct_of_Ex (by decide +kernel) (by exact Nat.le_of_ble_eq_true rfl) (ls := [(0, vR 71), (1, vI l1)]) rfl ?_
  show E_X11_unsay G d 0 [(0, vR 71), (1, vI l1)] [] mem Q
  refine x_aloadn (q := 1) 0 rfl rfl rfl dX11_unsay_0 rfl ?_
  refine x_iloadn (q := 2) 1 rfl rfl dX11_unsay_1 rfl ?_
  refine x_iconst (q := 3) dX11_unsay_2 rfl ?_
  obtain ⟨s1, H⟩ := H
  obtain ⟨s2, H⟩ := H
  refine x_callV (q := 6) (d := d - 1) (as := [vI l1, vI 1]) (st := []) dX11_unsay_3 rfl mv_X11_101 sh_71 rfl rfl rfl (by exact Nat.le_of_ble_eq_true rfl) ⟨by show _ ≤ d; omega, by show _ ≤ 40 * d; omega⟩ ⟨Nat.le_refl _, Nat.le_refl _⟩ ((fun hq9 => ct_is (by omega) (by decide) (by decide) s1 (fun _ => hq9) s2)  ?_)
  show E_X11_unsay G d 6 [(0, vR 71), (1, vI l1)] [vI (bz (0 ≤ l1 ∧ l1 < mem 72 1))] mem Q
  obtain ⟨H1, H2⟩ := H
  refine x_if_ne (tgt := 16) (q := 9) dX11_unsay_6 (by decide) rfl (bz_inr _) (fun hB => ?_) (fun hB => ?_)
  · have H := H1 (bz_n0.mp hB)
    refine x_aloadn (q := 17) 0 rfl rfl rfl dX11_unsay_16 rfl ?_
    refine x_iloadn (q := 18) 1 rfl rfl dX11_unsay_17 rfl ?_
    obtain ⟨⟨s5, s6⟩, H⟩ := H
    refine x_callV (q := 21) (d := d - 1) (as := [vI l1]) (st := []) dX11_unsay_18 rfl mv_X11_111 sh_71 rfl rfl rfl (by exact Nat.le_of_ble_eq_true rfl) ⟨by show _ ≤ d; omega, by show _ ≤ 40 * d; omega⟩ ⟨Nat.le_refl _, Nat.le_refl _⟩ (ct_counts (by omega) s5 s6 ?_)
    show E_X11_unsay G d 21 [(0, vR 71), (1, vI l1)] [vI (bz (mem 72 (185 + 4 * l1 + 3) = 1))] mem Q
    obtain ⟨H1, H2⟩ := H
    refine x_if_ne (tgt := 31) (q := 24) dX11_unsay_21 (by decide) rfl (bz_inr _) (fun hB => ?_) (fun hB => ?_)
    · have H := H1 (bz_n0.mp hB)
      refine x_aloadn (q := 32) 0 rfl rfl rfl dX11_unsay_31 rfl ?_
      refine x_getr (q := 35) dX11_unsay_32 rfl fa_X11_9 sh_71 rfl ?_
      refine x_sipush (q := 38) rfl dX11_unsay_35 rfl ?_
      refine x_iconst (q := 39) dX11_unsay_38 rfl ?_
      refine x_iloadn (q := 40) 1 rfl rfl dX11_unsay_39 rfl ?_
      refine x_imul (q := 41) dX11_unsay_40 rfl ?_
      refine x_iadd (q := 42) dX11_unsay_41 rfl ?_
      refine x_iconst (q := 43) dX11_unsay_42 rfl ?_
      refine x_iadd (q := 44) dX11_unsay_43 rfl ?_
      refine x_iconst (q := 45) dX11_unsay_44 rfl ?_
      obtain ⟨⟨s9, s10⟩, H⟩ := H
      refine x_iast (q := 46) dX11_unsay_45 rfl sh_72 s9 s10 (by decide) (fun m11 em11 => ?_)
      have H := H m11 em11
      refine x_iconst (q := 47) dX11_unsay_46 rfl ?_
      exact x_iret rfl dX11_unsay_47 H
    · have H := H2 (fun z => hB (bz_n0.mpr z))
      refine x_aloadn (q := 25) 0 rfl rfl rfl dX11_unsay_24 rfl ?_
      refine x_ldc (q := 27) (z := (-1000003)) cn_X11_122 (by decide) dX11_unsay_25 rfl ?_
      obtain ⟨m12, em12⟩ : ∃ m9 : Mem, m9 = fndM mem (-1000003) := ⟨_, rfl⟩
      have H := H m12 em12
      refine x_callV (q := 30) (d := d - 1) (as := [vI (-1000003)]) (st := []) dX11_unsay_27 rfl mv_X11_88 sh_71 rfl rfl rfl (by exact Nat.le_of_ble_eq_true rfl) ⟨by show _ ≤ d; omega, by show _ ≤ 40 * d; omega⟩ ⟨Nat.le_refl _, Nat.le_refl _⟩ (ct_finding (by decide) (by decide) ?_)
      rw [← em12]
      show E_X11_unsay G d 30 [(0, vR 71), (1, vI l1)] [vI (-1000003)] m12 Q
      exact x_iret rfl dX11_unsay_30 H
  · have H := H2 (fun z => hB (bz_n0.mpr z))
    refine x_aloadn (q := 10) 0 rfl rfl rfl dX11_unsay_9 rfl ?_
    refine x_ldc (q := 12) (z := (-1000001)) cn_X11_87 (by decide) dX11_unsay_10 rfl ?_
    obtain ⟨m13, em13⟩ : ∃ m9 : Mem, m9 = fndM mem (-1000001) := ⟨_, rfl⟩
    have H := H m13 em13
    refine x_callV (q := 15) (d := d - 1) (as := [vI (-1000001)]) (st := []) dX11_unsay_12 rfl mv_X11_88 sh_71 rfl rfl rfl (by exact Nat.le_of_ble_eq_true rfl) ⟨by show _ ≤ d; omega, by show _ ≤ 40 * d; omega⟩ ⟨Nat.le_refl _, Nat.le_refl _⟩ (ct_finding (by decide) (by decide) ?_)
    rw [← em13]
    show E_X11_unsay G d 15 [(0, vR 71), (1, vI l1)] [vI (-1000001)] m13 Q
    exact x_iret rfl dX11_unsay_15 H
set_option maxRecDepth 20000 in
set_option maxHeartbeats 4000000 in
theorem B_X11_most {G : GT} {d : Nat} {l1 : Int} {mem : Mem} {Q : Option AV → Mem → Prop} (hd : 1 ≤ d) (H : (inr l1) ∧ (((0 ≤ l1 ∧ l1 ≤ 12) → (∀ m5 : Mem, m5 = upM mem 72 2 l1 → (Q (some (vI (mem 72 2))) m5))) ∧ (¬ (0 ≤ l1 ∧ l1 ≤ 12) → (∀ m6 : Mem, m6 = fndM mem (-1000001) → (Q (some (vI (-1000001))) m6))))) : C_X11_most G d [vR 71, vI l1] mem Q := by
  refine Ct_of_Ex (by decide +kernel) (by exact Nat.le_of_ble_eq_true rfl) (ls := [(0, vR 71), (1, vI l1)]) rfl ?_
  show E_X11_most G d 0 [(0, vR 71), (1, vI l1)] [] mem Q
  refine x_iloadn (q := 1) 1 rfl rfl dX11_most_0 rfl ?_
  refine x_iconst (q := 2) dX11_most_1 rfl ?_
  refine x_bipush (q := 4) rfl dX11_most_2 rfl ?_
  obtain ⟨s1, H⟩ := H
  refine x_callS (q := 7) (d := d - 1) (as := [vI l1, vI 0, vI 12]) (st := []) dX11_most_4 rfl ms_X11_83 rfl rfl (by exact Nat.le_of_ble_eq_true rfl) ⟨by show _ ≤ d; omega, by show _ ≤ 40 * d; omega⟩ ⟨Nat.le_refl _, Nat.le_refl _⟩ (ct_within s1 (by decide) (by decide) ?_)
  show E_X11_most G d 7 [(0, vR 71), (1, vI l1)] [vI (bz (0 ≤ l1 ∧ l1 ≤ 12))] mem Q
  obtain ⟨H1, H2⟩ := H
  refine x_if_ne (tgt := 17) (q := 10) dX11_most_7 (by decide) rfl (bz_inr _) (fun hB => ?_) (fun hB => ?_)
  · have H := H1 (bz_n0.mp hB)
    refine x_aloadn (q := 18) 0 rfl rfl rfl dX11_most_17 rfl ?_
    refine x_getr (q := 21) dX11_most_18 rfl fa_X11_9 sh_71 rfl ?_
    refine x_iconst (q := 22) dX11_most_21 rfl ?_
    refine x_iald (q := 23) dX11_most_22 rfl sh_72 (by decide) (by decide) (fun r4 => ?_)
    refine x_istoren (q := 24) (ls' := [(2, vI (mem 72 2)), (0, vR 71), (1, vI l1)]) rfl (by decide) rfl dX11_most_23 rfl ?_
    refine x_aloadn (q := 25) 1 rfl rfl rfl dX11_most_24 rfl ?_
    refine x_getr (q := 28) dX11_most_25 rfl fa_X11_9 sh_71 rfl ?_
    refine x_iconst (q := 29) dX11_most_28 rfl ?_
    refine x_iloadn (q := 30) 2 rfl rfl dX11_most_29 rfl ?_
    refine x_iast (q := 31) dX11_most_30 rfl sh_72 (by decide) (by decide) s1 (fun m5 em5 => ?_)
    have H := H m5 em5
    refine x_iloadn (q := 32) 0 rfl rfl dX11_most_31 rfl ?_
    exact x_iret rfl dX11_most_32 H
  · have H := H2 (fun z => hB (bz_n0.mpr z))
    refine x_aloadn (q := 11) 0 rfl rfl rfl dX11_most_10 rfl ?_
    refine x_ldc (q := 13) (z := (-1000001)) cn_X11_87 (by decide) dX11_most_11 rfl ?_
    obtain ⟨m6, em6⟩ : ∃ m9 : Mem, m9 = fndM mem (-1000001) := ⟨_, rfl⟩
    have H := H m6 em6
    refine x_callV (q := 16) (d := d - 1) (as := [vI (-1000001)]) (st := []) dX11_most_13 rfl mv_X11_88 sh_71 rfl rfl rfl (by exact Nat.le_of_ble_eq_true rfl) ⟨by show _ ≤ d; omega, by show _ ≤ 40 * d; omega⟩ ⟨Nat.le_refl _, Nat.le_refl _⟩ (ct_finding (by decide) (by decide) ?_)
    rw [← em6]
    show E_X11_most G d 16 [(0, vR 71), (1, vI l1)] [vI (-1000001)] m6 Q
    exact x_iret rfl dX11_most_16 H
set_option maxRecDepth 20000 in
set_option maxHeartbeats 4000000 in
theorem B_X11_feed {G : GT} {d : Nat} {l1 : Int} {l3 : Int} {mem : Mem} {Q : Option AV → Mem → Prop} (hd : 1 ≤ d) (H : (inr l3) ∧ (((1 ≤ l3 ∧ l3 ≤ 8) → ((inr ((mem 72 3) + l3)) ∧ ((((mem 72 3) + l3 ≤ 80) → (E_X11_feed G d 40 [(0, vR 71), (1, vL l1), (3, vI l3), (4, vI 0)] [] mem Q)) ∧ (¬ ((mem 72 3) + l3 ≤ 80) → (∀ m8 : Mem, m8 = fndM mem (-1000004) → (Q (some (vI (-1000004))) m8)))))) ∧ (¬ (1 ≤ l3 ∧ l3 ≤ 8) → (∀ m9 : Mem, m9 = fndM mem (-1000001) → (Q (some (vI (-1000001))) m9))))) : C_X11_feed G d [vR 71, vL l1, vI l3] mem Q := by
  refine Ct_of_Ex (by decide +kernel) (by exact Nat.le_of_ble_eq_true rfl) (ls := [(0, vR 71), (1, vL l1), (3, vI l3)]) rfl ?_
  show E_X11_feed G d 0 [(0, vR 71), (1, vL l1), (3, vI l3)] [] mem Q
  refine x_iloadn (q := 1) 2 rfl rfl dX11_feed_0 rfl ?_
  refine x_iconst (q := 2) dX11_feed_1 rfl ?_
  refine x_bipush (q := 4) rfl dX11_feed_2 rfl ?_
  obtain ⟨s1, H⟩ := H
  refine x_callS (q := 7) (d := d - 1) (as := [vI l3, vI 1, vI 8]) (st := []) dX11_feed_4 rfl ms_X11_83 rfl rfl (by exact Nat.le_of_ble_eq_true rfl) ⟨by show _ ≤ d; omega, by show _ ≤ 40 * d; omega⟩ ⟨Nat.le_refl _, Nat.le_refl _⟩ (ct_within s1 (by decide) (by decide) ?_)
  show E_X11_feed G d 7 [(0, vR 71), (1, vL l1), (3, vI l3)] [vI (bz (1 ≤ l3 ∧ l3 ≤ 8))] mem Q
  obtain ⟨H1, H2⟩ := H
  refine x_if_ne (tgt := 17) (q := 10) dX11_feed_7 (by decide) rfl (bz_inr _) (fun hB => ?_) (fun hB => ?_)
  · have H := H1 (bz_n0.mp hB)
    refine x_aloadn (q := 18) 0 rfl rfl rfl dX11_feed_17 rfl ?_
    refine x_getr (q := 21) dX11_feed_18 rfl fa_X11_9 sh_71 rfl ?_
    refine x_iconst (q := 22) dX11_feed_21 rfl ?_
    refine x_iald (q := 23) dX11_feed_22 rfl sh_72 (by decide) (by decide) (fun r4 => ?_)
    refine x_iloadn (q := 24) 2 rfl rfl dX11_feed_23 rfl ?_
    refine x_iadd (q := 25) dX11_feed_24 rfl ?_
    refine x_bipush (q := 27) rfl dX11_feed_25 rfl ?_
    obtain ⟨s5, H⟩ := H
    obtain ⟨H1, H2⟩ := H
    refine x_icmp_le (tgt := 37) (q := 30) dX11_feed_27 (by decide) rfl s5 (by decide) (fun hB => ?_) (fun hB => ?_)
    · have H := H1 (hB)
      refine x_iconst (q := 38) dX11_feed_37 rfl ?_
      refine x_istore (q := 40) (ls' := [(4, vI 0), (0, vR 71), (1, vL l1), (3, vI l3)]) (by decide) rfl dX11_feed_38 rfl ?_
      refine x_sub [1, 2, 3, 0] rfl ?_
      exact H
    · have H := H2 (hB)
      refine x_aloadn (q := 31) 0 rfl rfl rfl dX11_feed_30 rfl ?_
      refine x_ldc (q := 33) (z := (-1000004)) cn_X11_92 (by decide) dX11_feed_31 rfl ?_
      obtain ⟨m8, em8⟩ : ∃ m9 : Mem, m9 = fndM mem (-1000004) := ⟨_, rfl⟩
      have H := H m8 em8
      refine x_callV (q := 36) (d := d - 1) (as := [vI (-1000004)]) (st := []) dX11_feed_33 rfl mv_X11_88 sh_71 rfl rfl rfl (by exact Nat.le_of_ble_eq_true rfl) ⟨by show _ ≤ d; omega, by show _ ≤ 40 * d; omega⟩ ⟨Nat.le_refl _, Nat.le_refl _⟩ (ct_finding (by decide) (by decide) ?_)
      rw [← em8]
      show E_X11_feed G d 36 [(0, vR 71), (1, vL l1), (3, vI l3)] [vI (-1000004)] m8 Q
      exact x_iret rfl dX11_feed_36 H
  · have H := H2 (fun z => hB (bz_n0.mpr z))
    refine x_aloadn (q := 11) 0 rfl rfl rfl dX11_feed_10 rfl ?_
    refine x_ldc (q := 13) (z := (-1000001)) cn_X11_87 (by decide) dX11_feed_11 rfl ?_
    obtain ⟨m9, em9⟩ : ∃ m9 : Mem, m9 = fndM mem (-1000001) := ⟨_, rfl⟩
    have H := H m9 em9
    refine x_callV (q := 16) (d := d - 1) (as := [vI (-1000001)]) (st := []) dX11_feed_13 rfl mv_X11_88 sh_71 rfl rfl rfl (by exact Nat.le_of_ble_eq_true rfl) ⟨by show _ ≤ d; omega, by show _ ≤ 40 * d; omega⟩ ⟨Nat.le_refl _, Nat.le_refl _⟩ (ct_finding (by decide) (by decide) ?_)
    rw [← em9]
    show E_X11_feed G d 16 [(0, vR 71), (1, vL l1), (3, vI l3)] [vI (-1000001)] m9 Q
    exact x_iret rfl dX11_feed_16 H
set_option maxRecDepth 20000 in
set_option maxHeartbeats 4000000 in
theorem B_X11_feed_40 {G : GT} {d : Nat} {l1 : Int} {l3 : Int} {l4 : Int} {mem : Mem} {Q : Option AV → Mem → Prop} (hd : 1 ≤ d) (H : (inr l4 ∧ inr l3) ∧ (((l3 ≤ l4) → (Q (some (vI (mem 72 3))) mem)) ∧ (¬ (l3 ≤ l4) → ((0 ≤ 425 + (mem 72 3) ∧ 425 + (mem 72 3) < 553) ∧ ((inr (land (lshr l1 (8 * l4)) 255)) ∧ (∀ m18 : Mem, m18 = upM mem 72 (425 + (mem 72 3)) (land (lshr l1 (8 * l4)) 255) → ((inr ((m18 72 3) + 1)) ∧ (∀ m21 : Mem, m21 = upM m18 72 3 ((m18 72 3) + 1) → (E_X11_feed G d 40 [(0, vR 71), (1, vL l1), (3, vI l3), (4, vI (l4 + 1))] [] m21 Q))))))))) : E_X11_feed G d 40 [(0, vR 71), (1, vL l1), (3, vI l3), (4, vI l4)] [] mem Q := by
  refine x_iload (q := 42) 3 rfl dX11_feed_40 rfl ?_
  refine x_iloadn (q := 43) 2 rfl rfl dX11_feed_42 rfl ?_
  obtain ⟨⟨s10, s11⟩, H⟩ := H
  obtain ⟨H1, H2⟩ := H
  refine x_icmp_ge (tgt := 89) (q := 46) dX11_feed_43 (by decide) rfl s10 s11 (fun hB => ?_) (fun hB => ?_)
  · have H := H1 (hB)
    refine x_aloadn (q := 90) 0 rfl rfl rfl dX11_feed_89 rfl ?_
    refine x_getr (q := 93) dX11_feed_90 rfl fa_X11_9 sh_71 rfl ?_
    refine x_iconst (q := 94) dX11_feed_93 rfl ?_
    refine x_iald (q := 95) dX11_feed_94 rfl sh_72 (by decide) (by decide) (fun r14 => ?_)
    exact x_iret rfl dX11_feed_95 H
  · have H := H2 (hB)
    refine x_aloadn (q := 47) 0 rfl rfl rfl dX11_feed_46 rfl ?_
    refine x_getr (q := 50) dX11_feed_47 rfl fa_X11_9 sh_71 rfl ?_
    refine x_sipush (q := 53) rfl dX11_feed_50 rfl ?_
    refine x_aloadn (q := 54) 0 rfl rfl rfl dX11_feed_53 rfl ?_
    refine x_getr (q := 57) dX11_feed_54 rfl fa_X11_9 sh_71 rfl ?_
    refine x_iconst (q := 58) dX11_feed_57 rfl ?_
    refine x_iald (q := 59) dX11_feed_58 rfl sh_72 (by decide) (by decide) (fun r15 => ?_)
    refine x_iadd (q := 60) dX11_feed_59 rfl ?_
    refine x_lloadn (q := 61) 1 rfl rfl dX11_feed_60 rfl ?_
    refine x_bipush (q := 63) rfl dX11_feed_61 rfl ?_
    refine x_iload (q := 65) 3 rfl dX11_feed_63 rfl ?_
    refine x_imul (q := 66) dX11_feed_65 rfl ?_
    refine x_lshr (q := 67) dX11_feed_66 rfl ?_
    refine x_ldc2 (q := 70) (z := 255) cn_X11_130 (by decide) dX11_feed_67 rfl ?_
    refine x_land (q := 71) dX11_feed_70 rfl ?_
    refine x_l2i (q := 72) dX11_feed_71 rfl ?_
    obtain ⟨⟨s16, s17⟩, H⟩ := H
    obtain ⟨s19, H⟩ := H
    refine x_iast (q := 73) dX11_feed_72 rfl sh_72 s16 s17 s19 (fun m18 em18 => ?_)
    have H := H m18 em18
    refine x_aloadn (q := 74) 0 rfl rfl rfl dX11_feed_73 rfl ?_
    refine x_getr (q := 77) dX11_feed_74 rfl fa_X11_9 sh_71 rfl ?_
    refine x_iconst (q := 78) dX11_feed_77 rfl ?_
    refine x_dup2 (q := 79) (by exact Nat.ne_of_beq_eq_false rfl) (by exact Nat.ne_of_beq_eq_false rfl) dX11_feed_78 rfl ?_
    refine x_iald (q := 80) dX11_feed_79 rfl sh_72 (by decide) (by decide) (fun r20 => ?_)
    refine x_iconst (q := 81) dX11_feed_80 rfl ?_
    refine x_iadd (q := 82) dX11_feed_81 rfl ?_
    obtain ⟨s22, H⟩ := H
    refine x_iast (q := 83) dX11_feed_82 rfl sh_72 (by decide) (by decide) s22 (fun m21 em21 => ?_)
    have H := H m21 em21
    refine x_iinc (q := 86) (ls' := [(4, vI (l4 + 1)), (0, vR 71), (1, vL l1), (3, vI l3)]) 3 rfl (by decide) rfl dX11_feed_83 rfl ?_
    refine x_goto (tgt := 40) dX11_feed_86 (by decide) ?_
    refine x_sub [1, 2, 3, 0] rfl ?_
    exact H
set_option maxRecDepth 20000 in
set_option maxHeartbeats 4000000 in
theorem B_X11_tell {G : GT} {d : Nat} {l1 : Int} {mem : Mem} {Q : Option AV → Mem → Prop} (hd : 1 ≤ d) (H : ((mem 72 4 ≠ 48) → ((0 ≤ 505 + (mem 72 4) ∧ 505 + (mem 72 4) < 553) ∧ ((inr l1) ∧ (∀ m7 : Mem, m7 = upM mem 72 (505 + (mem 72 4)) l1 → ((inr ((m7 72 4) + 1)) ∧ (∀ m10 : Mem, m10 = upM m7 72 4 ((m7 72 4) + 1) → (Q (some (vI (m10 72 4))) m10))))))) ∧ (¬ (mem 72 4 ≠ 48) → (∀ m13 : Mem, m13 = fndM mem (-1000004) → (Q (some (vI (-1000004))) m13)))) : C_X11_tell G d [vR 71, vI l1] mem Q := by
  refine Ct_of_Ex (by decide +kernel) (by exact Nat.le_of_ble_eq_true rfl) (ls := [(0, vR 71), (1, vI l1)]) rfl ?_
  show E_X11_tell G d 0 [(0, vR 71), (1, vI l1)] [] mem Q
  refine x_aloadn (q := 1) 0 rfl rfl rfl dX11_tell_0 rfl ?_
  refine x_getr (q := 4) dX11_tell_1 rfl fa_X11_9 sh_71 rfl ?_
  refine x_iconst (q := 5) dX11_tell_4 rfl ?_
  refine x_iald (q := 6) dX11_tell_5 rfl sh_72 (by decide) (by decide) (fun r1 => ?_)
  refine x_bipush (q := 8) rfl dX11_tell_6 rfl ?_
  obtain ⟨H1, H2⟩ := H
  refine x_icmp_ne (tgt := 18) (q := 11) dX11_tell_8 (by decide) rfl r1 (by decide) (fun hB => ?_) (fun hB => ?_)
  · have H := H1 (hB)
    refine x_aloadn (q := 19) 0 rfl rfl rfl dX11_tell_18 rfl ?_
    refine x_getr (q := 22) dX11_tell_19 rfl fa_X11_9 sh_71 rfl ?_
    refine x_sipush (q := 25) rfl dX11_tell_22 rfl ?_
    refine x_aloadn (q := 26) 0 rfl rfl rfl dX11_tell_25 rfl ?_
    refine x_getr (q := 29) dX11_tell_26 rfl fa_X11_9 sh_71 rfl ?_
    refine x_iconst (q := 30) dX11_tell_29 rfl ?_
    refine x_iald (q := 31) dX11_tell_30 rfl sh_72 (by decide) (by decide) (fun r4 => ?_)
    refine x_iadd (q := 32) dX11_tell_31 rfl ?_
    refine x_iloadn (q := 33) 1 rfl rfl dX11_tell_32 rfl ?_
    obtain ⟨⟨s5, s6⟩, H⟩ := H
    obtain ⟨s8, H⟩ := H
    refine x_iast (q := 34) dX11_tell_33 rfl sh_72 s5 s6 s8 (fun m7 em7 => ?_)
    have H := H m7 em7
    refine x_aloadn (q := 35) 0 rfl rfl rfl dX11_tell_34 rfl ?_
    refine x_getr (q := 38) dX11_tell_35 rfl fa_X11_9 sh_71 rfl ?_
    refine x_iconst (q := 39) dX11_tell_38 rfl ?_
    refine x_dup2 (q := 40) (by exact Nat.ne_of_beq_eq_false rfl) (by exact Nat.ne_of_beq_eq_false rfl) dX11_tell_39 rfl ?_
    refine x_iald (q := 41) dX11_tell_40 rfl sh_72 (by decide) (by decide) (fun r9 => ?_)
    refine x_iconst (q := 42) dX11_tell_41 rfl ?_
    refine x_iadd (q := 43) dX11_tell_42 rfl ?_
    obtain ⟨s11, H⟩ := H
    refine x_iast (q := 44) dX11_tell_43 rfl sh_72 (by decide) (by decide) s11 (fun m10 em10 => ?_)
    have H := H m10 em10
    refine x_aloadn (q := 45) 0 rfl rfl rfl dX11_tell_44 rfl ?_
    refine x_getr (q := 48) dX11_tell_45 rfl fa_X11_9 sh_71 rfl ?_
    refine x_iconst (q := 49) dX11_tell_48 rfl ?_
    refine x_iald (q := 50) dX11_tell_49 rfl sh_72 (by decide) (by decide) (fun r12 => ?_)
    exact x_iret rfl dX11_tell_50 H
  · have H := H2 (hB)
    refine x_aloadn (q := 12) 0 rfl rfl rfl dX11_tell_11 rfl ?_
    refine x_ldc (q := 14) (z := (-1000004)) cn_X11_92 (by decide) dX11_tell_12 rfl ?_
    obtain ⟨m13, em13⟩ : ∃ m9 : Mem, m9 = fndM mem (-1000004) := ⟨_, rfl⟩
    have H := H m13 em13
    refine x_callV (q := 17) (d := d - 1) (as := [vI (-1000004)]) (st := []) dX11_tell_14 rfl mv_X11_88 sh_71 rfl rfl rfl (by exact Nat.le_of_ble_eq_true rfl) ⟨by show _ ≤ d; omega, by show _ ≤ 40 * d; omega⟩ ⟨Nat.le_refl _, Nat.le_refl _⟩ (ct_finding (by decide) (by decide) ?_)
    rw [← em13]
    show E_X11_tell G d 17 [(0, vR 71), (1, vI l1)] [vI (-1000004)] m13 Q
    exact x_iret rfl dX11_tell_17 H
set_option maxRecDepth 20000 in
set_option maxHeartbeats 4000000 in
theorem B_X11_told {G : GT} {d : Nat} {l1 : Int} {mem : Mem} {Q : Option AV → Mem → Prop} (hd : 1 ≤ d) (H : (inr l1) ∧ ((¬ (1 ≤ l1 ∧ l1 ≤ 6) → (∀ m4 : Mem, m4 = fndM mem (-1000001) → (Q (some (vI (-1000001))) m4))) ∧ ((1 ≤ l1 ∧ l1 ≤ 6) → ((0 ≤ l1 ∧ l1 < 7) ∧ (Q (some (vI (mem 75 l1))) mem))))) : C_X11_told G d [vR 71, vI l1] mem Q := by
  refine Ct_of_Ex (by decide +kernel) (by exact Nat.le_of_ble_eq_true rfl) (ls := [(0, vR 71), (1, vI l1)]) rfl ?_
  show E_X11_told G d 0 [(0, vR 71), (1, vI l1)] [] mem Q
  refine x_iloadn (q := 1) 1 rfl rfl dX11_told_0 rfl ?_
  refine x_iconst (q := 2) dX11_told_1 rfl ?_
  refine x_bipush (q := 4) rfl dX11_told_2 rfl ?_
  obtain ⟨s1, H⟩ := H
  refine x_callS (q := 7) (d := d - 1) (as := [vI l1, vI 1, vI 6]) (st := []) dX11_told_4 rfl ms_X11_83 rfl rfl (by exact Nat.le_of_ble_eq_true rfl) ⟨by show _ ≤ d; omega, by show _ ≤ 40 * d; omega⟩ ⟨Nat.le_refl _, Nat.le_refl _⟩ (ct_within s1 (by decide) (by decide) ?_)
  show E_X11_told G d 7 [(0, vR 71), (1, vI l1)] [vI (bz (1 ≤ l1 ∧ l1 ≤ 6))] mem Q
  obtain ⟨H1, H2⟩ := H
  refine x_if_eq (tgt := 19) (q := 10) dX11_told_7 (by decide) rfl (bz_inr _) (fun hB => ?_) (fun hB => ?_)
  · have H := H1 (bz_0.mp hB)
    refine x_aloadn (q := 20) 0 rfl rfl rfl dX11_told_19 rfl ?_
    refine x_ldc (q := 22) (z := (-1000001)) cn_X11_87 (by decide) dX11_told_20 rfl ?_
    obtain ⟨m4, em4⟩ : ∃ m9 : Mem, m9 = fndM mem (-1000001) := ⟨_, rfl⟩
    have H := H m4 em4
    refine x_callV (q := 25) (d := d - 1) (as := [vI (-1000001)]) (st := []) dX11_told_22 rfl mv_X11_88 sh_71 rfl rfl rfl (by exact Nat.le_of_ble_eq_true rfl) ⟨by show _ ≤ d; omega, by show _ ≤ 40 * d; omega⟩ ⟨Nat.le_refl _, Nat.le_refl _⟩ (ct_finding (by decide) (by decide) ?_)
    rw [← em4]
    show E_X11_told G d 25 [(0, vR 71), (1, vI l1)] [vI (-1000001)] m4 Q
    exact x_iret rfl dX11_told_25 H
  · have H := H2 (Classical.byContradiction (fun z => hB (bz_0.mpr z)))
    refine x_aloadn (q := 11) 0 rfl rfl rfl dX11_told_10 rfl ?_
    refine x_getr (q := 14) dX11_told_11 rfl fa_X11_19 sh_71 rfl ?_
    refine x_iloadn (q := 15) 1 rfl rfl dX11_told_14 rfl ?_
    obtain ⟨⟨s5, s6⟩, H⟩ := H
    refine x_iald (q := 16) dX11_told_15 rfl sh_75 s5 s6 (fun r7 => ?_)
    refine x_goto (tgt := 25) dX11_told_16 (by decide) ?_
    exact x_iret rfl dX11_told_25 H
set_option maxRecDepth 20000 in
set_option maxHeartbeats 4000000 in
theorem B_X11_count {G : GT} {d : Nat} {l1 : Int} {mem : Mem} {Q : Option AV → Mem → Prop} (hd : 1 ≤ d) (H : (inr l1) ∧ ((l1 = 0 → (Q (some (vI (mem 72 0))) mem)) ∧ (l1 = 1 → (Q (some (vI (sm 144 (fun k => bI (decide (0 < mem 72 (41 + (k : Int)))))))) mem)) ∧ (l1 = 2 → (Q (some (vI (mem 72 1))) mem)) ∧ (l1 = 3 → (E_X11_count G d 69 [(0, vR 71), (2, vI 0), (3, vI 0)] [] mem Q)) ∧ (l1 = 4 → (Q (some (vI (mem 72 3))) mem)) ∧ (l1 = 5 → (Q (some (vI (mem 72 4))) mem)) ∧ (l1 = 6 → (Q (some (vI (mem 71 21))) mem)) ∧ (l1 = 7 → (E_X11_count G d 117 [(0, vR 71), (2, vI 0), (3, vI 0)] [] mem Q)) ∧ ((l1 < 0 ∨ 7 < l1) → (∀ m7 : Mem, m7 = fndM mem (-1000001) → (Q (some (vI (-1000001))) m7))))) : C_X11_count G d [vR 71, vI l1] mem Q := by
  refine Ct_of_Ex (by decide +kernel) (by exact Nat.le_of_ble_eq_true rfl) (ls := [(0, vR 71), (1, vI l1)]) rfl ?_
  show E_X11_count G d 0 [(0, vR 71), (1, vI l1)] [] mem Q
  refine x_iconst (q := 1) dX11_count_0 rfl ?_
  refine x_istoren (q := 2) (ls' := [(2, vI 0), (0, vR 71), (1, vI l1)]) rfl (by decide) rfl dX11_count_1 rfl ?_
  refine x_iloadn (q := 3) 2 rfl rfl dX11_count_2 rfl ?_
  obtain ⟨s1, H⟩ := H
  obtain ⟨H0, H1, H2, H3, H4, H5, H6, H7, H8⟩ := H
  rcases (show l1 = 0 ∨ l1 = 1 ∨ l1 = 2 ∨ l1 = 3 ∨ l1 = 4 ∨ l1 = 5 ∨ l1 = 6 ∨ l1 = 7 ∨ (l1 < 0 ∨ 7 < l1) by omega) with hB | hB | hB | hB | hB | hB | hB | hB | hB
  · have H := H0 hB
    refine x_tswIn (z := 0) (tgt := 48) dX11_count_3 hB (by decide) (by decide) (by decide) rfl (by decide) ?_
    refine x_aloadn (q := 49) 1 rfl rfl rfl dX11_count_48 rfl ?_
    refine x_getr (q := 52) dX11_count_49 rfl fa_X11_9 sh_71 rfl ?_
    refine x_iconst (q := 53) dX11_count_52 rfl ?_
    refine x_iald (q := 54) dX11_count_53 rfl sh_72 (by decide) (by decide) (fun r2 => ?_)
    exact x_iret rfl dX11_count_54 H
  · have H := H1 hB
    refine x_tswIn (z := 1) (tgt := 55) dX11_count_3 hB (by decide) (by decide) (by decide) rfl (by decide) ?_
    refine x_aloadn (q := 56) 1 rfl rfl rfl dX11_count_55 rfl ?_
    refine x_callV (q := 59) (d := d - 1) (as := []) (st := []) dX11_count_56 rfl mv_X11_248 sh_71 rfl rfl rfl (by exact Nat.le_of_ble_eq_true rfl) ⟨by show _ ≤ d; omega, by show _ ≤ 40 * d; omega⟩ ⟨Nat.le_refl _, Nat.le_refl _⟩ (ct_tieMany ?_)
    show E_X11_count G d 59 [(2, vI 0), (0, vR 71), (1, vI l1)] [vI (sm 144 (fun k => bI (decide (0 < mem 72 (41 + (k : Int))))))] mem Q
    exact x_iret rfl dX11_count_59 H
  · have H := H2 hB
    refine x_tswIn (z := 2) (tgt := 60) dX11_count_3 hB (by decide) (by decide) (by decide) rfl (by decide) ?_
    refine x_aloadn (q := 61) 1 rfl rfl rfl dX11_count_60 rfl ?_
    refine x_getr (q := 64) dX11_count_61 rfl fa_X11_9 sh_71 rfl ?_
    refine x_iconst (q := 65) dX11_count_64 rfl ?_
    refine x_iald (q := 66) dX11_count_65 rfl sh_72 (by decide) (by decide) (fun r3 => ?_)
    exact x_iret rfl dX11_count_66 H
  · have H := H3 hB
    refine x_tswIn (z := 3) (tgt := 67) dX11_count_3 hB (by decide) (by decide) (by decide) rfl (by decide) ?_
    refine x_iconst (q := 68) dX11_count_67 rfl ?_
    refine x_istoren (q := 69) (ls' := [(3, vI 0), (2, vI 0), (0, vR 71), (1, vI l1)]) rfl (by decide) rfl dX11_count_68 rfl ?_
    refine x_sub [2, 1, 0] rfl ?_
    exact H
  · have H := H4 hB
    refine x_tswIn (z := 4) (tgt := 96) dX11_count_3 hB (by decide) (by decide) (by decide) rfl (by decide) ?_
    refine x_aloadn (q := 97) 1 rfl rfl rfl dX11_count_96 rfl ?_
    refine x_getr (q := 100) dX11_count_97 rfl fa_X11_9 sh_71 rfl ?_
    refine x_iconst (q := 101) dX11_count_100 rfl ?_
    refine x_iald (q := 102) dX11_count_101 rfl sh_72 (by decide) (by decide) (fun r4 => ?_)
    exact x_iret rfl dX11_count_102 H
  · have H := H5 hB
    refine x_tswIn (z := 5) (tgt := 103) dX11_count_3 hB (by decide) (by decide) (by decide) rfl (by decide) ?_
    refine x_aloadn (q := 104) 1 rfl rfl rfl dX11_count_103 rfl ?_
    refine x_getr (q := 107) dX11_count_104 rfl fa_X11_9 sh_71 rfl ?_
    refine x_iconst (q := 108) dX11_count_107 rfl ?_
    refine x_iald (q := 109) dX11_count_108 rfl sh_72 (by decide) (by decide) (fun r5 => ?_)
    exact x_iret rfl dX11_count_109 H
  · have H := H6 hB
    refine x_tswIn (z := 6) (tgt := 110) dX11_count_3 hB (by decide) (by decide) (by decide) rfl (by decide) ?_
    refine x_aloadn (q := 111) 1 rfl rfl rfl dX11_count_110 rfl ?_
    refine x_geti (q := 114) (ji := 21) dX11_count_111 rfl fa_X11_271 sh_71 rfl rfl (fun r6 => ?_)
    exact x_iret rfl dX11_count_114 H
  · have H := H7 hB
    refine x_tswIn (z := 7) (tgt := 115) dX11_count_3 hB (by decide) (by decide) (by decide) rfl (by decide) ?_
    refine x_iconst (q := 116) dX11_count_115 rfl ?_
    refine x_istoren (q := 117) (ls' := [(3, vI 0), (2, vI 0), (0, vR 71), (1, vI l1)]) rfl (by decide) rfl dX11_count_116 rfl ?_
    refine x_sub [2, 1, 0] rfl ?_
    exact H
  · have H := H8 hB
    refine x_tswOut (tgt := 144) dX11_count_3 s1 hB (by decide) ?_
    refine x_aloadn (q := 145) 1 rfl rfl rfl dX11_count_144 rfl ?_
    refine x_ldc (q := 147) (z := (-1000001)) cn_X11_87 (by decide) dX11_count_145 rfl ?_
    obtain ⟨m7, em7⟩ : ∃ m9 : Mem, m9 = fndM mem (-1000001) := ⟨_, rfl⟩
    have H := H m7 em7
    refine x_callV (q := 150) (d := d - 1) (as := [vI (-1000001)]) (st := []) dX11_count_147 rfl mv_X11_88 sh_71 rfl rfl rfl (by exact Nat.le_of_ble_eq_true rfl) ⟨by show _ ≤ d; omega, by show _ ≤ 40 * d; omega⟩ ⟨Nat.le_refl _, Nat.le_refl _⟩ (ct_finding (by decide) (by decide) ?_)
    rw [← em7]
    show E_X11_count G d 150 [(2, vI 0), (0, vR 71), (1, vI l1)] [vI (-1000001)] m7 Q
    exact x_iret rfl dX11_count_150 H
set_option maxRecDepth 20000 in
set_option maxHeartbeats 4000000 in
theorem B_X11_count_69 {G : GT} {d : Nat} {l2 : Int} {l3 : Int} {mem : Mem} {Q : Option AV → Mem → Prop} (hd : 1 ≤ d) (H : (inr l3) ∧ (((mem 72 1 ≤ l3) → (Q (some (vI l2)) mem)) ∧ (¬ (mem 72 1 ≤ l3) → ((0 ≤ 185 + 4 * l3 + 3 ∧ 185 + 4 * l3 + 3 < 553) ∧ (E_X11_count G d 69 [(0, vR 71), (2, vI (l2 + (mem 72 (185 + 4 * l3 + 3)))), (3, vI (l3 + 1))] [] mem Q))))) : E_X11_count G d 69 [(0, vR 71), (2, vI l2), (3, vI l3)] [] mem Q := by
  refine x_iloadn (q := 70) 2 rfl rfl dX11_count_69 rfl ?_
  refine x_aloadn (q := 71) 0 rfl rfl rfl dX11_count_70 rfl ?_
  refine x_getr (q := 74) dX11_count_71 rfl fa_X11_9 sh_71 rfl ?_
  refine x_iconst (q := 75) dX11_count_74 rfl ?_
  refine x_iald (q := 76) dX11_count_75 rfl sh_72 (by decide) (by decide) (fun r8 => ?_)
  obtain ⟨s9, H⟩ := H
  obtain ⟨H1, H2⟩ := H
  refine x_icmp_ge (tgt := 94) (q := 79) dX11_count_76 (by decide) rfl s9 r8 (fun hB => ?_) (fun hB => ?_)
  · have H := H1 (hB)
    refine x_iloadn (q := 95) 1 rfl rfl dX11_count_94 rfl ?_
    exact x_iret rfl dX11_count_95 H
  · have H := H2 (hB)
    refine x_iloadn (q := 80) 1 rfl rfl dX11_count_79 rfl ?_
    refine x_aloadn (q := 81) 0 rfl rfl rfl dX11_count_80 rfl ?_
    refine x_iloadn (q := 82) 2 rfl rfl dX11_count_81 rfl ?_
    refine x_iconst (q := 83) dX11_count_82 rfl ?_
    obtain ⟨⟨s12, s13⟩, H⟩ := H
    refine x_callV (q := 86) (d := d - 1) (as := [vI l3, vI 3]) (st := [vI l2]) dX11_count_83 rfl mv_X11_97 sh_71 rfl rfl rfl (by exact Nat.le_of_ble_eq_true rfl) ⟨by show _ ≤ d; omega, by show _ ≤ 40 * d; omega⟩ ⟨Nat.le_refl _, Nat.le_refl _⟩ (ct_saying s12 s13 ?_)
    show E_X11_count G d 86 [(0, vR 71), (2, vI l2), (3, vI l3)] [vI (mem 72 (185 + 4 * l3 + 3)), vI l2] mem Q
    refine x_iadd (q := 87) dX11_count_86 rfl ?_
    refine x_istoren (q := 88) (ls' := [(2, vI (l2 + (mem 72 (185 + 4 * l3 + 3)))), (0, vR 71), (3, vI l3)]) rfl (by decide) rfl dX11_count_87 rfl ?_
    refine x_iinc (q := 91) (ls' := [(3, vI (l3 + 1)), (2, vI (l2 + (mem 72 (185 + 4 * l3 + 3)))), (0, vR 71)]) 2 rfl (by decide) rfl dX11_count_88 rfl ?_
    refine x_goto (tgt := 69) dX11_count_91 (by decide) ?_
    refine x_sub [2, 1, 0] rfl ?_
    exact H
set_option maxRecDepth 20000 in
set_option maxHeartbeats 4000000 in
theorem B_X11_count_117 {G : GT} {d : Nat} {l2 : Int} {l3 : Int} {mem : Mem} {Q : Option AV → Mem → Prop} (hd : 1 ≤ d) (H : (inr l3) ∧ (((144 ≤ l3) → (Q (some (vI l2)) mem)) ∧ (¬ (144 ≤ l3) → ((0 ≤ 41 + l3 ∧ 41 + l3 < 553) ∧ (E_X11_count G d 117 [(0, vR 71), (2, vI (l2 + (mem 72 (41 + l3)))), (3, vI (l3 + 1))] [] mem Q))))) : E_X11_count G d 117 [(0, vR 71), (2, vI l2), (3, vI l3)] [] mem Q := by
  refine x_iloadn (q := 118) 2 rfl rfl dX11_count_117 rfl ?_
  refine x_sipush (q := 121) rfl dX11_count_118 rfl ?_
  obtain ⟨s14, H⟩ := H
  obtain ⟨H1, H2⟩ := H
  refine x_icmp_ge (tgt := 142) (q := 124) dX11_count_121 (by decide) rfl s14 (by decide) (fun hB => ?_) (fun hB => ?_)
  · have H := H1 (hB)
    refine x_iloadn (q := 143) 1 rfl rfl dX11_count_142 rfl ?_
    exact x_iret rfl dX11_count_143 H
  · have H := H2 (hB)
    refine x_iloadn (q := 125) 1 rfl rfl dX11_count_124 rfl ?_
    refine x_aloadn (q := 126) 0 rfl rfl rfl dX11_count_125 rfl ?_
    refine x_getr (q := 129) dX11_count_126 rfl fa_X11_9 sh_71 rfl ?_
    refine x_bipush (q := 131) rfl dX11_count_129 rfl ?_
    refine x_iloadn (q := 132) 2 rfl rfl dX11_count_131 rfl ?_
    refine x_iadd (q := 133) dX11_count_132 rfl ?_
    obtain ⟨⟨s17, s18⟩, H⟩ := H
    refine x_iald (q := 134) dX11_count_133 rfl sh_72 s17 s18 (fun r19 => ?_)
    refine x_iadd (q := 135) dX11_count_134 rfl ?_
    refine x_istoren (q := 136) (ls' := [(2, vI (l2 + (mem 72 (41 + l3)))), (0, vR 71), (3, vI l3)]) rfl (by decide) rfl dX11_count_135 rfl ?_
    refine x_iinc (q := 139) (ls' := [(3, vI (l3 + 1)), (2, vI (l2 + (mem 72 (41 + l3)))), (0, vR 71)]) 2 rfl (by decide) rfl dX11_count_136 rfl ?_
    refine x_goto (tgt := 117) dX11_count_139 (by decide) ?_
    refine x_sub [2, 1, 0] rfl ?_
    exact H
set_option maxRecDepth 20000 in
set_option maxHeartbeats 4000000 in
theorem B_X11_image {G : GT} {d : Nat}  {mem : Mem} {Q : Option AV → Mem → Prop} (hd : 1 ≤ d) (H : ∀ m1 : Mem, m1 = cpM mem 72 73 0 0 553 → ((inr ((m1 71 3) + 1)) ∧ (∀ m3 : Mem, m3 = upM m1 71 3 ((m1 71 3) + 1) → (Q (some (vI (m3 71 3))) m3)))) : C_X11_image G d [vR 71] mem Q := by
  refine Ct_of_Ex (by decide +kernel) (by exact Nat.le_of_ble_eq_true rfl) (ls := [(0, vR 71)]) rfl ?_
  show E_X11_image G d 0 [(0, vR 71)] [] mem Q
  refine x_aloadn (q := 1) 0 rfl rfl rfl dX11_image_0 rfl ?_
  refine x_getr (q := 4) dX11_image_1 rfl fa_X11_9 sh_71 rfl ?_
  refine x_aloadn (q := 5) 0 rfl rfl rfl dX11_image_4 rfl ?_
  refine x_getr (q := 8) dX11_image_5 rfl fa_X11_13 sh_71 rfl ?_
  obtain ⟨m1, em1⟩ : ∃ m9 : Mem, m9 = cpM mem 72 73 0 0 553 := ⟨_, rfl⟩
  have H := H m1 em1
  refine x_callS (q := 11) (d := d - 1) (as := [vR 72, vR 73]) (st := []) dX11_image_8 rfl ms_X11_183 rfl rfl (by exact Nat.le_of_ble_eq_true rfl) ⟨by show _ ≤ d; omega, by show _ ≤ 40 * d; omega⟩ ⟨Nat.le_refl _, Nat.le_refl _⟩ (ct_copy (by decide) (by decide) (by decide) ?_)
  rw [← em1]
  show E_X11_image G d 11 [(0, vR 71)] [] m1 Q
  refine x_aloadn (q := 12) 0 rfl rfl rfl dX11_image_11 rfl ?_
  refine x_dup (q := 13) (by exact Nat.ne_of_beq_eq_false rfl) dX11_image_12 rfl ?_
  refine x_geti (q := 16) (ji := 3) dX11_image_13 rfl fa_X11_301 sh_71 rfl rfl (fun r2 => ?_)
  refine x_iconst (q := 17) dX11_image_16 rfl ?_
  refine x_iadd (q := 18) dX11_image_17 rfl ?_
  obtain ⟨s4, H⟩ := H
  refine x_puti (q := 21) (ji := 3) dX11_image_18 rfl fp_X11_301 sh_71 rfl rfl s4 (fun m3 em3 => ?_)
  have H := H m3 em3
  refine x_aloadn (q := 22) 0 rfl rfl rfl dX11_image_21 rfl ?_
  refine x_geti (q := 25) (ji := 3) dX11_image_22 rfl fa_X11_301 sh_71 rfl rfl (fun r5 => ?_)
  exact x_iret rfl dX11_image_25 H
set_option maxRecDepth 20000 in
set_option maxHeartbeats 4000000 in
theorem B_X11_restore {G : GT} {d : Nat}  {mem : Mem} {Q : Option AV → Mem → Prop} (hd : 1 ≤ d) (H : ((mem 71 3 ≠ 0) → (∀ m4 : Mem, m4 = cpM mem 73 72 0 0 553 → (Q (some (vI (m4 72 0))) m4))) ∧ (¬ (mem 71 3 ≠ 0) → (∀ m6 : Mem, m6 = fndM mem (-1000002) → (Q (some (vI (-1000002))) m6)))) : C_X11_restore G d [vR 71] mem Q := by
  refine Ct_of_Ex (by decide +kernel) (by exact Nat.le_of_ble_eq_true rfl) (ls := [(0, vR 71)]) rfl ?_
  show E_X11_restore G d 0 [(0, vR 71)] [] mem Q
  refine x_aloadn (q := 1) 0 rfl rfl rfl dX11_restore_0 rfl ?_
  refine x_geti (q := 4) (ji := 3) dX11_restore_1 rfl fa_X11_301 sh_71 rfl rfl (fun r1 => ?_)
  obtain ⟨H1, H2⟩ := H
  refine x_if_ne (tgt := 14) (q := 7) dX11_restore_4 (by decide) rfl r1 (fun hB => ?_) (fun hB => ?_)
  · have H := H1 (hB)
    refine x_aloadn (q := 15) 0 rfl rfl rfl dX11_restore_14 rfl ?_
    refine x_getr (q := 18) dX11_restore_15 rfl fa_X11_13 sh_71 rfl ?_
    refine x_aloadn (q := 19) 0 rfl rfl rfl dX11_restore_18 rfl ?_
    refine x_getr (q := 22) dX11_restore_19 rfl fa_X11_9 sh_71 rfl ?_
    obtain ⟨m4, em4⟩ : ∃ m9 : Mem, m9 = cpM mem 73 72 0 0 553 := ⟨_, rfl⟩
    have H := H m4 em4
    refine x_callS (q := 25) (d := d - 1) (as := [vR 73, vR 72]) (st := []) dX11_restore_22 rfl ms_X11_183 rfl rfl (by exact Nat.le_of_ble_eq_true rfl) ⟨by show _ ≤ d; omega, by show _ ≤ 40 * d; omega⟩ ⟨Nat.le_refl _, Nat.le_refl _⟩ (ct_copy (by decide) (by decide) (by decide) ?_)
    rw [← em4]
    show E_X11_restore G d 25 [(0, vR 71)] [] m4 Q
    refine x_aloadn (q := 26) 0 rfl rfl rfl dX11_restore_25 rfl ?_
    refine x_getr (q := 29) dX11_restore_26 rfl fa_X11_9 sh_71 rfl ?_
    refine x_iconst (q := 30) dX11_restore_29 rfl ?_
    refine x_iald (q := 31) dX11_restore_30 rfl sh_72 (by decide) (by decide) (fun r5 => ?_)
    exact x_iret rfl dX11_restore_31 H
  · have H := H2 (hB)
    refine x_aloadn (q := 8) 0 rfl rfl rfl dX11_restore_7 rfl ?_
    refine x_ldc (q := 10) (z := (-1000002)) cn_X11_219 (by decide) dX11_restore_8 rfl ?_
    obtain ⟨m6, em6⟩ : ∃ m9 : Mem, m9 = fndM mem (-1000002) := ⟨_, rfl⟩
    have H := H m6 em6
    refine x_callV (q := 13) (d := d - 1) (as := [vI (-1000002)]) (st := []) dX11_restore_10 rfl mv_X11_88 sh_71 rfl rfl rfl (by exact Nat.le_of_ble_eq_true rfl) ⟨by show _ ≤ d; omega, by show _ ≤ 40 * d; omega⟩ ⟨Nat.le_refl _, Nat.le_refl _⟩ (ct_finding (by decide) (by decide) ?_)
    rw [← em6]
    show E_X11_restore G d 13 [(0, vR 71)] [vI (-1000002)] m6 Q
    exact x_iret rfl dX11_restore_13 H
set_option maxRecDepth 20000 in
set_option maxHeartbeats 4000000 in
theorem B_X11_mended {G : GT} {d : Nat} {l1 : Int} {mem : Mem} {Q : Option AV → Mem → Prop} (hd : 2 ≤ d) (H : (inr l1) ∧ ((0 ≤ mem 72 0) ∧ (((0 ≤ l1 ∧ l1 < mem 72 0) → (E_X11_mended G d 20 [(0, vR 71), (1, vI l1), (2, vI 0), (3, vI 0)] [] mem Q)) ∧ (¬ (0 ≤ l1 ∧ l1 < mem 72 0) → (∀ m5 : Mem, m5 = fndM mem (-1000001) → (Q (some (vI (-1000001))) m5)))))) : C_X11_mended G d [vR 71, vI l1] mem Q := by
  refine Ct_of_Ex (by decide +kernel) (by exact Nat.le_of_ble_eq_true rfl) (ls := [(0, vR 71), (1, vI l1)]) rfl ?_
  show E_X11_mended G d 0 [(0, vR 71), (1, vI l1)] [] mem Q
  refine x_aloadn (q := 1) 0 rfl rfl rfl dX11_mended_0 rfl ?_
  refine x_iloadn (q := 2) 1 rfl rfl dX11_mended_1 rfl ?_
  refine x_iconst (q := 3) dX11_mended_2 rfl ?_
  obtain ⟨s1, H⟩ := H
  obtain ⟨s2, H⟩ := H
  refine x_callV (q := 6) (d := d - 1) (as := [vI l1, vI 0]) (st := []) dX11_mended_3 rfl mv_X11_101 sh_71 rfl rfl rfl (by exact Nat.le_of_ble_eq_true rfl) ⟨by show _ ≤ d; omega, by show _ ≤ 40 * d; omega⟩ ⟨Nat.le_refl _, Nat.le_refl _⟩ ((fun hq9 => ct_is (by omega) (by decide) (by decide) s1 (fun _ => hq9) s2)  ?_)
  show E_X11_mended G d 6 [(0, vR 71), (1, vI l1)] [vI (bz (0 ≤ l1 ∧ l1 < mem 72 0))] mem Q
  obtain ⟨H1, H2⟩ := H
  refine x_if_ne (tgt := 16) (q := 9) dX11_mended_6 (by decide) rfl (bz_inr _) (fun hB => ?_) (fun hB => ?_)
  · have H := H1 (bz_n0.mp hB)
    refine x_iconst (q := 17) dX11_mended_16 rfl ?_
    refine x_istoren (q := 18) (ls' := [(2, vI 0), (0, vR 71), (1, vI l1)]) rfl (by decide) rfl dX11_mended_17 rfl ?_
    refine x_iconst (q := 19) dX11_mended_18 rfl ?_
    refine x_istoren (q := 20) (ls' := [(3, vI 0), (2, vI 0), (0, vR 71), (1, vI l1)]) rfl (by decide) rfl dX11_mended_19 rfl ?_
    refine x_sub [2, 3, 1, 0] rfl ?_
    exact H
  · have H := H2 (fun z => hB (bz_n0.mpr z))
    refine x_aloadn (q := 10) 0 rfl rfl rfl dX11_mended_9 rfl ?_
    refine x_ldc (q := 12) (z := (-1000001)) cn_X11_87 (by decide) dX11_mended_10 rfl ?_
    obtain ⟨m5, em5⟩ : ∃ m9 : Mem, m9 = fndM mem (-1000001) := ⟨_, rfl⟩
    have H := H m5 em5
    refine x_callV (q := 15) (d := d - 1) (as := [vI (-1000001)]) (st := []) dX11_mended_12 rfl mv_X11_88 sh_71 rfl rfl rfl (by exact Nat.le_of_ble_eq_true rfl) ⟨by show _ ≤ d; omega, by show _ ≤ 40 * d; omega⟩ ⟨Nat.le_refl _, Nat.le_refl _⟩ (ct_finding (by decide) (by decide) ?_)
    rw [← em5]
    show E_X11_mended G d 15 [(0, vR 71), (1, vI l1)] [vI (-1000001)] m5 Q
    exact x_iret rfl dX11_mended_15 H
set_option maxRecDepth 20000 in
set_option maxHeartbeats 4000000 in
theorem B_X11_mended_20 {G : GT} {d : Nat} {l1 : Int} {l2 : Int} {l3 : Int} {mem : Mem} {Q : Option AV → Mem → Prop} (hd : 2 ≤ d) (H : (inr l3) ∧ (((mem 72 1 ≤ l3) → (Q (some (vI l2)) mem)) ∧ (¬ (mem 72 1 ≤ l3) → ((0 ≤ l3 ∧ l3 < 60) ∧ ((¬ (mem 72 (185 + 4 * l3 + 3) = 1) → (E_X11_mended G d 20 [(0, vR 71), (1, vI l1), (2, vI l2), (3, vI (l3 + 1))] [] mem Q)) ∧ ((mem 72 (185 + 4 * l3 + 3) = 1) → ((0 ≤ 185 + 4 * l3 + 0 ∧ 185 + 4 * l3 + 0 < 553) ∧ ((inr l1) ∧ (((mem 72 (185 + 4 * l3 + 0) = l1) → ((0 ≤ (185 + (4 * l3)) + 3 ∧ (185 + (4 * l3)) + 3 < 553) ∧ (∀ m22 : Mem, m22 = upM mem 72 ((185 + (4 * l3)) + 3) 0 → (E_X11_mended G d 20 [(0, vR 71), (1, vI l1), (2, vI (l2 + 1)), (3, vI (l3 + 1))] [] m22 Q)))) ∧ (¬ (mem 72 (185 + 4 * l3 + 0) = l1) → ((0 ≤ 185 + 4 * l3 + 1 ∧ 185 + 4 * l3 + 1 < 553) ∧ (((mem 72 (185 + 4 * l3 + 1) ≠ l1) → (E_X11_mended G d 20 [(0, vR 71), (1, vI l1), (2, vI l2), (3, vI (l3 + 1))] [] mem Q)) ∧ (¬ (mem 72 (185 + 4 * l3 + 1) ≠ l1) → ((0 ≤ (185 + (4 * l3)) + 3 ∧ (185 + (4 * l3)) + 3 < 553) ∧ (∀ m30 : Mem, m30 = upM mem 72 ((185 + (4 * l3)) + 3) 0 → (E_X11_mended G d 20 [(0, vR 71), (1, vI l1), (2, vI (l2 + 1)), (3, vI (l3 + 1))] [] m30 Q)))))))))))))))) : E_X11_mended G d 20 [(0, vR 71), (1, vI l1), (2, vI l2), (3, vI l3)] [] mem Q := by
  refine x_iloadn (q := 21) 3 rfl rfl dX11_mended_20 rfl ?_
  refine x_aloadn (q := 22) 0 rfl rfl rfl dX11_mended_21 rfl ?_
  refine x_getr (q := 25) dX11_mended_22 rfl fa_X11_9 sh_71 rfl ?_
  refine x_iconst (q := 26) dX11_mended_25 rfl ?_
  refine x_iald (q := 27) dX11_mended_26 rfl sh_72 (by decide) (by decide) (fun r6 => ?_)
  obtain ⟨s7, H⟩ := H
  obtain ⟨H1, H2⟩ := H
  refine x_icmp_ge (tgt := 82) (q := 30) dX11_mended_27 (by decide) rfl s7 r6 (fun hB => ?_) (fun hB => ?_)
  · have H := H1 (hB)
    refine x_iloadn (q := 83) 2 rfl rfl dX11_mended_82 rfl ?_
    exact x_iret rfl dX11_mended_83 H
  · have H := H2 (hB)
    refine x_aloadn (q := 31) 0 rfl rfl rfl dX11_mended_30 rfl ?_
    refine x_iloadn (q := 32) 3 rfl rfl dX11_mended_31 rfl ?_
    obtain ⟨⟨s10, s11⟩, H⟩ := H
    refine x_callV (q := 35) (d := d - 1) (as := [vI l3]) (st := []) dX11_mended_32 rfl mv_X11_111 sh_71 rfl rfl rfl (by exact Nat.le_of_ble_eq_true rfl) ⟨by show _ ≤ d; omega, by show _ ≤ 40 * d; omega⟩ ⟨Nat.le_refl _, Nat.le_refl _⟩ (ct_counts (by omega) s10 s11 ?_)
    show E_X11_mended G d 35 [(0, vR 71), (1, vI l1), (2, vI l2), (3, vI l3)] [vI (bz (mem 72 (185 + 4 * l3 + 3) = 1))] mem Q
    obtain ⟨H1, H2⟩ := H
    refine x_if_eq (tgt := 76) (q := 38) dX11_mended_35 (by decide) rfl (bz_inr _) (fun hB => ?_) (fun hB => ?_)
    · have H := H1 (bz_0.mp hB)
      refine x_iinc (q := 79) (ls' := [(3, vI (l3 + 1)), (0, vR 71), (1, vI l1), (2, vI l2)]) 3 rfl (by decide) rfl dX11_mended_76 rfl ?_
      refine x_goto (tgt := 20) dX11_mended_79 (by decide) ?_
      refine x_sub [1, 2, 3, 0] rfl ?_
      exact H
    · have H := H2 (Classical.byContradiction (fun z => hB (bz_0.mpr z)))
      refine x_aloadn (q := 39) 0 rfl rfl rfl dX11_mended_38 rfl ?_
      refine x_iloadn (q := 40) 3 rfl rfl dX11_mended_39 rfl ?_
      refine x_iconst (q := 41) dX11_mended_40 rfl ?_
      obtain ⟨⟨s14, s15⟩, H⟩ := H
      refine x_callV (q := 44) (d := d - 1) (as := [vI l3, vI 0]) (st := []) dX11_mended_41 rfl mv_X11_97 sh_71 rfl rfl rfl (by exact Nat.le_of_ble_eq_true rfl) ⟨by show _ ≤ d; omega, by show _ ≤ 40 * d; omega⟩ ⟨Nat.le_refl _, Nat.le_refl _⟩ (ct_saying s14 s15 ?_)
      show E_X11_mended G d 44 [(0, vR 71), (1, vI l1), (2, vI l2), (3, vI l3)] [vI (mem 72 (185 + 4 * l3 + 0))] mem Q
      refine x_iloadn (q := 45) 1 rfl rfl dX11_mended_44 rfl ?_
      refine x_ok (fun hm16 => ?_)
      obtain ⟨s17, H⟩ := H
      obtain ⟨H1, H2⟩ := H
      refine x_icmp_eq (tgt := 58) (q := 48) dX11_mended_45 (by decide) rfl (ok_ai hm16 sh_72 (by decide) _) s17 (fun hB => ?_) (fun hB => ?_)
      · have H := H1 (hB)
        refine x_aloadn (q := 59) 0 rfl rfl rfl dX11_mended_58 rfl ?_
        refine x_getr (q := 62) dX11_mended_59 rfl fa_X11_9 sh_71 rfl ?_
        refine x_sipush (q := 65) rfl dX11_mended_62 rfl ?_
        refine x_iconst (q := 66) dX11_mended_65 rfl ?_
        refine x_iloadn (q := 67) 3 rfl rfl dX11_mended_66 rfl ?_
        refine x_imul (q := 68) dX11_mended_67 rfl ?_
        refine x_iadd (q := 69) dX11_mended_68 rfl ?_
        refine x_iconst (q := 70) dX11_mended_69 rfl ?_
        refine x_iadd (q := 71) dX11_mended_70 rfl ?_
        refine x_iconst (q := 72) dX11_mended_71 rfl ?_
        obtain ⟨⟨s20, s21⟩, H⟩ := H
        refine x_iast (q := 73) dX11_mended_72 rfl sh_72 s20 s21 (by decide) (fun m22 em22 => ?_)
        have H := H m22 em22
        refine x_iinc (q := 76) (ls' := [(2, vI (l2 + 1)), (0, vR 71), (1, vI l1), (3, vI l3)]) 2 rfl (by decide) rfl dX11_mended_73 rfl ?_
        refine x_iinc (q := 79) (ls' := [(3, vI (l3 + 1)), (2, vI (l2 + 1)), (0, vR 71), (1, vI l1)]) 3 rfl (by decide) rfl dX11_mended_76 rfl ?_
        refine x_goto (tgt := 20) dX11_mended_79 (by decide) ?_
        refine x_sub [2, 3, 1, 0] rfl ?_
        exact H
      · have H := H2 (hB)
        refine x_aloadn (q := 49) 0 rfl rfl rfl dX11_mended_48 rfl ?_
        refine x_iloadn (q := 50) 3 rfl rfl dX11_mended_49 rfl ?_
        refine x_iconst (q := 51) dX11_mended_50 rfl ?_
        obtain ⟨⟨s23, s24⟩, H⟩ := H
        refine x_callV (q := 54) (d := d - 1) (as := [vI l3, vI 1]) (st := []) dX11_mended_51 rfl mv_X11_97 sh_71 rfl rfl rfl (by exact Nat.le_of_ble_eq_true rfl) ⟨by show _ ≤ d; omega, by show _ ≤ 40 * d; omega⟩ ⟨Nat.le_refl _, Nat.le_refl _⟩ (ct_saying s23 s24 ?_)
        show E_X11_mended G d 54 [(0, vR 71), (1, vI l1), (2, vI l2), (3, vI l3)] [vI (mem 72 (185 + 4 * l3 + 1))] mem Q
        refine x_iloadn (q := 55) 1 rfl rfl dX11_mended_54 rfl ?_
        refine x_ok (fun hm25 => ?_)
        obtain ⟨H1, H2⟩ := H
        refine x_icmp_ne (tgt := 76) (q := 58) dX11_mended_55 (by decide) rfl (ok_ai hm25 sh_72 (by decide) _) s17 (fun hB => ?_) (fun hB => ?_)
        · have H := H1 (hB)
          refine x_iinc (q := 79) (ls' := [(3, vI (l3 + 1)), (0, vR 71), (1, vI l1), (2, vI l2)]) 3 rfl (by decide) rfl dX11_mended_76 rfl ?_
          refine x_goto (tgt := 20) dX11_mended_79 (by decide) ?_
          refine x_sub [1, 2, 3, 0] rfl ?_
          exact H
        · have H := H2 (hB)
          refine x_aloadn (q := 59) 0 rfl rfl rfl dX11_mended_58 rfl ?_
          refine x_getr (q := 62) dX11_mended_59 rfl fa_X11_9 sh_71 rfl ?_
          refine x_sipush (q := 65) rfl dX11_mended_62 rfl ?_
          refine x_iconst (q := 66) dX11_mended_65 rfl ?_
          refine x_iloadn (q := 67) 3 rfl rfl dX11_mended_66 rfl ?_
          refine x_imul (q := 68) dX11_mended_67 rfl ?_
          refine x_iadd (q := 69) dX11_mended_68 rfl ?_
          refine x_iconst (q := 70) dX11_mended_69 rfl ?_
          refine x_iadd (q := 71) dX11_mended_70 rfl ?_
          refine x_iconst (q := 72) dX11_mended_71 rfl ?_
          obtain ⟨⟨s28, s29⟩, H⟩ := H
          refine x_iast (q := 73) dX11_mended_72 rfl sh_72 s28 s29 (by decide) (fun m30 em30 => ?_)
          have H := H m30 em30
          refine x_iinc (q := 76) (ls' := [(2, vI (l2 + 1)), (0, vR 71), (1, vI l1), (3, vI l3)]) 2 rfl (by decide) rfl dX11_mended_73 rfl ?_
          refine x_iinc (q := 79) (ls' := [(3, vI (l3 + 1)), (2, vI (l2 + 1)), (0, vR 71), (1, vI l1)]) 3 rfl (by decide) rfl dX11_mended_76 rfl ?_
          refine x_goto (tgt := 20) dX11_mended_79 (by decide) ?_
          refine x_sub [2, 3, 1, 0] rfl ?_
          exact H
