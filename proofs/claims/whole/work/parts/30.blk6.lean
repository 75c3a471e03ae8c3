abbrev E_X11_divisor (G : GT) (d pc : Nat) (ls : List (Nat × AV)) (st : List AV) (mem : Mem) (Q : Option AV → Mem → Prop) : Prop := Ex G RX11 cX11_divisor 4 (some .long) d pc ls st mem Q
abbrev C_X11_divisor (G : GT) (d : Nat) (as : List AV) (mem : Mem) (Q : Option AV → Mem → Prop) : Prop := Ct G yX11_divisor cX11_divisor 4 (some .long) d as mem Q
abbrev E_X0_apartIn (G : GT) (d pc : Nat) (ls : List (Nat × AV)) (st : List AV) (mem : Mem) (Q : Option AV → Mem → Prop) : Prop := Ex G RX0 cX0_apartIn 2 (some .int) d pc ls st mem Q
abbrev C_X0_apartIn (G : GT) (d : Nat) (as : List AV) (mem : Mem) (Q : Option AV → Mem → Prop) : Prop := Ct G yX0_apartIn cX0_apartIn 2 (some .int) d as mem Q
abbrev E_X0_greaterOf (G : GT) (d pc : Nat) (ls : List (Nat × AV)) (st : List AV) (mem : Mem) (Q : Option AV → Mem → Prop) : Prop := Ex G RX0 cX0_greaterOf 2 (some .int) d pc ls st mem Q
abbrev C_X0_greaterOf (G : GT) (d : Nat) (as : List AV) (mem : Mem) (Q : Option AV → Mem → Prop) : Prop := Ct G yX0_greaterOf cX0_greaterOf 2 (some .int) d as mem Q
abbrev E_X0_changedGreater (G : GT) (d pc : Nat) (ls : List (Nat × AV)) (st : List AV) (mem : Mem) (Q : Option AV → Mem → Prop) : Prop := Ex G RX0 cX0_changedGreater 5 (some .int) d pc ls st mem Q
abbrev C_X0_changedGreater (G : GT) (d : Nat) (as : List AV) (mem : Mem) (Q : Option AV → Mem → Prop) : Prop := Ct G yX0_changedGreater cX0_changedGreater 5 (some .int) d as mem Q
abbrev E_X0_knowable (G : GT) (d pc : Nat) (ls : List (Nat × AV)) (st : List AV) (mem : Mem) (Q : Option AV → Mem → Prop) : Prop := Ex G RX0 cX0_knowable 1 (some .int) d pc ls st mem Q
abbrev C_X0_knowable (G : GT) (d : Nat) (as : List AV) (mem : Mem) (Q : Option AV → Mem → Prop) : Prop := Ct G yX0_knowable cX0_knowable 1 (some .int) d as mem Q
abbrev E_X0_reachOut (G : GT) (d pc : Nat) (ls : List (Nat × AV)) (st : List AV) (mem : Mem) (Q : Option AV → Mem → Prop) : Prop := Ex G RX0 cX0_reachOut 4 none d pc ls st mem Q
abbrev C_X0_reachOut (G : GT) (d : Nat) (as : List AV) (mem : Mem) (Q : Option AV → Mem → Prop) : Prop := Ct G yX0_reachOut cX0_reachOut 4 none d as mem Q
set_option maxRecDepth 20000 in
set_option maxHeartbeats 4000000 in
theorem B_X11_divisor {G : GT} {d : Nat} {l0 : Int} {l2 : Int} {mem : Mem} {Q : Option AV → Mem → Prop} (hd : 1 ≤ d) (H : (inl l2) ∧ (((lcmp l2 0 ≠ 0) → ((inl l0) ∧ ((l2 ≠ 0) ∧ (C_X11_divisor G (d - 1) [vL l2, vL (Int.tmod l0 l2)] mem (fun r9 m6 => ∃ z7 : Int, r9 = some (vL z7) ∧ (Q (some (vL z7)) m6)))))) ∧ (¬ (lcmp l2 0 ≠ 0) → (Q (some (vL l0)) mem)))) : C_X11_divisor G d [vL l0, vL l2] mem Q := by
  refine Ct_of_Ex (by decide +kernel) (by exact Nat.le_of_ble_eq_true rfl) (ls := [(0, vL l0), (2, vL l2)]) rfl ?_
  show E_X11_divisor G d 0 [(0, vL l0), (2, vL l2)] [] mem Q
  refine x_lloadn (q := 1) 1 rfl rfl dX11_divisor_0 rfl ?_
  refine x_lconst (q := 2) (v := 0) rfl dX11_divisor_1 rfl ?_
  obtain ⟨s1, H⟩ := H
  refine x_lcmp (q := 3) s1 (by decide) dX11_divisor_2 rfl ?_
  obtain ⟨H1, H2⟩ := H
  refine x_if_ne (tgt := 10) (q := 6) dX11_divisor_3 (by decide) rfl (lcmp_inr _ _) (fun hB => ?_) (fun hB => ?_)
  · have H := H1 (hB)
    refine x_lloadn (q := 11) 1 rfl rfl dX11_divisor_10 rfl ?_
    refine x_lloadn (q := 12) 0 rfl rfl dX11_divisor_11 rfl ?_
    refine x_lloadn (q := 13) 1 rfl rfl dX11_divisor_12 rfl ?_
    obtain ⟨s4, H⟩ := H
    obtain ⟨s5, H⟩ := H
    refine x_lrem (q := 14) s4 s1 s5 dX11_divisor_13 rfl ?_
    refine x_callS (q := 17) (d := d - 1) (as := [vL l2, vL (Int.tmod l0 l2)]) (st := []) dX11_divisor_14 rfl ms_X11_255 rfl rfl (by exact Nat.le_of_ble_eq_true rfl) ⟨by show _ ≤ d; omega, by show _ ≤ 40 * d; omega⟩ ⟨Nat.le_refl _, Nat.le_refl _⟩ (Ct.mono H (fun r9 m6 H => ?_))
    obtain ⟨z7, rfl, H⟩ := H
    show E_X11_divisor G d 17 [(0, vL l0), (2, vL l2)] [vL z7] m6 Q
    exact x_lret rfl dX11_divisor_17 H
  · have H := H2 (hB)
    refine x_lloadn (q := 7) 0 rfl rfl dX11_divisor_6 rfl ?_
    refine x_goto (tgt := 17) dX11_divisor_7 (by decide) ?_
    exact x_lret rfl dX11_divisor_17 H
set_option maxRecDepth 20000 in
set_option maxHeartbeats 4000000 in
theorem B_X0_apartIn {G : GT} {d : Nat} {l1 : Int} {mem : Mem} {Q : Option AV → Mem → Prop} (hd : 1 ≤ d) (H : (0 ≤ iand (ishl 1 (mem 1 0) - 1) (ixor l1 (-1)) ∧ iand (ishl 1 (mem 1 0) - 1) (ixor l1 (-1)) < 4096) ∧ (Q (some (vI (iand l1 (ixor (mem 44 (iand (ishl 1 (mem 1 0) - 1) (ixor l1 (-1)))) (-1))))) mem)) : C_X0_apartIn G d [vR 42, vI l1] mem Q := by
  refine Ct_of_Ex (by decide +kernel) (by exact Nat.le_of_ble_eq_true rfl) (ls := [(0, vR 42), (1, vI l1)]) rfl ?_
  show E_X0_apartIn G d 0 [(0, vR 42), (1, vI l1)] [] mem Q
  refine x_iloadn (q := 1) 1 rfl rfl dX0_apartIn_0 rfl ?_
  refine x_aloadn (q := 2) 0 rfl rfl rfl dX0_apartIn_1 rfl ?_
  refine x_getr (q := 5) dX0_apartIn_2 rfl fa_X0_15 sh_42 rfl ?_
  refine x_aloadn (q := 6) 0 rfl rfl rfl dX0_apartIn_5 rfl ?_
  refine x_getr (q := 9) dX0_apartIn_6 rfl fa_X0_18 sh_42 rfl ?_
  refine x_callV (q := 12) (d := d - 1) (as := []) (st := [vR 44, vI l1]) dX0_apartIn_9 rfl mv_X0_38 sh_1 rfl rfl rfl (by exact Nat.le_of_ble_eq_true rfl) ⟨by show _ ≤ d; omega, by show _ ≤ 40 * d; omega⟩ ⟨Nat.le_refl _, Nat.le_refl _⟩ (ct_everyone (by decide) ?_)
  show E_X0_apartIn G d 12 [(0, vR 42), (1, vI l1)] [vI (ishl 1 (mem 1 0) - 1), vR 44, vI l1] mem Q
  refine x_iloadn (q := 13) 1 rfl rfl dX0_apartIn_12 rfl ?_
  refine x_iconst (q := 14) dX0_apartIn_13 rfl ?_
  refine x_ixor (q := 15) dX0_apartIn_14 rfl ?_
  refine x_iand (q := 16) dX0_apartIn_15 rfl ?_
  obtain ⟨⟨s1, s2⟩, H⟩ := H
  refine x_iald (q := 17) dX0_apartIn_16 rfl sh_44 s1 s2 (fun r3 => ?_)
  refine x_iconst (q := 18) dX0_apartIn_17 rfl ?_
  refine x_ixor (q := 19) dX0_apartIn_18 rfl ?_
  refine x_iand (q := 20) dX0_apartIn_19 rfl ?_
  exact x_iret rfl dX0_apartIn_20 H
set_option maxRecDepth 20000 in
set_option maxHeartbeats 4000000 in
theorem B_X0_greaterOf {G : GT} {d : Nat} {l0 : Int} {l1 : Int} {mem : Mem} {Q : Option AV → Mem → Prop} (hd : 1 ≤ d) (H : Q (some (vI ((bitc l0) - (Int.tdiv (bitc l1) 2)))) mem) : C_X0_greaterOf G d [vI l0, vI l1] mem Q := by
  refine Ct_of_Ex (by decide +kernel) (by exact Nat.le_of_ble_eq_true rfl) (ls := [(0, vI l0), (1, vI l1)]) rfl ?_
  show E_X0_greaterOf G d 0 [(0, vI l0), (1, vI l1)] [] mem Q
  refine x_iloadn (q := 1) 0 rfl rfl dX0_greaterOf_0 rfl ?_
  refine x_callS (q := 4) (d := d - 1) (as := [vI l0]) (st := []) dX0_greaterOf_1 rfl ms_X0_42 rfl rfl (by exact Nat.le_of_ble_eq_true rfl) ⟨by show _ ≤ d; omega, by show _ ≤ 40 * d; omega⟩ ⟨Nat.le_refl _, Nat.le_refl _⟩ (ct_bitc ?_)
  show E_X0_greaterOf G d 4 [(0, vI l0), (1, vI l1)] [vI (bitc l0)] mem Q
  refine x_iloadn (q := 5) 1 rfl rfl dX0_greaterOf_4 rfl ?_
  refine x_callS (q := 8) (d := d - 1) (as := [vI l1]) (st := [vI (bitc l0)]) dX0_greaterOf_5 rfl ms_X0_42 rfl rfl (by exact Nat.le_of_ble_eq_true rfl) ⟨by show _ ≤ d; omega, by show _ ≤ 40 * d; omega⟩ ⟨Nat.le_refl _, Nat.le_refl _⟩ (ct_bitc ?_)
  show E_X0_greaterOf G d 8 [(0, vI l0), (1, vI l1)] [vI (bitc l1), vI (bitc l0)] mem Q
  refine x_iconst (q := 9) dX0_greaterOf_8 rfl ?_
  refine x_idiv (q := 10) (bitc_inr _) (by decide) (by decide) dX0_greaterOf_9 rfl ?_
  refine x_isub (q := 11) dX0_greaterOf_10 rfl ?_
  exact x_iret rfl dX0_greaterOf_11 H
set_option maxRecDepth 20000 in
set_option maxHeartbeats 4000000 in
theorem B_X0_changedGreater {G : GT} {d : Nat} {l0 : Int} {l1 : Int} {l2 : Int} {l3 : Int} {mem : Mem} {Q : Option AV → Mem → Prop} (hd : 1 ≤ d) (H : ((iand (ishr l0 l2) 1 = 0) → (((iand l1 (ixor (ishl 1 l3) (-1)) ≠ 0) → (C_X0_greaterOf G (d - 1) [vI l0, vI (iand l1 (ixor (ishl 1 l3) (-1)))] mem (fun r9 m5 => ∃ z6 : Int, r9 = some (vI z6) ∧ (Q (some (vI z6)) m5)))) ∧ (¬ (iand l1 (ixor (ishl 1 l3) (-1)) ≠ 0) → (Q (some (vI 13)) mem)))) ∧ (¬ (iand (ishr l0 l2) 1 = 0) → ((inr l1) ∧ (((l1 ≠ 0) → (C_X0_greaterOf G (d - 1) [vI l0, vI l1] mem (fun r9 m10 => ∃ z11 : Int, r9 = some (vI z11) ∧ (Q (some (vI z11)) m10)))) ∧ (¬ (l1 ≠ 0) → (Q (some (vI 13)) mem)))))) : C_X0_changedGreater G d [vI l0, vI l1, vI l2, vI l3] mem Q := by
  refine Ct_of_Ex (by decide +kernel) (by exact Nat.le_of_ble_eq_true rfl) (ls := [(0, vI l0), (1, vI l1), (2, vI l2), (3, vI l3)]) rfl ?_
  show E_X0_changedGreater G d 0 [(0, vI l0), (1, vI l1), (2, vI l2), (3, vI l3)] [] mem Q
  refine x_iloadn (q := 1) 0 rfl rfl dX0_changedGreater_0 rfl ?_
  refine x_iloadn (q := 2) 2 rfl rfl dX0_changedGreater_1 rfl ?_
  refine x_ishr (q := 3) dX0_changedGreater_2 rfl ?_
  refine x_iconst (q := 4) dX0_changedGreater_3 rfl ?_
  refine x_iand (q := 5) dX0_changedGreater_4 rfl ?_
  obtain ⟨H1, H2⟩ := H
  refine x_if_eq (tgt := 12) (q := 8) dX0_changedGreater_5 (by decide) rfl (iand_inr _ _) (fun hB => ?_) (fun hB => ?_)
  · have H := H1 (hB)
    refine x_iloadn (q := 13) 1 rfl rfl dX0_changedGreater_12 rfl ?_
    refine x_iconst (q := 14) dX0_changedGreater_13 rfl ?_
    refine x_iloadn (q := 15) 3 rfl rfl dX0_changedGreater_14 rfl ?_
    refine x_ishl (q := 16) dX0_changedGreater_15 rfl ?_
    refine x_iconst (q := 17) dX0_changedGreater_16 rfl ?_
    refine x_ixor (q := 18) dX0_changedGreater_17 rfl ?_
    refine x_iand (q := 19) dX0_changedGreater_18 rfl ?_
    refine x_istore (q := 21) (ls' := [(4, vI (iand l1 (ixor (ishl 1 l3) (-1)))), (0, vI l0), (1, vI l1), (2, vI l2), (3, vI l3)]) (by decide) rfl dX0_changedGreater_19 rfl ?_
    refine x_iload (q := 23) 0 rfl dX0_changedGreater_21 rfl ?_
    obtain ⟨H1, H2⟩ := H
    refine x_if_ne (tgt := 31) (q := 26) dX0_changedGreater_23 (by decide) rfl (iand_inr _ _) (fun hB => ?_) (fun hB => ?_)
    · have H := H1 (hB)
      refine x_iloadn (q := 32) 1 rfl rfl dX0_changedGreater_31 rfl ?_
      refine x_iload (q := 34) 0 rfl dX0_changedGreater_32 rfl ?_
      refine x_callS (q := 37) (d := d - 1) (as := [vI l0, vI (iand l1 (ixor (ishl 1 l3) (-1)))]) (st := []) dX0_changedGreater_34 rfl ms_X0_63 rfl rfl (by exact Nat.le_of_ble_eq_true rfl) ⟨by show _ ≤ d; omega, by show _ ≤ 40 * d; omega⟩ ⟨Nat.le_refl _, Nat.le_refl _⟩ (Ct.mono H (fun r9 m5 H => ?_))
      obtain ⟨z6, rfl, H⟩ := H
      show E_X0_changedGreater G d 37 [(4, vI (iand l1 (ixor (ishl 1 l3) (-1)))), (0, vI l0), (1, vI l1), (2, vI l2), (3, vI l3)] [vI z6] m5 Q
      exact x_iret rfl dX0_changedGreater_37 H
    · have H := H2 (hB)
      refine x_bipush (q := 28) rfl dX0_changedGreater_26 rfl ?_
      refine x_goto (tgt := 37) dX0_changedGreater_28 (by decide) ?_
      exact x_iret rfl dX0_changedGreater_37 H
  · have H := H2 (hB)
    refine x_iloadn (q := 9) 1 rfl rfl dX0_changedGreater_8 rfl ?_
    refine x_goto (tgt := 19) dX0_changedGreater_9 (by decide) ?_
    refine x_istore (q := 21) (ls' := [(4, vI l1), (0, vI l0), (1, vI l1), (2, vI l2), (3, vI l3)]) (by decide) rfl dX0_changedGreater_19 rfl ?_
    refine x_iload (q := 23) 0 rfl dX0_changedGreater_21 rfl ?_
    obtain ⟨s7, H⟩ := H
    obtain ⟨H1, H2⟩ := H
    refine x_if_ne (tgt := 31) (q := 26) dX0_changedGreater_23 (by decide) rfl s7 (fun hB => ?_) (fun hB => ?_)
    · have H := H1 (hB)
      refine x_iloadn (q := 32) 1 rfl rfl dX0_changedGreater_31 rfl ?_
      refine x_iload (q := 34) 0 rfl dX0_changedGreater_32 rfl ?_
      refine x_callS (q := 37) (d := d - 1) (as := [vI l0, vI l1]) (st := []) dX0_changedGreater_34 rfl ms_X0_63 rfl rfl (by exact Nat.le_of_ble_eq_true rfl) ⟨by show _ ≤ d; omega, by show _ ≤ 40 * d; omega⟩ ⟨Nat.le_refl _, Nat.le_refl _⟩ (Ct.mono H (fun r9 m10 H => ?_))
      obtain ⟨z11, rfl, H⟩ := H
      show E_X0_changedGreater G d 37 [(4, vI l1), (0, vI l0), (1, vI l1), (2, vI l2), (3, vI l3)] [vI z11] m10 Q
      exact x_iret rfl dX0_changedGreater_37 H
    · have H := H2 (hB)
      refine x_bipush (q := 28) rfl dX0_changedGreater_26 rfl ?_
      refine x_goto (tgt := 37) dX0_changedGreater_28 (by decide) ?_
      exact x_iret rfl dX0_changedGreater_37 H
set_option maxRecDepth 20000 in
set_option maxHeartbeats 4000000 in
theorem B_X0_knowable {G : GT} {d : Nat}  {mem : Mem} {Q : Option AV → Mem → Prop} (H : Q (some (vI ((mem 42 5) - 1))) mem) : C_X0_knowable G d [vR 42] mem Q := by
  refine Ct_of_Ex (by decide +kernel) (by exact Nat.le_of_ble_eq_true rfl) (ls := [(0, vR 42)]) rfl ?_
  show E_X0_knowable G d 0 [(0, vR 42)] [] mem Q
  refine x_aloadn (q := 1) 0 rfl rfl rfl dX0_knowable_0 rfl ?_
  refine x_geti (q := 4) (ji := 5) dX0_knowable_1 rfl fa_X0_51 sh_42 rfl rfl (fun r1 => ?_)
  refine x_iconst (q := 5) dX0_knowable_4 rfl ?_
  refine x_isub (q := 6) dX0_knowable_5 rfl ?_
  exact x_iret rfl dX0_knowable_6 H
set_option maxRecDepth 20000 in
set_option maxHeartbeats 4000000 in
theorem B_X0_reachOut {G : GT} {d : Nat}  {mem : Mem} {Q : Option AV → Mem → Prop} (H : E_X0_reachOut G d 2 [(0, vR 42), (1, vI 0)] [] mem Q) : C_X0_reachOut G d [vR 42] mem Q := by
  refine Ct_of_Ex (by decide +kernel) (by exact Nat.le_of_ble_eq_true rfl) (ls := [(0, vR 42)]) rfl ?_
  show E_X0_reachOut G d 0 [(0, vR 42)] [] mem Q
  refine x_iconst (q := 1) dX0_reachOut_0 rfl ?_
  refine x_istoren (q := 2) (ls' := [(1, vI 0), (0, vR 42)]) rfl (by decide) rfl dX0_reachOut_1 rfl ?_
  refine x_sub [1, 0] rfl ?_
  exact H
set_option maxRecDepth 20000 in
set_option maxHeartbeats 4000000 in
theorem B_X0_reachOut_2 {G : GT} {d : Nat} {l1 : Int} {mem : Mem} {Q : Option AV → Mem → Prop} (H : (inr l1) ∧ (((mem 1 0 ≤ l1) → (Q none mem)) ∧ (¬ (mem 1 0 ≤ l1) → (E_X0_reachOut G d 19 [(0, vR 42), (1, vI l1), (2, vI (ishl 1 l1)), (3, vI 0)] [] mem Q)))) : E_X0_reachOut G d 2 [(0, vR 42), (1, vI l1)] [] mem Q := by
  refine x_iloadn (q := 3) 1 rfl rfl dX0_reachOut_2 rfl ?_
  refine x_aloadn (q := 4) 0 rfl rfl rfl dX0_reachOut_3 rfl ?_
  refine x_getr (q := 7) dX0_reachOut_4 rfl fa_X0_18 sh_42 rfl ?_
  refine x_geti (q := 10) (ji := 0) dX0_reachOut_7 rfl fa_X0_34 sh_1 rfl rfl (fun r1 => ?_)
  obtain ⟨s2, H⟩ := H
  obtain ⟨H1, H2⟩ := H
  refine x_icmp_ge (tgt := 57) (q := 13) dX0_reachOut_10 (by decide) rfl s2 r1 (fun hB => ?_) (fun hB => ?_)
  · have H := H1 (hB)
    exact x_vret rfl dX0_reachOut_57 H
  · have H := H2 (hB)
    refine x_iconst (q := 14) dX0_reachOut_13 rfl ?_
    refine x_iloadn (q := 15) 1 rfl rfl dX0_reachOut_14 rfl ?_
    refine x_ishl (q := 16) dX0_reachOut_15 rfl ?_
    refine x_istoren (q := 17) (ls' := [(2, vI (ishl 1 l1)), (0, vR 42), (1, vI l1)]) rfl (by decide) rfl dX0_reachOut_16 rfl ?_
    refine x_iconst (q := 18) dX0_reachOut_17 rfl ?_
    refine x_istoren (q := 19) (ls' := [(3, vI 0), (2, vI (ishl 1 l1)), (0, vR 42), (1, vI l1)]) rfl (by decide) rfl dX0_reachOut_18 rfl ?_
    refine x_sub [2, 3, 1, 0] rfl ?_
    exact H
set_option maxRecDepth 20000 in
set_option maxHeartbeats 4000000 in
theorem B_X0_reachOut_19 {G : GT} {d : Nat} {l1 : Int} {l2 : Int} {l3 : Int} {mem : Mem} {Q : Option AV → Mem → Prop} (H : (inr l3 ∧ inr l2) ∧ (((l2 ≤ l3) → (E_X0_reachOut G d 2 [(0, vR 42), (1, vI (l1 + 1))] [] mem Q)) ∧ (¬ (l2 ≤ l3) → ((0 ≤ l3 ∧ l3 < 4096) ∧ ((0 ≤ l1 ∧ l1 < 12) ∧ ((0 ≤ l2 + l3 ∧ l2 + l3 < 4096) ∧ (∀ m17 : Mem, m17 = upM mem 44 (l2 + l3) (ior (mem 44 l3) (mem 43 l1)) → (E_X0_reachOut G d 19 [(0, vR 42), (1, vI l1), (2, vI l2), (3, vI (l3 + 1))] [] m17 Q)))))))) : E_X0_reachOut G d 19 [(0, vR 42), (1, vI l1), (2, vI l2), (3, vI l3)] [] mem Q := by
  refine x_iloadn (q := 20) 3 rfl rfl dX0_reachOut_19 rfl ?_
  refine x_iloadn (q := 21) 2 rfl rfl dX0_reachOut_20 rfl ?_
  obtain ⟨⟨s5, s6⟩, H⟩ := H
  obtain ⟨H1, H2⟩ := H
  refine x_icmp_ge (tgt := 51) (q := 24) dX0_reachOut_21 (by decide) rfl s5 s6 (fun hB => ?_) (fun hB => ?_)
  · have H := H1 (hB)
    refine x_iinc (q := 54) (ls' := [(1, vI (l1 + 1)), (0, vR 42), (2, vI l2), (3, vI l3)]) 1 rfl (by decide) rfl dX0_reachOut_51 rfl ?_
    refine x_goto (tgt := 2) dX0_reachOut_54 (by decide) ?_
    refine x_sub [1, 0] rfl ?_
    exact H
  · have H := H2 (hB)
    refine x_aloadn (q := 25) 0 rfl rfl rfl dX0_reachOut_24 rfl ?_
    refine x_getr (q := 28) dX0_reachOut_25 rfl fa_X0_15 sh_42 rfl ?_
    refine x_iloadn (q := 29) 2 rfl rfl dX0_reachOut_28 rfl ?_
    refine x_iloadn (q := 30) 3 rfl rfl dX0_reachOut_29 rfl ?_
    refine x_iadd (q := 31) dX0_reachOut_30 rfl ?_
    refine x_aloadn (q := 32) 0 rfl rfl rfl dX0_reachOut_31 rfl ?_
    refine x_getr (q := 35) dX0_reachOut_32 rfl fa_X0_15 sh_42 rfl ?_
    refine x_iloadn (q := 36) 3 rfl rfl dX0_reachOut_35 rfl ?_
    obtain ⟨⟨s9, s10⟩, H⟩ := H
    refine x_iald (q := 37) dX0_reachOut_36 rfl sh_44 s9 s10 (fun r11 => ?_)
    refine x_aloadn (q := 38) 0 rfl rfl rfl dX0_reachOut_37 rfl ?_
    refine x_getr (q := 41) dX0_reachOut_38 rfl fa_X0_9 sh_42 rfl ?_
    refine x_iloadn (q := 42) 1 rfl rfl dX0_reachOut_41 rfl ?_
    obtain ⟨⟨s12, s13⟩, H⟩ := H
    refine x_iald (q := 43) dX0_reachOut_42 rfl sh_43 s12 s13 (fun r14 => ?_)
    refine x_ior (q := 44) dX0_reachOut_43 rfl ?_
    obtain ⟨⟨s15, s16⟩, H⟩ := H
    refine x_iast (q := 45) dX0_reachOut_44 rfl sh_44 s15 s16 (ior_inr _ _) (fun m17 em17 => ?_)
    have H := H m17 em17
    refine x_iinc (q := 48) (ls' := [(3, vI (l3 + 1)), (0, vR 42), (1, vI l1), (2, vI l2)]) 3 rfl (by decide) rfl dX0_reachOut_45 rfl ?_
    refine x_goto (tgt := 19) dX0_reachOut_48 (by decide) ?_
    refine x_sub [1, 2, 3, 0] rfl ?_
    exact H
