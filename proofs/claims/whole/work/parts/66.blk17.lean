abbrev E_X10_next (G : GT) (d pc : Nat) (ls : List (Nat × AV)) (st : List AV) (mem : Mem) (Q : Option AV → Mem → Prop) : Prop := Ex G RX10 cX10_next 3 (some .int) d pc ls st mem Q
abbrev C_X10_next (G : GT) (d : Nat) (as : List AV) (mem : Mem) (Q : Option AV → Mem → Prop) : Prop := Ct G yX10_next cX10_next 3 (some .int) d as mem Q
abbrev E_X10_rounds (G : GT) (d pc : Nat) (ls : List (Nat × AV)) (st : List AV) (mem : Mem) (Q : Option AV → Mem → Prop) : Prop := Ex G RX10 cX10_rounds 2 (some .int) d pc ls st mem Q
abbrev C_X10_rounds (G : GT) (d : Nat) (as : List AV) (mem : Mem) (Q : Option AV → Mem → Prop) : Prop := Ct G yX10_rounds cX10_rounds 2 (some .int) d as mem Q
abbrev E_X10_chance (G : GT) (d pc : Nat) (ls : List (Nat × AV)) (st : List AV) (mem : Mem) (Q : Option AV → Mem → Prop) : Prop := Ex G RX10 cX10_chance 9 (some .long) d pc ls st mem Q
abbrev C_X10_chance (G : GT) (d : Nat) (as : List AV) (mem : Mem) (Q : Option AV → Mem → Prop) : Prop := Ct G yX10_chance cX10_chance 9 (some .long) d as mem Q
abbrev E_X10_worst (G : GT) (d pc : Nat) (ls : List (Nat × AV)) (st : List AV) (mem : Mem) (Q : Option AV → Mem → Prop) : Prop := Ex G RX10 cX10_worst 3 (some .int) d pc ls st mem Q
abbrev C_X10_worst (G : GT) (d : Nat) (as : List AV) (mem : Mem) (Q : Option AV → Mem → Prop) : Prop := Ct G yX10_worst cX10_worst 3 (some .int) d as mem Q
abbrev E_X10_mend (G : GT) (d pc : Nat) (ls : List (Nat × AV)) (st : List AV) (mem : Mem) (Q : Option AV → Mem → Prop) : Prop := Ex G RX10 cX10_mend 2 (some .int) d pc ls st mem Q
abbrev C_X10_mend (G : GT) (d : Nat) (as : List AV) (mem : Mem) (Q : Option AV → Mem → Prop) : Prop := Ct G yX10_mend cX10_mend 2 (some .int) d as mem Q
abbrev E_X10_voice (G : GT) (d pc : Nat) (ls : List (Nat × AV)) (st : List AV) (mem : Mem) (Q : Option AV → Mem → Prop) : Prop := Ex G RX10 cX10_voice 5 (some .int) d pc ls st mem Q
abbrev C_X10_voice (G : GT) (d : Nat) (as : List AV) (mem : Mem) (Q : Option AV → Mem → Prop) : Prop := Ct G yX10_voice cX10_voice 5 (some .int) d as mem Q
abbrev E_X10_body (G : GT) (d pc : Nat) (ls : List (Nat × AV)) (st : List AV) (mem : Mem) (Q : Option AV → Mem → Prop) : Prop := Ex G RX10 cX10_body 2 (some .int) d pc ls st mem Q
abbrev C_X10_body (G : GT) (d : Nat) (as : List AV) (mem : Mem) (Q : Option AV → Mem → Prop) : Prop := Ct G yX10_body cX10_body 2 (some .int) d as mem Q
abbrev E_X10_sheet (G : GT) (d pc : Nat) (ls : List (Nat × AV)) (st : List AV) (mem : Mem) (Q : Option AV → Mem → Prop) : Prop := Ex G RX10 cX10_sheet 4 (some .int) d pc ls st mem Q
abbrev C_X10_sheet (G : GT) (d : Nat) (as : List AV) (mem : Mem) (Q : Option AV → Mem → Prop) : Prop := Ct G yX10_sheet cX10_sheet 4 (some .int) d as mem Q
abbrev E_X10_put (G : GT) (d pc : Nat) (ls : List (Nat × AV)) (st : List AV) (mem : Mem) (Q : Option AV → Mem → Prop) : Prop := Ex G RX10 cX10_put 5 (some .int) d pc ls st mem Q
abbrev C_X10_put (G : GT) (d : Nat) (as : List AV) (mem : Mem) (Q : Option AV → Mem → Prop) : Prop := Ct G yX10_put cX10_put 5 (some .int) d as mem Q
abbrev E_X10_move (G : GT) (d pc : Nat) (ls : List (Nat × AV)) (st : List AV) (mem : Mem) (Q : Option AV → Mem → Prop) : Prop := Ex G RX10 cX10_move 8 (some .int) d pc ls st mem Q
abbrev C_X10_move (G : GT) (d : Nat) (as : List AV) (mem : Mem) (Q : Option AV → Mem → Prop) : Prop := Ct G yX10_move cX10_move 8 (some .int) d as mem Q
abbrev E_X10_says (G : GT) (d pc : Nat) (ls : List (Nat × AV)) (st : List AV) (mem : Mem) (Q : Option AV → Mem → Prop) : Prop := Ex G RX10 cX10_says 8 (some .int) d pc ls st mem Q
abbrev C_X10_says (G : GT) (d : Nat) (as : List AV) (mem : Mem) (Q : Option AV → Mem → Prop) : Prop := Ct G yX10_says cX10_says 8 (some .int) d as mem Q
abbrev E_X11_next (G : GT) (d pc : Nat) (ls : List (Nat × AV)) (st : List AV) (mem : Mem) (Q : Option AV → Mem → Prop) : Prop := Ex G RX11 cX11_next 9 (some .int) d pc ls st mem Q
abbrev C_X11_next (G : GT) (d : Nat) (as : List AV) (mem : Mem) (Q : Option AV → Mem → Prop) : Prop := Ct G yX11_next cX11_next 9 (some .int) d as mem Q
abbrev E_X11_rounds (G : GT) (d pc : Nat) (ls : List (Nat × AV)) (st : List AV) (mem : Mem) (Q : Option AV → Mem → Prop) : Prop := Ex G RX11 cX11_rounds 2 (some .int) d pc ls st mem Q
abbrev C_X11_rounds (G : GT) (d : Nat) (as : List AV) (mem : Mem) (Q : Option AV → Mem → Prop) : Prop := Ct G yX11_rounds cX11_rounds 2 (some .int) d as mem Q
abbrev E_X11_chance (G : GT) (d pc : Nat) (ls : List (Nat × AV)) (st : List AV) (mem : Mem) (Q : Option AV → Mem → Prop) : Prop := Ex G RX11 cX11_chance 10 (some .long) d pc ls st mem Q
abbrev C_X11_chance (G : GT) (d : Nat) (as : List AV) (mem : Mem) (Q : Option AV → Mem → Prop) : Prop := Ct G yX11_chance cX11_chance 10 (some .long) d as mem Q
abbrev E_X11_worst (G : GT) (d pc : Nat) (ls : List (Nat × AV)) (st : List AV) (mem : Mem) (Q : Option AV → Mem → Prop) : Prop := Ex G RX11 cX11_worst 6 (some .int) d pc ls st mem Q
abbrev C_X11_worst (G : GT) (d : Nat) (as : List AV) (mem : Mem) (Q : Option AV → Mem → Prop) : Prop := Ct G yX11_worst cX11_worst 6 (some .int) d as mem Q
abbrev E_X11_mend (G : GT) (d pc : Nat) (ls : List (Nat × AV)) (st : List AV) (mem : Mem) (Q : Option AV → Mem → Prop) : Prop := Ex G RX11 cX11_mend 6 (some .int) d pc ls st mem Q
abbrev C_X11_mend (G : GT) (d : Nat) (as : List AV) (mem : Mem) (Q : Option AV → Mem → Prop) : Prop := Ct G yX11_mend cX11_mend 6 (some .int) d as mem Q
abbrev E_X11_voice (G : GT) (d pc : Nat) (ls : List (Nat × AV)) (st : List AV) (mem : Mem) (Q : Option AV → Mem → Prop) : Prop := Ex G RX11 cX11_voice 5 (some .int) d pc ls st mem Q
abbrev C_X11_voice (G : GT) (d : Nat) (as : List AV) (mem : Mem) (Q : Option AV → Mem → Prop) : Prop := Ct G yX11_voice cX11_voice 5 (some .int) d as mem Q
abbrev E_X11_body_ (G : GT) (d pc : Nat) (ls : List (Nat × AV)) (st : List AV) (mem : Mem) (Q : Option AV → Mem → Prop) : Prop := Ex G RX11 cX11_body_ 2 (some .int) d pc ls st mem Q
abbrev C_X11_body_ (G : GT) (d : Nat) (as : List AV) (mem : Mem) (Q : Option AV → Mem → Prop) : Prop := Ct G yX11_body_ cX11_body_ 2 (some .int) d as mem Q
abbrev E_X11_sheet (G : GT) (d pc : Nat) (ls : List (Nat × AV)) (st : List AV) (mem : Mem) (Q : Option AV → Mem → Prop) : Prop := Ex G RX11 cX11_sheet 5 (some .int) d pc ls st mem Q
abbrev C_X11_sheet (G : GT) (d : Nat) (as : List AV) (mem : Mem) (Q : Option AV → Mem → Prop) : Prop := Ct G yX11_sheet cX11_sheet 5 (some .int) d as mem Q
abbrev E_X11_put (G : GT) (d pc : Nat) (ls : List (Nat × AV)) (st : List AV) (mem : Mem) (Q : Option AV → Mem → Prop) : Prop := Ex G RX11 cX11_put 4 (some .int) d pc ls st mem Q
abbrev C_X11_put (G : GT) (d : Nat) (as : List AV) (mem : Mem) (Q : Option AV → Mem → Prop) : Prop := Ct G yX11_put cX11_put 4 (some .int) d as mem Q
abbrev E_X11_move (G : GT) (d pc : Nat) (ls : List (Nat × AV)) (st : List AV) (mem : Mem) (Q : Option AV → Mem → Prop) : Prop := Ex G RX11 cX11_move 7 (some .int) d pc ls st mem Q
abbrev C_X11_move (G : GT) (d : Nat) (as : List AV) (mem : Mem) (Q : Option AV → Mem → Prop) : Prop := Ct G yX11_move cX11_move 7 (some .int) d as mem Q
abbrev E_X11_says (G : GT) (d pc : Nat) (ls : List (Nat × AV)) (st : List AV) (mem : Mem) (Q : Option AV → Mem → Prop) : Prop := Ex G RX11 cX11_says 5 (some .int) d pc ls st mem Q
abbrev C_X11_says (G : GT) (d : Nat) (as : List AV) (mem : Mem) (Q : Option AV → Mem → Prop) : Prop := Ct G yX11_says cX11_says 5 (some .int) d as mem Q
set_option maxRecDepth 20000 in
set_option maxHeartbeats 4000000 in
theorem B_X10_next {G : GT} {d : Nat} {l1 : Int} {mem : Mem} {Q : Option AV → Mem → Prop} (hd : 2 ≤ d) (H : (inr l1) ∧ ((¬ (l1 < 0 ∨ 1 < l1) → (C_X1_refresh G (d - 1) [vR 32] mem (fun r9 m4 => r9 = none ∧ (C_X8_bestTie G (d - 1) [vR 45] m4 (fun r9 m5 => ∃ z6 : Int, r9 = some (vI z6) ∧ ((inr z6) ∧ (((0 ≤ z6) → (((l1 ≠ 0) → (Q (some (vI (m5 45 5))) m5)) ∧ (¬ (l1 ≠ 0) → (Q (some (vI z6)) m5)))) ∧ (¬ (0 ≤ z6) → (∀ m13 : Mem, m13 = refM m5 (-1000002) → (Q (some (vI (-1000002))) m13)))))))))) ∧ ((l1 < 0 ∨ 1 < l1) → (∀ m14 : Mem, m14 = refM mem (-1000001) → (Q (some (vI (-1000001))) m14))))) : C_X10_next G d [vR 0, vI l1] mem Q := by
  refine Ct_of_Ex (by decide +kernel) (by exact Nat.le_of_ble_eq_true rfl) (ls := [(0, vR 0), (1, vI l1)]) rfl ?_
  show E_X10_next G d 0 [(0, vR 0), (1, vI l1)] [] mem Q
  refine x_iloadn (q := 1) 1 rfl rfl dX10_next_0 rfl ?_
  refine x_iconst (q := 2) dX10_next_1 rfl ?_
  refine x_iconst (q := 3) dX10_next_2 rfl ?_
  obtain ⟨s1, H⟩ := H
  refine x_callS (q := 6) (d := d - 1) (as := [vI l1, vI 0, vI 1]) (st := []) dX10_next_3 rfl ms_X10_79 rfl rfl (by exact Nat.le_of_ble_eq_true rfl) ⟨by show _ ≤ d; omega, by show _ ≤ 40 * d; omega⟩ ⟨Nat.le_refl _, Nat.le_refl _⟩ (ct_outside s1 (by decide) (by decide) ?_)
  show E_X10_next G d 6 [(0, vR 0), (1, vI l1)] [vI (bz (l1 < 0 ∨ 1 < l1))] mem Q
  obtain ⟨H1, H2⟩ := H
  refine x_if_eq (tgt := 16) (q := 9) dX10_next_6 (by decide) rfl (bz_inr _) (fun hB => ?_) (fun hB => ?_)
  · have H := H1 (bz_0.mp hB)
    refine x_aloadn (q := 17) 0 rfl rfl rfl dX10_next_16 rfl ?_
    refine x_getr (q := 20) dX10_next_17 rfl fa_X10_34 sh_0 rfl ?_
    refine x_callV (q := 23) (d := d - 1) (as := []) (st := []) dX10_next_20 rfl mv_X10_178 sh_32 rfl rfl rfl (by exact Nat.le_of_ble_eq_true rfl) ⟨by show _ ≤ d; omega, by show _ ≤ 40 * d; omega⟩ ⟨Nat.le_refl _, Nat.le_refl _⟩ (Ct.mono H (fun r9 m4 H => ?_))
    obtain ⟨rfl, H⟩ := H
    show E_X10_next G d 23 [(0, vR 0), (1, vI l1)] [] m4 Q
    refine x_aloadn (q := 24) 0 rfl rfl rfl dX10_next_23 rfl ?_
    refine x_getr (q := 27) dX10_next_24 rfl fa_X10_50 sh_0 rfl ?_
    refine x_callV (q := 30) (d := d - 1) (as := []) (st := []) dX10_next_27 rfl mv_X10_239 sh_45 rfl rfl rfl (by exact Nat.le_of_ble_eq_true rfl) ⟨by show _ ≤ d; omega, by show _ ≤ 40 * d; omega⟩ ⟨Nat.le_refl _, Nat.le_refl _⟩ (Ct.mono H (fun r9 m5 H => ?_))
    obtain ⟨z6, rfl, H⟩ := H
    show E_X10_next G d 30 [(0, vR 0), (1, vI l1)] [vI z6] m5 Q
    refine x_istoren (q := 31) (ls' := [(2, vI z6), (0, vR 0), (1, vI l1)]) rfl (by decide) rfl dX10_next_30 rfl ?_
    refine x_iloadn (q := 32) 0 rfl rfl dX10_next_31 rfl ?_
    obtain ⟨s7, H⟩ := H
    obtain ⟨H1, H2⟩ := H
    refine x_if_ge (tgt := 42) (q := 35) dX10_next_32 (by decide) rfl s7 (fun hB => ?_) (fun hB => ?_)
    · have H := H1 (hB)
      refine x_iloadn (q := 43) 2 rfl rfl dX10_next_42 rfl ?_
      obtain ⟨H1, H2⟩ := H
      refine x_if_ne (tgt := 50) (q := 46) dX10_next_43 (by decide) rfl s1 (fun hB => ?_) (fun hB => ?_)
      · have H := H1 (hB)
        refine x_aloadn (q := 51) 1 rfl rfl rfl dX10_next_50 rfl ?_
        refine x_getr (q := 54) dX10_next_51 rfl fa_X10_50 sh_0 rfl ?_
        refine x_geti (q := 57) (ji := 5) dX10_next_54 rfl fa_X10_242 sh_45 rfl rfl (fun r12 => ?_)
        exact x_iret rfl dX10_next_57 H
      · have H := H2 (hB)
        refine x_iloadn (q := 47) 0 rfl rfl dX10_next_46 rfl ?_
        refine x_goto (tgt := 57) dX10_next_47 (by decide) ?_
        exact x_iret rfl dX10_next_57 H
    · have H := H2 (hB)
      refine x_aloadn (q := 36) 1 rfl rfl rfl dX10_next_35 rfl ?_
      refine x_ldc (q := 38) (z := (-1000002)) cn_X10_201 (by decide) dX10_next_36 rfl ?_
      obtain ⟨m13, em13⟩ : ∃ m9 : Mem, m9 = refM m5 (-1000002) := ⟨_, rfl⟩
      have H := H m13 em13
      refine x_callV (q := 41) (d := d - 1) (as := [vI (-1000002)]) (st := []) dX10_next_38 rfl mv_X10_84 sh_0 rfl rfl rfl (by exact Nat.le_of_ble_eq_true rfl) ⟨by show _ ≤ d; omega, by show _ ≤ 40 * d; omega⟩ ⟨Nat.le_refl _, Nat.le_refl _⟩ (ct_refuse (by omega) (by decide) (by decide) ?_)
      rw [← em13]
      show E_X10_next G d 41 [(2, vI z6), (0, vR 0), (1, vI l1)] [vI (-1000002)] m13 Q
      exact x_iret rfl dX10_next_41 H
  · have H := H2 (Classical.byContradiction (fun z => hB (bz_0.mpr z)))
    refine x_aloadn (q := 10) 0 rfl rfl rfl dX10_next_9 rfl ?_
    refine x_ldc (q := 12) (z := (-1000001)) cn_X10_83 (by decide) dX10_next_10 rfl ?_
    obtain ⟨m14, em14⟩ : ∃ m9 : Mem, m9 = refM mem (-1000001) := ⟨_, rfl⟩
    have H := H m14 em14
    refine x_callV (q := 15) (d := d - 1) (as := [vI (-1000001)]) (st := []) dX10_next_12 rfl mv_X10_84 sh_0 rfl rfl rfl (by exact Nat.le_of_ble_eq_true rfl) ⟨by show _ ≤ d; omega, by show _ ≤ 40 * d; omega⟩ ⟨Nat.le_refl _, Nat.le_refl _⟩ (ct_refuse (by omega) (by decide) (by decide) ?_)
    rw [← em14]
    show E_X10_next G d 15 [(0, vR 0), (1, vI l1)] [vI (-1000001)] m14 Q
    exact x_iret rfl dX10_next_15 H
set_option maxRecDepth 20000 in
set_option maxHeartbeats 4000000 in
theorem B_X10_rounds {G : GT} {d : Nat}  {mem : Mem} {Q : Option AV → Mem → Prop} (hd : 2 ≤ d) (H : ((8 < mem 1 0) → (∀ m4 : Mem, m4 = refM mem (-1000004) → (Q (some (vI (-1000004))) m4))) ∧ (¬ (8 < mem 1 0) → (C_X2_ties G (d - 1) [vR 1] mem (fun r9 m5 => ∃ z6 : Int, r9 = some (vI z6) ∧ ((inr z6) ∧ (((z6 ≤ 24) → (C_X1_refresh G (d - 1) [vR 32] m5 (fun r9 m10 => r9 = none ∧ (C_X8_roundsNeeded G (d - 1) [vR 45] m10 (fun r9 m11 => ∃ z12 : Int, r9 = some (vI z12) ∧ ((inr z12) ∧ (((0 ≤ z12) → (Q (some (vI z12)) m11)) ∧ (¬ (0 ≤ z12) → (∀ m16 : Mem, m16 = refM m11 (-1000002) → (Q (some (vI (-1000002))) m16)))))))))) ∧ (¬ (z6 ≤ 24) → (∀ m17 : Mem, m17 = refM m5 (-1000004) → (Q (some (vI (-1000004))) m17))))))))) : C_X10_rounds G d [vR 0] mem Q := by
  refine Ct_of_Ex (by decide +kernel) (by exact Nat.le_of_ble_eq_true rfl) (ls := [(0, vR 0)]) rfl ?_
  show E_X10_rounds G d 0 [(0, vR 0)] [] mem Q
  refine x_aloadn (q := 1) 0 rfl rfl rfl dX10_rounds_0 rfl ?_
  refine x_getr (q := 4) dX10_rounds_1 rfl fa_X10_12 sh_0 rfl ?_
  refine x_geti (q := 7) (ji := 0) dX10_rounds_4 rfl fa_X10_245 sh_1 rfl rfl (fun r1 => ?_)
  refine x_bipush (q := 9) rfl dX10_rounds_7 rfl ?_
  obtain ⟨H1, H2⟩ := H
  refine x_icmp_gt (tgt := 24) (q := 12) dX10_rounds_9 (by decide) rfl r1 (by decide) (fun hB => ?_) (fun hB => ?_)
  · have H := H1 (hB)
    refine x_aloadn (q := 25) 0 rfl rfl rfl dX10_rounds_24 rfl ?_
    refine x_ldc (q := 27) (z := (-1000004)) cn_X10_92 (by decide) dX10_rounds_25 rfl ?_
    obtain ⟨m4, em4⟩ : ∃ m9 : Mem, m9 = refM mem (-1000004) := ⟨_, rfl⟩
    have H := H m4 em4
    refine x_callV (q := 30) (d := d - 1) (as := [vI (-1000004)]) (st := []) dX10_rounds_27 rfl mv_X10_84 sh_0 rfl rfl rfl (by exact Nat.le_of_ble_eq_true rfl) ⟨by show _ ≤ d; omega, by show _ ≤ 40 * d; omega⟩ ⟨Nat.le_refl _, Nat.le_refl _⟩ (ct_refuse (by omega) (by decide) (by decide) ?_)
    rw [← em4]
    show E_X10_rounds G d 30 [(0, vR 0)] [vI (-1000004)] m4 Q
    exact x_iret rfl dX10_rounds_30 H
  · have H := H2 (hB)
    refine x_aloadn (q := 13) 0 rfl rfl rfl dX10_rounds_12 rfl ?_
    refine x_getr (q := 16) dX10_rounds_13 rfl fa_X10_12 sh_0 rfl ?_
    refine x_callV (q := 19) (d := d - 1) (as := []) (st := []) dX10_rounds_16 rfl mv_X10_248 sh_1 rfl rfl rfl (by exact Nat.le_of_ble_eq_true rfl) ⟨by show _ ≤ d; omega, by show _ ≤ 40 * d; omega⟩ ⟨Nat.le_refl _, Nat.le_refl _⟩ (Ct.mono H (fun r9 m5 H => ?_))
    obtain ⟨z6, rfl, H⟩ := H
    show E_X10_rounds G d 19 [(0, vR 0)] [vI z6] m5 Q
    refine x_bipush (q := 21) rfl dX10_rounds_19 rfl ?_
    obtain ⟨s7, H⟩ := H
    obtain ⟨H1, H2⟩ := H
    refine x_icmp_le (tgt := 31) (q := 24) dX10_rounds_21 (by decide) rfl s7 (by decide) (fun hB => ?_) (fun hB => ?_)
    · have H := H1 (hB)
      refine x_aloadn (q := 32) 0 rfl rfl rfl dX10_rounds_31 rfl ?_
      refine x_getr (q := 35) dX10_rounds_32 rfl fa_X10_34 sh_0 rfl ?_
      refine x_callV (q := 38) (d := d - 1) (as := []) (st := []) dX10_rounds_35 rfl mv_X10_178 sh_32 rfl rfl rfl (by exact Nat.le_of_ble_eq_true rfl) ⟨by show _ ≤ d; omega, by show _ ≤ 40 * d; omega⟩ ⟨Nat.le_refl _, Nat.le_refl _⟩ (Ct.mono H (fun r9 m10 H => ?_))
      obtain ⟨rfl, H⟩ := H
      show E_X10_rounds G d 38 [(0, vR 0)] [] m10 Q
      refine x_aloadn (q := 39) 0 rfl rfl rfl dX10_rounds_38 rfl ?_
      refine x_getr (q := 42) dX10_rounds_39 rfl fa_X10_50 sh_0 rfl ?_
      refine x_callV (q := 45) (d := d - 1) (as := []) (st := []) dX10_rounds_42 rfl mv_X10_251 sh_45 rfl rfl rfl (by exact Nat.le_of_ble_eq_true rfl) ⟨by show _ ≤ d; omega, by show _ ≤ 40 * d; omega⟩ ⟨Nat.le_refl _, Nat.le_refl _⟩ (Ct.mono H (fun r9 m11 H => ?_))
      obtain ⟨z12, rfl, H⟩ := H
      show E_X10_rounds G d 45 [(0, vR 0)] [vI z12] m11 Q
      refine x_istoren (q := 46) (ls' := [(1, vI z12), (0, vR 0)]) rfl (by decide) rfl dX10_rounds_45 rfl ?_
      refine x_iloadn (q := 47) 0 rfl rfl dX10_rounds_46 rfl ?_
      obtain ⟨s13, H⟩ := H
      obtain ⟨H1, H2⟩ := H
      refine x_if_ge (tgt := 59) (q := 50) dX10_rounds_47 (by decide) rfl s13 (fun hB => ?_) (fun hB => ?_)
      · have H := H1 (hB)
        refine x_iloadn (q := 60) 0 rfl rfl dX10_rounds_59 rfl ?_
        exact x_iret rfl dX10_rounds_60 H
      · have H := H2 (hB)
        refine x_aloadn (q := 51) 1 rfl rfl rfl dX10_rounds_50 rfl ?_
        refine x_ldc (q := 53) (z := (-1000002)) cn_X10_201 (by decide) dX10_rounds_51 rfl ?_
        obtain ⟨m16, em16⟩ : ∃ m9 : Mem, m9 = refM m11 (-1000002) := ⟨_, rfl⟩
        have H := H m16 em16
        refine x_callV (q := 56) (d := d - 1) (as := [vI (-1000002)]) (st := []) dX10_rounds_53 rfl mv_X10_84 sh_0 rfl rfl rfl (by exact Nat.le_of_ble_eq_true rfl) ⟨by show _ ≤ d; omega, by show _ ≤ 40 * d; omega⟩ ⟨Nat.le_refl _, Nat.le_refl _⟩ (ct_refuse (by omega) (by decide) (by decide) ?_)
        rw [← em16]
        show E_X10_rounds G d 56 [(1, vI z12), (0, vR 0)] [vI (-1000002)] m16 Q
        refine x_goto (tgt := 60) dX10_rounds_56 (by decide) ?_
        exact x_iret rfl dX10_rounds_60 H
    · have H := H2 (hB)
      refine x_aloadn (q := 25) 0 rfl rfl rfl dX10_rounds_24 rfl ?_
      refine x_ldc (q := 27) (z := (-1000004)) cn_X10_92 (by decide) dX10_rounds_25 rfl ?_
      obtain ⟨m17, em17⟩ : ∃ m9 : Mem, m9 = refM m5 (-1000004) := ⟨_, rfl⟩
      have H := H m17 em17
      refine x_callV (q := 30) (d := d - 1) (as := [vI (-1000004)]) (st := []) dX10_rounds_27 rfl mv_X10_84 sh_0 rfl rfl rfl (by exact Nat.le_of_ble_eq_true rfl) ⟨by show _ ≤ d; omega, by show _ ≤ 40 * d; omega⟩ ⟨Nat.le_refl _, Nat.le_refl _⟩ (ct_refuse (by omega) (by decide) (by decide) ?_)
      rw [← em17]
      show E_X10_rounds G d 30 [(0, vR 0)] [vI (-1000004)] m17 Q
      exact x_iret rfl dX10_rounds_30 H
set_option maxRecDepth 20000 in
set_option maxHeartbeats 4000000 in
theorem B_X10_chance {G : GT} {d : Nat} {l1 : Int} {l2 : Int} {mem : Mem} {Q : Option AV → Mem → Prop} (hd : 2 ≤ d) (H : (inr l1) ∧ ((¬ (0 ≤ l1 ∧ l1 < mem 1 0) → (∀ m4 : Mem, m4 = refM mem (-1000001) → (Q (some (vL (-1000001))) m4))) ∧ ((0 ≤ l1 ∧ l1 < mem 1 0) → ((inr l2) ∧ ((¬ (l2 < 0 ∨ 1 < l2) → (C_X1_refresh G (d - 1) [vR 32] mem (fun r9 m8 => r9 = none ∧ (((m8 32 7 ≠ 0) → (C_X1_weightOfThoseWith G (d - 1) [vR 32, vI (ishl 1 l1)] m8 (fun r9 m12 => ∃ z13 : Int, r9 = some (vL z13) ∧ (C_X1_weightOfThoseWith G (d - 1) [vR 32, vI 0] m12 (fun r9 m14 => ∃ z15 : Int, r9 = some (vL z15) ∧ (C_X10_commonDivisor G (d - 1) [vL z15, vL z13] m14 (fun r9 m16 => ∃ z17 : Int, r9 = some (vL z17) ∧ ((inl z17) ∧ (((lcmp z17 0 ≠ 0) → (((l2 ≠ 0) → ((inl z15) ∧ ((z17 ≠ 0) ∧ (Q (some (vL (Int.tdiv z15 z17))) m16)))) ∧ (¬ (l2 ≠ 0) → ((inl z13) ∧ ((z17 ≠ 0) ∧ (Q (some (vL (Int.tdiv z13 z17))) m16)))))) ∧ (¬ (lcmp z17 0 ≠ 0) → (Q (some (vL 0)) m16))))))))))) ∧ (¬ (m8 32 7 ≠ 0) → (∀ m27 : Mem, m27 = refM m8 (-1000002) → (Q (some (vL (-1000002))) m27))))))) ∧ ((l2 < 0 ∨ 1 < l2) → (∀ m28 : Mem, m28 = refM mem (-1000001) → (Q (some (vL (-1000001))) m28)))))))) : C_X10_chance G d [vR 0, vI l1, vI l2] mem Q := by
  refine Ct_of_Ex (by decide +kernel) (by exact Nat.le_of_ble_eq_true rfl) (ls := [(0, vR 0), (1, vI l1), (2, vI l2)]) rfl ?_
  show E_X10_chance G d 0 [(0, vR 0), (1, vI l1), (2, vI l2)] [] mem Q
  refine x_aloadn (q := 1) 0 rfl rfl rfl dX10_chance_0 rfl ?_
  refine x_getr (q := 4) dX10_chance_1 rfl fa_X10_12 sh_0 rfl ?_
  refine x_iloadn (q := 5) 1 rfl rfl dX10_chance_4 rfl ?_
  obtain ⟨s1, H⟩ := H
  refine x_callV (q := 8) (d := d - 1) (as := [vI l1]) (st := []) dX10_chance_5 rfl mv_X10_97 sh_1 rfl rfl rfl (by exact Nat.le_of_ble_eq_true rfl) ⟨by show _ ≤ d; omega, by show _ ≤ 40 * d; omega⟩ ⟨Nat.le_refl _, Nat.le_refl _⟩ (ct_has (by decide) s1 ?_)
  show E_X10_chance G d 8 [(0, vR 0), (1, vI l1), (2, vI l2)] [vI (bz (0 ≤ l1 ∧ l1 < mem 1 0))] mem Q
  obtain ⟨H1, H2⟩ := H
  refine x_if_eq (tgt := 20) (q := 11) dX10_chance_8 (by decide) rfl (bz_inr _) (fun hB => ?_) (fun hB => ?_)
  · have H := H1 (bz_0.mp hB)
    refine x_aloadn (q := 21) 0 rfl rfl rfl dX10_chance_20 rfl ?_
    refine x_ldc (q := 23) (z := (-1000001)) cn_X10_83 (by decide) dX10_chance_21 rfl ?_
    obtain ⟨m4, em4⟩ : ∃ m9 : Mem, m9 = refM mem (-1000001) := ⟨_, rfl⟩
    have H := H m4 em4
    refine x_callV (q := 26) (d := d - 1) (as := [vI (-1000001)]) (st := []) dX10_chance_23 rfl mv_X10_84 sh_0 rfl rfl rfl (by exact Nat.le_of_ble_eq_true rfl) ⟨by show _ ≤ d; omega, by show _ ≤ 40 * d; omega⟩ ⟨Nat.le_refl _, Nat.le_refl _⟩ (ct_refuse (by omega) (by decide) (by decide) ?_)
    rw [← em4]
    show E_X10_chance G d 26 [(0, vR 0), (1, vI l1), (2, vI l2)] [vI (-1000001)] m4 Q
    refine x_i2l (q := 27) (by decide) dX10_chance_26 rfl ?_
    exact x_lret rfl dX10_chance_27 H
  · have H := H2 (Classical.byContradiction (fun z => hB (bz_0.mpr z)))
    refine x_iloadn (q := 12) 2 rfl rfl dX10_chance_11 rfl ?_
    refine x_iconst (q := 13) dX10_chance_12 rfl ?_
    refine x_iconst (q := 14) dX10_chance_13 rfl ?_
    obtain ⟨s5, H⟩ := H
    refine x_callS (q := 17) (d := d - 1) (as := [vI l2, vI 0, vI 1]) (st := []) dX10_chance_14 rfl ms_X10_79 rfl rfl (by exact Nat.le_of_ble_eq_true rfl) ⟨by show _ ≤ d; omega, by show _ ≤ 40 * d; omega⟩ ⟨Nat.le_refl _, Nat.le_refl _⟩ (ct_outside s5 (by decide) (by decide) ?_)
    show E_X10_chance G d 17 [(0, vR 0), (1, vI l1), (2, vI l2)] [vI (bz (l2 < 0 ∨ 1 < l2))] mem Q
    obtain ⟨H1, H2⟩ := H
    refine x_if_eq (tgt := 28) (q := 20) dX10_chance_17 (by decide) rfl (bz_inr _) (fun hB => ?_) (fun hB => ?_)
    · have H := H1 (bz_0.mp hB)
      refine x_aloadn (q := 29) 0 rfl rfl rfl dX10_chance_28 rfl ?_
      refine x_getr (q := 32) dX10_chance_29 rfl fa_X10_34 sh_0 rfl ?_
      refine x_callV (q := 35) (d := d - 1) (as := []) (st := []) dX10_chance_32 rfl mv_X10_178 sh_32 rfl rfl rfl (by exact Nat.le_of_ble_eq_true rfl) ⟨by show _ ≤ d; omega, by show _ ≤ 40 * d; omega⟩ ⟨Nat.le_refl _, Nat.le_refl _⟩ (Ct.mono H (fun r9 m8 H => ?_))
      obtain ⟨rfl, H⟩ := H
      show E_X10_chance G d 35 [(0, vR 0), (1, vI l1), (2, vI l2)] [] m8 Q
      refine x_aloadn (q := 36) 0 rfl rfl rfl dX10_chance_35 rfl ?_
      refine x_getr (q := 39) dX10_chance_36 rfl fa_X10_34 sh_0 rfl ?_
      refine x_geti (q := 42) (ji := 7) dX10_chance_39 rfl fa_X10_195 sh_32 rfl rfl (fun r9 => ?_)
      obtain ⟨H1, H2⟩ := H
      refine x_if_ne (tgt := 53) (q := 45) dX10_chance_42 (by decide) rfl r9 (fun hB => ?_) (fun hB => ?_)
      · have H := H1 (hB)
        refine x_aloadn (q := 54) 0 rfl rfl rfl dX10_chance_53 rfl ?_
        refine x_getr (q := 57) dX10_chance_54 rfl fa_X10_34 sh_0 rfl ?_
        refine x_iconst (q := 58) dX10_chance_57 rfl ?_
        refine x_iloadn (q := 59) 1 rfl rfl dX10_chance_58 rfl ?_
        refine x_ishl (q := 60) dX10_chance_59 rfl ?_
        refine x_callV (q := 63) (d := d - 1) (as := [vI (ishl 1 l1)]) (st := []) dX10_chance_60 rfl mv_X10_257 sh_32 rfl rfl rfl (by exact Nat.le_of_ble_eq_true rfl) ⟨by show _ ≤ d; omega, by show _ ≤ 40 * d; omega⟩ ⟨Nat.le_refl _, Nat.le_refl _⟩ (Ct.mono H (fun r9 m12 H => ?_))
        obtain ⟨z13, rfl, H⟩ := H
        show E_X10_chance G d 63 [(0, vR 0), (1, vI l1), (2, vI l2)] [vL z13] m12 Q
        refine x_lstoren (q := 64) (ls' := [(3, vL z13), (0, vR 0), (1, vI l1), (2, vI l2)]) rfl (by decide) rfl dX10_chance_63 rfl ?_
        refine x_aloadn (q := 65) 1 rfl rfl rfl dX10_chance_64 rfl ?_
        refine x_getr (q := 68) dX10_chance_65 rfl fa_X10_34 sh_0 rfl ?_
        refine x_iconst (q := 69) dX10_chance_68 rfl ?_
        refine x_callV (q := 72) (d := d - 1) (as := [vI 0]) (st := []) dX10_chance_69 rfl mv_X10_257 sh_32 rfl rfl rfl (by exact Nat.le_of_ble_eq_true rfl) ⟨by show _ ≤ d; omega, by show _ ≤ 40 * d; omega⟩ ⟨Nat.le_refl _, Nat.le_refl _⟩ (Ct.mono H (fun r9 m14 H => ?_))
        obtain ⟨z15, rfl, H⟩ := H
        show E_X10_chance G d 72 [(3, vL z13), (0, vR 0), (1, vI l1), (2, vI l2)] [vL z15] m14 Q
        refine x_lstore (q := 74) (ls' := [(5, vL z15), (3, vL z13), (0, vR 0), (1, vI l1), (2, vI l2)]) (by decide) rfl dX10_chance_72 rfl ?_
        refine x_lload (q := 76) 0 rfl dX10_chance_74 rfl ?_
        refine x_lloadn (q := 77) 1 rfl rfl dX10_chance_76 rfl ?_
        refine x_callS (q := 80) (d := d - 1) (as := [vL z15, vL z13]) (st := []) dX10_chance_77 rfl ms_X10_261 rfl rfl (by exact Nat.le_of_ble_eq_true rfl) ⟨by show _ ≤ d; omega, by show _ ≤ 40 * d; omega⟩ ⟨Nat.le_refl _, Nat.le_refl _⟩ (Ct.mono H (fun r9 m16 H => ?_))
        obtain ⟨z17, rfl, H⟩ := H
        show E_X10_chance G d 80 [(5, vL z15), (3, vL z13), (0, vR 0), (1, vI l1), (2, vI l2)] [vL z17] m16 Q
        refine x_lstore (q := 82) (ls' := [(7, vL z17), (5, vL z15), (3, vL z13), (0, vR 0), (1, vI l1), (2, vI l2)]) (by decide) rfl dX10_chance_80 rfl ?_
        refine x_lload (q := 84) 0 rfl dX10_chance_82 rfl ?_
        refine x_lconst (q := 85) (v := 0) rfl dX10_chance_84 rfl ?_
        obtain ⟨s18, H⟩ := H
        refine x_lcmp (q := 86) s18 (by decide) dX10_chance_85 rfl ?_
        obtain ⟨H1, H2⟩ := H
        refine x_if_ne (tgt := 91) (q := 89) dX10_chance_86 (by decide) rfl (lcmp_inr _ _) (fun hB => ?_) (fun hB => ?_)
        · have H := H1 (hB)
          refine x_iloadn (q := 92) 5 rfl rfl dX10_chance_91 rfl ?_
          obtain ⟨H1, H2⟩ := H
          refine x_if_ne (tgt := 102) (q := 95) dX10_chance_92 (by decide) rfl s5 (fun hB => ?_) (fun hB => ?_)
          · have H := H1 (hB)
            refine x_lload (q := 104) 1 rfl dX10_chance_102 rfl ?_
            refine x_lload (q := 106) 0 rfl dX10_chance_104 rfl ?_
            obtain ⟨s23, H⟩ := H
            obtain ⟨s24, H⟩ := H
            refine x_ldiv (q := 107) s23 s18 s24 dX10_chance_106 rfl ?_
            exact x_lret rfl dX10_chance_107 H
          · have H := H2 (hB)
            refine x_lloadn (q := 96) 2 rfl rfl dX10_chance_95 rfl ?_
            refine x_lload (q := 98) 0 rfl dX10_chance_96 rfl ?_
            obtain ⟨s25, H⟩ := H
            obtain ⟨s26, H⟩ := H
            refine x_ldiv (q := 99) s25 s18 s26 dX10_chance_98 rfl ?_
            refine x_goto (tgt := 107) dX10_chance_99 (by decide) ?_
            exact x_lret rfl dX10_chance_107 H
        · have H := H2 (hB)
          refine x_lconst (q := 90) (v := 0) rfl dX10_chance_89 rfl ?_
          exact x_lret rfl dX10_chance_90 H
      · have H := H2 (hB)
        refine x_aloadn (q := 46) 0 rfl rfl rfl dX10_chance_45 rfl ?_
        refine x_ldc (q := 48) (z := (-1000002)) cn_X10_201 (by decide) dX10_chance_46 rfl ?_
        obtain ⟨m27, em27⟩ : ∃ m9 : Mem, m9 = refM m8 (-1000002) := ⟨_, rfl⟩
        have H := H m27 em27
        refine x_callV (q := 51) (d := d - 1) (as := [vI (-1000002)]) (st := []) dX10_chance_48 rfl mv_X10_84 sh_0 rfl rfl rfl (by exact Nat.le_of_ble_eq_true rfl) ⟨by show _ ≤ d; omega, by show _ ≤ 40 * d; omega⟩ ⟨Nat.le_refl _, Nat.le_refl _⟩ (ct_refuse (by omega) (by decide) (by decide) ?_)
        rw [← em27]
        show E_X10_chance G d 51 [(0, vR 0), (1, vI l1), (2, vI l2)] [vI (-1000002)] m27 Q
        refine x_i2l (q := 52) (by decide) dX10_chance_51 rfl ?_
        exact x_lret rfl dX10_chance_52 H
    · have H := H2 (Classical.byContradiction (fun z => hB (bz_0.mpr z)))
      refine x_aloadn (q := 21) 0 rfl rfl rfl dX10_chance_20 rfl ?_
      refine x_ldc (q := 23) (z := (-1000001)) cn_X10_83 (by decide) dX10_chance_21 rfl ?_
      obtain ⟨m28, em28⟩ : ∃ m9 : Mem, m9 = refM mem (-1000001) := ⟨_, rfl⟩
      have H := H m28 em28
      refine x_callV (q := 26) (d := d - 1) (as := [vI (-1000001)]) (st := []) dX10_chance_23 rfl mv_X10_84 sh_0 rfl rfl rfl (by exact Nat.le_of_ble_eq_true rfl) ⟨by show _ ≤ d; omega, by show _ ≤ 40 * d; omega⟩ ⟨Nat.le_refl _, Nat.le_refl _⟩ (ct_refuse (by omega) (by decide) (by decide) ?_)
      rw [← em28]
      show E_X10_chance G d 26 [(0, vR 0), (1, vI l1), (2, vI l2)] [vI (-1000001)] m28 Q
      refine x_i2l (q := 27) (by decide) dX10_chance_26 rfl ?_
      exact x_lret rfl dX10_chance_27 H
set_option maxRecDepth 20000 in
set_option maxHeartbeats 4000000 in
theorem B_X10_worst {G : GT} {d : Nat} {l1 : Int} {l2 : Int} {mem : Mem} {Q : Option AV → Mem → Prop} (hd : 2 ≤ d) (H : (¬ (iand l1 (ixor (ishl 1 (mem 1 0) - 1) (-1)) = 0) → (∀ m3 : Mem, m3 = refM mem (-1000001) → (Q (some (vI (-1000001))) m3))) ∧ ((iand l1 (ixor (ishl 1 (mem 1 0) - 1) (-1)) = 0) → ((inr l2) ∧ ((¬ (l2 < 0 ∨ 1 < l2) → (C_X5_tiesOfLiars G (d - 1) [vR 49, vI l1] mem (fun r9 m7 => ∃ z8 : Int, r9 = some (vI z8) ∧ ((inr z8) ∧ (((z8 ≤ 8) → (C_X5_spread G (d - 1) [vR 49, vI l1] m7 (fun r9 m12 => r9 = none ∧ (((l2 ≠ 0) → (Q (some (vI (m12 49 9))) m12)) ∧ (¬ (l2 ≠ 0) → (Q (some (vI (m12 49 8))) m12)))))) ∧ (¬ (z8 ≤ 8) → (∀ m17 : Mem, m17 = refM m7 (-1000004) → (Q (some (vI (-1000004))) m17)))))))) ∧ ((l2 < 0 ∨ 1 < l2) → (∀ m18 : Mem, m18 = refM mem (-1000001) → (Q (some (vI (-1000001))) m18))))))) : C_X10_worst G d [vR 0, vI l1, vI l2] mem Q := by
  refine Ct_of_Ex (by decide +kernel) (by exact Nat.le_of_ble_eq_true rfl) (ls := [(0, vR 0), (1, vI l1), (2, vI l2)]) rfl ?_
  show E_X10_worst G d 0 [(0, vR 0), (1, vI l1), (2, vI l2)] [] mem Q
  refine x_aloadn (q := 1) 0 rfl rfl rfl dX10_worst_0 rfl ?_
  refine x_getr (q := 4) dX10_worst_1 rfl fa_X10_12 sh_0 rfl ?_
  refine x_iloadn (q := 5) 1 rfl rfl dX10_worst_4 rfl ?_
  refine x_callV (q := 8) (d := d - 1) (as := [vI l1]) (st := []) dX10_worst_5 rfl mv_X10_175 sh_1 rfl rfl rfl (by exact Nat.le_of_ble_eq_true rfl) ⟨by show _ ≤ d; omega, by show _ ≤ 40 * d; omega⟩ ⟨Nat.le_refl _, Nat.le_refl _⟩ (ct_hasAll (by decide) (by omega) ?_)
  show E_X10_worst G d 8 [(0, vR 0), (1, vI l1), (2, vI l2)] [vI (bz (iand l1 (ixor (ishl 1 (mem 1 0) - 1) (-1)) = 0))] mem Q
  obtain ⟨H1, H2⟩ := H
  refine x_if_eq (tgt := 20) (q := 11) dX10_worst_8 (by decide) rfl (bz_inr _) (fun hB => ?_) (fun hB => ?_)
  · have H := H1 (bz_0.mp hB)
    refine x_aloadn (q := 21) 0 rfl rfl rfl dX10_worst_20 rfl ?_
    refine x_ldc (q := 23) (z := (-1000001)) cn_X10_83 (by decide) dX10_worst_21 rfl ?_
    obtain ⟨m3, em3⟩ : ∃ m9 : Mem, m9 = refM mem (-1000001) := ⟨_, rfl⟩
    have H := H m3 em3
    refine x_callV (q := 26) (d := d - 1) (as := [vI (-1000001)]) (st := []) dX10_worst_23 rfl mv_X10_84 sh_0 rfl rfl rfl (by exact Nat.le_of_ble_eq_true rfl) ⟨by show _ ≤ d; omega, by show _ ≤ 40 * d; omega⟩ ⟨Nat.le_refl _, Nat.le_refl _⟩ (ct_refuse (by omega) (by decide) (by decide) ?_)
    rw [← em3]
    show E_X10_worst G d 26 [(0, vR 0), (1, vI l1), (2, vI l2)] [vI (-1000001)] m3 Q
    exact x_iret rfl dX10_worst_26 H
  · have H := H2 (Classical.byContradiction (fun z => hB (bz_0.mpr z)))
    refine x_iloadn (q := 12) 2 rfl rfl dX10_worst_11 rfl ?_
    refine x_iconst (q := 13) dX10_worst_12 rfl ?_
    refine x_iconst (q := 14) dX10_worst_13 rfl ?_
    obtain ⟨s4, H⟩ := H
    refine x_callS (q := 17) (d := d - 1) (as := [vI l2, vI 0, vI 1]) (st := []) dX10_worst_14 rfl ms_X10_79 rfl rfl (by exact Nat.le_of_ble_eq_true rfl) ⟨by show _ ≤ d; omega, by show _ ≤ 40 * d; omega⟩ ⟨Nat.le_refl _, Nat.le_refl _⟩ (ct_outside s4 (by decide) (by decide) ?_)
    show E_X10_worst G d 17 [(0, vR 0), (1, vI l1), (2, vI l2)] [vI (bz (l2 < 0 ∨ 1 < l2))] mem Q
    obtain ⟨H1, H2⟩ := H
    refine x_if_eq (tgt := 27) (q := 20) dX10_worst_17 (by decide) rfl (bz_inr _) (fun hB => ?_) (fun hB => ?_)
    · have H := H1 (bz_0.mp hB)
      refine x_aloadn (q := 28) 0 rfl rfl rfl dX10_worst_27 rfl ?_
      refine x_getr (q := 31) dX10_worst_28 rfl fa_X10_57 sh_0 rfl ?_
      refine x_iloadn (q := 32) 1 rfl rfl dX10_worst_31 rfl ?_
      refine x_callV (q := 35) (d := d - 1) (as := [vI l1]) (st := []) dX10_worst_32 rfl mv_X10_265 sh_49 rfl rfl rfl (by exact Nat.le_of_ble_eq_true rfl) ⟨by show _ ≤ d; omega, by show _ ≤ 40 * d; omega⟩ ⟨Nat.le_refl _, Nat.le_refl _⟩ (Ct.mono H (fun r9 m7 H => ?_))
      obtain ⟨z8, rfl, H⟩ := H
      show E_X10_worst G d 35 [(0, vR 0), (1, vI l1), (2, vI l2)] [vI z8] m7 Q
      refine x_bipush (q := 37) rfl dX10_worst_35 rfl ?_
      obtain ⟨s9, H⟩ := H
      obtain ⟨H1, H2⟩ := H
      refine x_icmp_le (tgt := 47) (q := 40) dX10_worst_37 (by decide) rfl s9 (by decide) (fun hB => ?_) (fun hB => ?_)
      · have H := H1 (hB)
        refine x_aloadn (q := 48) 0 rfl rfl rfl dX10_worst_47 rfl ?_
        refine x_getr (q := 51) dX10_worst_48 rfl fa_X10_57 sh_0 rfl ?_
        refine x_iloadn (q := 52) 1 rfl rfl dX10_worst_51 rfl ?_
        refine x_callV (q := 55) (d := d - 1) (as := [vI l1]) (st := []) dX10_worst_52 rfl mv_X10_268 sh_49 rfl rfl rfl (by exact Nat.le_of_ble_eq_true rfl) ⟨by show _ ≤ d; omega, by show _ ≤ 40 * d; omega⟩ ⟨Nat.le_refl _, Nat.le_refl _⟩ (Ct.mono H (fun r9 m12 H => ?_))
        obtain ⟨rfl, H⟩ := H
        show E_X10_worst G d 55 [(0, vR 0), (1, vI l1), (2, vI l2)] [] m12 Q
        refine x_iloadn (q := 56) 2 rfl rfl dX10_worst_55 rfl ?_
        obtain ⟨H1, H2⟩ := H
        refine x_if_ne (tgt := 69) (q := 59) dX10_worst_56 (by decide) rfl s4 (fun hB => ?_) (fun hB => ?_)
        · have H := H1 (hB)
          refine x_aloadn (q := 70) 0 rfl rfl rfl dX10_worst_69 rfl ?_
          refine x_getr (q := 73) dX10_worst_70 rfl fa_X10_57 sh_0 rfl ?_
          refine x_geti (q := 76) (ji := 9) dX10_worst_73 rfl fa_X10_273 sh_49 rfl rfl (fun r15 => ?_)
          exact x_iret rfl dX10_worst_76 H
        · have H := H2 (hB)
          refine x_aloadn (q := 60) 0 rfl rfl rfl dX10_worst_59 rfl ?_
          refine x_getr (q := 63) dX10_worst_60 rfl fa_X10_57 sh_0 rfl ?_
          refine x_geti (q := 66) (ji := 8) dX10_worst_63 rfl fa_X10_271 sh_49 rfl rfl (fun r16 => ?_)
          refine x_goto (tgt := 76) dX10_worst_66 (by decide) ?_
          exact x_iret rfl dX10_worst_76 H
      · have H := H2 (hB)
        refine x_aloadn (q := 41) 0 rfl rfl rfl dX10_worst_40 rfl ?_
        refine x_ldc (q := 43) (z := (-1000004)) cn_X10_92 (by decide) dX10_worst_41 rfl ?_
        obtain ⟨m17, em17⟩ : ∃ m9 : Mem, m9 = refM m7 (-1000004) := ⟨_, rfl⟩
        have H := H m17 em17
        refine x_callV (q := 46) (d := d - 1) (as := [vI (-1000004)]) (st := []) dX10_worst_43 rfl mv_X10_84 sh_0 rfl rfl rfl (by exact Nat.le_of_ble_eq_true rfl) ⟨by show _ ≤ d; omega, by show _ ≤ 40 * d; omega⟩ ⟨Nat.le_refl _, Nat.le_refl _⟩ (ct_refuse (by omega) (by decide) (by decide) ?_)
        rw [← em17]
        show E_X10_worst G d 46 [(0, vR 0), (1, vI l1), (2, vI l2)] [vI (-1000004)] m17 Q
        exact x_iret rfl dX10_worst_46 H
    · have H := H2 (Classical.byContradiction (fun z => hB (bz_0.mpr z)))
      refine x_aloadn (q := 21) 0 rfl rfl rfl dX10_worst_20 rfl ?_
      refine x_ldc (q := 23) (z := (-1000001)) cn_X10_83 (by decide) dX10_worst_21 rfl ?_
      obtain ⟨m18, em18⟩ : ∃ m9 : Mem, m9 = refM mem (-1000001) := ⟨_, rfl⟩
      have H := H m18 em18
      refine x_callV (q := 26) (d := d - 1) (as := [vI (-1000001)]) (st := []) dX10_worst_23 rfl mv_X10_84 sh_0 rfl rfl rfl (by exact Nat.le_of_ble_eq_true rfl) ⟨by show _ ≤ d; omega, by show _ ≤ 40 * d; omega⟩ ⟨Nat.le_refl _, Nat.le_refl _⟩ (ct_refuse (by omega) (by decide) (by decide) ?_)
      rw [← em18]
      show E_X10_worst G d 26 [(0, vR 0), (1, vI l1), (2, vI l2)] [vI (-1000001)] m18 Q
      exact x_iret rfl dX10_worst_26 H
set_option maxRecDepth 20000 in
set_option maxHeartbeats 4000000 in
theorem B_X10_mend {G : GT} {d : Nat} {l1 : Int} {mem : Mem} {Q : Option AV → Mem → Prop} (hd : 2 ≤ d) (H : (inr l1) ∧ ((¬ (l1 < 0 ∨ 9999 < l1) → (C_X1_refresh G (d - 1) [vR 32] mem (fun r9 m4 => r9 = none ∧ (C_X1_bestToMend G (d - 1) [vR 32, vI l1] m4 (fun r9 m5 => ∃ z6 : Int, r9 = some (vI z6) ∧ (Q (some (vI z6)) m5)))))) ∧ ((l1 < 0 ∨ 9999 < l1) → (∀ m7 : Mem, m7 = refM mem (-1000001) → (Q (some (vI (-1000001))) m7))))) : C_X10_mend G d [vR 0, vI l1] mem Q := by
  refine Ct_of_Ex (by decide +kernel) (by exact Nat.le_of_ble_eq_true rfl) (ls := [(0, vR 0), (1, vI l1)]) rfl ?_
  show E_X10_mend G d 0 [(0, vR 0), (1, vI l1)] [] mem Q
  refine x_iloadn (q := 1) 1 rfl rfl dX10_mend_0 rfl ?_
  refine x_iconst (q := 2) dX10_mend_1 rfl ?_
  refine x_sipush (q := 5) rfl dX10_mend_2 rfl ?_
  obtain ⟨s1, H⟩ := H
  refine x_callS (q := 8) (d := d - 1) (as := [vI l1, vI 0, vI 9999]) (st := []) dX10_mend_5 rfl ms_X10_79 rfl rfl (by exact Nat.le_of_ble_eq_true rfl) ⟨by show _ ≤ d; omega, by show _ ≤ 40 * d; omega⟩ ⟨Nat.le_refl _, Nat.le_refl _⟩ (ct_outside s1 (by decide) (by decide) ?_)
  show E_X10_mend G d 8 [(0, vR 0), (1, vI l1)] [vI (bz (l1 < 0 ∨ 9999 < l1))] mem Q
  obtain ⟨H1, H2⟩ := H
  refine x_if_eq (tgt := 18) (q := 11) dX10_mend_8 (by decide) rfl (bz_inr _) (fun hB => ?_) (fun hB => ?_)
  · have H := H1 (bz_0.mp hB)
    refine x_aloadn (q := 19) 0 rfl rfl rfl dX10_mend_18 rfl ?_
    refine x_getr (q := 22) dX10_mend_19 rfl fa_X10_34 sh_0 rfl ?_
    refine x_callV (q := 25) (d := d - 1) (as := []) (st := []) dX10_mend_22 rfl mv_X10_178 sh_32 rfl rfl rfl (by exact Nat.le_of_ble_eq_true rfl) ⟨by show _ ≤ d; omega, by show _ ≤ 40 * d; omega⟩ ⟨Nat.le_refl _, Nat.le_refl _⟩ (Ct.mono H (fun r9 m4 H => ?_))
    obtain ⟨rfl, H⟩ := H
    show E_X10_mend G d 25 [(0, vR 0), (1, vI l1)] [] m4 Q
    refine x_aloadn (q := 26) 0 rfl rfl rfl dX10_mend_25 rfl ?_
    refine x_getr (q := 29) dX10_mend_26 rfl fa_X10_34 sh_0 rfl ?_
    refine x_iloadn (q := 30) 1 rfl rfl dX10_mend_29 rfl ?_
    refine x_callV (q := 33) (d := d - 1) (as := [vI l1]) (st := []) dX10_mend_30 rfl mv_X10_276 sh_32 rfl rfl rfl (by exact Nat.le_of_ble_eq_true rfl) ⟨by show _ ≤ d; omega, by show _ ≤ 40 * d; omega⟩ ⟨Nat.le_refl _, Nat.le_refl _⟩ (Ct.mono H (fun r9 m5 H => ?_))
    obtain ⟨z6, rfl, H⟩ := H
    show E_X10_mend G d 33 [(0, vR 0), (1, vI l1)] [vI z6] m5 Q
    exact x_iret rfl dX10_mend_33 H
  · have H := H2 (Classical.byContradiction (fun z => hB (bz_0.mpr z)))
    refine x_aloadn (q := 12) 0 rfl rfl rfl dX10_mend_11 rfl ?_
    refine x_ldc (q := 14) (z := (-1000001)) cn_X10_83 (by decide) dX10_mend_12 rfl ?_
    obtain ⟨m7, em7⟩ : ∃ m9 : Mem, m9 = refM mem (-1000001) := ⟨_, rfl⟩
    have H := H m7 em7
    refine x_callV (q := 17) (d := d - 1) (as := [vI (-1000001)]) (st := []) dX10_mend_14 rfl mv_X10_84 sh_0 rfl rfl rfl (by exact Nat.le_of_ble_eq_true rfl) ⟨by show _ ≤ d; omega, by show _ ≤ 40 * d; omega⟩ ⟨Nat.le_refl _, Nat.le_refl _⟩ (ct_refuse (by omega) (by decide) (by decide) ?_)
    rw [← em7]
    show E_X10_mend G d 17 [(0, vR 0), (1, vI l1)] [vI (-1000001)] m7 Q
    exact x_iret rfl dX10_mend_17 H
set_option maxRecDepth 20000 in
set_option maxHeartbeats 4000000 in
theorem B_X10_voice {G : GT} {d : Nat} {l1 : Int} {l2 : Int} {l3 : Int} {mem : Mem} {Q : Option AV → Mem → Prop} (hd : 2 ≤ d) (H : (inr l1) ∧ ((¬ (0 ≤ l1 ∧ l1 < mem 1 0) → (∀ m4 : Mem, m4 = refM mem (-1000001) → (Q (some (vI (-1000001))) m4))) ∧ ((0 ≤ l1 ∧ l1 < mem 1 0) → ((inr l2) ∧ ((¬ (l2 < 0 ∨ 3 < l2) → (C_X9_sound G (d - 1) [vR 59, vR 1, vI l1, vI l2, vI l3] mem (fun r9 m8 => ∃ z9 : Int, r9 = some (vI z9) ∧ (((m8 59 2 = 0) → (Q (some (vI z9)) m8)) ∧ (¬ (m8 59 2 = 0) → (∀ m13 : Mem, m13 = refM m8 (-1000006) → (Q (some (vI (-1000006))) m13))))))) ∧ ((l2 < 0 ∨ 3 < l2) → (∀ m14 : Mem, m14 = refM mem (-1000001) → (Q (some (vI (-1000001))) m14)))))))) : C_X10_voice G d [vR 0, vI l1, vI l2, vI l3] mem Q := by
  refine Ct_of_Ex (by decide +kernel) (by exact Nat.le_of_ble_eq_true rfl) (ls := [(0, vR 0), (1, vI l1), (2, vI l2), (3, vI l3)]) rfl ?_
  show E_X10_voice G d 0 [(0, vR 0), (1, vI l1), (2, vI l2), (3, vI l3)] [] mem Q
  refine x_aloadn (q := 1) 0 rfl rfl rfl dX10_voice_0 rfl ?_
  refine x_getr (q := 4) dX10_voice_1 rfl fa_X10_12 sh_0 rfl ?_
  refine x_iloadn (q := 5) 1 rfl rfl dX10_voice_4 rfl ?_
  obtain ⟨s1, H⟩ := H
  refine x_callV (q := 8) (d := d - 1) (as := [vI l1]) (st := []) dX10_voice_5 rfl mv_X10_97 sh_1 rfl rfl rfl (by exact Nat.le_of_ble_eq_true rfl) ⟨by show _ ≤ d; omega, by show _ ≤ 40 * d; omega⟩ ⟨Nat.le_refl _, Nat.le_refl _⟩ (ct_has (by decide) s1 ?_)
  show E_X10_voice G d 8 [(0, vR 0), (1, vI l1), (2, vI l2), (3, vI l3)] [vI (bz (0 ≤ l1 ∧ l1 < mem 1 0))] mem Q
  obtain ⟨H1, H2⟩ := H
  refine x_if_eq (tgt := 20) (q := 11) dX10_voice_8 (by decide) rfl (bz_inr _) (fun hB => ?_) (fun hB => ?_)
  · have H := H1 (bz_0.mp hB)
    refine x_aloadn (q := 21) 0 rfl rfl rfl dX10_voice_20 rfl ?_
    refine x_ldc (q := 23) (z := (-1000001)) cn_X10_83 (by decide) dX10_voice_21 rfl ?_
    obtain ⟨m4, em4⟩ : ∃ m9 : Mem, m9 = refM mem (-1000001) := ⟨_, rfl⟩
    have H := H m4 em4
    refine x_callV (q := 26) (d := d - 1) (as := [vI (-1000001)]) (st := []) dX10_voice_23 rfl mv_X10_84 sh_0 rfl rfl rfl (by exact Nat.le_of_ble_eq_true rfl) ⟨by show _ ≤ d; omega, by show _ ≤ 40 * d; omega⟩ ⟨Nat.le_refl _, Nat.le_refl _⟩ (ct_refuse (by omega) (by decide) (by decide) ?_)
    rw [← em4]
    show E_X10_voice G d 26 [(0, vR 0), (1, vI l1), (2, vI l2), (3, vI l3)] [vI (-1000001)] m4 Q
    exact x_iret rfl dX10_voice_26 H
  · have H := H2 (Classical.byContradiction (fun z => hB (bz_0.mpr z)))
    refine x_iloadn (q := 12) 2 rfl rfl dX10_voice_11 rfl ?_
    refine x_iconst (q := 13) dX10_voice_12 rfl ?_
    refine x_iconst (q := 14) dX10_voice_13 rfl ?_
    obtain ⟨s5, H⟩ := H
    refine x_callS (q := 17) (d := d - 1) (as := [vI l2, vI 0, vI 3]) (st := []) dX10_voice_14 rfl ms_X10_79 rfl rfl (by exact Nat.le_of_ble_eq_true rfl) ⟨by show _ ≤ d; omega, by show _ ≤ 40 * d; omega⟩ ⟨Nat.le_refl _, Nat.le_refl _⟩ (ct_outside s5 (by decide) (by decide) ?_)
    show E_X10_voice G d 17 [(0, vR 0), (1, vI l1), (2, vI l2), (3, vI l3)] [vI (bz (l2 < 0 ∨ 3 < l2))] mem Q
    obtain ⟨H1, H2⟩ := H
    refine x_if_eq (tgt := 27) (q := 20) dX10_voice_17 (by decide) rfl (bz_inr _) (fun hB => ?_) (fun hB => ?_)
    · have H := H1 (bz_0.mp hB)
      refine x_aloadn (q := 28) 0 rfl rfl rfl dX10_voice_27 rfl ?_
      refine x_getr (q := 31) dX10_voice_28 rfl fa_X10_64 sh_0 rfl ?_
      refine x_aloadn (q := 32) 0 rfl rfl rfl dX10_voice_31 rfl ?_
      refine x_getr (q := 35) dX10_voice_32 rfl fa_X10_12 sh_0 rfl ?_
      refine x_iloadn (q := 36) 1 rfl rfl dX10_voice_35 rfl ?_
      refine x_iloadn (q := 37) 2 rfl rfl dX10_voice_36 rfl ?_
      refine x_iloadn (q := 38) 3 rfl rfl dX10_voice_37 rfl ?_
      refine x_callV (q := 41) (d := d - 1) (as := [vR 1, vI l1, vI l2, vI l3]) (st := []) dX10_voice_38 rfl mv_X10_282 sh_59 rfl rfl rfl (by exact Nat.le_of_ble_eq_true rfl) ⟨by show _ ≤ d; omega, by show _ ≤ 40 * d; omega⟩ ⟨Nat.le_refl _, Nat.le_refl _⟩ (Ct.mono H (fun r9 m8 H => ?_))
      obtain ⟨z9, rfl, H⟩ := H
      show E_X10_voice G d 41 [(0, vR 0), (1, vI l1), (2, vI l2), (3, vI l3)] [vI z9] m8 Q
      refine x_istore (q := 43) (ls' := [(4, vI z9), (0, vR 0), (1, vI l1), (2, vI l2), (3, vI l3)]) (by decide) rfl dX10_voice_41 rfl ?_
      refine x_aloadn (q := 44) 1 rfl rfl rfl dX10_voice_43 rfl ?_
      refine x_getr (q := 47) dX10_voice_44 rfl fa_X10_64 sh_0 rfl ?_
      refine x_geti (q := 50) (ji := 2) dX10_voice_47 rfl fa_X10_286 sh_59 rfl rfl (fun r10 => ?_)
      obtain ⟨H1, H2⟩ := H
      refine x_if_eq (tgt := 63) (q := 53) dX10_voice_50 (by decide) rfl r10 (fun hB => ?_) (fun hB => ?_)
      · have H := H1 (hB)
        refine x_iload (q := 65) 0 rfl dX10_voice_63 rfl ?_
        exact x_iret rfl dX10_voice_65 H
      · have H := H2 (hB)
        refine x_aloadn (q := 54) 1 rfl rfl rfl dX10_voice_53 rfl ?_
        refine x_ldcw (q := 57) (z := (-1000006)) cn_X10_290 (by decide) dX10_voice_54 rfl ?_
        obtain ⟨m13, em13⟩ : ∃ m9 : Mem, m9 = refM m8 (-1000006) := ⟨_, rfl⟩
        have H := H m13 em13
        refine x_callV (q := 60) (d := d - 1) (as := [vI (-1000006)]) (st := []) dX10_voice_57 rfl mv_X10_84 sh_0 rfl rfl rfl (by exact Nat.le_of_ble_eq_true rfl) ⟨by show _ ≤ d; omega, by show _ ≤ 40 * d; omega⟩ ⟨Nat.le_refl _, Nat.le_refl _⟩ (ct_refuse (by omega) (by decide) (by decide) ?_)
        rw [← em13]
        show E_X10_voice G d 60 [(4, vI z9), (0, vR 0), (1, vI l1), (2, vI l2), (3, vI l3)] [vI (-1000006)] m13 Q
        refine x_goto (tgt := 65) dX10_voice_60 (by decide) ?_
        exact x_iret rfl dX10_voice_65 H
    · have H := H2 (Classical.byContradiction (fun z => hB (bz_0.mpr z)))
      refine x_aloadn (q := 21) 0 rfl rfl rfl dX10_voice_20 rfl ?_
      refine x_ldc (q := 23) (z := (-1000001)) cn_X10_83 (by decide) dX10_voice_21 rfl ?_
      obtain ⟨m14, em14⟩ : ∃ m9 : Mem, m9 = refM mem (-1000001) := ⟨_, rfl⟩
      have H := H m14 em14
      refine x_callV (q := 26) (d := d - 1) (as := [vI (-1000001)]) (st := []) dX10_voice_23 rfl mv_X10_84 sh_0 rfl rfl rfl (by exact Nat.le_of_ble_eq_true rfl) ⟨by show _ ≤ d; omega, by show _ ≤ 40 * d; omega⟩ ⟨Nat.le_refl _, Nat.le_refl _⟩ (ct_refuse (by omega) (by decide) (by decide) ?_)
      rw [← em14]
      show E_X10_voice G d 26 [(0, vR 0), (1, vI l1), (2, vI l2), (3, vI l3)] [vI (-1000001)] m14 Q
      exact x_iret rfl dX10_voice_26 H
set_option maxRecDepth 20000 in
set_option maxHeartbeats 4000000 in
theorem B_X10_body {G : GT} {d : Nat} {l1 : Int} {mem : Mem} {Q : Option AV → Mem → Prop} (hd : 2 ≤ d) (H : (inr l1 ∧ inr ((mem 59 1) - 1)) ∧ ((¬ (l1 < 0 ∨ (mem 59 1) - 1 < l1) → ((0 ≤ l1 ∧ l1 < 30) ∧ (Q (some (vI (mem 60 l1))) mem))) ∧ ((l1 < 0 ∨ (mem 59 1) - 1 < l1) → (∀ m9 : Mem, m9 = refM mem (-1000002) → (Q (some (vI (-1000002))) m9))))) : C_X10_body G d [vR 0, vI l1] mem Q := by
  refine Ct_of_Ex (by decide +kernel) (by exact Nat.le_of_ble_eq_true rfl) (ls := [(0, vR 0), (1, vI l1)]) rfl ?_
  show E_X10_body G d 0 [(0, vR 0), (1, vI l1)] [] mem Q
  refine x_iloadn (q := 1) 1 rfl rfl dX10_body_0 rfl ?_
  refine x_iconst (q := 2) dX10_body_1 rfl ?_
  refine x_aloadn (q := 3) 0 rfl rfl rfl dX10_body_2 rfl ?_
  refine x_getr (q := 6) dX10_body_3 rfl fa_X10_64 sh_0 rfl ?_
  refine x_geti (q := 9) (ji := 1) dX10_body_6 rfl fa_X10_291 sh_59 rfl rfl (fun r1 => ?_)
  refine x_iconst (q := 10) dX10_body_9 rfl ?_
  refine x_isub (q := 11) dX10_body_10 rfl ?_
  obtain ⟨⟨s2, s3⟩, H⟩ := H
  refine x_callS (q := 14) (d := d - 1) (as := [vI l1, vI 0, vI ((mem 59 1) - 1)]) (st := []) dX10_body_11 rfl ms_X10_79 rfl rfl (by exact Nat.le_of_ble_eq_true rfl) ⟨by show _ ≤ d; omega, by show _ ≤ 40 * d; omega⟩ ⟨Nat.le_refl _, Nat.le_refl _⟩ (ct_outside s2 (by decide) s3 ?_)
  show E_X10_body G d 14 [(0, vR 0), (1, vI l1)] [vI (bz (l1 < 0 ∨ (mem 59 1) - 1 < l1))] mem Q
  obtain ⟨H1, H2⟩ := H
  refine x_if_eq (tgt := 24) (q := 17) dX10_body_14 (by decide) rfl (bz_inr _) (fun hB => ?_) (fun hB => ?_)
  · have H := H1 (bz_0.mp hB)
    refine x_aloadn (q := 25) 0 rfl rfl rfl dX10_body_24 rfl ?_
    refine x_getr (q := 28) dX10_body_25 rfl fa_X10_64 sh_0 rfl ?_
    refine x_getr (q := 31) dX10_body_28 rfl fa_X10_294 sh_59 rfl ?_
    refine x_iloadn (q := 32) 1 rfl rfl dX10_body_31 rfl ?_
    obtain ⟨⟨s6, s7⟩, H⟩ := H
    refine x_iald (q := 33) dX10_body_32 rfl sh_60 s6 s7 (fun r8 => ?_)
    exact x_iret rfl dX10_body_33 H
  · have H := H2 (Classical.byContradiction (fun z => hB (bz_0.mpr z)))
    refine x_aloadn (q := 18) 0 rfl rfl rfl dX10_body_17 rfl ?_
    refine x_ldc (q := 20) (z := (-1000002)) cn_X10_201 (by decide) dX10_body_18 rfl ?_
    obtain ⟨m9, em9⟩ : ∃ m9 : Mem, m9 = refM mem (-1000002) := ⟨_, rfl⟩
    have H := H m9 em9
    refine x_callV (q := 23) (d := d - 1) (as := [vI (-1000002)]) (st := []) dX10_body_20 rfl mv_X10_84 sh_0 rfl rfl rfl (by exact Nat.le_of_ble_eq_true rfl) ⟨by show _ ≤ d; omega, by show _ ≤ 40 * d; omega⟩ ⟨Nat.le_refl _, Nat.le_refl _⟩ (ct_refuse (by omega) (by decide) (by decide) ?_)
    rw [← em9]
    show E_X10_body G d 23 [(0, vR 0), (1, vI l1)] [vI (-1000002)] m9 Q
    exact x_iret rfl dX10_body_23 H
set_option maxRecDepth 20000 in
set_option maxHeartbeats 4000000 in
theorem B_X10_sheet {G : GT} {d : Nat} {l1 : Int} {l2 : Int} {l3 : Int} {mem : Mem} {Q : Option AV → Mem → Prop} (hd : 2 ≤ d) (H : (inr l1) ∧ (((l1 < 0 ∨ 3 < l1) → (∀ m4 : Mem, m4 = refM mem (-1000001) → (Q (some (vI (-1000001))) m4))) ∧ (¬ (l1 < 0 ∨ 3 < l1) → ((inr l2) ∧ (((l2 = 0 ∨ l2 = 8 ∨ l2 = 16 ∨ l2 = 32) → (((l2 ≠ 0) → ((inr l3) ∧ (((0 ≤ l3) → (((l3 ≤ 24) → ((0 ≤ l1 ∧ l1 < 4) ∧ (C_X6_lay G (d - 1) [vR (63 + 2 * (l1).toNat), vI l2, vI l3] mem (fun r9 m17 => r9 = none ∧ (Q (some (vI 1)) m17))))) ∧ (¬ (l3 ≤ 24) → (∀ m18 : Mem, m18 = refM mem (-1000001) → (Q (some (vI (-1000001))) m18))))) ∧ (¬ (0 ≤ l3) → (∀ m19 : Mem, m19 = refM mem (-1000003) → (Q (some (vI (-1000003))) m19)))))) ∧ (¬ (l2 ≠ 0) → ((0 ≤ l1 ∧ l1 < 4) ∧ (C_X6_lay G (d - 1) [vR (63 + 2 * (l1).toNat), vI 0, vI 0] mem (fun r9 m22 => r9 = none ∧ (Q (some (vI 1)) m22))))))) ∧ (¬ (l2 = 0 ∨ l2 = 8 ∨ l2 = 16 ∨ l2 = 32) → (∀ m23 : Mem, m23 = refM mem (-1000001) → (Q (some (vI (-1000001))) m23)))))))) : C_X10_sheet G d [vR 0, vI l1, vI l2, vI l3] mem Q := by
  refine Ct_of_Ex (by decide +kernel) (by exact Nat.le_of_ble_eq_true rfl) (ls := [(0, vR 0), (1, vI l1), (2, vI l2), (3, vI l3)]) rfl ?_
  show E_X10_sheet G d 0 [(0, vR 0), (1, vI l1), (2, vI l2), (3, vI l3)] [] mem Q
  refine x_iloadn (q := 1) 1 rfl rfl dX10_sheet_0 rfl ?_
  refine x_iconst (q := 2) dX10_sheet_1 rfl ?_
  refine x_iconst (q := 3) dX10_sheet_2 rfl ?_
  obtain ⟨s1, H⟩ := H
  refine x_callS (q := 6) (d := d - 1) (as := [vI l1, vI 0, vI 3]) (st := []) dX10_sheet_3 rfl ms_X10_79 rfl rfl (by exact Nat.le_of_ble_eq_true rfl) ⟨by show _ ≤ d; omega, by show _ ≤ 40 * d; omega⟩ ⟨Nat.le_refl _, Nat.le_refl _⟩ (ct_outside s1 (by decide) (by decide) ?_)
  show E_X10_sheet G d 6 [(0, vR 0), (1, vI l1), (2, vI l2), (3, vI l3)] [vI (bz (l1 < 0 ∨ 3 < l1))] mem Q
  obtain ⟨H1, H2⟩ := H
  refine x_if_ne (tgt := 16) (q := 9) dX10_sheet_6 (by decide) rfl (bz_inr _) (fun hB => ?_) (fun hB => ?_)
  · have H := H1 (bz_n0.mp hB)
    refine x_aloadn (q := 17) 0 rfl rfl rfl dX10_sheet_16 rfl ?_
    refine x_ldc (q := 19) (z := (-1000001)) cn_X10_83 (by decide) dX10_sheet_17 rfl ?_
    obtain ⟨m4, em4⟩ : ∃ m9 : Mem, m9 = refM mem (-1000001) := ⟨_, rfl⟩
    have H := H m4 em4
    refine x_callV (q := 22) (d := d - 1) (as := [vI (-1000001)]) (st := []) dX10_sheet_19 rfl mv_X10_84 sh_0 rfl rfl rfl (by exact Nat.le_of_ble_eq_true rfl) ⟨by show _ ≤ d; omega, by show _ ≤ 40 * d; omega⟩ ⟨Nat.le_refl _, Nat.le_refl _⟩ (ct_refuse (by omega) (by decide) (by decide) ?_)
    rw [← em4]
    show E_X10_sheet G d 22 [(0, vR 0), (1, vI l1), (2, vI l2), (3, vI l3)] [vI (-1000001)] m4 Q
    exact x_iret rfl dX10_sheet_22 H
  · have H := H2 (fun z => hB (bz_n0.mpr z))
    refine x_iloadn (q := 10) 2 rfl rfl dX10_sheet_9 rfl ?_
    obtain ⟨s5, H⟩ := H
    refine x_callS (q := 13) (d := d - 1) (as := [vI l2]) (st := []) dX10_sheet_10 rfl ms_X10_297 rfl rfl (by exact Nat.le_of_ble_eq_true rfl) ⟨by show _ ≤ d; omega, by show _ ≤ 40 * d; omega⟩ ⟨Nat.le_refl _, Nat.le_refl _⟩ (ct_isWidth s5 ?_)
    show E_X10_sheet G d 13 [(0, vR 0), (1, vI l1), (2, vI l2), (3, vI l3)] [vI (bz (l2 = 0 ∨ l2 = 8 ∨ l2 = 16 ∨ l2 = 32))] mem Q
    obtain ⟨H1, H2⟩ := H
    refine x_if_ne (tgt := 23) (q := 16) dX10_sheet_13 (by decide) rfl (bz_inr _) (fun hB => ?_) (fun hB => ?_)
    · have H := H1 (bz_n0.mp hB)
      refine x_iloadn (q := 24) 2 rfl rfl dX10_sheet_23 rfl ?_
      obtain ⟨H1, H2⟩ := H
      refine x_if_ne (tgt := 40) (q := 27) dX10_sheet_24 (by decide) rfl s5 (fun hB => ?_) (fun hB => ?_)
      · have H := H1 (hB)
        refine x_iloadn (q := 41) 3 rfl rfl dX10_sheet_40 rfl ?_
        obtain ⟨s10, H⟩ := H
        obtain ⟨H1, H2⟩ := H
        refine x_if_ge (tgt := 51) (q := 44) dX10_sheet_41 (by decide) rfl s10 (fun hB => ?_) (fun hB => ?_)
        · have H := H1 (hB)
          refine x_iloadn (q := 52) 3 rfl rfl dX10_sheet_51 rfl ?_
          refine x_bipush (q := 54) rfl dX10_sheet_52 rfl ?_
          obtain ⟨H1, H2⟩ := H
          refine x_icmp_le (tgt := 64) (q := 57) dX10_sheet_54 (by decide) rfl s10 (by decide) (fun hB => ?_) (fun hB => ?_)
          · have H := H1 (hB)
            refine x_aloadn (q := 65) 0 rfl rfl rfl dX10_sheet_64 rfl ?_
            refine x_getr (q := 68) dX10_sheet_65 rfl fa_X10_70 sh_0 rfl ?_
            refine x_iloadn (q := 69) 1 rfl rfl dX10_sheet_68 rfl ?_
            obtain ⟨⟨s15, s16⟩, H⟩ := H
            refine x_aldS (q := 70) dX10_sheet_69 rfl sh_61 s15 s16 ?_
            refine x_iloadn (q := 71) 2 rfl rfl dX10_sheet_70 rfl ?_
            refine x_iloadn (q := 72) 3 rfl rfl dX10_sheet_71 rfl ?_
            refine x_callV (q := 75) (d := d - 1) (as := [vI l2, vI l3]) (st := []) dX10_sheet_72 rfl mv_X10_300 (sh_S0 (isSh_at s15 s16)) rfl rfl rfl (by exact Nat.le_of_ble_eq_true rfl) ⟨by show _ ≤ d; omega, by show _ ≤ 40 * d; omega⟩ ⟨Nat.le_refl _, Nat.le_refl _⟩ (Ct.mono H (fun r9 m17 H => ?_))
            obtain ⟨rfl, H⟩ := H
            show E_X10_sheet G d 75 [(0, vR 0), (1, vI l1), (2, vI l2), (3, vI l3)] [] m17 Q
            refine x_iconst (q := 76) dX10_sheet_75 rfl ?_
            exact x_iret rfl dX10_sheet_76 H
          · have H := H2 (hB)
            refine x_aloadn (q := 58) 0 rfl rfl rfl dX10_sheet_57 rfl ?_
            refine x_ldc (q := 60) (z := (-1000001)) cn_X10_83 (by decide) dX10_sheet_58 rfl ?_
            obtain ⟨m18, em18⟩ : ∃ m9 : Mem, m9 = refM mem (-1000001) := ⟨_, rfl⟩
            have H := H m18 em18
            refine x_callV (q := 63) (d := d - 1) (as := [vI (-1000001)]) (st := []) dX10_sheet_60 rfl mv_X10_84 sh_0 rfl rfl rfl (by exact Nat.le_of_ble_eq_true rfl) ⟨by show _ ≤ d; omega, by show _ ≤ 40 * d; omega⟩ ⟨Nat.le_refl _, Nat.le_refl _⟩ (ct_refuse (by omega) (by decide) (by decide) ?_)
            rw [← em18]
            show E_X10_sheet G d 63 [(0, vR 0), (1, vI l1), (2, vI l2), (3, vI l3)] [vI (-1000001)] m18 Q
            exact x_iret rfl dX10_sheet_63 H
        · have H := H2 (hB)
          refine x_aloadn (q := 45) 0 rfl rfl rfl dX10_sheet_44 rfl ?_
          refine x_ldc (q := 47) (z := (-1000003)) cn_X10_126 (by decide) dX10_sheet_45 rfl ?_
          obtain ⟨m19, em19⟩ : ∃ m9 : Mem, m9 = refM mem (-1000003) := ⟨_, rfl⟩
          have H := H m19 em19
          refine x_callV (q := 50) (d := d - 1) (as := [vI (-1000003)]) (st := []) dX10_sheet_47 rfl mv_X10_84 sh_0 rfl rfl rfl (by exact Nat.le_of_ble_eq_true rfl) ⟨by show _ ≤ d; omega, by show _ ≤ 40 * d; omega⟩ ⟨Nat.le_refl _, Nat.le_refl _⟩ (ct_refuse (by omega) (by decide) (by decide) ?_)
          rw [← em19]
          show E_X10_sheet G d 50 [(0, vR 0), (1, vI l1), (2, vI l2), (3, vI l3)] [vI (-1000003)] m19 Q
          exact x_iret rfl dX10_sheet_50 H
      · have H := H2 (hB)
        refine x_aloadn (q := 28) 0 rfl rfl rfl dX10_sheet_27 rfl ?_
        refine x_getr (q := 31) dX10_sheet_28 rfl fa_X10_70 sh_0 rfl ?_
        refine x_iloadn (q := 32) 1 rfl rfl dX10_sheet_31 rfl ?_
        obtain ⟨⟨s20, s21⟩, H⟩ := H
        refine x_aldS (q := 33) dX10_sheet_32 rfl sh_61 s20 s21 ?_
        refine x_iconst (q := 34) dX10_sheet_33 rfl ?_
        refine x_iconst (q := 35) dX10_sheet_34 rfl ?_
        refine x_callV (q := 38) (d := d - 1) (as := [vI 0, vI 0]) (st := []) dX10_sheet_35 rfl mv_X10_300 (sh_S0 (isSh_at s20 s21)) rfl rfl rfl (by exact Nat.le_of_ble_eq_true rfl) ⟨by show _ ≤ d; omega, by show _ ≤ 40 * d; omega⟩ ⟨Nat.le_refl _, Nat.le_refl _⟩ (Ct.mono H (fun r9 m22 H => ?_))
        obtain ⟨rfl, H⟩ := H
        show E_X10_sheet G d 38 [(0, vR 0), (1, vI l1), (2, vI l2), (3, vI l3)] [] m22 Q
        refine x_iconst (q := 39) dX10_sheet_38 rfl ?_
        exact x_iret rfl dX10_sheet_39 H
    · have H := H2 (fun z => hB (bz_n0.mpr z))
      refine x_aloadn (q := 17) 0 rfl rfl rfl dX10_sheet_16 rfl ?_
      refine x_ldc (q := 19) (z := (-1000001)) cn_X10_83 (by decide) dX10_sheet_17 rfl ?_
      obtain ⟨m23, em23⟩ : ∃ m9 : Mem, m9 = refM mem (-1000001) := ⟨_, rfl⟩
      have H := H m23 em23
      refine x_callV (q := 22) (d := d - 1) (as := [vI (-1000001)]) (st := []) dX10_sheet_19 rfl mv_X10_84 sh_0 rfl rfl rfl (by exact Nat.le_of_ble_eq_true rfl) ⟨by show _ ≤ d; omega, by show _ ≤ 40 * d; omega⟩ ⟨Nat.le_refl _, Nat.le_refl _⟩ (ct_refuse (by omega) (by decide) (by decide) ?_)
      rw [← em23]
      show E_X10_sheet G d 22 [(0, vR 0), (1, vI l1), (2, vI l2), (3, vI l3)] [vI (-1000001)] m23 Q
      exact x_iret rfl dX10_sheet_22 H
set_option maxRecDepth 20000 in
set_option maxHeartbeats 4000000 in
theorem B_X10_put {G : GT} {d : Nat} {l1 : Int} {l2 : Int} {l3 : Int} {mem : Mem} {Q : Option AV → Mem → Prop} (hd : 2 ≤ d) (H : (inr l1) ∧ (((obSh mem l1 = 0) → ((0 ≤ l1 ∧ l1 < 4) ∧ ((inr l2 ∧ inr ((mem (63 + 2 * (l1).toNat) 2) - 1)) ∧ ((¬ (l2 < 0 ∨ (mem (63 + 2 * (l1).toNat) 2) - 1 < l2) → ((inr l3) ∧ ((0 ≤ l2 ∧ l2 < 24) ∧ (∀ m14 : Mem, m14 = wrM mem (63 + 2 * (l1).toNat) l2 l3 → (Q (some (vI 1)) m14))))) ∧ ((l2 < 0 ∨ (mem (63 + 2 * (l1).toNat) 2) - 1 < l2) → (∀ m15 : Mem, m15 = refM mem (-1000001) → (Q (some (vI (-1000001))) m15))))))) ∧ (¬ (obSh mem l1 = 0) → ((-1000006 ≤ obSh mem l1 ∧ obSh mem l1 ≤ -1000001) ∧ (∀ m18 : Mem, m18 = refM mem (obSh mem l1) → (Q (some (vI (obSh mem l1))) m18)))))) : C_X10_put G d [vR 0, vI l1, vI l2, vI l3] mem Q := by
  refine Ct_of_Ex (by decide +kernel) (by exact Nat.le_of_ble_eq_true rfl) (ls := [(0, vR 0), (1, vI l1), (2, vI l2), (3, vI l3)]) rfl ?_
  show E_X10_put G d 0 [(0, vR 0), (1, vI l1), (2, vI l2), (3, vI l3)] [] mem Q
  refine x_aloadn (q := 1) 0 rfl rfl rfl dX10_put_0 rfl ?_
  refine x_iloadn (q := 2) 1 rfl rfl dX10_put_1 rfl ?_
  obtain ⟨s1, H⟩ := H
  refine x_callV (q := 5) (d := d - 1) (as := [vI l1]) (st := []) dX10_put_2 rfl mv_X10_303 sh_0 rfl rfl rfl (by exact Nat.le_of_ble_eq_true rfl) ⟨by show _ ≤ d; omega, by show _ ≤ 40 * d; omega⟩ ⟨Nat.le_refl _, Nat.le_refl _⟩ (ct_obSh (by omega) s1 ?_)
  show E_X10_put G d 5 [(0, vR 0), (1, vI l1), (2, vI l2), (3, vI l3)] [vI (obSh mem l1)] mem Q
  refine x_istore (q := 7) (ls' := [(4, vI (obSh mem l1)), (0, vR 0), (1, vI l1), (2, vI l2), (3, vI l3)]) (by decide) rfl dX10_put_5 rfl ?_
  refine x_iload (q := 9) 0 rfl dX10_put_7 rfl ?_
  obtain ⟨H1, H2⟩ := H
  refine x_if_eq (tgt := 19) (q := 12) dX10_put_9 (by decide) rfl (obSh_inr _ _) (fun hB => ?_) (fun hB => ?_)
  · have H := H1 (hB)
    refine x_iloadn (q := 20) 3 rfl rfl dX10_put_19 rfl ?_
    refine x_iconst (q := 21) dX10_put_20 rfl ?_
    refine x_aloadn (q := 22) 1 rfl rfl rfl dX10_put_21 rfl ?_
    refine x_getr (q := 25) dX10_put_22 rfl fa_X10_70 sh_0 rfl ?_
    refine x_iloadn (q := 26) 2 rfl rfl dX10_put_25 rfl ?_
    obtain ⟨⟨s4, s5⟩, H⟩ := H
    refine x_aldS (q := 27) dX10_put_26 rfl sh_61 s4 s5 ?_
    refine x_geti (q := 30) (ji := 2) dX10_put_27 rfl fa_X10_306 (sh_S0 (isSh_at s4 s5)) rfl rfl (fun r6 => ?_)
    refine x_iconst (q := 31) dX10_put_30 rfl ?_
    refine x_isub (q := 32) dX10_put_31 rfl ?_
    obtain ⟨⟨s7, s8⟩, H⟩ := H
    refine x_callS (q := 35) (d := d - 1) (as := [vI l2, vI 0, vI ((mem (63 + 2 * (l1).toNat) 2) - 1)]) (st := []) dX10_put_32 rfl ms_X10_79 rfl rfl (by exact Nat.le_of_ble_eq_true rfl) ⟨by show _ ≤ d; omega, by show _ ≤ 40 * d; omega⟩ ⟨Nat.le_refl _, Nat.le_refl _⟩ (ct_outside s7 (by decide) s8 ?_)
    show E_X10_put G d 35 [(4, vI (obSh mem l1)), (0, vR 0), (1, vI l1), (2, vI l2), (3, vI l3)] [vI (bz (l2 < 0 ∨ (mem (63 + 2 * (l1).toNat) 2) - 1 < l2))] mem Q
    obtain ⟨H1, H2⟩ := H
    refine x_if_eq (tgt := 45) (q := 38) dX10_put_35 (by decide) rfl (bz_inr _) (fun hB => ?_) (fun hB => ?_)
    · have H := H1 (bz_0.mp hB)
      refine x_aloadn (q := 46) 1 rfl rfl rfl dX10_put_45 rfl ?_
      refine x_getr (q := 49) dX10_put_46 rfl fa_X10_70 sh_0 rfl ?_
      refine x_iloadn (q := 50) 2 rfl rfl dX10_put_49 rfl ?_
      refine x_aldS (q := 51) dX10_put_50 rfl sh_61 s4 s5 ?_
      refine x_iloadn (q := 52) 3 rfl rfl dX10_put_51 rfl ?_
      refine x_iloadn (q := 53) 4 rfl rfl dX10_put_52 rfl ?_
      obtain ⟨s11, H⟩ := H
      obtain ⟨⟨s12, s13⟩, H⟩ := H
      obtain ⟨m14, em14⟩ : ∃ m9 : Mem, m9 = wrM mem (63 + 2 * (l1).toNat) l2 l3 := ⟨_, rfl⟩
      have H := H m14 em14
      refine x_callV (q := 56) (d := d - 1) (as := [vI l2, vI l3]) (st := []) dX10_put_53 rfl mv_X10_309 (sh_S0 (isSh_at s4 s5)) rfl rfl rfl (by exact Nat.le_of_ble_eq_true rfl) ⟨by show _ ≤ d; omega, by show _ ≤ 40 * d; omega⟩ ⟨Nat.le_refl _, Nat.le_refl _⟩ (ct_write (isSh_at s4 s5) s12 s13 s11 ?_)
      rw [← em14]
      show E_X10_put G d 56 [(4, vI (obSh mem l1)), (0, vR 0), (1, vI l1), (2, vI l2), (3, vI l3)] [] m14 Q
      refine x_iconst (q := 57) dX10_put_56 rfl ?_
      exact x_iret rfl dX10_put_57 H
    · have H := H2 (Classical.byContradiction (fun z => hB (bz_0.mpr z)))
      refine x_aloadn (q := 39) 1 rfl rfl rfl dX10_put_38 rfl ?_
      refine x_ldc (q := 41) (z := (-1000001)) cn_X10_83 (by decide) dX10_put_39 rfl ?_
      obtain ⟨m15, em15⟩ : ∃ m9 : Mem, m9 = refM mem (-1000001) := ⟨_, rfl⟩
      have H := H m15 em15
      refine x_callV (q := 44) (d := d - 1) (as := [vI (-1000001)]) (st := []) dX10_put_41 rfl mv_X10_84 sh_0 rfl rfl rfl (by exact Nat.le_of_ble_eq_true rfl) ⟨by show _ ≤ d; omega, by show _ ≤ 40 * d; omega⟩ ⟨Nat.le_refl _, Nat.le_refl _⟩ (ct_refuse (by omega) (by decide) (by decide) ?_)
      rw [← em15]
      show E_X10_put G d 44 [(4, vI (obSh mem l1)), (0, vR 0), (1, vI l1), (2, vI l2), (3, vI l3)] [vI (-1000001)] m15 Q
      exact x_iret rfl dX10_put_44 H
  · have H := H2 (hB)
    refine x_aloadn (q := 13) 1 rfl rfl rfl dX10_put_12 rfl ?_
    refine x_iload (q := 15) 0 rfl dX10_put_13 rfl ?_
    obtain ⟨⟨s16, s17⟩, H⟩ := H
    obtain ⟨m18, em18⟩ : ∃ m9 : Mem, m9 = refM mem (obSh mem l1) := ⟨_, rfl⟩
    have H := H m18 em18
    refine x_callV (q := 18) (d := d - 1) (as := [vI (obSh mem l1)]) (st := []) dX10_put_15 rfl mv_X10_84 sh_0 rfl rfl rfl (by exact Nat.le_of_ble_eq_true rfl) ⟨by show _ ≤ d; omega, by show _ ≤ 40 * d; omega⟩ ⟨Nat.le_refl _, Nat.le_refl _⟩ (ct_refuse (by omega) s16 s17 ?_)
    rw [← em18]
    show E_X10_put G d 18 [(4, vI (obSh mem l1)), (0, vR 0), (1, vI l1), (2, vI l2), (3, vI l3)] [vI (obSh mem l1)] m18 Q
    exact x_iret rfl dX10_put_18 H
set_option maxRecDepth 20000 in
set_option maxHeartbeats 4000000 in
theorem B_X10_move {G : GT} {d : Nat} {l1 : Int} {l2 : Int} {l3 : Int} {l4 : Int} {l5 : Int} {mem : Mem} {Q : Option AV → Mem → Prop} (hd : 2 ≤ d) (H : (inr l1) ∧ (((l1 < 0 ∨ 3 < l1) → (∀ m4 : Mem, m4 = refM mem (-1000001) → (Q (some (vI (-1000001))) m4))) ∧ (¬ (l1 < 0 ∨ 3 < l1) → ((inr l3) ∧ ((¬ (l3 < 0 ∨ 3 < l3) → ((0 ≤ l1 ∧ l1 < 4) ∧ ((0 ≤ l3 ∧ l3 < 4) ∧ (((mem (63 + 2 * (l1).toNat) 1 = 0) → (∀ m14 : Mem, m14 = refM mem (-1000002) → (Q (some (vI (-1000002))) m14))) ∧ (¬ (mem (63 + 2 * (l1).toNat) 1 = 0) → ((¬ (mem (63 + 2 * (l3).toNat) 1 = 0) → (((mem (63 + 2 * (l1).toNat) 1 = mem (63 + 2 * (l3).toNat) 1) → ((inr l2 ∧ inr l5) ∧ ((¬ (0 ≤ l2 ∧ 0 ≤ l5 ∧ l5 ≤ mem (63 + 2 * (l1).toNat) 2 ∧ l2 ≤ mem (63 + 2 * (l1).toNat) 2 - l5) → (∀ m25 : Mem, m25 = refM mem (-1000001) → (Q (some (vI (-1000001))) m25))) ∧ ((0 ≤ l2 ∧ 0 ≤ l5 ∧ l5 ≤ mem (63 + 2 * (l1).toNat) 2 ∧ l2 ≤ mem (63 + 2 * (l1).toNat) 2 - l5) → ((inr l4) ∧ (((0 ≤ l4 ∧ 0 ≤ l5 ∧ l5 ≤ mem (63 + 2 * (l3).toNat) 2 ∧ l4 ≤ mem (63 + 2 * (l3).toNat) 2 - l5) → ((0 ≤ l2 ∧ 0 ≤ l4 ∧ 0 ≤ l5 ∧ l2 + l5 ≤ 24 ∧ l4 + l5 ≤ 24) ∧ (∀ m29 : Mem, m29 = cpM mem (63 + 2 * (l1).toNat + 1) (63 + 2 * (l3).toNat + 1) l2 l4 l5 → (Q (some (vI l5)) m29)))) ∧ (¬ (0 ≤ l4 ∧ 0 ≤ l5 ∧ l5 ≤ mem (63 + 2 * (l3).toNat) 2 ∧ l4 ≤ mem (63 + 2 * (l3).toNat) 2 - l5) → (∀ m35 : Mem, m35 = refM mem (-1000001) → (Q (some (vI (-1000001))) m35))))))))) ∧ (¬ (mem (63 + 2 * (l1).toNat) 1 = mem (63 + 2 * (l3).toNat) 1) → (∀ m36 : Mem, m36 = refM mem (-1000005) → (Q (some (vI (-1000005))) m36))))) ∧ ((mem (63 + 2 * (l3).toNat) 1 = 0) → (∀ m37 : Mem, m37 = refM mem (-1000002) → (Q (some (vI (-1000002))) m37))))))))) ∧ ((l3 < 0 ∨ 3 < l3) → (∀ m38 : Mem, m38 = refM mem (-1000001) → (Q (some (vI (-1000001))) m38)))))))) : C_X10_move G d [vR 0, vI l1, vI l2, vI l3, vI l4, vI l5] mem Q := by
  refine Ct_of_Ex (by decide +kernel) (by exact Nat.le_of_ble_eq_true rfl) (ls := [(0, vR 0), (1, vI l1), (2, vI l2), (3, vI l3), (4, vI l4), (5, vI l5)]) rfl ?_
  show E_X10_move G d 0 [(0, vR 0), (1, vI l1), (2, vI l2), (3, vI l3), (4, vI l4), (5, vI l5)] [] mem Q
  refine x_iloadn (q := 1) 1 rfl rfl dX10_move_0 rfl ?_
  refine x_iconst (q := 2) dX10_move_1 rfl ?_
  refine x_iconst (q := 3) dX10_move_2 rfl ?_
  obtain ⟨s1, H⟩ := H
  refine x_callS (q := 6) (d := d - 1) (as := [vI l1, vI 0, vI 3]) (st := []) dX10_move_3 rfl ms_X10_79 rfl rfl (by exact Nat.le_of_ble_eq_true rfl) ⟨by show _ ≤ d; omega, by show _ ≤ 40 * d; omega⟩ ⟨Nat.le_refl _, Nat.le_refl _⟩ (ct_outside s1 (by decide) (by decide) ?_)
  show E_X10_move G d 6 [(0, vR 0), (1, vI l1), (2, vI l2), (3, vI l3), (4, vI l4), (5, vI l5)] [vI (bz (l1 < 0 ∨ 3 < l1))] mem Q
  obtain ⟨H1, H2⟩ := H
  refine x_if_ne (tgt := 18) (q := 9) dX10_move_6 (by decide) rfl (bz_inr _) (fun hB => ?_) (fun hB => ?_)
  · have H := H1 (bz_n0.mp hB)
    refine x_aloadn (q := 19) 0 rfl rfl rfl dX10_move_18 rfl ?_
    refine x_ldc (q := 21) (z := (-1000001)) cn_X10_83 (by decide) dX10_move_19 rfl ?_
    obtain ⟨m4, em4⟩ : ∃ m9 : Mem, m9 = refM mem (-1000001) := ⟨_, rfl⟩
    have H := H m4 em4
    refine x_callV (q := 24) (d := d - 1) (as := [vI (-1000001)]) (st := []) dX10_move_21 rfl mv_X10_84 sh_0 rfl rfl rfl (by exact Nat.le_of_ble_eq_true rfl) ⟨by show _ ≤ d; omega, by show _ ≤ 40 * d; omega⟩ ⟨Nat.le_refl _, Nat.le_refl _⟩ (ct_refuse (by omega) (by decide) (by decide) ?_)
    rw [← em4]
    show E_X10_move G d 24 [(0, vR 0), (1, vI l1), (2, vI l2), (3, vI l3), (4, vI l4), (5, vI l5)] [vI (-1000001)] m4 Q
    exact x_iret rfl dX10_move_24 H
  · have H := H2 (fun z => hB (bz_n0.mpr z))
    refine x_iloadn (q := 10) 3 rfl rfl dX10_move_9 rfl ?_
    refine x_iconst (q := 11) dX10_move_10 rfl ?_
    refine x_iconst (q := 12) dX10_move_11 rfl ?_
    obtain ⟨s5, H⟩ := H
    refine x_callS (q := 15) (d := d - 1) (as := [vI l3, vI 0, vI 3]) (st := []) dX10_move_12 rfl ms_X10_79 rfl rfl (by exact Nat.le_of_ble_eq_true rfl) ⟨by show _ ≤ d; omega, by show _ ≤ 40 * d; omega⟩ ⟨Nat.le_refl _, Nat.le_refl _⟩ (ct_outside s5 (by decide) (by decide) ?_)
    show E_X10_move G d 15 [(0, vR 0), (1, vI l1), (2, vI l2), (3, vI l3), (4, vI l4), (5, vI l5)] [vI (bz (l3 < 0 ∨ 3 < l3))] mem Q
    obtain ⟨H1, H2⟩ := H
    refine x_if_eq (tgt := 25) (q := 18) dX10_move_15 (by decide) rfl (bz_inr _) (fun hB => ?_) (fun hB => ?_)
    · have H := H1 (bz_0.mp hB)
      refine x_aloadn (q := 26) 0 rfl rfl rfl dX10_move_25 rfl ?_
      refine x_getr (q := 29) dX10_move_26 rfl fa_X10_70 sh_0 rfl ?_
      refine x_iloadn (q := 30) 1 rfl rfl dX10_move_29 rfl ?_
      obtain ⟨⟨s8, s9⟩, H⟩ := H
      refine x_aldS (q := 31) dX10_move_30 rfl sh_61 s8 s9 ?_
      refine x_astore (q := 33) (ls' := [(6, vR (63 + 2 * (l1).toNat)), (0, vR 0), (1, vI l1), (2, vI l2), (3, vI l3), (4, vI l4), (5, vI l5)]) (by decide) rfl rfl dX10_move_31 rfl ?_
      refine x_aloadn (q := 34) 1 rfl rfl rfl dX10_move_33 rfl ?_
      refine x_getr (q := 37) dX10_move_34 rfl fa_X10_70 sh_0 rfl ?_
      refine x_iloadn (q := 38) 4 rfl rfl dX10_move_37 rfl ?_
      obtain ⟨⟨s10, s11⟩, H⟩ := H
      refine x_aldS (q := 39) dX10_move_38 rfl sh_61 s10 s11 ?_
      refine x_astore (q := 41) (ls' := [(7, vR (63 + 2 * (l3).toNat)), (6, vR (63 + 2 * (l1).toNat)), (0, vR 0), (1, vI l1), (2, vI l2), (3, vI l3), (4, vI l4), (5, vI l5)]) (by decide) rfl rfl dX10_move_39 rfl ?_
      refine x_aload (q := 43) 1 rfl rfl dX10_move_41 rfl ?_
      refine x_callV (q := 46) (d := d - 1) (as := []) (st := []) dX10_move_43 rfl mv_X10_312 (sh_S0 (isSh_at s8 s9)) rfl rfl rfl (by exact Nat.le_of_ble_eq_true rfl) ⟨by show _ ≤ d; omega, by show _ ≤ 40 * d; omega⟩ ⟨Nat.le_refl _, Nat.le_refl _⟩ (ct_isMissing (isSh_at s8 s9) ?_)
      show E_X10_move G d 46 [(7, vR (63 + 2 * (l3).toNat)), (6, vR (63 + 2 * (l1).toNat)), (0, vR 0), (1, vI l1), (2, vI l2), (3, vI l3), (4, vI l4), (5, vI l5)] [vI (bz (mem (63 + 2 * (l1).toNat) 1 = 0))] mem Q
      obtain ⟨H1, H2⟩ := H
      refine x_if_ne (tgt := 57) (q := 49) dX10_move_46 (by decide) rfl (bz_inr _) (fun hB => ?_) (fun hB => ?_)
      · have H := H1 (bz_n0.mp hB)
        refine x_aloadn (q := 58) 2 rfl rfl rfl dX10_move_57 rfl ?_
        refine x_ldc (q := 60) (z := (-1000002)) cn_X10_201 (by decide) dX10_move_58 rfl ?_
        obtain ⟨m14, em14⟩ : ∃ m9 : Mem, m9 = refM mem (-1000002) := ⟨_, rfl⟩
        have H := H m14 em14
        refine x_callV (q := 63) (d := d - 1) (as := [vI (-1000002)]) (st := []) dX10_move_60 rfl mv_X10_84 sh_0 rfl rfl rfl (by exact Nat.le_of_ble_eq_true rfl) ⟨by show _ ≤ d; omega, by show _ ≤ 40 * d; omega⟩ ⟨Nat.le_refl _, Nat.le_refl _⟩ (ct_refuse (by omega) (by decide) (by decide) ?_)
        rw [← em14]
        show E_X10_move G d 63 [(7, vR (63 + 2 * (l3).toNat)), (6, vR (63 + 2 * (l1).toNat)), (0, vR 0), (1, vI l1), (2, vI l2), (3, vI l3), (4, vI l4), (5, vI l5)] [vI (-1000002)] m14 Q
        exact x_iret rfl dX10_move_63 H
      · have H := H2 (fun z => hB (bz_n0.mpr z))
        refine x_aload (q := 51) 0 rfl rfl dX10_move_49 rfl ?_
        refine x_callV (q := 54) (d := d - 1) (as := []) (st := []) dX10_move_51 rfl mv_X10_312 (sh_S0 (isSh_at s10 s11)) rfl rfl rfl (by exact Nat.le_of_ble_eq_true rfl) ⟨by show _ ≤ d; omega, by show _ ≤ 40 * d; omega⟩ ⟨Nat.le_refl _, Nat.le_refl _⟩ (ct_isMissing (isSh_at s10 s11) ?_)
        show E_X10_move G d 54 [(7, vR (63 + 2 * (l3).toNat)), (6, vR (63 + 2 * (l1).toNat)), (0, vR 0), (1, vI l1), (2, vI l2), (3, vI l3), (4, vI l4), (5, vI l5)] [vI (bz (mem (63 + 2 * (l3).toNat) 1 = 0))] mem Q
        obtain ⟨H1, H2⟩ := H
        refine x_if_eq (tgt := 64) (q := 57) dX10_move_54 (by decide) rfl (bz_inr _) (fun hB => ?_) (fun hB => ?_)
        · have H := H1 (bz_0.mp hB)
          refine x_aload (q := 66) 1 rfl rfl dX10_move_64 rfl ?_
          refine x_geti (q := 69) (ji := 1) dX10_move_66 rfl fa_X10_315 (sh_S0 (isSh_at s8 s9)) rfl rfl (fun r17 => ?_)
          refine x_aload (q := 71) 0 rfl rfl dX10_move_69 rfl ?_
          refine x_geti (q := 74) (ji := 1) dX10_move_71 rfl fa_X10_315 (sh_S0 (isSh_at s10 s11)) rfl rfl (fun r18 => ?_)
          obtain ⟨H1, H2⟩ := H
          refine x_icmp_eq (tgt := 84) (q := 77) dX10_move_74 (by decide) rfl r17 r18 (fun hB => ?_) (fun hB => ?_)
          · have H := H1 (hB)
            refine x_aload (q := 86) 1 rfl rfl dX10_move_84 rfl ?_
            refine x_iloadn (q := 87) 4 rfl rfl dX10_move_86 rfl ?_
            refine x_iload (q := 89) 7 rfl dX10_move_87 rfl ?_
            obtain ⟨⟨s21, s22⟩, H⟩ := H
            refine x_callV (q := 92) (d := d - 1) (as := [vI l2, vI l5]) (st := []) dX10_move_89 rfl mv_X10_318 (sh_S0 (isSh_at s8 s9)) rfl rfl rfl (by exact Nat.le_of_ble_eq_true rfl) ⟨by show _ ≤ d; omega, by show _ ≤ 40 * d; omega⟩ ⟨Nat.le_refl _, Nat.le_refl _⟩ (ct_hasRun (isSh_at s8 s9) s21 s22 ?_)
            show E_X10_move G d 92 [(7, vR (63 + 2 * (l3).toNat)), (6, vR (63 + 2 * (l1).toNat)), (0, vR 0), (1, vI l1), (2, vI l2), (3, vI l3), (4, vI l4), (5, vI l5)] [vI (bz (0 ≤ l2 ∧ 0 ≤ l5 ∧ l5 ≤ mem (63 + 2 * (l1).toNat) 2 ∧ l2 ≤ mem (63 + 2 * (l1).toNat) 2 - l5))] mem Q
            obtain ⟨H1, H2⟩ := H
            refine x_if_eq (tgt := 107) (q := 95) dX10_move_92 (by decide) rfl (bz_inr _) (fun hB => ?_) (fun hB => ?_)
            · have H := H1 (bz_0.mp hB)
              refine x_aloadn (q := 108) 2 rfl rfl rfl dX10_move_107 rfl ?_
              refine x_ldc (q := 110) (z := (-1000001)) cn_X10_83 (by decide) dX10_move_108 rfl ?_
              obtain ⟨m25, em25⟩ : ∃ m9 : Mem, m9 = refM mem (-1000001) := ⟨_, rfl⟩
              have H := H m25 em25
              refine x_callV (q := 113) (d := d - 1) (as := [vI (-1000001)]) (st := []) dX10_move_110 rfl mv_X10_84 sh_0 rfl rfl rfl (by exact Nat.le_of_ble_eq_true rfl) ⟨by show _ ≤ d; omega, by show _ ≤ 40 * d; omega⟩ ⟨Nat.le_refl _, Nat.le_refl _⟩ (ct_refuse (by omega) (by decide) (by decide) ?_)
              rw [← em25]
              show E_X10_move G d 113 [(7, vR (63 + 2 * (l3).toNat)), (6, vR (63 + 2 * (l1).toNat)), (0, vR 0), (1, vI l1), (2, vI l2), (3, vI l3), (4, vI l4), (5, vI l5)] [vI (-1000001)] m25 Q
              exact x_iret rfl dX10_move_113 H
            · have H := H2 (Classical.byContradiction (fun z => hB (bz_0.mpr z)))
              refine x_aload (q := 97) 0 rfl rfl dX10_move_95 rfl ?_
              refine x_iload (q := 99) 6 rfl dX10_move_97 rfl ?_
              refine x_iload (q := 101) 7 rfl dX10_move_99 rfl ?_
              obtain ⟨s26, H⟩ := H
              refine x_callV (q := 104) (d := d - 1) (as := [vI l4, vI l5]) (st := []) dX10_move_101 rfl mv_X10_318 (sh_S0 (isSh_at s10 s11)) rfl rfl rfl (by exact Nat.le_of_ble_eq_true rfl) ⟨by show _ ≤ d; omega, by show _ ≤ 40 * d; omega⟩ ⟨Nat.le_refl _, Nat.le_refl _⟩ (ct_hasRun (isSh_at s10 s11) s26 s22 ?_)
              show E_X10_move G d 104 [(7, vR (63 + 2 * (l3).toNat)), (6, vR (63 + 2 * (l1).toNat)), (0, vR 0), (1, vI l1), (2, vI l2), (3, vI l3), (4, vI l4), (5, vI l5)] [vI (bz (0 ≤ l4 ∧ 0 ≤ l5 ∧ l5 ≤ mem (63 + 2 * (l3).toNat) 2 ∧ l4 ≤ mem (63 + 2 * (l3).toNat) 2 - l5))] mem Q
              obtain ⟨H1, H2⟩ := H
              refine x_if_ne (tgt := 114) (q := 107) dX10_move_104 (by decide) rfl (bz_inr _) (fun hB => ?_) (fun hB => ?_)
              · have H := H1 (bz_n0.mp hB)
                refine x_aload (q := 116) 1 rfl rfl dX10_move_114 rfl ?_
                refine x_getr (q := 119) dX10_move_116 rfl fa_X10_321 (sh_S0 (isSh_at s8 s9)) rfl ?_
                refine x_iloadn (q := 120) 4 rfl rfl dX10_move_119 rfl ?_
                refine x_aload (q := 122) 0 rfl rfl dX10_move_120 rfl ?_
                refine x_getr (q := 125) dX10_move_122 rfl fa_X10_321 (sh_S0 (isSh_at s10 s11)) rfl ?_
                refine x_iload (q := 127) 6 rfl dX10_move_125 rfl ?_
                refine x_iload (q := 129) 7 rfl dX10_move_127 rfl ?_
                obtain ⟨⟨s30, s31, s32, s33, s34⟩, H⟩ := H
                refine x_copy (q := 132) (by decide) dX10_move_129 rfl ml_X10_324 ac_nat ac_sta ac_ini (sh_S1 (isSh_at s8 s9)) (sh_S1 (isSh_at s10 s11)) s30 s31 s32 s33 s34 (fun h => absurd h (by decide)) ⟨by show 1 ≤ d; omega, copyR (by omega)⟩ (fun m29 em29 => ?_)
                have H := H m29 em29
                refine x_iload (q := 134) 7 rfl dX10_move_132 rfl ?_
                exact x_iret rfl dX10_move_134 H
              · have H := H2 (fun z => hB (bz_n0.mpr z))
                refine x_aloadn (q := 108) 2 rfl rfl rfl dX10_move_107 rfl ?_
                refine x_ldc (q := 110) (z := (-1000001)) cn_X10_83 (by decide) dX10_move_108 rfl ?_
                obtain ⟨m35, em35⟩ : ∃ m9 : Mem, m9 = refM mem (-1000001) := ⟨_, rfl⟩
                have H := H m35 em35
                refine x_callV (q := 113) (d := d - 1) (as := [vI (-1000001)]) (st := []) dX10_move_110 rfl mv_X10_84 sh_0 rfl rfl rfl (by exact Nat.le_of_ble_eq_true rfl) ⟨by show _ ≤ d; omega, by show _ ≤ 40 * d; omega⟩ ⟨Nat.le_refl _, Nat.le_refl _⟩ (ct_refuse (by omega) (by decide) (by decide) ?_)
                rw [← em35]
                show E_X10_move G d 113 [(7, vR (63 + 2 * (l3).toNat)), (6, vR (63 + 2 * (l1).toNat)), (0, vR 0), (1, vI l1), (2, vI l2), (3, vI l3), (4, vI l4), (5, vI l5)] [vI (-1000001)] m35 Q
                exact x_iret rfl dX10_move_113 H
          · have H := H2 (hB)
            refine x_aloadn (q := 78) 2 rfl rfl rfl dX10_move_77 rfl ?_
            refine x_ldc (q := 80) (z := (-1000005)) cn_X10_125 (by decide) dX10_move_78 rfl ?_
            obtain ⟨m36, em36⟩ : ∃ m9 : Mem, m9 = refM mem (-1000005) := ⟨_, rfl⟩
            have H := H m36 em36
            refine x_callV (q := 83) (d := d - 1) (as := [vI (-1000005)]) (st := []) dX10_move_80 rfl mv_X10_84 sh_0 rfl rfl rfl (by exact Nat.le_of_ble_eq_true rfl) ⟨by show _ ≤ d; omega, by show _ ≤ 40 * d; omega⟩ ⟨Nat.le_refl _, Nat.le_refl _⟩ (ct_refuse (by omega) (by decide) (by decide) ?_)
            rw [← em36]
            show E_X10_move G d 83 [(7, vR (63 + 2 * (l3).toNat)), (6, vR (63 + 2 * (l1).toNat)), (0, vR 0), (1, vI l1), (2, vI l2), (3, vI l3), (4, vI l4), (5, vI l5)] [vI (-1000005)] m36 Q
            exact x_iret rfl dX10_move_83 H
        · have H := H2 (Classical.byContradiction (fun z => hB (bz_0.mpr z)))
          refine x_aloadn (q := 58) 2 rfl rfl rfl dX10_move_57 rfl ?_
          refine x_ldc (q := 60) (z := (-1000002)) cn_X10_201 (by decide) dX10_move_58 rfl ?_
          obtain ⟨m37, em37⟩ : ∃ m9 : Mem, m9 = refM mem (-1000002) := ⟨_, rfl⟩
          have H := H m37 em37
          refine x_callV (q := 63) (d := d - 1) (as := [vI (-1000002)]) (st := []) dX10_move_60 rfl mv_X10_84 sh_0 rfl rfl rfl (by exact Nat.le_of_ble_eq_true rfl) ⟨by show _ ≤ d; omega, by show _ ≤ 40 * d; omega⟩ ⟨Nat.le_refl _, Nat.le_refl _⟩ (ct_refuse (by omega) (by decide) (by decide) ?_)
          rw [← em37]
          show E_X10_move G d 63 [(7, vR (63 + 2 * (l3).toNat)), (6, vR (63 + 2 * (l1).toNat)), (0, vR 0), (1, vI l1), (2, vI l2), (3, vI l3), (4, vI l4), (5, vI l5)] [vI (-1000002)] m37 Q
          exact x_iret rfl dX10_move_63 H
    · have H := H2 (Classical.byContradiction (fun z => hB (bz_0.mpr z)))
      refine x_aloadn (q := 19) 0 rfl rfl rfl dX10_move_18 rfl ?_
      refine x_ldc (q := 21) (z := (-1000001)) cn_X10_83 (by decide) dX10_move_19 rfl ?_
      obtain ⟨m38, em38⟩ : ∃ m9 : Mem, m9 = refM mem (-1000001) := ⟨_, rfl⟩
      have H := H m38 em38
      refine x_callV (q := 24) (d := d - 1) (as := [vI (-1000001)]) (st := []) dX10_move_21 rfl mv_X10_84 sh_0 rfl rfl rfl (by exact Nat.le_of_ble_eq_true rfl) ⟨by show _ ≤ d; omega, by show _ ≤ 40 * d; omega⟩ ⟨Nat.le_refl _, Nat.le_refl _⟩ (ct_refuse (by omega) (by decide) (by decide) ?_)
      rw [← em38]
      show E_X10_move G d 24 [(0, vR 0), (1, vI l1), (2, vI l2), (3, vI l3), (4, vI l4), (5, vI l5)] [vI (-1000001)] m38 Q
      exact x_iret rfl dX10_move_24 H
set_option maxRecDepth 20000 in
set_option maxHeartbeats 4000000 in
theorem B_X10_says {G : GT} {d : Nat} {l1 : Int} {mem : Mem} {Q : Option AV → Mem → Prop} (hd : 2 ≤ d) (H : (inr l1) ∧ (((obSh mem l1 = 0) → ((0 ≤ l1 ∧ l1 < 4) ∧ (E_X10_says G d 29 [(0, vR 0), (3, vR (63 + 2 * (l1).toNat)), (4, vI 0), (5, vI 0)] [] mem Q))) ∧ (¬ (obSh mem l1 = 0) → ((-1000006 ≤ obSh mem l1 ∧ obSh mem l1 ≤ -1000001) ∧ (∀ m8 : Mem, m8 = refM mem (obSh mem l1) → (Q (some (vI (obSh mem l1))) m8)))))) : C_X10_says G d [vR 0, vI l1] mem Q := by
  refine Ct_of_Ex (by decide +kernel) (by exact Nat.le_of_ble_eq_true rfl) (ls := [(0, vR 0), (1, vI l1)]) rfl ?_
  show E_X10_says G d 0 [(0, vR 0), (1, vI l1)] [] mem Q
  refine x_aloadn (q := 1) 0 rfl rfl rfl dX10_says_0 rfl ?_
  refine x_iloadn (q := 2) 1 rfl rfl dX10_says_1 rfl ?_
  obtain ⟨s1, H⟩ := H
  refine x_callV (q := 5) (d := d - 1) (as := [vI l1]) (st := []) dX10_says_2 rfl mv_X10_303 sh_0 rfl rfl rfl (by exact Nat.le_of_ble_eq_true rfl) ⟨by show _ ≤ d; omega, by show _ ≤ 40 * d; omega⟩ ⟨Nat.le_refl _, Nat.le_refl _⟩ (ct_obSh (by omega) s1 ?_)
  show E_X10_says G d 5 [(0, vR 0), (1, vI l1)] [vI (obSh mem l1)] mem Q
  refine x_istoren (q := 6) (ls' := [(2, vI (obSh mem l1)), (0, vR 0), (1, vI l1)]) rfl (by decide) rfl dX10_says_5 rfl ?_
  refine x_iloadn (q := 7) 0 rfl rfl dX10_says_6 rfl ?_
  obtain ⟨H1, H2⟩ := H
  refine x_if_eq (tgt := 16) (q := 10) dX10_says_7 (by decide) rfl (obSh_inr _ _) (fun hB => ?_) (fun hB => ?_)
  · have H := H1 (hB)
    refine x_aloadn (q := 17) 1 rfl rfl rfl dX10_says_16 rfl ?_
    refine x_getr (q := 20) dX10_says_17 rfl fa_X10_70 sh_0 rfl ?_
    refine x_iloadn (q := 21) 2 rfl rfl dX10_says_20 rfl ?_
    obtain ⟨⟨s4, s5⟩, H⟩ := H
    refine x_aldS (q := 22) dX10_says_21 rfl sh_61 s4 s5 ?_
    refine x_astoren (q := 23) (ls' := [(3, vR (63 + 2 * (l1).toNat)), (2, vI (obSh mem l1)), (0, vR 0), (1, vI l1)]) rfl (by decide) rfl rfl dX10_says_22 rfl ?_
    refine x_iconst (q := 24) dX10_says_23 rfl ?_
    refine x_istore (q := 26) (ls' := [(4, vI 0), (3, vR (63 + 2 * (l1).toNat)), (2, vI (obSh mem l1)), (0, vR 0), (1, vI l1)]) (by decide) rfl dX10_says_24 rfl ?_
    refine x_iconst (q := 27) dX10_says_26 rfl ?_
    refine x_istore (q := 29) (ls' := [(5, vI 0), (4, vI 0), (3, vR (63 + 2 * (l1).toNat)), (2, vI (obSh mem l1)), (0, vR 0), (1, vI l1)]) (by decide) rfl dX10_says_27 rfl ?_
    refine x_sub [4, 2, 1, 0] rfl ?_
    exact H
  · have H := H2 (hB)
    refine x_aloadn (q := 11) 1 rfl rfl rfl dX10_says_10 rfl ?_
    refine x_iloadn (q := 12) 0 rfl rfl dX10_says_11 rfl ?_
    obtain ⟨⟨s6, s7⟩, H⟩ := H
    obtain ⟨m8, em8⟩ : ∃ m9 : Mem, m9 = refM mem (obSh mem l1) := ⟨_, rfl⟩
    have H := H m8 em8
    refine x_callV (q := 15) (d := d - 1) (as := [vI (obSh mem l1)]) (st := []) dX10_says_12 rfl mv_X10_84 sh_0 rfl rfl rfl (by exact Nat.le_of_ble_eq_true rfl) ⟨by show _ ≤ d; omega, by show _ ≤ 40 * d; omega⟩ ⟨Nat.le_refl _, Nat.le_refl _⟩ (ct_refuse (by omega) s6 s7 ?_)
    rw [← em8]
    show E_X10_says G d 15 [(2, vI (obSh mem l1)), (0, vR 0), (1, vI l1)] [vI (obSh mem l1)] m8 Q
    exact x_iret rfl dX10_says_15 H
set_option maxRecDepth 20000 in
set_option maxHeartbeats 4000000 in
theorem B_X10_says_29 {G : GT} {d : Nat} {k3 : Nat} (hk3 : isSh k3) {l4 : Int} {l5 : Int} {mem : Mem} {Q : Option AV → Mem → Prop} (hd : 2 ≤ d) (H : (inr (l5 + 1)) ∧ (((mem k3 2 ≤ l5 + 1) → (Q (some (vI l4)) mem)) ∧ (¬ (mem k3 2 ≤ l5 + 1) → ((0 ≤ l5 ∧ l5 < 24) ∧ ((inr (Int.tdiv (mem (k3 + 1) l5) 12) ∧ inr (Int.tmod (mem (k3 + 1) l5) 12)) ∧ ((mem 1 0 ≤ 12) ∧ (((objS mem 1 (Int.tdiv (mem (k3 + 1) l5) 12) (Int.tmod (mem (k3 + 1) l5) 12) = 0) → ((0 ≤ l5 + 1 ∧ l5 + 1 < 24) ∧ (((mem (k3 + 1) (l5 + 1) = 0) → ((0 ≤ mem 1 6 ∧ mem 1 6 < 60) ∧ (∀ m29 : Mem, m29 = addSyM mem 1 (Int.tdiv (mem (k3 + 1) l5) 12) (Int.tmod (mem (k3 + 1) l5) 12) 0 → (E_X10_says G d 29 [(0, vR 0), (3, vR k3), (4, vI (l4 + 1)), (5, vI (l5 + 2))] [] m29 Q)))) ∧ (¬ (mem (k3 + 1) (l5 + 1) = 0) → ((0 ≤ mem 1 6 ∧ mem 1 6 < 60) ∧ (∀ m32 : Mem, m32 = addSyM mem 1 (Int.tdiv (mem (k3 + 1) l5) 12) (Int.tmod (mem (k3 + 1) l5) 12) 1 → (E_X10_says G d 29 [(0, vR 0), (3, vR k3), (4, vI (l4 + 1)), (5, vI (l5 + 2))] [] m32 Q))))))) ∧ (¬ (objS mem 1 (Int.tdiv (mem (k3 + 1) l5) 12) (Int.tmod (mem (k3 + 1) l5) 12) = 0) → (Q (some (vI l4)) mem))))))))) : E_X10_says G d 29 [(0, vR 0), (3, vR k3), (4, vI l4), (5, vI l5)] [] mem Q := by
  refine x_iload (q := 31) 3 rfl dX10_says_29 rfl ?_
  refine x_iconst (q := 32) dX10_says_31 rfl ?_
  refine x_iadd (q := 33) dX10_says_32 rfl ?_
  refine x_aloadn (q := 34) 1 rfl rfl rfl dX10_says_33 rfl ?_
  refine x_geti (q := 37) (ji := 2) dX10_says_34 rfl fa_X10_306 (sh_S0 hk3) rfl rfl (fun r9 => ?_)
  obtain ⟨s10, H⟩ := H
  obtain ⟨H1, H2⟩ := H
  refine x_icmp_ge (tgt := 119) (q := 40) dX10_says_37 (by decide) rfl s10 r9 (fun hB => ?_) (fun hB => ?_)
  · have H := H1 (hB)
    refine x_iload (q := 121) 2 rfl dX10_says_119 rfl ?_
    exact x_iret rfl dX10_says_121 H
  · have H := H2 (hB)
    refine x_aloadn (q := 41) 1 rfl rfl rfl dX10_says_40 rfl ?_
    refine x_getr (q := 44) dX10_says_41 rfl fa_X10_321 (sh_S0 hk3) rfl ?_
    refine x_iload (q := 46) 3 rfl dX10_says_44 rfl ?_
    obtain ⟨⟨s13, s14⟩, H⟩ := H
    refine x_iald (q := 47) dX10_says_46 rfl (sh_S1 hk3) s13 s14 (fun r15 => ?_)
    refine x_bipush (q := 49) rfl dX10_says_47 rfl ?_
    refine x_idiv (q := 50) r15 (by decide) (by decide) dX10_says_49 rfl ?_
    refine x_istore (q := 52) (ls' := [(6, vI (Int.tdiv (mem (k3 + 1) l5) 12)), (0, vR 0), (3, vR k3), (4, vI l4), (5, vI l5)]) (by decide) rfl dX10_says_50 rfl ?_
    refine x_aloadn (q := 53) 2 rfl rfl rfl dX10_says_52 rfl ?_
    refine x_getr (q := 56) dX10_says_53 rfl fa_X10_321 (sh_S0 hk3) rfl ?_
    refine x_iload (q := 58) 4 rfl dX10_says_56 rfl ?_
    refine x_iald (q := 59) dX10_says_58 rfl (sh_S1 hk3) s13 s14 (fun r16 => ?_)
    refine x_bipush (q := 61) rfl dX10_says_59 rfl ?_
    refine x_irem (q := 62) r16 (by decide) (by decide) dX10_says_61 rfl ?_
    refine x_istore (q := 64) (ls' := [(7, vI (Int.tmod (mem (k3 + 1) l5) 12)), (6, vI (Int.tdiv (mem (k3 + 1) l5) 12)), (0, vR 0), (3, vR k3), (4, vI l4), (5, vI l5)]) (by decide) rfl dX10_says_62 rfl ?_
    refine x_aloadn (q := 65) 2 rfl rfl rfl dX10_says_64 rfl ?_
    refine x_getr (q := 68) dX10_says_65 rfl fa_X10_12 sh_0 rfl ?_
    refine x_iload (q := 70) 1 rfl dX10_says_68 rfl ?_
    refine x_iload (q := 72) 0 rfl dX10_says_70 rfl ?_
    obtain ⟨⟨s17, s18⟩, H⟩ := H
    obtain ⟨s19, H⟩ := H
    refine x_callV (q := 75) (d := d - 1) (as := [vI (Int.tdiv (mem (k3 + 1) l5) 12), vI (Int.tmod (mem (k3 + 1) l5) 12)]) (st := []) dX10_says_72 rfl mv_X10_130 sh_1 rfl rfl rfl (by exact Nat.le_of_ble_eq_true rfl) ⟨by show _ ≤ d; omega, by show _ ≤ 40 * d; omega⟩ ⟨Nat.le_refl _, Nat.le_refl _⟩ (ct_objS (by decide) (by omega) s17 s18 s19 ?_)
    show E_X10_says G d 75 [(7, vI (Int.tmod (mem (k3 + 1) l5) 12)), (6, vI (Int.tdiv (mem (k3 + 1) l5) 12)), (0, vR 0), (3, vR k3), (4, vI l4), (5, vI l5)] [vI (objS mem 1 (Int.tdiv (mem (k3 + 1) l5) 12) (Int.tmod (mem (k3 + 1) l5) 12))] mem Q
    obtain ⟨H1, H2⟩ := H
    refine x_if_eq (tgt := 81) (q := 78) dX10_says_75 (by decide) rfl (objS_inr _ _ _ _) (fun hB => ?_) (fun hB => ?_)
    · have H := H1 (hB)
      refine x_aloadn (q := 82) 2 rfl rfl rfl dX10_says_81 rfl ?_
      refine x_getr (q := 85) dX10_says_82 rfl fa_X10_12 sh_0 rfl ?_
      refine x_iload (q := 87) 1 rfl dX10_says_85 rfl ?_
      refine x_iload (q := 89) 0 rfl dX10_says_87 rfl ?_
      refine x_aloadn (q := 90) 3 rfl rfl rfl dX10_says_89 rfl ?_
      refine x_getr (q := 93) dX10_says_90 rfl fa_X10_321 (sh_S0 hk3) rfl ?_
      refine x_iload (q := 95) 5 rfl dX10_says_93 rfl ?_
      refine x_iconst (q := 96) dX10_says_95 rfl ?_
      refine x_iadd (q := 97) dX10_says_96 rfl ?_
      obtain ⟨⟨s22, s23⟩, H⟩ := H
      refine x_iald (q := 98) dX10_says_97 rfl (sh_S1 hk3) s22 s23 (fun r24 => ?_)
      obtain ⟨H1, H2⟩ := H
      refine x_if_eq (tgt := 105) (q := 101) dX10_says_98 (by decide) rfl r24 (fun hB => ?_) (fun hB => ?_)
      · have H := H1 (hB)
        refine x_iconst (q := 106) dX10_says_105 rfl ?_
        obtain ⟨⟨s27, s28⟩, H⟩ := H
        obtain ⟨m29, em29⟩ : ∃ m9 : Mem, m9 = addSyM mem 1 (Int.tdiv (mem (k3 + 1) l5) 12) (Int.tmod (mem (k3 + 1) l5) 12) 0 := ⟨_, rfl⟩
        have H := H m29 em29
        refine x_callV (q := 109) (d := d - 1) (as := [vI (Int.tdiv (mem (k3 + 1) l5) 12), vI (Int.tmod (mem (k3 + 1) l5) 12), vI 0]) (st := []) dX10_says_106 rfl mv_X10_134 sh_1 rfl rfl rfl (by exact Nat.le_of_ble_eq_true rfl) ⟨by show _ ≤ d; omega, by show _ ≤ 40 * d; omega⟩ ⟨Nat.le_refl _, Nat.le_refl _⟩ (ct_addSaying (by decide) s27 s28 s17 s18 (by decide) ?_)
        rw [← em29]
        show E_X10_says G d 109 [(7, vI (Int.tmod (mem (k3 + 1) l5) 12)), (6, vI (Int.tdiv (mem (k3 + 1) l5) 12)), (0, vR 0), (3, vR k3), (4, vI l4), (5, vI l5)] [vI (mem 1 6)] m29 Q
        refine x_pop (q := 110) (by exact Nat.ne_of_beq_eq_false rfl) dX10_says_109 rfl ?_
        refine x_iinc (q := 113) (ls' := [(4, vI (l4 + 1)), (7, vI (Int.tmod (mem (k3 + 1) l5) 12)), (6, vI (Int.tdiv (mem (k3 + 1) l5) 12)), (0, vR 0), (3, vR k3), (5, vI l5)]) 4 rfl (by decide) rfl dX10_says_110 rfl ?_
        refine x_iinc (q := 116) (ls' := [(5, vI (l5 + 2)), (4, vI (l4 + 1)), (7, vI (Int.tmod (mem (k3 + 1) l5) 12)), (6, vI (Int.tdiv (mem (k3 + 1) l5) 12)), (0, vR 0), (3, vR k3)]) 5 rfl (by decide) rfl dX10_says_113 rfl ?_
        refine x_goto (tgt := 29) dX10_says_116 (by decide) ?_
        refine x_sub [4, 5, 1, 0] rfl ?_
        exact H
      · have H := H2 (hB)
        refine x_iconst (q := 102) dX10_says_101 rfl ?_
        refine x_goto (tgt := 106) dX10_says_102 (by decide) ?_
        obtain ⟨⟨s30, s31⟩, H⟩ := H
        obtain ⟨m32, em32⟩ : ∃ m9 : Mem, m9 = addSyM mem 1 (Int.tdiv (mem (k3 + 1) l5) 12) (Int.tmod (mem (k3 + 1) l5) 12) 1 := ⟨_, rfl⟩
        have H := H m32 em32
        refine x_callV (q := 109) (d := d - 1) (as := [vI (Int.tdiv (mem (k3 + 1) l5) 12), vI (Int.tmod (mem (k3 + 1) l5) 12), vI 1]) (st := []) dX10_says_106 rfl mv_X10_134 sh_1 rfl rfl rfl (by exact Nat.le_of_ble_eq_true rfl) ⟨by show _ ≤ d; omega, by show _ ≤ 40 * d; omega⟩ ⟨Nat.le_refl _, Nat.le_refl _⟩ (ct_addSaying (by decide) s30 s31 s17 s18 (by decide) ?_)
        rw [← em32]
        show E_X10_says G d 109 [(7, vI (Int.tmod (mem (k3 + 1) l5) 12)), (6, vI (Int.tdiv (mem (k3 + 1) l5) 12)), (0, vR 0), (3, vR k3), (4, vI l4), (5, vI l5)] [vI (mem 1 6)] m32 Q
        refine x_pop (q := 110) (by exact Nat.ne_of_beq_eq_false rfl) dX10_says_109 rfl ?_
        refine x_iinc (q := 113) (ls' := [(4, vI (l4 + 1)), (7, vI (Int.tmod (mem (k3 + 1) l5) 12)), (6, vI (Int.tdiv (mem (k3 + 1) l5) 12)), (0, vR 0), (3, vR k3), (5, vI l5)]) 4 rfl (by decide) rfl dX10_says_110 rfl ?_
        refine x_iinc (q := 116) (ls' := [(5, vI (l5 + 2)), (4, vI (l4 + 1)), (7, vI (Int.tmod (mem (k3 + 1) l5) 12)), (6, vI (Int.tdiv (mem (k3 + 1) l5) 12)), (0, vR 0), (3, vR k3)]) 5 rfl (by decide) rfl dX10_says_113 rfl ?_
        refine x_goto (tgt := 29) dX10_says_116 (by decide) ?_
        refine x_sub [4, 5, 1, 0] rfl ?_
        exact H
    · have H := H2 (hB)
      refine x_iload (q := 80) 4 rfl dX10_says_78 rfl ?_
      exact x_iret rfl dX10_says_80 H
set_option maxRecDepth 20000 in
set_option maxHeartbeats 4000000 in
theorem B_X11_next {G : GT} {d : Nat} {l1 : Int} {mem : Mem} {Q : Option AV → Mem → Prop} (hd : 1 ≤ d) (H : (inr l1) ∧ (((0 ≤ l1 ∧ l1 ≤ 1) → (C_X11_findFitting G (d - 1) [vR 71] mem (fun r9 m4 => r9 = none ∧ (E_X11_next G d 30 [(0, vR 71), (1, vI l1), (2, vI (-1)), (3, vI 0), (4, vI 0), (5, vI 0)] [] m4 Q)))) ∧ (¬ (0 ≤ l1 ∧ l1 ≤ 1) → (∀ m5 : Mem, m5 = fndM mem (-1000001) → (Q (some (vI (-1000001))) m5))))) : C_X11_next G d [vR 71, vI l1] mem Q := by
  refine Ct_of_Ex (by decide +kernel) (by exact Nat.le_of_ble_eq_true rfl) (ls := [(0, vR 71), (1, vI l1)]) rfl ?_
  show E_X11_next G d 0 [(0, vR 71), (1, vI l1)] [] mem Q
  refine x_iloadn (q := 1) 1 rfl rfl dX11_next_0 rfl ?_
  refine x_iconst (q := 2) dX11_next_1 rfl ?_
  refine x_iconst (q := 3) dX11_next_2 rfl ?_
  obtain ⟨s1, H⟩ := H
  refine x_callS (q := 6) (d := d - 1) (as := [vI l1, vI 0, vI 1]) (st := []) dX11_next_3 rfl ms_X11_83 rfl rfl (by exact Nat.le_of_ble_eq_true rfl) ⟨by show _ ≤ d; omega, by show _ ≤ 40 * d; omega⟩ ⟨Nat.le_refl _, Nat.le_refl _⟩ (ct_within s1 (by decide) (by decide) ?_)
  show E_X11_next G d 6 [(0, vR 71), (1, vI l1)] [vI (bz (0 ≤ l1 ∧ l1 ≤ 1))] mem Q
  obtain ⟨H1, H2⟩ := H
  refine x_if_ne (tgt := 16) (q := 9) dX11_next_6 (by decide) rfl (bz_inr _) (fun hB => ?_) (fun hB => ?_)
  · have H := H1 (bz_n0.mp hB)
    refine x_aloadn (q := 17) 0 rfl rfl rfl dX11_next_16 rfl ?_
    refine x_callV (q := 20) (d := d - 1) (as := []) (st := []) dX11_next_17 rfl mv_X11_216 sh_71 rfl rfl rfl (by exact Nat.le_of_ble_eq_true rfl) ⟨by show _ ≤ d; omega, by show _ ≤ 40 * d; omega⟩ ⟨Nat.le_refl _, Nat.le_refl _⟩ (Ct.mono H (fun r9 m4 H => ?_))
    obtain ⟨rfl, H⟩ := H
    show E_X11_next G d 20 [(0, vR 71), (1, vI l1)] [] m4 Q
    refine x_iconst (q := 21) dX11_next_20 rfl ?_
    refine x_istoren (q := 22) (ls' := [(2, vI (-1)), (0, vR 71), (1, vI l1)]) rfl (by decide) rfl dX11_next_21 rfl ?_
    refine x_iconst (q := 23) dX11_next_22 rfl ?_
    refine x_istoren (q := 24) (ls' := [(3, vI 0), (2, vI (-1)), (0, vR 71), (1, vI l1)]) rfl (by decide) rfl dX11_next_23 rfl ?_
    refine x_iconst (q := 25) dX11_next_24 rfl ?_
    refine x_istore (q := 27) (ls' := [(4, vI 0), (3, vI 0), (2, vI (-1)), (0, vR 71), (1, vI l1)]) (by decide) rfl dX11_next_25 rfl ?_
    refine x_iconst (q := 28) dX11_next_27 rfl ?_
    refine x_istore (q := 30) (ls' := [(5, vI 0), (4, vI 0), (3, vI 0), (2, vI (-1)), (0, vR 71), (1, vI l1)]) (by decide) rfl dX11_next_28 rfl ?_
    refine x_sub [4, 5, 3, 2, 1, 0] rfl ?_
    exact H
  · have H := H2 (fun z => hB (bz_n0.mpr z))
    refine x_aloadn (q := 10) 0 rfl rfl rfl dX11_next_9 rfl ?_
    refine x_ldc (q := 12) (z := (-1000001)) cn_X11_87 (by decide) dX11_next_10 rfl ?_
    obtain ⟨m5, em5⟩ : ∃ m9 : Mem, m9 = fndM mem (-1000001) := ⟨_, rfl⟩
    have H := H m5 em5
    refine x_callV (q := 15) (d := d - 1) (as := [vI (-1000001)]) (st := []) dX11_next_12 rfl mv_X11_88 sh_71 rfl rfl rfl (by exact Nat.le_of_ble_eq_true rfl) ⟨by show _ ≤ d; omega, by show _ ≤ 40 * d; omega⟩ ⟨Nat.le_refl _, Nat.le_refl _⟩ (ct_finding (by decide) (by decide) ?_)
    rw [← em5]
    show E_X11_next G d 15 [(0, vR 71), (1, vI l1)] [vI (-1000001)] m5 Q
    exact x_iret rfl dX11_next_15 H
set_option maxRecDepth 20000 in
set_option maxHeartbeats 4000000 in
theorem B_X11_next_30 {G : GT} {d : Nat} {l1 : Int} {l2 : Int} {l3 : Int} {l4 : Int} {l5 : Int} {mem : Mem} {Q : Option AV → Mem → Prop} (hd : 1 ≤ d) (H : (inr l5) ∧ (((mem 72 0 ≤ l5) → ((inr l2) ∧ (((0 ≤ l2) → ((inr l1) ∧ (((l1 ≠ 0) → (Q (some (vI l3)) mem)) ∧ (¬ (l1 ≠ 0) → (Q (some (vI l2)) mem))))) ∧ (¬ (0 ≤ l2) → (∀ m16 : Mem, m16 = fndM mem (-1000002) → (Q (some (vI (-1000002))) m16)))))) ∧ (¬ (mem 72 0 ≤ l5) → (E_X11_next G d 44 [(0, vR 71), (1, vI l1), (2, vI l2), (3, vI l3), (4, vI l4), (5, vI l5), (6, vI 0)] [] mem Q)))) : E_X11_next G d 30 [(0, vR 71), (1, vI l1), (2, vI l2), (3, vI l3), (4, vI l4), (5, vI l5)] [] mem Q := by
  refine x_iload (q := 32) 5 rfl dX11_next_30 rfl ?_
  refine x_aloadn (q := 33) 0 rfl rfl rfl dX11_next_32 rfl ?_
  refine x_getr (q := 36) dX11_next_33 rfl fa_X11_9 sh_71 rfl ?_
  refine x_iconst (q := 37) dX11_next_36 rfl ?_
  refine x_iald (q := 38) dX11_next_37 rfl sh_72 (by decide) (by decide) (fun r6 => ?_)
  obtain ⟨s7, H⟩ := H
  obtain ⟨H1, H2⟩ := H
  refine x_icmp_ge (tgt := 153) (q := 41) dX11_next_38 (by decide) rfl s7 r6 (fun hB => ?_) (fun hB => ?_)
  · have H := H1 (hB)
    refine x_iloadn (q := 154) 2 rfl rfl dX11_next_153 rfl ?_
    obtain ⟨s10, H⟩ := H
    obtain ⟨H1, H2⟩ := H
    refine x_if_ge (tgt := 166) (q := 157) dX11_next_154 (by decide) rfl s10 (fun hB => ?_) (fun hB => ?_)
    · have H := H1 (hB)
      refine x_iloadn (q := 167) 1 rfl rfl dX11_next_166 rfl ?_
      obtain ⟨s13, H⟩ := H
      obtain ⟨H1, H2⟩ := H
      refine x_if_ne (tgt := 174) (q := 170) dX11_next_167 (by decide) rfl s13 (fun hB => ?_) (fun hB => ?_)
      · have H := H1 (hB)
        refine x_iloadn (q := 175) 3 rfl rfl dX11_next_174 rfl ?_
        exact x_iret rfl dX11_next_175 H
      · have H := H2 (hB)
        refine x_iloadn (q := 171) 2 rfl rfl dX11_next_170 rfl ?_
        refine x_goto (tgt := 175) dX11_next_171 (by decide) ?_
        exact x_iret rfl dX11_next_175 H
    · have H := H2 (hB)
      refine x_aloadn (q := 158) 0 rfl rfl rfl dX11_next_157 rfl ?_
      refine x_ldc (q := 160) (z := (-1000002)) cn_X11_219 (by decide) dX11_next_158 rfl ?_
      obtain ⟨m16, em16⟩ : ∃ m9 : Mem, m9 = fndM mem (-1000002) := ⟨_, rfl⟩
      have H := H m16 em16
      refine x_callV (q := 163) (d := d - 1) (as := [vI (-1000002)]) (st := []) dX11_next_160 rfl mv_X11_88 sh_71 rfl rfl rfl (by exact Nat.le_of_ble_eq_true rfl) ⟨by show _ ≤ d; omega, by show _ ≤ 40 * d; omega⟩ ⟨Nat.le_refl _, Nat.le_refl _⟩ (ct_finding (by decide) (by decide) ?_)
      rw [← em16]
      show E_X11_next G d 163 [(0, vR 71), (1, vI l1), (2, vI l2), (3, vI l3), (4, vI l4), (5, vI l5)] [vI (-1000002)] m16 Q
      refine x_goto (tgt := 175) dX11_next_163 (by decide) ?_
      exact x_iret rfl dX11_next_175 H
  · have H := H2 (hB)
    refine x_iconst (q := 42) dX11_next_41 rfl ?_
    refine x_istore (q := 44) (ls' := [(6, vI 0), (0, vR 71), (1, vI l1), (2, vI l2), (3, vI l3), (4, vI l4), (5, vI l5)]) (by decide) rfl dX11_next_42 rfl ?_
    refine x_sub [1, 2, 3, 4, 5, 6, 0] rfl ?_
    exact H
set_option maxRecDepth 20000 in
set_option maxHeartbeats 4000000 in
theorem B_X11_next_44 {G : GT} {d : Nat} {l1 : Int} {l2 : Int} {l3 : Int} {l4 : Int} {l5 : Int} {l6 : Int} {mem : Mem} {Q : Option AV → Mem → Prop} (hd : 1 ≤ d) (H : (inr l6) ∧ (((mem 72 0 ≤ l6) → (E_X11_next G d 30 [(0, vR 71), (1, vI l1), (2, vI l2), (3, vI l3), (4, vI l4), (5, vI (l5 + 1))] [] mem Q)) ∧ (¬ (mem 72 0 ≤ l6) → ((0 ≤ 41 + 12 * l5 + l6 ∧ 41 + 12 * l5 + l6 < 553) ∧ (((mem 72 (41 + 12 * l5 + l6) ≠ 0) → (C_X11_letting G (d - 1) [vR 71, vI l5, vI l6, vI 1] mem (fun r9 m26 => ∃ z27 : Int, r9 = some (vI z27) ∧ (C_X11_letting G (d - 1) [vR 71, vI l5, vI l6, vI 0] m26 (fun r9 m28 => ∃ z29 : Int, r9 = some (vI z29) ∧ ((inr z27 ∧ inr z29) ∧ (((mem 72 (41 + 12 * l5 + l6) ≤ 0) → (E_X11_next G d 44 [(0, vR 71), (1, vI l1), (2, vI l2), (3, vI l3), (4, vI l4), (5, vI l5), (6, vI (l6 + 1))] [] m28 Q)) ∧ (¬ (mem 72 (41 + 12 * l5 + l6) ≤ 0) → ((inr l2) ∧ (((l2 < 0) → (E_X11_next G d 44 [(0, vR 71), (1, vI l1), (2, vI ((100 * l5) + l6)), (3, vI (tmax z27 z29)), (4, vI (mem 72 (41 + 12 * l5 + l6))), (5, vI l5), (6, vI (l6 + 1))] [] m28 Q)) ∧ (¬ (l2 < 0) → ((inr l3) ∧ (((tmax z27 z29 < l3) → (E_X11_next G d 44 [(0, vR 71), (1, vI l1), (2, vI ((100 * l5) + l6)), (3, vI (tmax z27 z29)), (4, vI (mem 72 (41 + 12 * l5 + l6))), (5, vI l5), (6, vI (l6 + 1))] [] m28 Q)) ∧ (¬ (tmax z27 z29 < l3) → (((tmax z27 z29 ≠ l3) → (E_X11_next G d 44 [(0, vR 71), (1, vI l1), (2, vI l2), (3, vI l3), (4, vI l4), (5, vI l5), (6, vI (l6 + 1))] [] m28 Q)) ∧ (¬ (tmax z27 z29 ≠ l3) → ((inr l4) ∧ (((l4 ≤ mem 72 (41 + 12 * l5 + l6)) → (E_X11_next G d 44 [(0, vR 71), (1, vI l1), (2, vI l2), (3, vI l3), (4, vI l4), (5, vI l5), (6, vI (l6 + 1))] [] m28 Q)) ∧ (¬ (l4 ≤ mem 72 (41 + 12 * l5 + l6)) → (E_X11_next G d 44 [(0, vR 71), (1, vI l1), (2, vI ((100 * l5) + l6)), (3, vI (tmax z27 z29)), (4, vI (mem 72 (41 + 12 * l5 + l6))), (5, vI l5), (6, vI (l6 + 1))] [] m28 Q)))))))))))))))))))) ∧ (¬ (mem 72 (41 + 12 * l5 + l6) ≠ 0) → (((mem 72 (41 + 12 * l5 + l6) ≤ 0) → (E_X11_next G d 44 [(0, vR 71), (1, vI l1), (2, vI l2), (3, vI l3), (4, vI l4), (5, vI l5), (6, vI (l6 + 1))] [] mem Q)) ∧ (¬ (mem 72 (41 + 12 * l5 + l6) ≤ 0) → ((inr l2) ∧ (((l2 < 0) → (E_X11_next G d 44 [(0, vR 71), (1, vI l1), (2, vI ((100 * l5) + l6)), (3, vI 0), (4, vI (mem 72 (41 + 12 * l5 + l6))), (5, vI l5), (6, vI (l6 + 1))] [] mem Q)) ∧ (¬ (l2 < 0) → ((inr l3) ∧ (((0 < l3) → (E_X11_next G d 44 [(0, vR 71), (1, vI l1), (2, vI ((100 * l5) + l6)), (3, vI 0), (4, vI (mem 72 (41 + 12 * l5 + l6))), (5, vI l5), (6, vI (l6 + 1))] [] mem Q)) ∧ (¬ (0 < l3) → (((0 ≠ l3) → (E_X11_next G d 44 [(0, vR 71), (1, vI l1), (2, vI l2), (3, vI l3), (4, vI l4), (5, vI l5), (6, vI (l6 + 1))] [] mem Q)) ∧ (¬ (0 ≠ l3) → ((inr l4) ∧ (((l4 ≤ mem 72 (41 + 12 * l5 + l6)) → (E_X11_next G d 44 [(0, vR 71), (1, vI l1), (2, vI l2), (3, vI l3), (4, vI l4), (5, vI l5), (6, vI (l6 + 1))] [] mem Q)) ∧ (¬ (l4 ≤ mem 72 (41 + 12 * l5 + l6)) → (E_X11_next G d 44 [(0, vR 71), (1, vI l1), (2, vI ((100 * l5) + l6)), (3, vI 0), (4, vI (mem 72 (41 + 12 * l5 + l6))), (5, vI l5), (6, vI (l6 + 1))] [] mem Q)))))))))))))))))))) : E_X11_next G d 44 [(0, vR 71), (1, vI l1), (2, vI l2), (3, vI l3), (4, vI l4), (5, vI l5), (6, vI l6)] [] mem Q := by
  refine x_iload (q := 46) 6 rfl dX11_next_44 rfl ?_
  refine x_aloadn (q := 47) 0 rfl rfl rfl dX11_next_46 rfl ?_
  refine x_getr (q := 50) dX11_next_47 rfl fa_X11_9 sh_71 rfl ?_
  refine x_iconst (q := 51) dX11_next_50 rfl ?_
  refine x_iald (q := 52) dX11_next_51 rfl sh_72 (by decide) (by decide) (fun r17 => ?_)
  obtain ⟨s18, H⟩ := H
  obtain ⟨H1, H2⟩ := H
  refine x_icmp_ge (tgt := 147) (q := 55) dX11_next_52 (by decide) rfl s18 r17 (fun hB => ?_) (fun hB => ?_)
  · have H := H1 (hB)
    refine x_iinc (q := 150) (ls' := [(5, vI (l5 + 1)), (0, vR 71), (1, vI l1), (2, vI l2), (3, vI l3), (4, vI l4), (6, vI l6)]) 5 rfl (by decide) rfl dX11_next_147 rfl ?_
    refine x_goto (tgt := 30) dX11_next_150 (by decide) ?_
    refine x_sub [1, 2, 3, 4, 5, 0] rfl ?_
    exact H
  · have H := H2 (hB)
    refine x_aloadn (q := 56) 0 rfl rfl rfl dX11_next_55 rfl ?_
    refine x_iload (q := 58) 5 rfl dX11_next_56 rfl ?_
    refine x_iload (q := 60) 6 rfl dX11_next_58 rfl ?_
    obtain ⟨⟨s21, s22⟩, H⟩ := H
    refine x_callV (q := 63) (d := d - 1) (as := [vI l5, vI l6]) (st := []) dX11_next_60 rfl mv_X11_108 sh_71 rfl rfl rfl (by exact Nat.le_of_ble_eq_true rfl) ⟨by show _ ≤ d; omega, by show _ ≤ 40 * d; omega⟩ ⟨Nat.le_refl _, Nat.le_refl _⟩ (ct_tieOf s21 s22 ?_)
    show E_X11_next G d 63 [(0, vR 71), (1, vI l1), (2, vI l2), (3, vI l3), (4, vI l4), (5, vI l5), (6, vI l6)] [vI (mem 72 (41 + 12 * l5 + l6))] mem Q
    refine x_istore (q := 65) (ls' := [(7, vI (mem 72 (41 + 12 * l5 + l6))), (0, vR 71), (1, vI l1), (2, vI l2), (3, vI l3), (4, vI l4), (5, vI l5), (6, vI l6)]) (by decide) rfl dX11_next_63 rfl ?_
    refine x_iload (q := 67) 0 rfl dX11_next_65 rfl ?_
    refine x_ok (fun hm23 => ?_)
    obtain ⟨H1, H2⟩ := H
    refine x_if_ne (tgt := 74) (q := 70) dX11_next_67 (by decide) rfl (ok_ai hm23 sh_72 (by decide) _) (fun hB => ?_) (fun hB => ?_)
    · have H := H1 (hB)
      refine x_aloadn (q := 75) 1 rfl rfl rfl dX11_next_74 rfl ?_
      refine x_iload (q := 77) 6 rfl dX11_next_75 rfl ?_
      refine x_iload (q := 79) 7 rfl dX11_next_77 rfl ?_
      refine x_iconst (q := 80) dX11_next_79 rfl ?_
      refine x_callV (q := 83) (d := d - 1) (as := [vI l5, vI l6, vI 1]) (st := []) dX11_next_80 rfl mv_X11_232 sh_71 rfl rfl rfl (by exact Nat.le_of_ble_eq_true rfl) ⟨by show _ ≤ d; omega, by show _ ≤ 40 * d; omega⟩ ⟨Nat.le_refl _, Nat.le_refl _⟩ (Ct.mono H (fun r9 m26 H => ?_))
      obtain ⟨z27, rfl, H⟩ := H
      show E_X11_next G d 83 [(7, vI (mem 72 (41 + 12 * l5 + l6))), (0, vR 71), (1, vI l1), (2, vI l2), (3, vI l3), (4, vI l4), (5, vI l5), (6, vI l6)] [vI z27] m26 Q
      refine x_aloadn (q := 84) 1 rfl rfl rfl dX11_next_83 rfl ?_
      refine x_iload (q := 86) 6 rfl dX11_next_84 rfl ?_
      refine x_iload (q := 88) 7 rfl dX11_next_86 rfl ?_
      refine x_iconst (q := 89) dX11_next_88 rfl ?_
      refine x_callV (q := 92) (d := d - 1) (as := [vI l5, vI l6, vI 0]) (st := [vI z27]) dX11_next_89 rfl mv_X11_232 sh_71 rfl rfl rfl (by exact Nat.le_of_ble_eq_true rfl) ⟨by show _ ≤ d; omega, by show _ ≤ 40 * d; omega⟩ ⟨Nat.le_refl _, Nat.le_refl _⟩ (Ct.mono H (fun r9 m28 H => ?_))
      obtain ⟨z29, rfl, H⟩ := H
      show E_X11_next G d 92 [(7, vI (mem 72 (41 + 12 * l5 + l6))), (0, vR 71), (1, vI l1), (2, vI l2), (3, vI l3), (4, vI l4), (5, vI l5), (6, vI l6)] [vI z29, vI z27] m28 Q
      obtain ⟨⟨s30, s31⟩, H⟩ := H
      refine x_mmax (q := 95) dX11_next_92 rfl ml_X11_236 mm_st_max mm_ini mm_cd_max (by exact Nat.le_of_ble_eq_true rfl) ⟨by show 1 ≤ d; omega, by show 21 ≤ 40 * d; omega⟩ ⟨Nat.le_refl _, Nat.le_refl _⟩ s30 s31 ?_
      refine x_istore (q := 97) (ls' := [(8, vI (tmax z27 z29)), (7, vI (mem 72 (41 + 12 * l5 + l6))), (0, vR 71), (1, vI l1), (2, vI l2), (3, vI l3), (4, vI l4), (5, vI l5), (6, vI l6)]) (by decide) rfl dX11_next_95 rfl ?_
      refine x_iload (q := 99) 1 rfl dX11_next_97 rfl ?_
      obtain ⟨H1, H2⟩ := H
      refine x_if_le (tgt := 141) (q := 102) dX11_next_99 (by decide) rfl (ok_ai hm23 sh_72 (by decide) _) (fun hB => ?_) (fun hB => ?_)
      · have H := H1 (hB)
        refine x_iinc (q := 144) (ls' := [(6, vI (l6 + 1)), (8, vI (tmax z27 z29)), (7, vI (mem 72 (41 + 12 * l5 + l6))), (0, vR 71), (1, vI l1), (2, vI l2), (3, vI l3), (4, vI l4), (5, vI l5)]) 8 rfl (by decide) rfl dX11_next_141 rfl ?_
        refine x_goto (tgt := 44) dX11_next_144 (by decide) ?_
        refine x_sub [3, 4, 5, 6, 7, 8, 0] rfl ?_
        exact H
      · have H := H2 (hB)
        refine x_iloadn (q := 103) 4 rfl rfl dX11_next_102 rfl ?_
        obtain ⟨s34, H⟩ := H
        obtain ⟨H1, H2⟩ := H
        refine x_if_lt (tgt := 125) (q := 106) dX11_next_103 (by decide) rfl s34 (fun hB => ?_) (fun hB => ?_)
        · have H := H1 (hB)
          refine x_bipush (q := 127) rfl dX11_next_125 rfl ?_
          refine x_iload (q := 129) 7 rfl dX11_next_127 rfl ?_
          refine x_imul (q := 130) dX11_next_129 rfl ?_
          refine x_iload (q := 132) 8 rfl dX11_next_130 rfl ?_
          refine x_iadd (q := 133) dX11_next_132 rfl ?_
          refine x_istoren (q := 134) (ls' := [(2, vI ((100 * l5) + l6)), (8, vI (tmax z27 z29)), (7, vI (mem 72 (41 + 12 * l5 + l6))), (0, vR 71), (1, vI l1), (3, vI l3), (4, vI l4), (5, vI l5), (6, vI l6)]) rfl (by decide) rfl dX11_next_133 rfl ?_
          refine x_iload (q := 136) 1 rfl dX11_next_134 rfl ?_
          refine x_istoren (q := 137) (ls' := [(3, vI (tmax z27 z29)), (2, vI ((100 * l5) + l6)), (8, vI (tmax z27 z29)), (7, vI (mem 72 (41 + 12 * l5 + l6))), (0, vR 71), (1, vI l1), (4, vI l4), (5, vI l5), (6, vI l6)]) rfl (by decide) rfl dX11_next_136 rfl ?_
          refine x_iload (q := 139) 3 rfl dX11_next_137 rfl ?_
          refine x_istore (q := 141) (ls' := [(4, vI (mem 72 (41 + 12 * l5 + l6))), (3, vI (tmax z27 z29)), (2, vI ((100 * l5) + l6)), (8, vI (tmax z27 z29)), (7, vI (mem 72 (41 + 12 * l5 + l6))), (0, vR 71), (1, vI l1), (5, vI l5), (6, vI l6)]) (by decide) rfl dX11_next_139 rfl ?_
          refine x_iinc (q := 144) (ls' := [(6, vI (l6 + 1)), (4, vI (mem 72 (41 + 12 * l5 + l6))), (3, vI (tmax z27 z29)), (2, vI ((100 * l5) + l6)), (8, vI (tmax z27 z29)), (7, vI (mem 72 (41 + 12 * l5 + l6))), (0, vR 71), (1, vI l1), (5, vI l5)]) 8 rfl (by decide) rfl dX11_next_141 rfl ?_
          refine x_goto (tgt := 44) dX11_next_144 (by decide) ?_
          refine x_sub [6, 7, 3, 2, 1, 8, 0] rfl ?_
          exact H
        · have H := H2 (hB)
          refine x_iload (q := 108) 0 rfl dX11_next_106 rfl ?_
          refine x_iloadn (q := 109) 5 rfl rfl dX11_next_108 rfl ?_
          obtain ⟨s37, H⟩ := H
          obtain ⟨H1, H2⟩ := H
          refine x_icmp_lt (tgt := 125) (q := 112) dX11_next_109 (by decide) rfl (tmax_inr s30 s31) s37 (fun hB => ?_) (fun hB => ?_)
          · have H := H1 (hB)
            refine x_bipush (q := 127) rfl dX11_next_125 rfl ?_
            refine x_iload (q := 129) 7 rfl dX11_next_127 rfl ?_
            refine x_imul (q := 130) dX11_next_129 rfl ?_
            refine x_iload (q := 132) 8 rfl dX11_next_130 rfl ?_
            refine x_iadd (q := 133) dX11_next_132 rfl ?_
            refine x_istoren (q := 134) (ls' := [(2, vI ((100 * l5) + l6)), (8, vI (tmax z27 z29)), (7, vI (mem 72 (41 + 12 * l5 + l6))), (0, vR 71), (1, vI l1), (3, vI l3), (4, vI l4), (5, vI l5), (6, vI l6)]) rfl (by decide) rfl dX11_next_133 rfl ?_
            refine x_iload (q := 136) 1 rfl dX11_next_134 rfl ?_
            refine x_istoren (q := 137) (ls' := [(3, vI (tmax z27 z29)), (2, vI ((100 * l5) + l6)), (8, vI (tmax z27 z29)), (7, vI (mem 72 (41 + 12 * l5 + l6))), (0, vR 71), (1, vI l1), (4, vI l4), (5, vI l5), (6, vI l6)]) rfl (by decide) rfl dX11_next_136 rfl ?_
            refine x_iload (q := 139) 3 rfl dX11_next_137 rfl ?_
            refine x_istore (q := 141) (ls' := [(4, vI (mem 72 (41 + 12 * l5 + l6))), (3, vI (tmax z27 z29)), (2, vI ((100 * l5) + l6)), (8, vI (tmax z27 z29)), (7, vI (mem 72 (41 + 12 * l5 + l6))), (0, vR 71), (1, vI l1), (5, vI l5), (6, vI l6)]) (by decide) rfl dX11_next_139 rfl ?_
            refine x_iinc (q := 144) (ls' := [(6, vI (l6 + 1)), (4, vI (mem 72 (41 + 12 * l5 + l6))), (3, vI (tmax z27 z29)), (2, vI ((100 * l5) + l6)), (8, vI (tmax z27 z29)), (7, vI (mem 72 (41 + 12 * l5 + l6))), (0, vR 71), (1, vI l1), (5, vI l5)]) 8 rfl (by decide) rfl dX11_next_141 rfl ?_
            refine x_goto (tgt := 44) dX11_next_144 (by decide) ?_
            refine x_sub [6, 7, 3, 2, 1, 8, 0] rfl ?_
            exact H
          · have H := H2 (hB)
            refine x_iload (q := 114) 0 rfl dX11_next_112 rfl ?_
            refine x_iloadn (q := 115) 5 rfl rfl dX11_next_114 rfl ?_
            obtain ⟨H1, H2⟩ := H
            refine x_icmp_ne (tgt := 141) (q := 118) dX11_next_115 (by decide) rfl (tmax_inr s30 s31) s37 (fun hB => ?_) (fun hB => ?_)
            · have H := H1 (hB)
              refine x_iinc (q := 144) (ls' := [(6, vI (l6 + 1)), (8, vI (tmax z27 z29)), (7, vI (mem 72 (41 + 12 * l5 + l6))), (0, vR 71), (1, vI l1), (2, vI l2), (3, vI l3), (4, vI l4), (5, vI l5)]) 8 rfl (by decide) rfl dX11_next_141 rfl ?_
              refine x_goto (tgt := 44) dX11_next_144 (by decide) ?_
              refine x_sub [3, 4, 5, 6, 7, 8, 0] rfl ?_
              exact H
            · have H := H2 (hB)
              refine x_iload (q := 120) 1 rfl dX11_next_118 rfl ?_
              refine x_iload (q := 122) 6 rfl dX11_next_120 rfl ?_
              obtain ⟨s42, H⟩ := H
              obtain ⟨H1, H2⟩ := H
              refine x_icmp_ge (tgt := 141) (q := 125) dX11_next_122 (by decide) rfl (ok_ai hm23 sh_72 (by decide) _) s42 (fun hB => ?_) (fun hB => ?_)
              · have H := H1 (hB)
                refine x_iinc (q := 144) (ls' := [(6, vI (l6 + 1)), (8, vI (tmax z27 z29)), (7, vI (mem 72 (41 + 12 * l5 + l6))), (0, vR 71), (1, vI l1), (2, vI l2), (3, vI l3), (4, vI l4), (5, vI l5)]) 8 rfl (by decide) rfl dX11_next_141 rfl ?_
                refine x_goto (tgt := 44) dX11_next_144 (by decide) ?_
                refine x_sub [3, 4, 5, 6, 7, 8, 0] rfl ?_
                exact H
              · have H := H2 (hB)
                refine x_bipush (q := 127) rfl dX11_next_125 rfl ?_
                refine x_iload (q := 129) 7 rfl dX11_next_127 rfl ?_
                refine x_imul (q := 130) dX11_next_129 rfl ?_
                refine x_iload (q := 132) 8 rfl dX11_next_130 rfl ?_
                refine x_iadd (q := 133) dX11_next_132 rfl ?_
                refine x_istoren (q := 134) (ls' := [(2, vI ((100 * l5) + l6)), (8, vI (tmax z27 z29)), (7, vI (mem 72 (41 + 12 * l5 + l6))), (0, vR 71), (1, vI l1), (3, vI l3), (4, vI l4), (5, vI l5), (6, vI l6)]) rfl (by decide) rfl dX11_next_133 rfl ?_
                refine x_iload (q := 136) 1 rfl dX11_next_134 rfl ?_
                refine x_istoren (q := 137) (ls' := [(3, vI (tmax z27 z29)), (2, vI ((100 * l5) + l6)), (8, vI (tmax z27 z29)), (7, vI (mem 72 (41 + 12 * l5 + l6))), (0, vR 71), (1, vI l1), (4, vI l4), (5, vI l5), (6, vI l6)]) rfl (by decide) rfl dX11_next_136 rfl ?_
                refine x_iload (q := 139) 3 rfl dX11_next_137 rfl ?_
                refine x_istore (q := 141) (ls' := [(4, vI (mem 72 (41 + 12 * l5 + l6))), (3, vI (tmax z27 z29)), (2, vI ((100 * l5) + l6)), (8, vI (tmax z27 z29)), (7, vI (mem 72 (41 + 12 * l5 + l6))), (0, vR 71), (1, vI l1), (5, vI l5), (6, vI l6)]) (by decide) rfl dX11_next_139 rfl ?_
                refine x_iinc (q := 144) (ls' := [(6, vI (l6 + 1)), (4, vI (mem 72 (41 + 12 * l5 + l6))), (3, vI (tmax z27 z29)), (2, vI ((100 * l5) + l6)), (8, vI (tmax z27 z29)), (7, vI (mem 72 (41 + 12 * l5 + l6))), (0, vR 71), (1, vI l1), (5, vI l5)]) 8 rfl (by decide) rfl dX11_next_141 rfl ?_
                refine x_goto (tgt := 44) dX11_next_144 (by decide) ?_
                refine x_sub [6, 7, 3, 2, 1, 8, 0] rfl ?_
                exact H
    · have H := H2 (hB)
      refine x_iconst (q := 71) dX11_next_70 rfl ?_
      refine x_goto (tgt := 95) dX11_next_71 (by decide) ?_
      refine x_istore (q := 97) (ls' := [(8, vI 0), (7, vI (mem 72 (41 + 12 * l5 + l6))), (0, vR 71), (1, vI l1), (2, vI l2), (3, vI l3), (4, vI l4), (5, vI l5), (6, vI l6)]) (by decide) rfl dX11_next_95 rfl ?_
      refine x_iload (q := 99) 1 rfl dX11_next_97 rfl ?_
      obtain ⟨H1, H2⟩ := H
      refine x_if_le (tgt := 141) (q := 102) dX11_next_99 (by decide) rfl (ok_ai hm23 sh_72 (by decide) _) (fun hB => ?_) (fun hB => ?_)
      · have H := H1 (hB)
        refine x_iinc (q := 144) (ls' := [(6, vI (l6 + 1)), (8, vI 0), (7, vI (mem 72 (41 + 12 * l5 + l6))), (0, vR 71), (1, vI l1), (2, vI l2), (3, vI l3), (4, vI l4), (5, vI l5)]) 8 rfl (by decide) rfl dX11_next_141 rfl ?_
        refine x_goto (tgt := 44) dX11_next_144 (by decide) ?_
        refine x_sub [3, 4, 5, 6, 7, 8, 0] rfl ?_
        exact H
      · have H := H2 (hB)
        refine x_iloadn (q := 103) 4 rfl rfl dX11_next_102 rfl ?_
        obtain ⟨s47, H⟩ := H
        obtain ⟨H1, H2⟩ := H
        refine x_if_lt (tgt := 125) (q := 106) dX11_next_103 (by decide) rfl s47 (fun hB => ?_) (fun hB => ?_)
        · have H := H1 (hB)
          refine x_bipush (q := 127) rfl dX11_next_125 rfl ?_
          refine x_iload (q := 129) 7 rfl dX11_next_127 rfl ?_
          refine x_imul (q := 130) dX11_next_129 rfl ?_
          refine x_iload (q := 132) 8 rfl dX11_next_130 rfl ?_
          refine x_iadd (q := 133) dX11_next_132 rfl ?_
          refine x_istoren (q := 134) (ls' := [(2, vI ((100 * l5) + l6)), (8, vI 0), (7, vI (mem 72 (41 + 12 * l5 + l6))), (0, vR 71), (1, vI l1), (3, vI l3), (4, vI l4), (5, vI l5), (6, vI l6)]) rfl (by decide) rfl dX11_next_133 rfl ?_
          refine x_iload (q := 136) 1 rfl dX11_next_134 rfl ?_
          refine x_istoren (q := 137) (ls' := [(3, vI 0), (2, vI ((100 * l5) + l6)), (8, vI 0), (7, vI (mem 72 (41 + 12 * l5 + l6))), (0, vR 71), (1, vI l1), (4, vI l4), (5, vI l5), (6, vI l6)]) rfl (by decide) rfl dX11_next_136 rfl ?_
          refine x_iload (q := 139) 3 rfl dX11_next_137 rfl ?_
          refine x_istore (q := 141) (ls' := [(4, vI (mem 72 (41 + 12 * l5 + l6))), (3, vI 0), (2, vI ((100 * l5) + l6)), (8, vI 0), (7, vI (mem 72 (41 + 12 * l5 + l6))), (0, vR 71), (1, vI l1), (5, vI l5), (6, vI l6)]) (by decide) rfl dX11_next_139 rfl ?_
          refine x_iinc (q := 144) (ls' := [(6, vI (l6 + 1)), (4, vI (mem 72 (41 + 12 * l5 + l6))), (3, vI 0), (2, vI ((100 * l5) + l6)), (8, vI 0), (7, vI (mem 72 (41 + 12 * l5 + l6))), (0, vR 71), (1, vI l1), (5, vI l5)]) 8 rfl (by decide) rfl dX11_next_141 rfl ?_
          refine x_goto (tgt := 44) dX11_next_144 (by decide) ?_
          refine x_sub [6, 7, 3, 2, 1, 8, 0] rfl ?_
          exact H
        · have H := H2 (hB)
          refine x_iload (q := 108) 0 rfl dX11_next_106 rfl ?_
          refine x_iloadn (q := 109) 5 rfl rfl dX11_next_108 rfl ?_
          obtain ⟨s50, H⟩ := H
          obtain ⟨H1, H2⟩ := H
          refine x_icmp_lt (tgt := 125) (q := 112) dX11_next_109 (by decide) rfl (by decide) s50 (fun hB => ?_) (fun hB => ?_)
          · have H := H1 (hB)
            refine x_bipush (q := 127) rfl dX11_next_125 rfl ?_
            refine x_iload (q := 129) 7 rfl dX11_next_127 rfl ?_
            refine x_imul (q := 130) dX11_next_129 rfl ?_
            refine x_iload (q := 132) 8 rfl dX11_next_130 rfl ?_
            refine x_iadd (q := 133) dX11_next_132 rfl ?_
            refine x_istoren (q := 134) (ls' := [(2, vI ((100 * l5) + l6)), (8, vI 0), (7, vI (mem 72 (41 + 12 * l5 + l6))), (0, vR 71), (1, vI l1), (3, vI l3), (4, vI l4), (5, vI l5), (6, vI l6)]) rfl (by decide) rfl dX11_next_133 rfl ?_
            refine x_iload (q := 136) 1 rfl dX11_next_134 rfl ?_
            refine x_istoren (q := 137) (ls' := [(3, vI 0), (2, vI ((100 * l5) + l6)), (8, vI 0), (7, vI (mem 72 (41 + 12 * l5 + l6))), (0, vR 71), (1, vI l1), (4, vI l4), (5, vI l5), (6, vI l6)]) rfl (by decide) rfl dX11_next_136 rfl ?_
            refine x_iload (q := 139) 3 rfl dX11_next_137 rfl ?_
            refine x_istore (q := 141) (ls' := [(4, vI (mem 72 (41 + 12 * l5 + l6))), (3, vI 0), (2, vI ((100 * l5) + l6)), (8, vI 0), (7, vI (mem 72 (41 + 12 * l5 + l6))), (0, vR 71), (1, vI l1), (5, vI l5), (6, vI l6)]) (by decide) rfl dX11_next_139 rfl ?_
            refine x_iinc (q := 144) (ls' := [(6, vI (l6 + 1)), (4, vI (mem 72 (41 + 12 * l5 + l6))), (3, vI 0), (2, vI ((100 * l5) + l6)), (8, vI 0), (7, vI (mem 72 (41 + 12 * l5 + l6))), (0, vR 71), (1, vI l1), (5, vI l5)]) 8 rfl (by decide) rfl dX11_next_141 rfl ?_
            refine x_goto (tgt := 44) dX11_next_144 (by decide) ?_
            refine x_sub [6, 7, 3, 2, 1, 8, 0] rfl ?_
            exact H
          · have H := H2 (hB)
            refine x_iload (q := 114) 0 rfl dX11_next_112 rfl ?_
            refine x_iloadn (q := 115) 5 rfl rfl dX11_next_114 rfl ?_
            obtain ⟨H1, H2⟩ := H
            refine x_icmp_ne (tgt := 141) (q := 118) dX11_next_115 (by decide) rfl (by decide) s50 (fun hB => ?_) (fun hB => ?_)
            · have H := H1 (hB)
              refine x_iinc (q := 144) (ls' := [(6, vI (l6 + 1)), (8, vI 0), (7, vI (mem 72 (41 + 12 * l5 + l6))), (0, vR 71), (1, vI l1), (2, vI l2), (3, vI l3), (4, vI l4), (5, vI l5)]) 8 rfl (by decide) rfl dX11_next_141 rfl ?_
              refine x_goto (tgt := 44) dX11_next_144 (by decide) ?_
              refine x_sub [3, 4, 5, 6, 7, 8, 0] rfl ?_
              exact H
            · have H := H2 (hB)
              refine x_iload (q := 120) 1 rfl dX11_next_118 rfl ?_
              refine x_iload (q := 122) 6 rfl dX11_next_120 rfl ?_
              obtain ⟨s55, H⟩ := H
              obtain ⟨H1, H2⟩ := H
              refine x_icmp_ge (tgt := 141) (q := 125) dX11_next_122 (by decide) rfl (ok_ai hm23 sh_72 (by decide) _) s55 (fun hB => ?_) (fun hB => ?_)
              · have H := H1 (hB)
                refine x_iinc (q := 144) (ls' := [(6, vI (l6 + 1)), (8, vI 0), (7, vI (mem 72 (41 + 12 * l5 + l6))), (0, vR 71), (1, vI l1), (2, vI l2), (3, vI l3), (4, vI l4), (5, vI l5)]) 8 rfl (by decide) rfl dX11_next_141 rfl ?_
                refine x_goto (tgt := 44) dX11_next_144 (by decide) ?_
                refine x_sub [3, 4, 5, 6, 7, 8, 0] rfl ?_
                exact H
              · have H := H2 (hB)
                refine x_bipush (q := 127) rfl dX11_next_125 rfl ?_
                refine x_iload (q := 129) 7 rfl dX11_next_127 rfl ?_
                refine x_imul (q := 130) dX11_next_129 rfl ?_
                refine x_iload (q := 132) 8 rfl dX11_next_130 rfl ?_
                refine x_iadd (q := 133) dX11_next_132 rfl ?_
                refine x_istoren (q := 134) (ls' := [(2, vI ((100 * l5) + l6)), (8, vI 0), (7, vI (mem 72 (41 + 12 * l5 + l6))), (0, vR 71), (1, vI l1), (3, vI l3), (4, vI l4), (5, vI l5), (6, vI l6)]) rfl (by decide) rfl dX11_next_133 rfl ?_
                refine x_iload (q := 136) 1 rfl dX11_next_134 rfl ?_
                refine x_istoren (q := 137) (ls' := [(3, vI 0), (2, vI ((100 * l5) + l6)), (8, vI 0), (7, vI (mem 72 (41 + 12 * l5 + l6))), (0, vR 71), (1, vI l1), (4, vI l4), (5, vI l5), (6, vI l6)]) rfl (by decide) rfl dX11_next_136 rfl ?_
                refine x_iload (q := 139) 3 rfl dX11_next_137 rfl ?_
                refine x_istore (q := 141) (ls' := [(4, vI (mem 72 (41 + 12 * l5 + l6))), (3, vI 0), (2, vI ((100 * l5) + l6)), (8, vI 0), (7, vI (mem 72 (41 + 12 * l5 + l6))), (0, vR 71), (1, vI l1), (5, vI l5), (6, vI l6)]) (by decide) rfl dX11_next_139 rfl ?_
                refine x_iinc (q := 144) (ls' := [(6, vI (l6 + 1)), (4, vI (mem 72 (41 + 12 * l5 + l6))), (3, vI 0), (2, vI ((100 * l5) + l6)), (8, vI 0), (7, vI (mem 72 (41 + 12 * l5 + l6))), (0, vR 71), (1, vI l1), (5, vI l5)]) 8 rfl (by decide) rfl dX11_next_141 rfl ?_
                refine x_goto (tgt := 44) dX11_next_144 (by decide) ?_
                refine x_sub [6, 7, 3, 2, 1, 8, 0] rfl ?_
                exact H
set_option maxRecDepth 20000 in
set_option maxHeartbeats 4000000 in
theorem B_X11_rounds {G : GT} {d : Nat}  {mem : Mem} {Q : Option AV → Mem → Prop} (hd : 1 ≤ d) (H : ((8 < mem 72 0) → (∀ m4 : Mem, m4 = fndM mem (-1000004) → (Q (some (vI (-1000004))) m4))) ∧ (¬ (8 < mem 72 0) → ((inr (sm 144 (fun k => bI (decide (0 < mem 72 (41 + (k : Int))))))) ∧ (((sm 144 (fun k => bI (decide (0 < mem 72 (41 + (k : Int))))) ≤ 24) → (C_X11_findFitting G (d - 1) [vR 71] mem (fun r9 m8 => r9 = none ∧ (∀ m10 : Mem, m10 = upM m8 82 0 (m8 71 12) → (E_X11_rounds G d 43 [(0, vR 71), (1, vI 0)] [] m10 Q))))) ∧ (¬ (sm 144 (fun k => bI (decide (0 < mem 72 (41 + (k : Int))))) ≤ 24) → (∀ m11 : Mem, m11 = fndM mem (-1000004) → (Q (some (vI (-1000004))) m11))))))) : C_X11_rounds G d [vR 71] mem Q := by
  refine Ct_of_Ex (by decide +kernel) (by exact Nat.le_of_ble_eq_true rfl) (ls := [(0, vR 71)]) rfl ?_
  show E_X11_rounds G d 0 [(0, vR 71)] [] mem Q
  refine x_aloadn (q := 1) 0 rfl rfl rfl dX11_rounds_0 rfl ?_
  refine x_getr (q := 4) dX11_rounds_1 rfl fa_X11_9 sh_71 rfl ?_
  refine x_iconst (q := 5) dX11_rounds_4 rfl ?_
  refine x_iald (q := 6) dX11_rounds_5 rfl sh_72 (by decide) (by decide) (fun r1 => ?_)
  refine x_bipush (q := 8) rfl dX11_rounds_6 rfl ?_
  obtain ⟨H1, H2⟩ := H
  refine x_icmp_gt (tgt := 20) (q := 11) dX11_rounds_8 (by decide) rfl r1 (by decide) (fun hB => ?_) (fun hB => ?_)
  · have H := H1 (hB)
    refine x_aloadn (q := 21) 0 rfl rfl rfl dX11_rounds_20 rfl ?_
    refine x_ldc (q := 23) (z := (-1000004)) cn_X11_92 (by decide) dX11_rounds_21 rfl ?_
    obtain ⟨m4, em4⟩ : ∃ m9 : Mem, m9 = fndM mem (-1000004) := ⟨_, rfl⟩
    have H := H m4 em4
    refine x_callV (q := 26) (d := d - 1) (as := [vI (-1000004)]) (st := []) dX11_rounds_23 rfl mv_X11_88 sh_71 rfl rfl rfl (by exact Nat.le_of_ble_eq_true rfl) ⟨by show _ ≤ d; omega, by show _ ≤ 40 * d; omega⟩ ⟨Nat.le_refl _, Nat.le_refl _⟩ (ct_finding (by decide) (by decide) ?_)
    rw [← em4]
    show E_X11_rounds G d 26 [(0, vR 71)] [vI (-1000004)] m4 Q
    exact x_iret rfl dX11_rounds_26 H
  · have H := H2 (hB)
    refine x_aloadn (q := 12) 0 rfl rfl rfl dX11_rounds_11 rfl ?_
    refine x_callV (q := 15) (d := d - 1) (as := []) (st := []) dX11_rounds_12 rfl mv_X11_248 sh_71 rfl rfl rfl (by exact Nat.le_of_ble_eq_true rfl) ⟨by show _ ≤ d; omega, by show _ ≤ 40 * d; omega⟩ ⟨Nat.le_refl _, Nat.le_refl _⟩ (ct_tieMany ?_)
    show E_X11_rounds G d 15 [(0, vR 71)] [vI (sm 144 (fun k => bI (decide (0 < mem 72 (41 + (k : Int))))))] mem Q
    refine x_bipush (q := 17) rfl dX11_rounds_15 rfl ?_
    obtain ⟨s5, H⟩ := H
    obtain ⟨H1, H2⟩ := H
    refine x_icmp_le (tgt := 27) (q := 20) dX11_rounds_17 (by decide) rfl s5 (by decide) (fun hB => ?_) (fun hB => ?_)
    · have H := H1 (hB)
      refine x_aloadn (q := 28) 0 rfl rfl rfl dX11_rounds_27 rfl ?_
      refine x_callV (q := 31) (d := d - 1) (as := []) (st := []) dX11_rounds_28 rfl mv_X11_216 sh_71 rfl rfl rfl (by exact Nat.le_of_ble_eq_true rfl) ⟨by show _ ≤ d; omega, by show _ ≤ 40 * d; omega⟩ ⟨Nat.le_refl _, Nat.le_refl _⟩ (Ct.mono H (fun r9 m8 H => ?_))
      obtain ⟨rfl, H⟩ := H
      show E_X11_rounds G d 31 [(0, vR 71)] [] m8 Q
      refine x_aloadn (q := 32) 0 rfl rfl rfl dX11_rounds_31 rfl ?_
      refine x_getr (q := 35) dX11_rounds_32 rfl fa_X11_55 sh_71 rfl ?_
      refine x_iconst (q := 36) dX11_rounds_35 rfl ?_
      refine x_aloadn (q := 37) 0 rfl rfl rfl dX11_rounds_36 rfl ?_
      refine x_geti (q := 40) (ji := 12) dX11_rounds_37 rfl fa_X11_213 sh_71 rfl rfl (fun r9 => ?_)
      refine x_iast (q := 41) dX11_rounds_40 rfl sh_82 (by decide) (by decide) r9 (fun m10 em10 => ?_)
      have H := H m10 em10
      refine x_iconst (q := 42) dX11_rounds_41 rfl ?_
      refine x_istoren (q := 43) (ls' := [(1, vI 0), (0, vR 71)]) rfl (by decide) rfl dX11_rounds_42 rfl ?_
      refine x_sub [1, 0] rfl ?_
      exact H
    · have H := H2 (hB)
      refine x_aloadn (q := 21) 0 rfl rfl rfl dX11_rounds_20 rfl ?_
      refine x_ldc (q := 23) (z := (-1000004)) cn_X11_92 (by decide) dX11_rounds_21 rfl ?_
      obtain ⟨m11, em11⟩ : ∃ m9 : Mem, m9 = fndM mem (-1000004) := ⟨_, rfl⟩
      have H := H m11 em11
      refine x_callV (q := 26) (d := d - 1) (as := [vI (-1000004)]) (st := []) dX11_rounds_23 rfl mv_X11_88 sh_71 rfl rfl rfl (by exact Nat.le_of_ble_eq_true rfl) ⟨by show _ ≤ d; omega, by show _ ≤ 40 * d; omega⟩ ⟨Nat.le_refl _, Nat.le_refl _⟩ (ct_finding (by decide) (by decide) ?_)
      rw [← em11]
      show E_X11_rounds G d 26 [(0, vR 71)] [vI (-1000004)] m11 Q
      exact x_iret rfl dX11_rounds_26 H
set_option maxRecDepth 20000 in
set_option maxHeartbeats 4000000 in
theorem B_X11_rounds_43 {G : GT} {d : Nat} {l1 : Int} {mem : Mem} {Q : Option AV → Mem → Prop} (hd : 1 ≤ d) (H : (inr l1) ∧ (((mem 71 12 ≤ l1) → (E_X11_rounds G d 71 [(0, vR 71), (1, vI 0)] [] mem Q)) ∧ (¬ (mem 71 12 ≤ l1) → ((0 ≤ l1 ∧ l1 < 4096) ∧ ((0 ≤ l1 ∧ l1 < 768) ∧ (∀ m21 : Mem, m21 = upM mem 81 l1 (mem 77 l1) → (E_X11_rounds G d 43 [(0, vR 71), (1, vI (l1 + 1))] [] m21 Q))))))) : E_X11_rounds G d 43 [(0, vR 71), (1, vI l1)] [] mem Q := by
  refine x_iloadn (q := 44) 1 rfl rfl dX11_rounds_43 rfl ?_
  refine x_aloadn (q := 45) 0 rfl rfl rfl dX11_rounds_44 rfl ?_
  refine x_geti (q := 48) (ji := 12) dX11_rounds_45 rfl fa_X11_213 sh_71 rfl rfl (fun r12 => ?_)
  obtain ⟨s13, H⟩ := H
  obtain ⟨H1, H2⟩ := H
  refine x_icmp_ge (tgt := 69) (q := 51) dX11_rounds_48 (by decide) rfl s13 r12 (fun hB => ?_) (fun hB => ?_)
  · have H := H1 (hB)
    refine x_iconst (q := 70) dX11_rounds_69 rfl ?_
    refine x_istoren (q := 71) (ls' := [(1, vI 0), (0, vR 71)]) rfl (by decide) rfl dX11_rounds_70 rfl ?_
    refine x_sub [1, 0] rfl ?_
    exact H
  · have H := H2 (hB)
    refine x_aloadn (q := 52) 0 rfl rfl rfl dX11_rounds_51 rfl ?_
    refine x_getr (q := 55) dX11_rounds_52 rfl fa_X11_52 sh_71 rfl ?_
    refine x_iloadn (q := 56) 1 rfl rfl dX11_rounds_55 rfl ?_
    refine x_aloadn (q := 57) 0 rfl rfl rfl dX11_rounds_56 rfl ?_
    refine x_getr (q := 60) dX11_rounds_57 rfl fa_X11_40 sh_71 rfl ?_
    refine x_iloadn (q := 61) 1 rfl rfl dX11_rounds_60 rfl ?_
    obtain ⟨⟨s16, s17⟩, H⟩ := H
    refine x_iald (q := 62) dX11_rounds_61 rfl sh_77 s16 s17 (fun r18 => ?_)
    obtain ⟨⟨s19, s20⟩, H⟩ := H
    refine x_iast (q := 63) dX11_rounds_62 rfl sh_81 s19 s20 r18 (fun m21 em21 => ?_)
    have H := H m21 em21
    refine x_iinc (q := 66) (ls' := [(1, vI (l1 + 1)), (0, vR 71)]) 1 rfl (by decide) rfl dX11_rounds_63 rfl ?_
    refine x_goto (tgt := 43) dX11_rounds_66 (by decide) ?_
    refine x_sub [1, 0] rfl ?_
    exact H
set_option maxRecDepth 20000 in
set_option maxHeartbeats 4000000 in
theorem B_X11_rounds_71 {G : GT} {d : Nat} {l1 : Int} {mem : Mem} {Q : Option AV → Mem → Prop} (hd : 1 ≤ d) (H : (inr l1) ∧ (((3 ≤ l1) → (∀ m25 : Mem, m25 = fndM mem (-1000002) → (Q (some (vI (-1000002))) m25))) ∧ (¬ (3 ≤ l1) → (C_X11_does G (d - 1) [vR 71, vI 0, vI l1] mem (fun r9 m26 => ∃ z27 : Int, r9 = some (vI z27) ∧ ((inr z27) ∧ (((z27 = 0) → (E_X11_rounds G d 71 [(0, vR 71), (1, vI (l1 + 1))] [] m26 Q)) ∧ (¬ (z27 = 0) → (Q (some (vI l1)) m26))))))))) : E_X11_rounds G d 71 [(0, vR 71), (1, vI l1)] [] mem Q := by
  refine x_iloadn (q := 72) 1 rfl rfl dX11_rounds_71 rfl ?_
  refine x_iconst (q := 73) dX11_rounds_72 rfl ?_
  obtain ⟨s22, H⟩ := H
  obtain ⟨H1, H2⟩ := H
  refine x_icmp_ge (tgt := 93) (q := 76) dX11_rounds_73 (by decide) rfl s22 (by decide) (fun hB => ?_) (fun hB => ?_)
  · have H := H1 (hB)
    refine x_aloadn (q := 94) 0 rfl rfl rfl dX11_rounds_93 rfl ?_
    refine x_ldc (q := 96) (z := (-1000002)) cn_X11_219 (by decide) dX11_rounds_94 rfl ?_
    obtain ⟨m25, em25⟩ : ∃ m9 : Mem, m9 = fndM mem (-1000002) := ⟨_, rfl⟩
    have H := H m25 em25
    refine x_callV (q := 99) (d := d - 1) (as := [vI (-1000002)]) (st := []) dX11_rounds_96 rfl mv_X11_88 sh_71 rfl rfl rfl (by exact Nat.le_of_ble_eq_true rfl) ⟨by show _ ≤ d; omega, by show _ ≤ 40 * d; omega⟩ ⟨Nat.le_refl _, Nat.le_refl _⟩ (ct_finding (by decide) (by decide) ?_)
    rw [← em25]
    show E_X11_rounds G d 99 [(0, vR 71), (1, vI l1)] [vI (-1000002)] m25 Q
    exact x_iret rfl dX11_rounds_99 H
  · have H := H2 (hB)
    refine x_aloadn (q := 77) 0 rfl rfl rfl dX11_rounds_76 rfl ?_
    refine x_iconst (q := 78) dX11_rounds_77 rfl ?_
    refine x_iloadn (q := 79) 1 rfl rfl dX11_rounds_78 rfl ?_
    refine x_callV (q := 82) (d := d - 1) (as := [vI 0, vI l1]) (st := []) dX11_rounds_79 rfl mv_X11_245 sh_71 rfl rfl rfl (by exact Nat.le_of_ble_eq_true rfl) ⟨by show _ ≤ d; omega, by show _ ≤ 40 * d; omega⟩ ⟨Nat.le_refl _, Nat.le_refl _⟩ (Ct.mono H (fun r9 m26 H => ?_))
    obtain ⟨z27, rfl, H⟩ := H
    show E_X11_rounds G d 82 [(0, vR 71), (1, vI l1)] [vI z27] m26 Q
    obtain ⟨s28, H⟩ := H
    obtain ⟨H1, H2⟩ := H
    refine x_if_eq (tgt := 87) (q := 85) dX11_rounds_82 (by decide) rfl s28 (fun hB => ?_) (fun hB => ?_)
    · have H := H1 (hB)
      refine x_iinc (q := 90) (ls' := [(1, vI (l1 + 1)), (0, vR 71)]) 1 rfl (by decide) rfl dX11_rounds_87 rfl ?_
      refine x_goto (tgt := 71) dX11_rounds_90 (by decide) ?_
      refine x_sub [1, 0] rfl ?_
      exact H
    · have H := H2 (hB)
      refine x_iloadn (q := 86) 1 rfl rfl dX11_rounds_85 rfl ?_
      exact x_iret rfl dX11_rounds_86 H
set_option maxRecDepth 20000 in
set_option maxHeartbeats 4000000 in
theorem B_X11_chance {G : GT} {d : Nat} {l1 : Int} {l2 : Int} {mem : Mem} {Q : Option AV → Mem → Prop} (hd : 2 ≤ d) (H : (inr l1) ∧ ((0 ≤ mem 72 0) ∧ ((¬ (0 ≤ l1 ∧ l1 < mem 72 0) → (∀ m5 : Mem, m5 = fndM mem (-1000001) → (Q (some (vL (-1000001))) m5))) ∧ ((0 ≤ l1 ∧ l1 < mem 72 0) → ((inr l2) ∧ (((0 ≤ l2 ∧ l2 ≤ 1) → (C_X11_findFitting G (d - 1) [vR 71] mem (fun r9 m9 => r9 = none ∧ (((m9 71 12 ≠ 0) → (E_X11_chance G d 53 [(0, vR 71), (1, vI l1), (2, vI l2), (3, vL 0), (5, vL 0), (7, vI 0)] [] m9 Q)) ∧ (¬ (m9 71 12 ≠ 0) → (∀ m13 : Mem, m13 = fndM m9 (-1000002) → (Q (some (vL (-1000002))) m13))))))) ∧ (¬ (0 ≤ l2 ∧ l2 ≤ 1) → (∀ m14 : Mem, m14 = fndM mem (-1000001) → (Q (some (vL (-1000001))) m14))))))))) : C_X11_chance G d [vR 71, vI l1, vI l2] mem Q := by
  refine Ct_of_Ex (by decide +kernel) (by exact Nat.le_of_ble_eq_true rfl) (ls := [(0, vR 71), (1, vI l1), (2, vI l2)]) rfl ?_
  show E_X11_chance G d 0 [(0, vR 71), (1, vI l1), (2, vI l2)] [] mem Q
  refine x_aloadn (q := 1) 0 rfl rfl rfl dX11_chance_0 rfl ?_
  refine x_iloadn (q := 2) 1 rfl rfl dX11_chance_1 rfl ?_
  refine x_iconst (q := 3) dX11_chance_2 rfl ?_
  obtain ⟨s1, H⟩ := H
  obtain ⟨s2, H⟩ := H
  refine x_callV (q := 6) (d := d - 1) (as := [vI l1, vI 0]) (st := []) dX11_chance_3 rfl mv_X11_101 sh_71 rfl rfl rfl (by exact Nat.le_of_ble_eq_true rfl) ⟨by show _ ≤ d; omega, by show _ ≤ 40 * d; omega⟩ ⟨Nat.le_refl _, Nat.le_refl _⟩ ((fun hq9 => ct_is (by omega) (by decide) (by decide) s1 (fun _ => hq9) s2)  ?_)
  show E_X11_chance G d 6 [(0, vR 71), (1, vI l1), (2, vI l2)] [vI (bz (0 ≤ l1 ∧ l1 < mem 72 0))] mem Q
  obtain ⟨H1, H2⟩ := H
  refine x_if_eq (tgt := 18) (q := 9) dX11_chance_6 (by decide) rfl (bz_inr _) (fun hB => ?_) (fun hB => ?_)
  · have H := H1 (bz_0.mp hB)
    refine x_aloadn (q := 19) 0 rfl rfl rfl dX11_chance_18 rfl ?_
    refine x_ldc (q := 21) (z := (-1000001)) cn_X11_87 (by decide) dX11_chance_19 rfl ?_
    obtain ⟨m5, em5⟩ : ∃ m9 : Mem, m9 = fndM mem (-1000001) := ⟨_, rfl⟩
    have H := H m5 em5
    refine x_callV (q := 24) (d := d - 1) (as := [vI (-1000001)]) (st := []) dX11_chance_21 rfl mv_X11_88 sh_71 rfl rfl rfl (by exact Nat.le_of_ble_eq_true rfl) ⟨by show _ ≤ d; omega, by show _ ≤ 40 * d; omega⟩ ⟨Nat.le_refl _, Nat.le_refl _⟩ (ct_finding (by decide) (by decide) ?_)
    rw [← em5]
    show E_X11_chance G d 24 [(0, vR 71), (1, vI l1), (2, vI l2)] [vI (-1000001)] m5 Q
    refine x_i2l (q := 25) (by decide) dX11_chance_24 rfl ?_
    exact x_lret rfl dX11_chance_25 H
  · have H := H2 (Classical.byContradiction (fun z => hB (bz_0.mpr z)))
    refine x_iloadn (q := 10) 2 rfl rfl dX11_chance_9 rfl ?_
    refine x_iconst (q := 11) dX11_chance_10 rfl ?_
    refine x_iconst (q := 12) dX11_chance_11 rfl ?_
    obtain ⟨s6, H⟩ := H
    refine x_callS (q := 15) (d := d - 1) (as := [vI l2, vI 0, vI 1]) (st := []) dX11_chance_12 rfl ms_X11_83 rfl rfl (by exact Nat.le_of_ble_eq_true rfl) ⟨by show _ ≤ d; omega, by show _ ≤ 40 * d; omega⟩ ⟨Nat.le_refl _, Nat.le_refl _⟩ (ct_within s6 (by decide) (by decide) ?_)
    show E_X11_chance G d 15 [(0, vR 71), (1, vI l1), (2, vI l2)] [vI (bz (0 ≤ l2 ∧ l2 ≤ 1))] mem Q
    obtain ⟨H1, H2⟩ := H
    refine x_if_ne (tgt := 26) (q := 18) dX11_chance_15 (by decide) rfl (bz_inr _) (fun hB => ?_) (fun hB => ?_)
    · have H := H1 (bz_n0.mp hB)
      refine x_aloadn (q := 27) 0 rfl rfl rfl dX11_chance_26 rfl ?_
      refine x_callV (q := 30) (d := d - 1) (as := []) (st := []) dX11_chance_27 rfl mv_X11_216 sh_71 rfl rfl rfl (by exact Nat.le_of_ble_eq_true rfl) ⟨by show _ ≤ d; omega, by show _ ≤ 40 * d; omega⟩ ⟨Nat.le_refl _, Nat.le_refl _⟩ (Ct.mono H (fun r9 m9 H => ?_))
      obtain ⟨rfl, H⟩ := H
      show E_X11_chance G d 30 [(0, vR 71), (1, vI l1), (2, vI l2)] [] m9 Q
      refine x_aloadn (q := 31) 0 rfl rfl rfl dX11_chance_30 rfl ?_
      refine x_geti (q := 34) (ji := 12) dX11_chance_31 rfl fa_X11_213 sh_71 rfl rfl (fun r10 => ?_)
      obtain ⟨H1, H2⟩ := H
      refine x_if_ne (tgt := 45) (q := 37) dX11_chance_34 (by decide) rfl r10 (fun hB => ?_) (fun hB => ?_)
      · have H := H1 (hB)
        refine x_lconst (q := 46) (v := 0) rfl dX11_chance_45 rfl ?_
        refine x_lstoren (q := 47) (ls' := [(3, vL 0), (0, vR 71), (1, vI l1), (2, vI l2)]) rfl (by decide) rfl dX11_chance_46 rfl ?_
        refine x_lconst (q := 48) (v := 0) rfl dX11_chance_47 rfl ?_
        refine x_lstore (q := 50) (ls' := [(5, vL 0), (3, vL 0), (0, vR 71), (1, vI l1), (2, vI l2)]) (by decide) rfl dX11_chance_48 rfl ?_
        refine x_iconst (q := 51) dX11_chance_50 rfl ?_
        refine x_istore (q := 53) (ls' := [(7, vI 0), (5, vL 0), (3, vL 0), (0, vR 71), (1, vI l1), (2, vI l2)]) (by decide) rfl dX11_chance_51 rfl ?_
        refine x_sub [3, 4, 5, 2, 1, 0] rfl ?_
        exact H
      · have H := H2 (hB)
        refine x_aloadn (q := 38) 0 rfl rfl rfl dX11_chance_37 rfl ?_
        refine x_ldc (q := 40) (z := (-1000002)) cn_X11_219 (by decide) dX11_chance_38 rfl ?_
        obtain ⟨m13, em13⟩ : ∃ mx9 : Mem, mx9 = fndM m9 (-1000002) := ⟨_, rfl⟩
        have H := H m13 em13
        refine x_callV (q := 43) (d := d - 1) (as := [vI (-1000002)]) (st := []) dX11_chance_40 rfl mv_X11_88 sh_71 rfl rfl rfl (by exact Nat.le_of_ble_eq_true rfl) ⟨by show _ ≤ d; omega, by show _ ≤ 40 * d; omega⟩ ⟨Nat.le_refl _, Nat.le_refl _⟩ (ct_finding (by decide) (by decide) ?_)
        rw [← em13]
        show E_X11_chance G d 43 [(0, vR 71), (1, vI l1), (2, vI l2)] [vI (-1000002)] m13 Q
        refine x_i2l (q := 44) (by decide) dX11_chance_43 rfl ?_
        exact x_lret rfl dX11_chance_44 H
    · have H := H2 (fun z => hB (bz_n0.mpr z))
      refine x_aloadn (q := 19) 0 rfl rfl rfl dX11_chance_18 rfl ?_
      refine x_ldc (q := 21) (z := (-1000001)) cn_X11_87 (by decide) dX11_chance_19 rfl ?_
      obtain ⟨m14, em14⟩ : ∃ m9 : Mem, m9 = fndM mem (-1000001) := ⟨_, rfl⟩
      have H := H m14 em14
      refine x_callV (q := 24) (d := d - 1) (as := [vI (-1000001)]) (st := []) dX11_chance_21 rfl mv_X11_88 sh_71 rfl rfl rfl (by exact Nat.le_of_ble_eq_true rfl) ⟨by show _ ≤ d; omega, by show _ ≤ 40 * d; omega⟩ ⟨Nat.le_refl _, Nat.le_refl _⟩ (ct_finding (by decide) (by decide) ?_)
      rw [← em14]
      show E_X11_chance G d 24 [(0, vR 71), (1, vI l1), (2, vI l2)] [vI (-1000001)] m14 Q
      refine x_i2l (q := 25) (by decide) dX11_chance_24 rfl ?_
      exact x_lret rfl dX11_chance_25 H
set_option maxRecDepth 20000 in
set_option maxHeartbeats 4000000 in
theorem B_X11_chance_53 {G : GT} {d : Nat} {l1 : Int} {l2 : Int} {l3 : Int} {l5 : Int} {l7 : Int} {mem : Mem} {Q : Option AV → Mem → Prop} (hd : 2 ≤ d) (H : (inr l7) ∧ (((mem 71 12 ≤ l7) → ((inr l2) ∧ (((l2 ≠ 0) → (C_X11_divisor G (d - 1) [vL l3, vL l5] mem (fun r9 m22 => ∃ z23 : Int, r9 = some (vL z23) ∧ ((inl l3 ∧ inl z23) ∧ ((z23 ≠ 0) ∧ (Q (some (vL (Int.tdiv l3 z23))) m22)))))) ∧ (¬ (l2 ≠ 0) → (C_X11_divisor G (d - 1) [vL l3, vL l5] mem (fun r9 m27 => ∃ z28 : Int, r9 = some (vL z28) ∧ ((inl l5 ∧ inl z28) ∧ ((z28 ≠ 0) ∧ (Q (some (vL (Int.tdiv l5 z28))) m27))))))))) ∧ (¬ (mem 71 12 ≤ l7) → ((0 ≤ l7 ∧ l7 < 4096) ∧ (C_X11_weightOf G (d - 1) [vR 71, vI (mem 77 l7)] mem (fun r9 m35 => ∃ z36 : Int, r9 = some (vL z36) ∧ ((¬ (iand (ishr (m35 77 l7) l1) 1 = 1) → (E_X11_chance G d 53 [(0, vR 71), (1, vI l1), (2, vI l2), (3, vL (l3 + z36)), (5, vL (l5 + 0)), (7, vI (l7 + 1))] [] m35 Q)) ∧ ((iand (ishr (m35 77 l7) l1) 1 = 1) → (E_X11_chance G d 53 [(0, vR 71), (1, vI l1), (2, vI l2), (3, vL (l3 + z36)), (5, vL (l5 + z36)), (7, vI (l7 + 1))] [] m35 Q))))))))) : E_X11_chance G d 53 [(0, vR 71), (1, vI l1), (2, vI l2), (3, vL l3), (5, vL l5), (7, vI l7)] [] mem Q := by
  refine x_iload (q := 55) 5 rfl dX11_chance_53 rfl ?_
  refine x_aloadn (q := 56) 0 rfl rfl rfl dX11_chance_55 rfl ?_
  refine x_geti (q := 59) (ji := 12) dX11_chance_56 rfl fa_X11_213 sh_71 rfl rfl (fun r15 => ?_)
  obtain ⟨s16, H⟩ := H
  obtain ⟨H1, H2⟩ := H
  refine x_icmp_ge (tgt := 111) (q := 62) dX11_chance_59 (by decide) rfl s16 r15 (fun hB => ?_) (fun hB => ?_)
  · have H := H1 (hB)
    refine x_iloadn (q := 112) 2 rfl rfl dX11_chance_111 rfl ?_
    obtain ⟨s19, H⟩ := H
    obtain ⟨H1, H2⟩ := H
    refine x_if_ne (tgt := 120) (q := 115) dX11_chance_112 (by decide) rfl s19 (fun hB => ?_) (fun hB => ?_)
    · have H := H1 (hB)
      refine x_lloadn (q := 121) 3 rfl rfl dX11_chance_120 rfl ?_
      refine x_lloadn (q := 122) 3 rfl rfl dX11_chance_121 rfl ?_
      refine x_lload (q := 124) 4 rfl dX11_chance_122 rfl ?_
      refine x_callS (q := 127) (d := d - 1) (as := [vL l3, vL l5]) (st := [vL l3]) dX11_chance_124 rfl ms_X11_255 rfl rfl (by exact Nat.le_of_ble_eq_true rfl) ⟨by show _ ≤ d; omega, by show _ ≤ 40 * d; omega⟩ ⟨Nat.le_refl _, Nat.le_refl _⟩ (Ct.mono H (fun r9 m22 H => ?_))
      obtain ⟨z23, rfl, H⟩ := H
      show E_X11_chance G d 127 [(0, vR 71), (1, vI l1), (2, vI l2), (3, vL l3), (5, vL l5), (7, vI l7)] [vL z23, vL l3] m22 Q
      obtain ⟨⟨s24, s25⟩, H⟩ := H
      obtain ⟨s26, H⟩ := H
      refine x_ldiv (q := 128) s24 s25 s26 dX11_chance_127 rfl ?_
      exact x_lret rfl dX11_chance_128 H
    · have H := H2 (hB)
      refine x_lload (q := 117) 4 rfl dX11_chance_115 rfl ?_
      refine x_goto (tgt := 121) dX11_chance_117 (by decide) ?_
      refine x_lloadn (q := 122) 3 rfl rfl dX11_chance_121 rfl ?_
      refine x_lload (q := 124) 4 rfl dX11_chance_122 rfl ?_
      refine x_callS (q := 127) (d := d - 1) (as := [vL l3, vL l5]) (st := [vL l5]) dX11_chance_124 rfl ms_X11_255 rfl rfl (by exact Nat.le_of_ble_eq_true rfl) ⟨by show _ ≤ d; omega, by show _ ≤ 40 * d; omega⟩ ⟨Nat.le_refl _, Nat.le_refl _⟩ (Ct.mono H (fun r9 m27 H => ?_))
      obtain ⟨z28, rfl, H⟩ := H
      show E_X11_chance G d 127 [(0, vR 71), (1, vI l1), (2, vI l2), (3, vL l3), (5, vL l5), (7, vI l7)] [vL z28, vL l5] m27 Q
      obtain ⟨⟨s29, s30⟩, H⟩ := H
      obtain ⟨s31, H⟩ := H
      refine x_ldiv (q := 128) s29 s30 s31 dX11_chance_127 rfl ?_
      exact x_lret rfl dX11_chance_128 H
  · have H := H2 (hB)
    refine x_aloadn (q := 63) 0 rfl rfl rfl dX11_chance_62 rfl ?_
    refine x_aloadn (q := 64) 0 rfl rfl rfl dX11_chance_63 rfl ?_
    refine x_getr (q := 67) dX11_chance_64 rfl fa_X11_40 sh_71 rfl ?_
    refine x_iload (q := 69) 5 rfl dX11_chance_67 rfl ?_
    obtain ⟨⟨s32, s33⟩, H⟩ := H
    refine x_iald (q := 70) dX11_chance_69 rfl sh_77 s32 s33 (fun r34 => ?_)
    refine x_callV (q := 73) (d := d - 1) (as := [vI (mem 77 l7)]) (st := []) dX11_chance_70 rfl mv_X11_251 sh_71 rfl rfl rfl (by exact Nat.le_of_ble_eq_true rfl) ⟨by show _ ≤ d; omega, by show _ ≤ 40 * d; omega⟩ ⟨Nat.le_refl _, Nat.le_refl _⟩ (Ct.mono H (fun r9 m35 H => ?_))
    obtain ⟨z36, rfl, H⟩ := H
    show E_X11_chance G d 73 [(0, vR 71), (1, vI l1), (2, vI l2), (3, vL l3), (5, vL l5), (7, vI l7)] [vL z36] m35 Q
    refine x_lstore (q := 75) (ls' := [(8, vL z36), (0, vR 71), (1, vI l1), (2, vI l2), (3, vL l3), (5, vL l5), (7, vI l7)]) (by decide) rfl dX11_chance_73 rfl ?_
    refine x_lloadn (q := 76) 4 rfl rfl dX11_chance_75 rfl ?_
    refine x_lload (q := 78) 0 rfl dX11_chance_76 rfl ?_
    refine x_ladd (q := 79) dX11_chance_78 rfl ?_
    refine x_lstoren (q := 80) (ls' := [(3, vL (l3 + z36)), (8, vL z36), (0, vR 71), (1, vI l1), (2, vI l2), (5, vL l5), (7, vI l7)]) rfl (by decide) rfl dX11_chance_79 rfl ?_
    refine x_lload (q := 82) 5 rfl dX11_chance_80 rfl ?_
    refine x_aloadn (q := 83) 2 rfl rfl rfl dX11_chance_82 rfl ?_
    refine x_getr (q := 86) dX11_chance_83 rfl fa_X11_40 sh_71 rfl ?_
    refine x_iload (q := 88) 6 rfl dX11_chance_86 rfl ?_
    refine x_iald (q := 89) dX11_chance_88 rfl sh_77 s32 s33 (fun r37 => ?_)
    refine x_iloadn (q := 90) 3 rfl rfl dX11_chance_89 rfl ?_
    refine x_callS (q := 93) (d := d - 1) (as := [vI (m35 77 l7), vI l1]) (st := [vL l5]) dX11_chance_90 rfl ms_X11_195 rfl rfl (by exact Nat.le_of_ble_eq_true rfl) ⟨by show _ ≤ d; omega, by show _ ≤ 40 * d; omega⟩ ⟨Nat.le_refl _, Nat.le_refl _⟩ (ct_hasb ?_)
    show E_X11_chance G d 93 [(3, vL (l3 + z36)), (8, vL z36), (0, vR 71), (1, vI l1), (2, vI l2), (5, vL l5), (7, vI l7)] [vI (bz (iand (ishr (m35 77 l7) l1) 1 = 1)), vL l5] m35 Q
    obtain ⟨H1, H2⟩ := H
    refine x_if_eq (tgt := 101) (q := 96) dX11_chance_93 (by decide) rfl (bz_inr _) (fun hB => ?_) (fun hB => ?_)
    · have H := H1 (bz_0.mp hB)
      refine x_lconst (q := 102) (v := 0) rfl dX11_chance_101 rfl ?_
      refine x_ladd (q := 103) dX11_chance_102 rfl ?_
      refine x_lstore (q := 105) (ls' := [(5, vL (l5 + 0)), (3, vL (l3 + z36)), (8, vL z36), (0, vR 71), (1, vI l1), (2, vI l2), (7, vI l7)]) (by decide) rfl dX11_chance_103 rfl ?_
      refine x_iinc (q := 108) (ls' := [(7, vI (l7 + 1)), (5, vL (l5 + 0)), (3, vL (l3 + z36)), (8, vL z36), (0, vR 71), (1, vI l1), (2, vI l2)]) 6 rfl (by decide) rfl dX11_chance_105 rfl ?_
      refine x_goto (tgt := 53) dX11_chance_108 (by decide) ?_
      refine x_sub [4, 5, 6, 2, 1, 0] rfl ?_
      exact H
    · have H := H2 (Classical.byContradiction (fun z => hB (bz_0.mpr z)))
      refine x_lload (q := 98) 1 rfl dX11_chance_96 rfl ?_
      refine x_goto (tgt := 102) dX11_chance_98 (by decide) ?_
      refine x_ladd (q := 103) dX11_chance_102 rfl ?_
      refine x_lstore (q := 105) (ls' := [(5, vL (l5 + z36)), (3, vL (l3 + z36)), (8, vL z36), (0, vR 71), (1, vI l1), (2, vI l2), (7, vI l7)]) (by decide) rfl dX11_chance_103 rfl ?_
      refine x_iinc (q := 108) (ls' := [(7, vI (l7 + 1)), (5, vL (l5 + z36)), (3, vL (l3 + z36)), (8, vL z36), (0, vR 71), (1, vI l1), (2, vI l2)]) 6 rfl (by decide) rfl dX11_chance_105 rfl ?_
      refine x_goto (tgt := 53) dX11_chance_108 (by decide) ?_
      refine x_sub [4, 5, 6, 2, 1, 0] rfl ?_
      exact H
set_option maxRecDepth 20000 in
set_option maxHeartbeats 4000000 in
theorem B_X11_worst {G : GT} {d : Nat} {l1 : Int} {l2 : Int} {mem : Mem} {Q : Option AV → Mem → Prop} (hd : 2 ≤ d) (H : (inr l1) ∧ ((0 ≤ mem 72 0 ∧ mem 72 0 ≤ 12) ∧ ((¬ (0 ≤ l1 ∧ l1 < 2 ^ (mem 72 0).toNat) → (∀ m6 : Mem, m6 = fndM mem (-1000001) → (Q (some (vI (-1000001))) m6))) ∧ ((0 ≤ l1 ∧ l1 < 2 ^ (mem 72 0).toNat) → ((inr l2) ∧ (((0 ≤ l2 ∧ l2 ≤ 1) → (E_X11_worst G d 29 [(0, vR 71), (1, vI l1), (2, vI l2), (3, vI 0), (4, vI 0)] [] mem Q)) ∧ (¬ (0 ≤ l2 ∧ l2 ≤ 1) → (∀ m10 : Mem, m10 = fndM mem (-1000001) → (Q (some (vI (-1000001))) m10))))))))) : C_X11_worst G d [vR 71, vI l1, vI l2] mem Q := by
  refine Ct_of_Ex (by decide +kernel) (by exact Nat.le_of_ble_eq_true rfl) (ls := [(0, vR 71), (1, vI l1), (2, vI l2)]) rfl ?_
  show E_X11_worst G d 0 [(0, vR 71), (1, vI l1), (2, vI l2)] [] mem Q
  refine x_aloadn (q := 1) 0 rfl rfl rfl dX11_worst_0 rfl ?_
  refine x_iloadn (q := 2) 1 rfl rfl dX11_worst_1 rfl ?_
  obtain ⟨s1, H⟩ := H
  obtain ⟨⟨s2, s3⟩, H⟩ := H
  refine x_callV (q := 5) (d := d - 1) (as := [vI l1]) (st := []) dX11_worst_2 rfl mv_X11_207 sh_71 rfl rfl rfl (by exact Nat.le_of_ble_eq_true rfl) ⟨by show _ ≤ d; omega, by show _ ≤ 40 * d; omega⟩ ⟨Nat.le_refl _, Nat.le_refl _⟩ (ct_isSet (by omega) s2 s3 s1 ?_)
  show E_X11_worst G d 5 [(0, vR 71), (1, vI l1), (2, vI l2)] [vI (bz (0 ≤ l1 ∧ l1 < 2 ^ (mem 72 0).toNat))] mem Q
  obtain ⟨H1, H2⟩ := H
  refine x_if_eq (tgt := 17) (q := 8) dX11_worst_5 (by decide) rfl (bz_inr _) (fun hB => ?_) (fun hB => ?_)
  · have H := H1 (bz_0.mp hB)
    refine x_aloadn (q := 18) 0 rfl rfl rfl dX11_worst_17 rfl ?_
    refine x_ldc (q := 20) (z := (-1000001)) cn_X11_87 (by decide) dX11_worst_18 rfl ?_
    obtain ⟨m6, em6⟩ : ∃ m9 : Mem, m9 = fndM mem (-1000001) := ⟨_, rfl⟩
    have H := H m6 em6
    refine x_callV (q := 23) (d := d - 1) (as := [vI (-1000001)]) (st := []) dX11_worst_20 rfl mv_X11_88 sh_71 rfl rfl rfl (by exact Nat.le_of_ble_eq_true rfl) ⟨by show _ ≤ d; omega, by show _ ≤ 40 * d; omega⟩ ⟨Nat.le_refl _, Nat.le_refl _⟩ (ct_finding (by decide) (by decide) ?_)
    rw [← em6]
    show E_X11_worst G d 23 [(0, vR 71), (1, vI l1), (2, vI l2)] [vI (-1000001)] m6 Q
    exact x_iret rfl dX11_worst_23 H
  · have H := H2 (Classical.byContradiction (fun z => hB (bz_0.mpr z)))
    refine x_iloadn (q := 9) 2 rfl rfl dX11_worst_8 rfl ?_
    refine x_iconst (q := 10) dX11_worst_9 rfl ?_
    refine x_iconst (q := 11) dX11_worst_10 rfl ?_
    obtain ⟨s7, H⟩ := H
    refine x_callS (q := 14) (d := d - 1) (as := [vI l2, vI 0, vI 1]) (st := []) dX11_worst_11 rfl ms_X11_83 rfl rfl (by exact Nat.le_of_ble_eq_true rfl) ⟨by show _ ≤ d; omega, by show _ ≤ 40 * d; omega⟩ ⟨Nat.le_refl _, Nat.le_refl _⟩ (ct_within s7 (by decide) (by decide) ?_)
    show E_X11_worst G d 14 [(0, vR 71), (1, vI l1), (2, vI l2)] [vI (bz (0 ≤ l2 ∧ l2 ≤ 1))] mem Q
    obtain ⟨H1, H2⟩ := H
    refine x_if_ne (tgt := 24) (q := 17) dX11_worst_14 (by decide) rfl (bz_inr _) (fun hB => ?_) (fun hB => ?_)
    · have H := H1 (bz_n0.mp hB)
      refine x_iconst (q := 25) dX11_worst_24 rfl ?_
      refine x_istoren (q := 26) (ls' := [(3, vI 0), (0, vR 71), (1, vI l1), (2, vI l2)]) rfl (by decide) rfl dX11_worst_25 rfl ?_
      refine x_iconst (q := 27) dX11_worst_26 rfl ?_
      refine x_istore (q := 29) (ls' := [(4, vI 0), (3, vI 0), (0, vR 71), (1, vI l1), (2, vI l2)]) (by decide) rfl dX11_worst_27 rfl ?_
      refine x_sub [2, 3, 4, 1, 0] rfl ?_
      exact H
    · have H := H2 (fun z => hB (bz_n0.mpr z))
      refine x_aloadn (q := 18) 0 rfl rfl rfl dX11_worst_17 rfl ?_
      refine x_ldc (q := 20) (z := (-1000001)) cn_X11_87 (by decide) dX11_worst_18 rfl ?_
      obtain ⟨m10, em10⟩ : ∃ m9 : Mem, m9 = fndM mem (-1000001) := ⟨_, rfl⟩
      have H := H m10 em10
      refine x_callV (q := 23) (d := d - 1) (as := [vI (-1000001)]) (st := []) dX11_worst_20 rfl mv_X11_88 sh_71 rfl rfl rfl (by exact Nat.le_of_ble_eq_true rfl) ⟨by show _ ≤ d; omega, by show _ ≤ 40 * d; omega⟩ ⟨Nat.le_refl _, Nat.le_refl _⟩ (ct_finding (by decide) (by decide) ?_)
      rw [← em10]
      show E_X11_worst G d 23 [(0, vR 71), (1, vI l1), (2, vI l2)] [vI (-1000001)] m10 Q
      exact x_iret rfl dX11_worst_23 H
set_option maxRecDepth 20000 in
set_option maxHeartbeats 4000000 in
theorem B_X11_worst_29 {G : GT} {d : Nat} {l1 : Int} {l2 : Int} {l3 : Int} {l4 : Int} {mem : Mem} {Q : Option AV → Mem → Prop} (hd : 2 ≤ d) (H : (inr l4) ∧ (((144 ≤ l4) → (E_X11_worst G d 126 [(0, vR 71), (1, vI l1), (2, vI l2), (3, vI l3), (4, vI 0)] [] mem Q)) ∧ (¬ (144 ≤ l4) → ((0 ≤ 41 + l4 ∧ 41 + l4 < 553) ∧ (((mem 72 (41 + l4) ≤ 0) → (E_X11_worst G d 29 [(0, vR 71), (1, vI l1), (2, vI l2), (3, vI l3), (4, vI (l4 + 1))] [] mem Q)) ∧ (¬ (mem 72 (41 + l4) ≤ 0) → ((¬ (iand (ishr l1 (Int.tdiv l4 12)) 1 = 1) → (E_X11_worst G d 29 [(0, vR 71), (1, vI l1), (2, vI l2), (3, vI l3), (4, vI (l4 + 1))] [] mem Q)) ∧ ((iand (ishr l1 (Int.tdiv l4 12)) 1 = 1) → ((0 ≤ 5 + 3 * (Int.tdiv l4 12) + 0 ∧ 5 + 3 * (Int.tdiv l4 12) + 0 < 553) ∧ (((mem 72 (5 + 3 * (Int.tdiv l4 12) + 0) = 5) → (E_X11_worst G d 29 [(0, vR 71), (1, vI l1), (2, vI l2), (3, vI l3), (4, vI (l4 + 1))] [] mem Q)) ∧ (¬ (mem 72 (5 + 3 * (Int.tdiv l4 12) + 0) = 5) → ((inr l3) ∧ (((l3 ≠ 8) → ((0 ≤ l3 ∧ l3 < 8) ∧ (∀ m31 : Mem, m31 = upM mem 83 l3 l4 → (E_X11_worst G d 29 [(0, vR 71), (1, vI l1), (2, vI l2), (3, vI (l3 + 1)), (4, vI (l4 + 1))] [] m31 Q)))) ∧ (¬ (l3 ≠ 8) → (∀ m32 : Mem, m32 = fndM mem (-1000004) → (Q (some (vI (-1000004))) m32)))))))))))))))) : E_X11_worst G d 29 [(0, vR 71), (1, vI l1), (2, vI l2), (3, vI l3), (4, vI l4)] [] mem Q := by
  refine x_iload (q := 31) 4 rfl dX11_worst_29 rfl ?_
  refine x_sipush (q := 34) rfl dX11_worst_31 rfl ?_
  obtain ⟨s11, H⟩ := H
  obtain ⟨H1, H2⟩ := H
  refine x_icmp_ge (tgt := 123) (q := 37) dX11_worst_34 (by decide) rfl s11 (by decide) (fun hB => ?_) (fun hB => ?_)
  · have H := H1 (hB)
    refine x_iconst (q := 124) dX11_worst_123 rfl ?_
    refine x_istore (q := 126) (ls' := [(4, vI 0), (0, vR 71), (1, vI l1), (2, vI l2), (3, vI l3)]) (by decide) rfl dX11_worst_124 rfl ?_
    refine x_sub [1, 2, 3, 4, 0] rfl ?_
    exact H
  · have H := H2 (hB)
    refine x_aloadn (q := 38) 0 rfl rfl rfl dX11_worst_37 rfl ?_
    refine x_getr (q := 41) dX11_worst_38 rfl fa_X11_9 sh_71 rfl ?_
    refine x_bipush (q := 43) rfl dX11_worst_41 rfl ?_
    refine x_iload (q := 45) 4 rfl dX11_worst_43 rfl ?_
    refine x_iadd (q := 46) dX11_worst_45 rfl ?_
    obtain ⟨⟨s14, s15⟩, H⟩ := H
    refine x_iald (q := 47) dX11_worst_46 rfl sh_72 s14 s15 (fun r16 => ?_)
    obtain ⟨H1, H2⟩ := H
    refine x_if_le (tgt := 80) (q := 50) dX11_worst_47 (by decide) rfl r16 (fun hB => ?_) (fun hB => ?_)
    · have H := H1 (hB)
      refine x_iconst (q := 81) dX11_worst_80 rfl ?_
      refine x_istore (q := 83) (ls' := [(5, vI 0), (0, vR 71), (1, vI l1), (2, vI l2), (3, vI l3), (4, vI l4)]) (by decide) rfl dX11_worst_81 rfl ?_
      refine x_iload (q := 85) 0 rfl dX11_worst_83 rfl ?_
      refine x_if_eq (tgt := 101) (q := 88) dX11_worst_85 (by decide) rfl (by decide) (fun _ => ?_) (fun h => absurd (by decide) h)
      refine x_iload (q := 103) 0 rfl dX11_worst_101 rfl ?_
      refine x_if_eq (tgt := 117) (q := 106) dX11_worst_103 (by decide) rfl (by decide) (fun _ => ?_) (fun h => absurd (by decide) h)
      refine x_iinc (q := 120) (ls' := [(4, vI (l4 + 1)), (5, vI 0), (0, vR 71), (1, vI l1), (2, vI l2), (3, vI l3)]) 5 rfl (by decide) rfl dX11_worst_117 rfl ?_
      refine x_goto (tgt := 29) dX11_worst_120 (by decide) ?_
      refine x_sub [2, 3, 4, 5, 0] rfl ?_
      exact H
    · have H := H2 (hB)
      refine x_iloadn (q := 51) 1 rfl rfl dX11_worst_50 rfl ?_
      refine x_iload (q := 53) 4 rfl dX11_worst_51 rfl ?_
      refine x_bipush (q := 55) rfl dX11_worst_53 rfl ?_
      refine x_idiv (q := 56) s11 (by decide) (by decide) dX11_worst_55 rfl ?_
      refine x_callS (q := 59) (d := d - 1) (as := [vI l1, vI (Int.tdiv l4 12)]) (st := []) dX11_worst_56 rfl ms_X11_195 rfl rfl (by exact Nat.le_of_ble_eq_true rfl) ⟨by show _ ≤ d; omega, by show _ ≤ 40 * d; omega⟩ ⟨Nat.le_refl _, Nat.le_refl _⟩ (ct_hasb ?_)
      show E_X11_worst G d 59 [(0, vR 71), (1, vI l1), (2, vI l2), (3, vI l3), (4, vI l4)] [vI (bz (iand (ishr l1 (Int.tdiv l4 12)) 1 = 1))] mem Q
      obtain ⟨H1, H2⟩ := H
      refine x_if_eq (tgt := 80) (q := 62) dX11_worst_59 (by decide) rfl (bz_inr _) (fun hB => ?_) (fun hB => ?_)
      · have H := H1 (bz_0.mp hB)
        refine x_iconst (q := 81) dX11_worst_80 rfl ?_
        refine x_istore (q := 83) (ls' := [(5, vI 0), (0, vR 71), (1, vI l1), (2, vI l2), (3, vI l3), (4, vI l4)]) (by decide) rfl dX11_worst_81 rfl ?_
        refine x_iload (q := 85) 0 rfl dX11_worst_83 rfl ?_
        refine x_if_eq (tgt := 101) (q := 88) dX11_worst_85 (by decide) rfl (by decide) (fun _ => ?_) (fun h => absurd (by decide) h)
        refine x_iload (q := 103) 0 rfl dX11_worst_101 rfl ?_
        refine x_if_eq (tgt := 117) (q := 106) dX11_worst_103 (by decide) rfl (by decide) (fun _ => ?_) (fun h => absurd (by decide) h)
        refine x_iinc (q := 120) (ls' := [(4, vI (l4 + 1)), (5, vI 0), (0, vR 71), (1, vI l1), (2, vI l2), (3, vI l3)]) 5 rfl (by decide) rfl dX11_worst_117 rfl ?_
        refine x_goto (tgt := 29) dX11_worst_120 (by decide) ?_
        refine x_sub [2, 3, 4, 5, 0] rfl ?_
        exact H
      · have H := H2 (Classical.byContradiction (fun z => hB (bz_0.mpr z)))
        refine x_aloadn (q := 63) 0 rfl rfl rfl dX11_worst_62 rfl ?_
        refine x_iload (q := 65) 4 rfl dX11_worst_63 rfl ?_
        refine x_bipush (q := 67) rfl dX11_worst_65 rfl ?_
        refine x_idiv (q := 68) s11 (by decide) (by decide) dX11_worst_67 rfl ?_
        refine x_iconst (q := 69) dX11_worst_68 rfl ?_
        obtain ⟨⟨s21, s22⟩, H⟩ := H
        refine x_callV (q := 72) (d := d - 1) (as := [vI (Int.tdiv l4 12), vI 0]) (st := []) dX11_worst_69 rfl mv_X11_105 sh_71 rfl rfl rfl (by exact Nat.le_of_ble_eq_true rfl) ⟨by show _ ≤ d; omega, by show _ ≤ 40 * d; omega⟩ ⟨Nat.le_refl _, Nat.le_refl _⟩ (ct_machine11 s21 s22 ?_)
        show E_X11_worst G d 72 [(0, vR 71), (1, vI l1), (2, vI l2), (3, vI l3), (4, vI l4)] [vI (mem 72 (5 + 3 * (Int.tdiv l4 12) + 0))] mem Q
        refine x_iconst (q := 73) dX11_worst_72 rfl ?_
        refine x_ok (fun hm23 => ?_)
        obtain ⟨H1, H2⟩ := H
        refine x_icmp_eq (tgt := 80) (q := 76) dX11_worst_73 (by decide) rfl (ok_ai hm23 sh_72 (by decide) _) (by decide) (fun hB => ?_) (fun hB => ?_)
        · have H := H1 (hB)
          refine x_iconst (q := 81) dX11_worst_80 rfl ?_
          refine x_istore (q := 83) (ls' := [(5, vI 0), (0, vR 71), (1, vI l1), (2, vI l2), (3, vI l3), (4, vI l4)]) (by decide) rfl dX11_worst_81 rfl ?_
          refine x_iload (q := 85) 0 rfl dX11_worst_83 rfl ?_
          refine x_if_eq (tgt := 101) (q := 88) dX11_worst_85 (by decide) rfl (by decide) (fun _ => ?_) (fun h => absurd (by decide) h)
          refine x_iload (q := 103) 0 rfl dX11_worst_101 rfl ?_
          refine x_if_eq (tgt := 117) (q := 106) dX11_worst_103 (by decide) rfl (by decide) (fun _ => ?_) (fun h => absurd (by decide) h)
          refine x_iinc (q := 120) (ls' := [(4, vI (l4 + 1)), (5, vI 0), (0, vR 71), (1, vI l1), (2, vI l2), (3, vI l3)]) 5 rfl (by decide) rfl dX11_worst_117 rfl ?_
          refine x_goto (tgt := 29) dX11_worst_120 (by decide) ?_
          refine x_sub [2, 3, 4, 5, 0] rfl ?_
          exact H
        · have H := H2 (hB)
          refine x_iconst (q := 77) dX11_worst_76 rfl ?_
          refine x_goto (tgt := 81) dX11_worst_77 (by decide) ?_
          refine x_istore (q := 83) (ls' := [(5, vI 1), (0, vR 71), (1, vI l1), (2, vI l2), (3, vI l3), (4, vI l4)]) (by decide) rfl dX11_worst_81 rfl ?_
          refine x_iload (q := 85) 0 rfl dX11_worst_83 rfl ?_
          refine x_if_eq (tgt := 101) (q := 88) dX11_worst_85 (by decide) rfl (by decide) (fun h => absurd h (by decide)) (fun _ => ?_)
          refine x_iloadn (q := 89) 4 rfl rfl dX11_worst_88 rfl ?_
          refine x_bipush (q := 91) rfl dX11_worst_89 rfl ?_
          obtain ⟨s26, H⟩ := H
          obtain ⟨H1, H2⟩ := H
          refine x_icmp_ne (tgt := 101) (q := 94) dX11_worst_91 (by decide) rfl s26 (by decide) (fun hB => ?_) (fun hB => ?_)
          · have H := H1 (hB)
            refine x_iload (q := 103) 0 rfl dX11_worst_101 rfl ?_
            refine x_if_eq (tgt := 117) (q := 106) dX11_worst_103 (by decide) rfl (by decide) (fun h => absurd h (by decide)) (fun _ => ?_)
            refine x_aloadn (q := 107) 1 rfl rfl rfl dX11_worst_106 rfl ?_
            refine x_getr (q := 110) dX11_worst_107 rfl fa_X11_58 sh_71 rfl ?_
            refine x_iloadn (q := 111) 4 rfl rfl dX11_worst_110 rfl ?_
            refine x_iload (q := 113) 5 rfl dX11_worst_111 rfl ?_
            obtain ⟨⟨s29, s30⟩, H⟩ := H
            refine x_iast (q := 114) dX11_worst_113 rfl sh_83 s29 s30 s11 (fun m31 em31 => ?_)
            have H := H m31 em31
            refine x_iinc (q := 117) (ls' := [(3, vI (l3 + 1)), (5, vI 1), (0, vR 71), (1, vI l1), (2, vI l2), (4, vI l4)]) 4 rfl (by decide) rfl dX11_worst_114 rfl ?_
            refine x_iinc (q := 120) (ls' := [(4, vI (l4 + 1)), (3, vI (l3 + 1)), (5, vI 1), (0, vR 71), (1, vI l1), (2, vI l2)]) 5 rfl (by decide) rfl dX11_worst_117 rfl ?_
            refine x_goto (tgt := 29) dX11_worst_120 (by decide) ?_
            refine x_sub [3, 4, 5, 1, 0] rfl ?_
            exact H
          · have H := H2 (hB)
            refine x_aloadn (q := 95) 1 rfl rfl rfl dX11_worst_94 rfl ?_
            refine x_ldc (q := 97) (z := (-1000004)) cn_X11_92 (by decide) dX11_worst_95 rfl ?_
            obtain ⟨m32, em32⟩ : ∃ m9 : Mem, m9 = fndM mem (-1000004) := ⟨_, rfl⟩
            have H := H m32 em32
            refine x_callV (q := 100) (d := d - 1) (as := [vI (-1000004)]) (st := []) dX11_worst_97 rfl mv_X11_88 sh_71 rfl rfl rfl (by exact Nat.le_of_ble_eq_true rfl) ⟨by show _ ≤ d; omega, by show _ ≤ 40 * d; omega⟩ ⟨Nat.le_refl _, Nat.le_refl _⟩ (ct_finding (by decide) (by decide) ?_)
            rw [← em32]
            show E_X11_worst G d 100 [(5, vI 1), (0, vR 71), (1, vI l1), (2, vI l2), (3, vI l3), (4, vI l4)] [vI (-1000004)] m32 Q
            exact x_iret rfl dX11_worst_100 H
set_option maxRecDepth 20000 in
set_option maxHeartbeats 4000000 in
theorem B_X11_worst_126 {G : GT} {d : Nat} {l1 : Int} {l2 : Int} {l3 : Int} {l4 : Int} {mem : Mem} {Q : Option AV → Mem → Prop} (hd : 2 ≤ d) (H : (inr l4) ∧ (((ishl 1 l3 ≤ l4) → (E_X11_worst G d 168 [(0, vR 71), (1, vI l1), (2, vI l2), (3, vI l3), (4, vI 0)] [] mem Q)) ∧ (¬ (ishl 1 l3 ≤ l4) → (C_X11_letsAll G (d - 1) [vR 71, vI l1, vI l3, vI l4] mem (fun r9 m36 => ∃ z37 : Int, r9 = some (vI z37) ∧ ((inr z37) ∧ (((z37 = 0) → ((0 ≤ l4 ∧ l4 < 256) ∧ (∀ m43 : Mem, m43 = upM m36 84 l4 (-4096) → (E_X11_worst G d 126 [(0, vR 71), (1, vI l1), (2, vI l2), (3, vI l3), (4, vI (l4 + 1))] [] m43 Q)))) ∧ (¬ (z37 = 0) → ((0 ≤ l4 ∧ l4 < 256) ∧ (∀ m46 : Mem, m46 = upM m36 84 l4 0 → (E_X11_worst G d 126 [(0, vR 71), (1, vI l1), (2, vI l2), (3, vI l3), (4, vI (l4 + 1))] [] m46 Q))))))))))) : E_X11_worst G d 126 [(0, vR 71), (1, vI l1), (2, vI l2), (3, vI l3), (4, vI l4)] [] mem Q := by
  refine x_iload (q := 128) 4 rfl dX11_worst_126 rfl ?_
  refine x_iconst (q := 129) dX11_worst_128 rfl ?_
  refine x_iloadn (q := 130) 3 rfl rfl dX11_worst_129 rfl ?_
  refine x_ishl (q := 131) dX11_worst_130 rfl ?_
  obtain ⟨s33, H⟩ := H
  obtain ⟨H1, H2⟩ := H
  refine x_icmp_ge (tgt := 165) (q := 134) dX11_worst_131 (by decide) rfl s33 (ishl_inr _ _) (fun hB => ?_) (fun hB => ?_)
  · have H := H1 (hB)
    refine x_iconst (q := 166) dX11_worst_165 rfl ?_
    refine x_istore (q := 168) (ls' := [(4, vI 0), (0, vR 71), (1, vI l1), (2, vI l2), (3, vI l3)]) (by decide) rfl dX11_worst_166 rfl ?_
    refine x_sub [1, 2, 3, 4, 0] rfl ?_
    exact H
  · have H := H2 (hB)
    refine x_aloadn (q := 135) 0 rfl rfl rfl dX11_worst_134 rfl ?_
    refine x_getr (q := 138) dX11_worst_135 rfl fa_X11_61 sh_71 rfl ?_
    refine x_iload (q := 140) 4 rfl dX11_worst_138 rfl ?_
    refine x_aloadn (q := 141) 0 rfl rfl rfl dX11_worst_140 rfl ?_
    refine x_iloadn (q := 142) 1 rfl rfl dX11_worst_141 rfl ?_
    refine x_iloadn (q := 143) 3 rfl rfl dX11_worst_142 rfl ?_
    refine x_iload (q := 145) 4 rfl dX11_worst_143 rfl ?_
    refine x_callV (q := 148) (d := d - 1) (as := [vI l1, vI l3, vI l4]) (st := [vI l4, vR 84]) dX11_worst_145 rfl mv_X11_262 sh_71 rfl rfl rfl (by exact Nat.le_of_ble_eq_true rfl) ⟨by show _ ≤ d; omega, by show _ ≤ 40 * d; omega⟩ ⟨Nat.le_refl _, Nat.le_refl _⟩ (Ct.mono H (fun r9 m36 H => ?_))
    obtain ⟨z37, rfl, H⟩ := H
    show E_X11_worst G d 148 [(0, vR 71), (1, vI l1), (2, vI l2), (3, vI l3), (4, vI l4)] [vI z37, vI l4, vR 84] m36 Q
    obtain ⟨s38, H⟩ := H
    obtain ⟨H1, H2⟩ := H
    refine x_if_eq (tgt := 155) (q := 151) dX11_worst_148 (by decide) rfl s38 (fun hB => ?_) (fun hB => ?_)
    · have H := H1 (hB)
      refine x_sipush (q := 158) rfl dX11_worst_155 rfl ?_
      obtain ⟨⟨s41, s42⟩, H⟩ := H
      refine x_iast (q := 159) dX11_worst_158 rfl sh_84 s41 s42 (by decide) (fun m43 em43 => ?_)
      have H := H m43 em43
      refine x_iinc (q := 162) (ls' := [(4, vI (l4 + 1)), (0, vR 71), (1, vI l1), (2, vI l2), (3, vI l3)]) 4 rfl (by decide) rfl dX11_worst_159 rfl ?_
      refine x_goto (tgt := 126) dX11_worst_162 (by decide) ?_
      refine x_sub [1, 2, 3, 4, 0] rfl ?_
      exact H
    · have H := H2 (hB)
      refine x_iconst (q := 152) dX11_worst_151 rfl ?_
      refine x_goto (tgt := 158) dX11_worst_152 (by decide) ?_
      obtain ⟨⟨s44, s45⟩, H⟩ := H
      refine x_iast (q := 159) dX11_worst_158 rfl sh_84 s44 s45 (by decide) (fun m46 em46 => ?_)
      have H := H m46 em46
      refine x_iinc (q := 162) (ls' := [(4, vI (l4 + 1)), (0, vR 71), (1, vI l1), (2, vI l2), (3, vI l3)]) 4 rfl (by decide) rfl dX11_worst_159 rfl ?_
      refine x_goto (tgt := 126) dX11_worst_162 (by decide) ?_
      refine x_sub [1, 2, 3, 4, 0] rfl ?_
      exact H
set_option maxRecDepth 20000 in
set_option maxHeartbeats 4000000 in
theorem B_X11_worst_168 {G : GT} {d : Nat} {l1 : Int} {l2 : Int} {l3 : Int} {l4 : Int} {mem : Mem} {Q : Option AV → Mem → Prop} (hd : 2 ≤ d) (H : (inr l4 ∧ inr (ishl 1 (mem 72 0) - 1)) ∧ (((ishl 1 (mem 72 0) - 1 < l4) → (E_X11_worst G d 267 [(0, vR 71), (2, vI l2), (3, vI l3), (4, vI (-1)), (5, vI 0)] [] mem Q)) ∧ (¬ (ishl 1 (mem 72 0) - 1 < l4) → ((inr (sm 12 (fun k => iand (ishr l4 k) 1))) ∧ (((mem 72 2 < sm 12 (fun k => iand (ishr l4 k) 1)) → (E_X11_worst G d 168 [(0, vR 71), (1, vI l1), (2, vI l2), (3, vI l3), (4, vI (l4 + 1))] [] mem Q)) ∧ (¬ (mem 72 2 < sm 12 (fun k => iand (ishr l4 k) 1)) → (C_X11_letsWhole G (d - 1) [vR 71, vI l4, vI l1] mem (fun r9 m55 => ∃ z56 : Int, r9 = some (vI z56) ∧ ((inr z56) ∧ (((z56 = 0) → (E_X11_worst G d 168 [(0, vR 71), (1, vI l1), (2, vI l2), (3, vI l3), (4, vI (l4 + 1))] [] m55 Q)) ∧ (¬ (z56 = 0) → (E_X11_worst G d 204 [(0, vR 71), (1, vI l1), (2, vI l2), (3, vI l3), (4, vI l4), (5, vI 0)] [] m55 Q)))))))))))) : E_X11_worst G d 168 [(0, vR 71), (1, vI l1), (2, vI l2), (3, vI l3), (4, vI l4)] [] mem Q := by
  refine x_iload (q := 170) 4 rfl dX11_worst_168 rfl ?_
  refine x_aloadn (q := 171) 0 rfl rfl rfl dX11_worst_170 rfl ?_
  refine x_callV (q := 174) (d := d - 1) (as := []) (st := [vI l4]) dX11_worst_171 rfl mv_X11_192 sh_71 rfl rfl rfl (by exact Nat.le_of_ble_eq_true rfl) ⟨by show _ ≤ d; omega, by show _ ≤ 40 * d; omega⟩ ⟨Nat.le_refl _, Nat.le_refl _⟩ (ct_all ?_)
  show E_X11_worst G d 174 [(0, vR 71), (1, vI l1), (2, vI l2), (3, vI l3), (4, vI l4)] [vI (ishl 1 (mem 72 0) - 1), vI l4] mem Q
  obtain ⟨⟨s47, s48⟩, H⟩ := H
  obtain ⟨H1, H2⟩ := H
  refine x_icmp_gt (tgt := 261) (q := 177) dX11_worst_174 (by decide) rfl s47 s48 (fun hB => ?_) (fun hB => ?_)
  · have H := H1 (hB)
    refine x_iconst (q := 262) dX11_worst_261 rfl ?_
    refine x_istore (q := 264) (ls' := [(4, vI (-1)), (0, vR 71), (1, vI l1), (2, vI l2), (3, vI l3)]) (by decide) rfl dX11_worst_262 rfl ?_
    refine x_iconst (q := 265) dX11_worst_264 rfl ?_
    refine x_istore (q := 267) (ls' := [(5, vI 0), (4, vI (-1)), (0, vR 71), (1, vI l1), (2, vI l2), (3, vI l3)]) (by decide) rfl dX11_worst_265 rfl ?_
    refine x_sub [2, 4, 5, 1, 0] rfl ?_
    exact H
  · have H := H2 (hB)
    refine x_iload (q := 179) 4 rfl dX11_worst_177 rfl ?_
    refine x_callS (q := 182) (d := d - 1) (as := [vI l4]) (st := []) dX11_worst_179 rfl ms_X11_202 rfl rfl (by exact Nat.le_of_ble_eq_true rfl) ⟨by show _ ≤ d; omega, by show _ ≤ 40 * d; omega⟩ ⟨Nat.le_refl _, Nat.le_refl _⟩ (ct_bits ?_)
    show E_X11_worst G d 182 [(0, vR 71), (1, vI l1), (2, vI l2), (3, vI l3), (4, vI l4)] [vI (sm 12 (fun k => iand (ishr l4 k) 1))] mem Q
    refine x_aloadn (q := 183) 0 rfl rfl rfl dX11_worst_182 rfl ?_
    refine x_getr (q := 186) dX11_worst_183 rfl fa_X11_9 sh_71 rfl ?_
    refine x_iconst (q := 187) dX11_worst_186 rfl ?_
    refine x_iald (q := 188) dX11_worst_187 rfl sh_72 (by decide) (by decide) (fun r51 => ?_)
    obtain ⟨s52, H⟩ := H
    obtain ⟨H1, H2⟩ := H
    refine x_icmp_gt (tgt := 255) (q := 191) dX11_worst_188 (by decide) rfl s52 r51 (fun hB => ?_) (fun hB => ?_)
    · have H := H1 (hB)
      refine x_iinc (q := 258) (ls' := [(4, vI (l4 + 1)), (0, vR 71), (1, vI l1), (2, vI l2), (3, vI l3)]) 4 rfl (by decide) rfl dX11_worst_255 rfl ?_
      refine x_goto (tgt := 168) dX11_worst_258 (by decide) ?_
      refine x_sub [1, 2, 3, 4, 0] rfl ?_
      exact H
    · have H := H2 (hB)
      refine x_aloadn (q := 192) 0 rfl rfl rfl dX11_worst_191 rfl ?_
      refine x_iload (q := 194) 4 rfl dX11_worst_192 rfl ?_
      refine x_iloadn (q := 195) 1 rfl rfl dX11_worst_194 rfl ?_
      refine x_callV (q := 198) (d := d - 1) (as := [vI l4, vI l1]) (st := []) dX11_worst_195 rfl mv_X11_265 sh_71 rfl rfl rfl (by exact Nat.le_of_ble_eq_true rfl) ⟨by show _ ≤ d; omega, by show _ ≤ 40 * d; omega⟩ ⟨Nat.le_refl _, Nat.le_refl _⟩ (Ct.mono H (fun r9 m55 H => ?_))
      obtain ⟨z56, rfl, H⟩ := H
      show E_X11_worst G d 198 [(0, vR 71), (1, vI l1), (2, vI l2), (3, vI l3), (4, vI l4)] [vI z56] m55 Q
      obtain ⟨s57, H⟩ := H
      obtain ⟨H1, H2⟩ := H
      refine x_if_eq (tgt := 255) (q := 201) dX11_worst_198 (by decide) rfl s57 (fun hB => ?_) (fun hB => ?_)
      · have H := H1 (hB)
        refine x_iinc (q := 258) (ls' := [(4, vI (l4 + 1)), (0, vR 71), (1, vI l1), (2, vI l2), (3, vI l3)]) 4 rfl (by decide) rfl dX11_worst_255 rfl ?_
        refine x_goto (tgt := 168) dX11_worst_258 (by decide) ?_
        refine x_sub [1, 2, 3, 4, 0] rfl ?_
        exact H
      · have H := H2 (hB)
        refine x_iconst (q := 202) dX11_worst_201 rfl ?_
        refine x_istore (q := 204) (ls' := [(5, vI 0), (0, vR 71), (1, vI l1), (2, vI l2), (3, vI l3), (4, vI l4)]) (by decide) rfl dX11_worst_202 rfl ?_
        refine x_sub [1, 2, 3, 4, 5, 0] rfl ?_
        exact H
set_option maxRecDepth 20000 in
set_option maxHeartbeats 4000000 in
theorem B_X11_worst_267 {G : GT} {d : Nat} {l2 : Int} {l3 : Int} {l4 : Int} {l5 : Int} {mem : Mem} {Q : Option AV → Mem → Prop} (hd : 2 ≤ d) (H : (inr l5) ∧ (((ishl 1 l3 ≤ l5) → ((inr l2) ∧ (((l2 ≠ 0) → (Q (some (vI l4)) mem)) ∧ (¬ (l2 ≠ 0) → ((0 ≤ l4 ∧ l4 < 256) ∧ (Q (some (vI (mem 84 l4))) mem)))))) ∧ (¬ (ishl 1 l3 ≤ l5) → ((0 ≤ l5 ∧ l5 < 256) ∧ (((mem 84 l5 < 0) → (E_X11_worst G d 267 [(0, vR 71), (2, vI l2), (3, vI l3), (4, vI l4), (5, vI (l5 + 1))] [] mem Q)) ∧ (¬ (mem 84 l5 < 0) → ((inr l4) ∧ (((l4 < 0) → (E_X11_worst G d 267 [(0, vR 71), (2, vI l2), (3, vI l3), (4, vI l5), (5, vI (l5 + 1))] [] mem Q)) ∧ (¬ (l4 < 0) → ((0 ≤ l4 ∧ l4 < 256) ∧ (((mem 84 l5 ≤ mem 84 l4) → (E_X11_worst G d 267 [(0, vR 71), (2, vI l2), (3, vI l3), (4, vI l4), (5, vI (l5 + 1))] [] mem Q)) ∧ (¬ (mem 84 l5 ≤ mem 84 l4) → (E_X11_worst G d 267 [(0, vR 71), (2, vI l2), (3, vI l3), (4, vI l5), (5, vI (l5 + 1))] [] mem Q))))))))))))) : E_X11_worst G d 267 [(0, vR 71), (2, vI l2), (3, vI l3), (4, vI l4), (5, vI l5)] [] mem Q := by
  refine x_iload (q := 269) 4 rfl dX11_worst_267 rfl ?_
  refine x_iconst (q := 270) dX11_worst_269 rfl ?_
  refine x_iloadn (q := 271) 2 rfl rfl dX11_worst_270 rfl ?_
  refine x_ishl (q := 272) dX11_worst_271 rfl ?_
  obtain ⟨s60, H⟩ := H
  obtain ⟨H1, H2⟩ := H
  refine x_icmp_ge (tgt := 322) (q := 275) dX11_worst_272 (by decide) rfl s60 (ishl_inr _ _) (fun hB => ?_) (fun hB => ?_)
  · have H := H1 (hB)
    refine x_iloadn (q := 323) 1 rfl rfl dX11_worst_322 rfl ?_
    obtain ⟨s63, H⟩ := H
    obtain ⟨H1, H2⟩ := H
    refine x_if_ne (tgt := 336) (q := 326) dX11_worst_323 (by decide) rfl s63 (fun hB => ?_) (fun hB => ?_)
    · have H := H1 (hB)
      refine x_iload (q := 338) 3 rfl dX11_worst_336 rfl ?_
      exact x_iret rfl dX11_worst_338 H
    · have H := H2 (hB)
      refine x_aloadn (q := 327) 0 rfl rfl rfl dX11_worst_326 rfl ?_
      refine x_getr (q := 330) dX11_worst_327 rfl fa_X11_61 sh_71 rfl ?_
      refine x_iload (q := 332) 3 rfl dX11_worst_330 rfl ?_
      obtain ⟨⟨s66, s67⟩, H⟩ := H
      refine x_iald (q := 333) dX11_worst_332 rfl sh_84 s66 s67 (fun r68 => ?_)
      refine x_goto (tgt := 338) dX11_worst_333 (by decide) ?_
      exact x_iret rfl dX11_worst_338 H
  · have H := H2 (hB)
    refine x_aloadn (q := 276) 0 rfl rfl rfl dX11_worst_275 rfl ?_
    refine x_getr (q := 279) dX11_worst_276 rfl fa_X11_61 sh_71 rfl ?_
    refine x_iload (q := 281) 4 rfl dX11_worst_279 rfl ?_
    obtain ⟨⟨s69, s70⟩, H⟩ := H
    refine x_iald (q := 282) dX11_worst_281 rfl sh_84 s69 s70 (fun r71 => ?_)
    obtain ⟨H1, H2⟩ := H
    refine x_if_lt (tgt := 312) (q := 285) dX11_worst_282 (by decide) rfl r71 (fun hB => ?_) (fun hB => ?_)
    · have H := H1 (hB)
      refine x_iload (q := 314) 3 rfl dX11_worst_312 rfl ?_
      refine x_istore (q := 316) (ls' := [(4, vI l4), (0, vR 71), (2, vI l2), (3, vI l3), (5, vI l5)]) (by decide) rfl dX11_worst_314 rfl ?_
      refine x_iinc (q := 319) (ls' := [(5, vI (l5 + 1)), (4, vI l4), (0, vR 71), (2, vI l2), (3, vI l3)]) 4 rfl (by decide) rfl dX11_worst_316 rfl ?_
      refine x_goto (tgt := 267) dX11_worst_319 (by decide) ?_
      refine x_sub [2, 3, 4, 1, 0] rfl ?_
      exact H
    · have H := H2 (hB)
      refine x_iload (q := 287) 3 rfl dX11_worst_285 rfl ?_
      obtain ⟨s74, H⟩ := H
      obtain ⟨H1, H2⟩ := H
      refine x_if_lt (tgt := 307) (q := 290) dX11_worst_287 (by decide) rfl s74 (fun hB => ?_) (fun hB => ?_)
      · have H := H1 (hB)
        refine x_iload (q := 309) 4 rfl dX11_worst_307 rfl ?_
        refine x_goto (tgt := 314) dX11_worst_309 (by decide) ?_
        refine x_istore (q := 316) (ls' := [(4, vI l5), (0, vR 71), (2, vI l2), (3, vI l3), (5, vI l5)]) (by decide) rfl dX11_worst_314 rfl ?_
        refine x_iinc (q := 319) (ls' := [(5, vI (l5 + 1)), (4, vI l5), (0, vR 71), (2, vI l2), (3, vI l3)]) 4 rfl (by decide) rfl dX11_worst_316 rfl ?_
        refine x_goto (tgt := 267) dX11_worst_319 (by decide) ?_
        refine x_sub [2, 3, 4, 1, 0] rfl ?_
        exact H
      · have H := H2 (hB)
        refine x_aloadn (q := 291) 0 rfl rfl rfl dX11_worst_290 rfl ?_
        refine x_getr (q := 294) dX11_worst_291 rfl fa_X11_61 sh_71 rfl ?_
        refine x_iload (q := 296) 4 rfl dX11_worst_294 rfl ?_
        refine x_iald (q := 297) dX11_worst_296 rfl sh_84 s69 s70 (fun r77 => ?_)
        refine x_aloadn (q := 298) 0 rfl rfl rfl dX11_worst_297 rfl ?_
        refine x_getr (q := 301) dX11_worst_298 rfl fa_X11_61 sh_71 rfl ?_
        refine x_iload (q := 303) 3 rfl dX11_worst_301 rfl ?_
        obtain ⟨⟨s78, s79⟩, H⟩ := H
        refine x_iald (q := 304) dX11_worst_303 rfl sh_84 s78 s79 (fun r80 => ?_)
        obtain ⟨H1, H2⟩ := H
        refine x_icmp_le (tgt := 312) (q := 307) dX11_worst_304 (by decide) rfl r77 r80 (fun hB => ?_) (fun hB => ?_)
        · have H := H1 (hB)
          refine x_iload (q := 314) 3 rfl dX11_worst_312 rfl ?_
          refine x_istore (q := 316) (ls' := [(4, vI l4), (0, vR 71), (2, vI l2), (3, vI l3), (5, vI l5)]) (by decide) rfl dX11_worst_314 rfl ?_
          refine x_iinc (q := 319) (ls' := [(5, vI (l5 + 1)), (4, vI l4), (0, vR 71), (2, vI l2), (3, vI l3)]) 4 rfl (by decide) rfl dX11_worst_316 rfl ?_
          refine x_goto (tgt := 267) dX11_worst_319 (by decide) ?_
          refine x_sub [2, 3, 4, 1, 0] rfl ?_
          exact H
        · have H := H2 (hB)
          refine x_iload (q := 309) 4 rfl dX11_worst_307 rfl ?_
          refine x_goto (tgt := 314) dX11_worst_309 (by decide) ?_
          refine x_istore (q := 316) (ls' := [(4, vI l5), (0, vR 71), (2, vI l2), (3, vI l3), (5, vI l5)]) (by decide) rfl dX11_worst_314 rfl ?_
          refine x_iinc (q := 319) (ls' := [(5, vI (l5 + 1)), (4, vI l5), (0, vR 71), (2, vI l2), (3, vI l3)]) 4 rfl (by decide) rfl dX11_worst_316 rfl ?_
          refine x_goto (tgt := 267) dX11_worst_319 (by decide) ?_
          refine x_sub [2, 3, 4, 1, 0] rfl ?_
          exact H
set_option maxRecDepth 20000 in
set_option maxHeartbeats 4000000 in
theorem B_X11_worst_204 {G : GT} {d : Nat} {l1 : Int} {l2 : Int} {l3 : Int} {l4 : Int} {l5 : Int} {mem : Mem} {Q : Option AV → Mem → Prop} (hd : 2 ≤ d) (H : (inr l5) ∧ (((ishl 1 l3 ≤ l5) → (E_X11_worst G d 168 [(0, vR 71), (1, vI l1), (2, vI l2), (3, vI l3), (4, vI (l4 + 1))] [] mem Q)) ∧ (¬ (ishl 1 l3 ≤ l5) → ((0 ≤ l5 ∧ l5 < 256) ∧ (((mem 84 l5 < 0) → ((inr ((mem 84 l5) + 0)) ∧ (∀ m92 : Mem, m92 = upM mem 84 l5 ((mem 84 l5) + 0) → (E_X11_worst G d 204 [(0, vR 71), (1, vI l1), (2, vI l2), (3, vI l3), (4, vI l4), (5, vI (l5 + 1))] [] m92 Q)))) ∧ (¬ (mem 84 l5 < 0) → (C_X11_letsAll G (d - 1) [vR 71, vI l4, vI l3, vI l5] mem (fun r9 m94 => ∃ z95 : Int, r9 = some (vI z95) ∧ ((inr z95) ∧ (((z95 = 0) → ((inr ((mem 84 l5) + 0)) ∧ (∀ m99 : Mem, m99 = upM m94 84 l5 ((mem 84 l5) + 0) → (E_X11_worst G d 204 [(0, vR 71), (1, vI l1), (2, vI l2), (3, vI l3), (4, vI l4), (5, vI (l5 + 1))] [] m99 Q)))) ∧ (¬ (z95 = 0) → ((inr ((mem 84 l5) + 1)) ∧ (∀ m101 : Mem, m101 = upM m94 84 l5 ((mem 84 l5) + 1) → (E_X11_worst G d 204 [(0, vR 71), (1, vI l1), (2, vI l2), (3, vI l3), (4, vI l4), (5, vI (l5 + 1))] [] m101 Q)))))))))))))) : E_X11_worst G d 204 [(0, vR 71), (1, vI l1), (2, vI l2), (3, vI l3), (4, vI l4), (5, vI l5)] [] mem Q := by
  refine x_iload (q := 206) 5 rfl dX11_worst_204 rfl ?_
  refine x_iconst (q := 207) dX11_worst_206 rfl ?_
  refine x_iloadn (q := 208) 3 rfl rfl dX11_worst_207 rfl ?_
  refine x_ishl (q := 209) dX11_worst_208 rfl ?_
  obtain ⟨s83, H⟩ := H
  obtain ⟨H1, H2⟩ := H
  refine x_icmp_ge (tgt := 255) (q := 212) dX11_worst_209 (by decide) rfl s83 (ishl_inr _ _) (fun hB => ?_) (fun hB => ?_)
  · have H := H1 (hB)
    refine x_iinc (q := 258) (ls' := [(4, vI (l4 + 1)), (0, vR 71), (1, vI l1), (2, vI l2), (3, vI l3), (5, vI l5)]) 4 rfl (by decide) rfl dX11_worst_255 rfl ?_
    refine x_goto (tgt := 168) dX11_worst_258 (by decide) ?_
    refine x_sub [1, 2, 3, 4, 0] rfl ?_
    exact H
  · have H := H2 (hB)
    refine x_aloadn (q := 213) 0 rfl rfl rfl dX11_worst_212 rfl ?_
    refine x_getr (q := 216) dX11_worst_213 rfl fa_X11_61 sh_71 rfl ?_
    refine x_iload (q := 218) 5 rfl dX11_worst_216 rfl ?_
    refine x_dup2 (q := 219) (by exact Nat.ne_of_beq_eq_false rfl) (by exact Nat.ne_of_beq_eq_false rfl) dX11_worst_218 rfl ?_
    obtain ⟨⟨s86, s87⟩, H⟩ := H
    refine x_iald (q := 220) dX11_worst_219 rfl sh_84 s86 s87 (fun r88 => ?_)
    refine x_aloadn (q := 221) 0 rfl rfl rfl dX11_worst_220 rfl ?_
    refine x_getr (q := 224) dX11_worst_221 rfl fa_X11_61 sh_71 rfl ?_
    refine x_iload (q := 226) 5 rfl dX11_worst_224 rfl ?_
    refine x_iald (q := 227) dX11_worst_226 rfl sh_84 s86 s87 (fun r89 => ?_)
    obtain ⟨H1, H2⟩ := H
    refine x_if_lt (tgt := 246) (q := 230) dX11_worst_227 (by decide) rfl r89 (fun hB => ?_) (fun hB => ?_)
    · have H := H1 (hB)
      refine x_iconst (q := 247) dX11_worst_246 rfl ?_
      refine x_iadd (q := 248) dX11_worst_247 rfl ?_
      obtain ⟨s93, H⟩ := H
      refine x_iast (q := 249) dX11_worst_248 rfl sh_84 s86 s87 s93 (fun m92 em92 => ?_)
      have H := H m92 em92
      refine x_iinc (q := 252) (ls' := [(5, vI (l5 + 1)), (0, vR 71), (1, vI l1), (2, vI l2), (3, vI l3), (4, vI l4)]) 5 rfl (by decide) rfl dX11_worst_249 rfl ?_
      refine x_goto (tgt := 204) dX11_worst_252 (by decide) ?_
      refine x_sub [1, 2, 3, 4, 5, 0] rfl ?_
      exact H
    · have H := H2 (hB)
      refine x_aloadn (q := 231) 0 rfl rfl rfl dX11_worst_230 rfl ?_
      refine x_iload (q := 233) 4 rfl dX11_worst_231 rfl ?_
      refine x_iloadn (q := 234) 3 rfl rfl dX11_worst_233 rfl ?_
      refine x_iload (q := 236) 5 rfl dX11_worst_234 rfl ?_
      refine x_callV (q := 239) (d := d - 1) (as := [vI l4, vI l3, vI l5]) (st := [vI (mem 84 l5), vI l5, vR 84]) dX11_worst_236 rfl mv_X11_262 sh_71 rfl rfl rfl (by exact Nat.le_of_ble_eq_true rfl) ⟨by show _ ≤ d; omega, by show _ ≤ 40 * d; omega⟩ ⟨Nat.le_refl _, Nat.le_refl _⟩ (Ct.mono H (fun r9 m94 H => ?_))
      obtain ⟨z95, rfl, H⟩ := H
      show E_X11_worst G d 239 [(0, vR 71), (1, vI l1), (2, vI l2), (3, vI l3), (4, vI l4), (5, vI l5)] [vI z95, vI (mem 84 l5), vI l5, vR 84] m94 Q
      obtain ⟨s96, H⟩ := H
      obtain ⟨H1, H2⟩ := H
      refine x_if_eq (tgt := 246) (q := 242) dX11_worst_239 (by decide) rfl s96 (fun hB => ?_) (fun hB => ?_)
      · have H := H1 (hB)
        refine x_iconst (q := 247) dX11_worst_246 rfl ?_
        refine x_iadd (q := 248) dX11_worst_247 rfl ?_
        obtain ⟨s100, H⟩ := H
        refine x_iast (q := 249) dX11_worst_248 rfl sh_84 s86 s87 s100 (fun m99 em99 => ?_)
        have H := H m99 em99
        refine x_iinc (q := 252) (ls' := [(5, vI (l5 + 1)), (0, vR 71), (1, vI l1), (2, vI l2), (3, vI l3), (4, vI l4)]) 5 rfl (by decide) rfl dX11_worst_249 rfl ?_
        refine x_goto (tgt := 204) dX11_worst_252 (by decide) ?_
        refine x_sub [1, 2, 3, 4, 5, 0] rfl ?_
        exact H
      · have H := H2 (hB)
        refine x_iconst (q := 243) dX11_worst_242 rfl ?_
        refine x_goto (tgt := 247) dX11_worst_243 (by decide) ?_
        refine x_iadd (q := 248) dX11_worst_247 rfl ?_
        obtain ⟨s102, H⟩ := H
        refine x_iast (q := 249) dX11_worst_248 rfl sh_84 s86 s87 s102 (fun m101 em101 => ?_)
        have H := H m101 em101
        refine x_iinc (q := 252) (ls' := [(5, vI (l5 + 1)), (0, vR 71), (1, vI l1), (2, vI l2), (3, vI l3), (4, vI l4)]) 5 rfl (by decide) rfl dX11_worst_249 rfl ?_
        refine x_goto (tgt := 204) dX11_worst_252 (by decide) ?_
        refine x_sub [1, 2, 3, 4, 5, 0] rfl ?_
        exact H
set_option maxRecDepth 20000 in
set_option maxHeartbeats 4000000 in
theorem B_X11_mend {G : GT} {d : Nat} {l1 : Int} {mem : Mem} {Q : Option AV → Mem → Prop} (hd : 1 ≤ d) (H : (inr l1) ∧ (((0 ≤ l1 ∧ l1 ≤ 9999) → (E_X11_mend G d 20 [(0, vR 71), (1, vI l1), (2, vI 0)] [] mem Q)) ∧ (¬ (0 ≤ l1 ∧ l1 ≤ 9999) → (∀ m4 : Mem, m4 = fndM mem (-1000001) → (Q (some (vI (-1000001))) m4))))) : C_X11_mend G d [vR 71, vI l1] mem Q := by
  refine Ct_of_Ex (by decide +kernel) (by exact Nat.le_of_ble_eq_true rfl) (ls := [(0, vR 71), (1, vI l1)]) rfl ?_
  show E_X11_mend G d 0 [(0, vR 71), (1, vI l1)] [] mem Q
  refine x_iloadn (q := 1) 1 rfl rfl dX11_mend_0 rfl ?_
  refine x_iconst (q := 2) dX11_mend_1 rfl ?_
  refine x_sipush (q := 5) rfl dX11_mend_2 rfl ?_
  obtain ⟨s1, H⟩ := H
  refine x_callS (q := 8) (d := d - 1) (as := [vI l1, vI 0, vI 9999]) (st := []) dX11_mend_5 rfl ms_X11_83 rfl rfl (by exact Nat.le_of_ble_eq_true rfl) ⟨by show _ ≤ d; omega, by show _ ≤ 40 * d; omega⟩ ⟨Nat.le_refl _, Nat.le_refl _⟩ (ct_within s1 (by decide) (by decide) ?_)
  show E_X11_mend G d 8 [(0, vR 71), (1, vI l1)] [vI (bz (0 ≤ l1 ∧ l1 ≤ 9999))] mem Q
  obtain ⟨H1, H2⟩ := H
  refine x_if_ne (tgt := 18) (q := 11) dX11_mend_8 (by decide) rfl (bz_inr _) (fun hB => ?_) (fun hB => ?_)
  · have H := H1 (bz_n0.mp hB)
    refine x_iconst (q := 19) dX11_mend_18 rfl ?_
    refine x_istoren (q := 20) (ls' := [(2, vI 0), (0, vR 71), (1, vI l1)]) rfl (by decide) rfl dX11_mend_19 rfl ?_
    refine x_sub [1, 2, 0] rfl ?_
    exact H
  · have H := H2 (fun z => hB (bz_n0.mpr z))
    refine x_aloadn (q := 12) 0 rfl rfl rfl dX11_mend_11 rfl ?_
    refine x_ldc (q := 14) (z := (-1000001)) cn_X11_87 (by decide) dX11_mend_12 rfl ?_
    obtain ⟨m4, em4⟩ : ∃ m9 : Mem, m9 = fndM mem (-1000001) := ⟨_, rfl⟩
    have H := H m4 em4
    refine x_callV (q := 17) (d := d - 1) (as := [vI (-1000001)]) (st := []) dX11_mend_14 rfl mv_X11_88 sh_71 rfl rfl rfl (by exact Nat.le_of_ble_eq_true rfl) ⟨by show _ ≤ d; omega, by show _ ≤ 40 * d; omega⟩ ⟨Nat.le_refl _, Nat.le_refl _⟩ (ct_finding (by decide) (by decide) ?_)
    rw [← em4]
    show E_X11_mend G d 17 [(0, vR 71), (1, vI l1)] [vI (-1000001)] m4 Q
    exact x_iret rfl dX11_mend_17 H
set_option maxRecDepth 20000 in
set_option maxHeartbeats 4000000 in
theorem B_X11_mend_20 {G : GT} {d : Nat} {l1 : Int} {l2 : Int} {mem : Mem} {Q : Option AV → Mem → Prop} (hd : 1 ≤ d) (H : (inr l2 ∧ inr (ishl 1 (mem 72 0) - 1)) ∧ (((ishl 1 (mem 72 0) - 1 < l2) → (E_X11_mend G d 55 [(0, vR 71), (1, vI l1), (2, vI 0)] [] mem Q)) ∧ (¬ (ishl 1 (mem 72 0) - 1 < l2) → (C_X11_barsOf G (d - 1) [vR 71, vI l2] mem (fun r9 m9 => ∃ z10 : Int, r9 = some (vI z10) ∧ ((inr z10) ∧ (((0 ≤ z10) → ((0 ≤ l2 ∧ l2 < 4096) ∧ (∀ m16 : Mem, m16 = upM m9 85 l2 0 → (E_X11_mend G d 20 [(0, vR 71), (1, vI l1), (2, vI (l2 + 1))] [] m16 Q)))) ∧ (¬ (0 ≤ z10) → ((0 ≤ l2 ∧ l2 < 4096) ∧ (∀ m19 : Mem, m19 = upM m9 85 l2 1 → (E_X11_mend G d 20 [(0, vR 71), (1, vI l1), (2, vI (l2 + 1))] [] m19 Q))))))))))) : E_X11_mend G d 20 [(0, vR 71), (1, vI l1), (2, vI l2)] [] mem Q := by
  refine x_iloadn (q := 21) 2 rfl rfl dX11_mend_20 rfl ?_
  refine x_aloadn (q := 22) 0 rfl rfl rfl dX11_mend_21 rfl ?_
  refine x_callV (q := 25) (d := d - 1) (as := []) (st := [vI l2]) dX11_mend_22 rfl mv_X11_192 sh_71 rfl rfl rfl (by exact Nat.le_of_ble_eq_true rfl) ⟨by show _ ≤ d; omega, by show _ ≤ 40 * d; omega⟩ ⟨Nat.le_refl _, Nat.le_refl _⟩ (ct_all ?_)
  show E_X11_mend G d 25 [(0, vR 71), (1, vI l1), (2, vI l2)] [vI (ishl 1 (mem 72 0) - 1), vI l2] mem Q
  obtain ⟨⟨s5, s6⟩, H⟩ := H
  obtain ⟨H1, H2⟩ := H
  refine x_icmp_gt (tgt := 53) (q := 28) dX11_mend_25 (by decide) rfl s5 s6 (fun hB => ?_) (fun hB => ?_)
  · have H := H1 (hB)
    refine x_iconst (q := 54) dX11_mend_53 rfl ?_
    refine x_istoren (q := 55) (ls' := [(2, vI 0), (0, vR 71), (1, vI l1)]) rfl (by decide) rfl dX11_mend_54 rfl ?_
    refine x_sub [1, 2, 0] rfl ?_
    exact H
  · have H := H2 (hB)
    refine x_aloadn (q := 29) 0 rfl rfl rfl dX11_mend_28 rfl ?_
    refine x_getr (q := 32) dX11_mend_29 rfl fa_X11_64 sh_71 rfl ?_
    refine x_iloadn (q := 33) 2 rfl rfl dX11_mend_32 rfl ?_
    refine x_aloadn (q := 34) 0 rfl rfl rfl dX11_mend_33 rfl ?_
    refine x_iloadn (q := 35) 2 rfl rfl dX11_mend_34 rfl ?_
    refine x_callV (q := 38) (d := d - 1) (as := [vI l2]) (st := [vI l2, vR 85]) dX11_mend_35 rfl mv_X11_210 sh_71 rfl rfl rfl (by exact Nat.le_of_ble_eq_true rfl) ⟨by show _ ≤ d; omega, by show _ ≤ 40 * d; omega⟩ ⟨Nat.le_refl _, Nat.le_refl _⟩ (Ct.mono H (fun r9 m9 H => ?_))
    obtain ⟨z10, rfl, H⟩ := H
    show E_X11_mend G d 38 [(0, vR 71), (1, vI l1), (2, vI l2)] [vI z10, vI l2, vR 85] m9 Q
    obtain ⟨s11, H⟩ := H
    obtain ⟨H1, H2⟩ := H
    refine x_if_ge (tgt := 45) (q := 41) dX11_mend_38 (by decide) rfl s11 (fun hB => ?_) (fun hB => ?_)
    · have H := H1 (hB)
      refine x_iconst (q := 46) dX11_mend_45 rfl ?_
      obtain ⟨⟨s14, s15⟩, H⟩ := H
      refine x_iast (q := 47) dX11_mend_46 rfl sh_85 s14 s15 (by decide) (fun m16 em16 => ?_)
      have H := H m16 em16
      refine x_iinc (q := 50) (ls' := [(2, vI (l2 + 1)), (0, vR 71), (1, vI l1)]) 2 rfl (by decide) rfl dX11_mend_47 rfl ?_
      refine x_goto (tgt := 20) dX11_mend_50 (by decide) ?_
      refine x_sub [1, 2, 0] rfl ?_
      exact H
    · have H := H2 (hB)
      refine x_iconst (q := 42) dX11_mend_41 rfl ?_
      refine x_goto (tgt := 46) dX11_mend_42 (by decide) ?_
      obtain ⟨⟨s17, s18⟩, H⟩ := H
      refine x_iast (q := 47) dX11_mend_46 rfl sh_85 s17 s18 (by decide) (fun m19 em19 => ?_)
      have H := H m19 em19
      refine x_iinc (q := 50) (ls' := [(2, vI (l2 + 1)), (0, vR 71), (1, vI l1)]) 2 rfl (by decide) rfl dX11_mend_47 rfl ?_
      refine x_goto (tgt := 20) dX11_mend_50 (by decide) ?_
      refine x_sub [1, 2, 0] rfl ?_
      exact H
set_option maxRecDepth 20000 in
set_option maxHeartbeats 4000000 in
theorem B_X11_mend_55 {G : GT} {d : Nat} {l1 : Int} {l2 : Int} {mem : Mem} {Q : Option AV → Mem → Prop} (hd : 1 ≤ d) (H : (inr l2) ∧ (((mem 72 0 ≤ l2) → (E_X11_mend G d 124 [(0, vR 71), (1, vI l1), (2, vI 0), (3, vI 1)] [] mem Q)) ∧ (¬ (mem 72 0 ≤ l2) → (E_X11_mend G d 67 [(0, vR 71), (1, vI l1), (2, vI l2), (3, vI 0)] [] mem Q)))) : E_X11_mend G d 55 [(0, vR 71), (1, vI l1), (2, vI l2)] [] mem Q := by
  refine x_iloadn (q := 56) 2 rfl rfl dX11_mend_55 rfl ?_
  refine x_aloadn (q := 57) 0 rfl rfl rfl dX11_mend_56 rfl ?_
  refine x_getr (q := 60) dX11_mend_57 rfl fa_X11_9 sh_71 rfl ?_
  refine x_iconst (q := 61) dX11_mend_60 rfl ?_
  refine x_iald (q := 62) dX11_mend_61 rfl sh_72 (by decide) (by decide) (fun r20 => ?_)
  obtain ⟨s21, H⟩ := H
  obtain ⟨H1, H2⟩ := H
  refine x_icmp_ge (tgt := 120) (q := 65) dX11_mend_62 (by decide) rfl s21 r20 (fun hB => ?_) (fun hB => ?_)
  · have H := H1 (hB)
    refine x_iconst (q := 121) dX11_mend_120 rfl ?_
    refine x_istoren (q := 122) (ls' := [(2, vI 0), (0, vR 71), (1, vI l1)]) rfl (by decide) rfl dX11_mend_121 rfl ?_
    refine x_iconst (q := 123) dX11_mend_122 rfl ?_
    refine x_istoren (q := 124) (ls' := [(3, vI 1), (2, vI 0), (0, vR 71), (1, vI l1)]) rfl (by decide) rfl dX11_mend_123 rfl ?_
    refine x_sub [2, 3, 1, 0] rfl ?_
    exact H
  · have H := H2 (hB)
    refine x_iconst (q := 66) dX11_mend_65 rfl ?_
    refine x_istoren (q := 67) (ls' := [(3, vI 0), (0, vR 71), (1, vI l1), (2, vI l2)]) rfl (by decide) rfl dX11_mend_66 rfl ?_
    refine x_sub [1, 2, 3, 0] rfl ?_
    exact H
set_option maxRecDepth 20000 in
set_option maxHeartbeats 4000000 in
theorem B_X11_mend_124 {G : GT} {d : Nat} {l1 : Int} {l2 : Int} {l3 : Int} {mem : Mem} {Q : Option AV → Mem → Prop} (hd : 1 ≤ d) (H : (inr l3 ∧ inr (ishl 1 (mem 72 0) - 1)) ∧ (((ishl 1 (mem 72 0) - 1 < l3) → (Q (some (vI l2)) mem)) ∧ (¬ (ishl 1 (mem 72 0) - 1 < l3) → (C_X11_priceOf G (d - 1) [vR 71, vI l3] mem (fun r9 m28 => ∃ z29 : Int, r9 = some (vI z29) ∧ ((0 ≤ l3 ∧ l3 < 4096) ∧ ((0 ≤ l2 ∧ l2 < 4096) ∧ (((m28 85 l2 < m28 85 l3) → ((inr z29 ∧ inr l1) ∧ (((l1 < z29) → (E_X11_mend G d 124 [(0, vR 71), (1, vI l1), (2, vI l2), (3, vI (l3 + 1))] [] m28 Q)) ∧ (¬ (l1 < z29) → (E_X11_mend G d 124 [(0, vR 71), (1, vI l1), (2, vI l3), (3, vI (l3 + 1))] [] m28 Q))))) ∧ (¬ (m28 85 l2 < m28 85 l3) → (((m28 85 l3 ≠ m28 85 l2) → ((inr z29 ∧ inr l1) ∧ (((l1 < z29) → (E_X11_mend G d 124 [(0, vR 71), (1, vI l1), (2, vI l2), (3, vI (l3 + 1))] [] m28 Q)) ∧ (¬ (l1 < z29) → (E_X11_mend G d 124 [(0, vR 71), (1, vI l1), (2, vI l2), (3, vI (l3 + 1))] [] m28 Q))))) ∧ (¬ (m28 85 l3 ≠ m28 85 l2) → (C_X11_priceOf G (d - 1) [vR 71, vI l2] m28 (fun r9 m50 => ∃ z51 : Int, r9 = some (vI z51) ∧ ((inr z29 ∧ inr z51) ∧ (((z51 ≤ z29) → ((inr l1) ∧ (((l1 < z29) → (E_X11_mend G d 124 [(0, vR 71), (1, vI l1), (2, vI l2), (3, vI (l3 + 1))] [] m50 Q)) ∧ (¬ (l1 < z29) → (E_X11_mend G d 124 [(0, vR 71), (1, vI l1), (2, vI l2), (3, vI (l3 + 1))] [] m50 Q))))) ∧ (¬ (z51 ≤ z29) → ((inr l1) ∧ (((l1 < z29) → (E_X11_mend G d 124 [(0, vR 71), (1, vI l1), (2, vI l2), (3, vI (l3 + 1))] [] m50 Q)) ∧ (¬ (l1 < z29) → (E_X11_mend G d 124 [(0, vR 71), (1, vI l1), (2, vI l3), (3, vI (l3 + 1))] [] m50 Q)))))))))))))))))))) : E_X11_mend G d 124 [(0, vR 71), (1, vI l1), (2, vI l2), (3, vI l3)] [] mem Q := by
  refine x_iloadn (q := 125) 3 rfl rfl dX11_mend_124 rfl ?_
  refine x_aloadn (q := 126) 0 rfl rfl rfl dX11_mend_125 rfl ?_
  refine x_callV (q := 129) (d := d - 1) (as := []) (st := [vI l3]) dX11_mend_126 rfl mv_X11_192 sh_71 rfl rfl rfl (by exact Nat.le_of_ble_eq_true rfl) ⟨by show _ ≤ d; omega, by show _ ≤ 40 * d; omega⟩ ⟨Nat.le_refl _, Nat.le_refl _⟩ (ct_all ?_)
  show E_X11_mend G d 129 [(0, vR 71), (1, vI l1), (2, vI l2), (3, vI l3)] [vI (ishl 1 (mem 72 0) - 1), vI l3] mem Q
  obtain ⟨⟨s24, s25⟩, H⟩ := H
  obtain ⟨H1, H2⟩ := H
  refine x_icmp_gt (tgt := 209) (q := 132) dX11_mend_129 (by decide) rfl s24 s25 (fun hB => ?_) (fun hB => ?_)
  · have H := H1 (hB)
    refine x_iloadn (q := 210) 2 rfl rfl dX11_mend_209 rfl ?_
    exact x_iret rfl dX11_mend_210 H
  · have H := H2 (hB)
    refine x_aloadn (q := 133) 0 rfl rfl rfl dX11_mend_132 rfl ?_
    refine x_iloadn (q := 134) 3 rfl rfl dX11_mend_133 rfl ?_
    refine x_callV (q := 137) (d := d - 1) (as := [vI l3]) (st := []) dX11_mend_134 rfl mv_X11_268 sh_71 rfl rfl rfl (by exact Nat.le_of_ble_eq_true rfl) ⟨by show _ ≤ d; omega, by show _ ≤ 40 * d; omega⟩ ⟨Nat.le_refl _, Nat.le_refl _⟩ (Ct.mono H (fun r9 m28 H => ?_))
    obtain ⟨z29, rfl, H⟩ := H
    show E_X11_mend G d 137 [(0, vR 71), (1, vI l1), (2, vI l2), (3, vI l3)] [vI z29] m28 Q
    refine x_istore (q := 139) (ls' := [(4, vI z29), (0, vR 71), (1, vI l1), (2, vI l2), (3, vI l3)]) (by decide) rfl dX11_mend_137 rfl ?_
    refine x_aloadn (q := 140) 1 rfl rfl rfl dX11_mend_139 rfl ?_
    refine x_getr (q := 143) dX11_mend_140 rfl fa_X11_64 sh_71 rfl ?_
    refine x_iloadn (q := 144) 4 rfl rfl dX11_mend_143 rfl ?_
    obtain ⟨⟨s30, s31⟩, H⟩ := H
    refine x_iald (q := 145) dX11_mend_144 rfl sh_85 s30 s31 (fun r32 => ?_)
    refine x_aloadn (q := 146) 1 rfl rfl rfl dX11_mend_145 rfl ?_
    refine x_getr (q := 149) dX11_mend_146 rfl fa_X11_64 sh_71 rfl ?_
    refine x_iloadn (q := 150) 3 rfl rfl dX11_mend_149 rfl ?_
    obtain ⟨⟨s33, s34⟩, H⟩ := H
    refine x_iald (q := 151) dX11_mend_150 rfl sh_85 s33 s34 (fun r35 => ?_)
    obtain ⟨H1, H2⟩ := H
    refine x_icmp_gt (tgt := 179) (q := 154) dX11_mend_151 (by decide) rfl r32 r35 (fun hB => ?_) (fun hB => ?_)
    · have H := H1 (hB)
      refine x_iconst (q := 180) dX11_mend_179 rfl ?_
      refine x_goto (tgt := 184) dX11_mend_180 (by decide) ?_
      refine x_istore (q := 186) (ls' := [(5, vI 1), (4, vI z29), (0, vR 71), (1, vI l1), (2, vI l2), (3, vI l3)]) (by decide) rfl dX11_mend_184 rfl ?_
      refine x_iload (q := 188) 1 rfl dX11_mend_186 rfl ?_
      refine x_iloadn (q := 189) 3 rfl rfl dX11_mend_188 rfl ?_
      obtain ⟨⟨s38, s39⟩, H⟩ := H
      obtain ⟨H1, H2⟩ := H
      refine x_icmp_gt (tgt := 201) (q := 192) dX11_mend_189 (by decide) rfl s38 s39 (fun hB => ?_) (fun hB => ?_)
      · have H := H1 (hB)
        refine x_iloadn (q := 202) 4 rfl rfl dX11_mend_201 rfl ?_
        refine x_istoren (q := 203) (ls' := [(2, vI l2), (5, vI 1), (4, vI z29), (0, vR 71), (1, vI l1), (3, vI l3)]) rfl (by decide) rfl dX11_mend_202 rfl ?_
        refine x_iinc (q := 206) (ls' := [(3, vI (l3 + 1)), (2, vI l2), (5, vI 1), (4, vI z29), (0, vR 71), (1, vI l1)]) 5 rfl (by decide) rfl dX11_mend_203 rfl ?_
        refine x_goto (tgt := 124) dX11_mend_206 (by decide) ?_
        refine x_sub [4, 5, 1, 0] rfl ?_
        exact H
      · have H := H2 (hB)
        refine x_iload (q := 194) 0 rfl dX11_mend_192 rfl ?_
        refine x_if_eq (tgt := 201) (q := 197) dX11_mend_194 (by decide) rfl (by decide) (fun h => absurd h (by decide)) (fun _ => ?_)
        refine x_iloadn (q := 198) 5 rfl rfl dX11_mend_197 rfl ?_
        refine x_goto (tgt := 202) dX11_mend_198 (by decide) ?_
        refine x_istoren (q := 203) (ls' := [(2, vI l3), (5, vI 1), (4, vI z29), (0, vR 71), (1, vI l1), (3, vI l3)]) rfl (by decide) rfl dX11_mend_202 rfl ?_
        refine x_iinc (q := 206) (ls' := [(3, vI (l3 + 1)), (2, vI l3), (5, vI 1), (4, vI z29), (0, vR 71), (1, vI l1)]) 5 rfl (by decide) rfl dX11_mend_203 rfl ?_
        refine x_goto (tgt := 124) dX11_mend_206 (by decide) ?_
        refine x_sub [4, 5, 1, 0] rfl ?_
        exact H
    · have H := H2 (hB)
      refine x_aloadn (q := 155) 1 rfl rfl rfl dX11_mend_154 rfl ?_
      refine x_getr (q := 158) dX11_mend_155 rfl fa_X11_64 sh_71 rfl ?_
      refine x_iloadn (q := 159) 4 rfl rfl dX11_mend_158 rfl ?_
      refine x_iald (q := 160) dX11_mend_159 rfl sh_85 s30 s31 (fun r42 => ?_)
      refine x_aloadn (q := 161) 1 rfl rfl rfl dX11_mend_160 rfl ?_
      refine x_getr (q := 164) dX11_mend_161 rfl fa_X11_64 sh_71 rfl ?_
      refine x_iloadn (q := 165) 3 rfl rfl dX11_mend_164 rfl ?_
      refine x_iald (q := 166) dX11_mend_165 rfl sh_85 s33 s34 (fun r43 => ?_)
      obtain ⟨H1, H2⟩ := H
      refine x_icmp_ne (tgt := 183) (q := 169) dX11_mend_166 (by decide) rfl r42 r43 (fun hB => ?_) (fun hB => ?_)
      · have H := H1 (hB)
        refine x_iconst (q := 184) dX11_mend_183 rfl ?_
        refine x_istore (q := 186) (ls' := [(5, vI 0), (4, vI z29), (0, vR 71), (1, vI l1), (2, vI l2), (3, vI l3)]) (by decide) rfl dX11_mend_184 rfl ?_
        refine x_iload (q := 188) 1 rfl dX11_mend_186 rfl ?_
        refine x_iloadn (q := 189) 3 rfl rfl dX11_mend_188 rfl ?_
        obtain ⟨⟨s46, s47⟩, H⟩ := H
        obtain ⟨H1, H2⟩ := H
        refine x_icmp_gt (tgt := 201) (q := 192) dX11_mend_189 (by decide) rfl s46 s47 (fun hB => ?_) (fun hB => ?_)
        · have H := H1 (hB)
          refine x_iloadn (q := 202) 4 rfl rfl dX11_mend_201 rfl ?_
          refine x_istoren (q := 203) (ls' := [(2, vI l2), (5, vI 0), (4, vI z29), (0, vR 71), (1, vI l1), (3, vI l3)]) rfl (by decide) rfl dX11_mend_202 rfl ?_
          refine x_iinc (q := 206) (ls' := [(3, vI (l3 + 1)), (2, vI l2), (5, vI 0), (4, vI z29), (0, vR 71), (1, vI l1)]) 5 rfl (by decide) rfl dX11_mend_203 rfl ?_
          refine x_goto (tgt := 124) dX11_mend_206 (by decide) ?_
          refine x_sub [4, 5, 1, 0] rfl ?_
          exact H
        · have H := H2 (hB)
          refine x_iload (q := 194) 0 rfl dX11_mend_192 rfl ?_
          refine x_if_eq (tgt := 201) (q := 197) dX11_mend_194 (by decide) rfl (by decide) (fun _ => ?_) (fun h => absurd (by decide) h)
          refine x_iloadn (q := 202) 4 rfl rfl dX11_mend_201 rfl ?_
          refine x_istoren (q := 203) (ls' := [(2, vI l2), (5, vI 0), (4, vI z29), (0, vR 71), (1, vI l1), (3, vI l3)]) rfl (by decide) rfl dX11_mend_202 rfl ?_
          refine x_iinc (q := 206) (ls' := [(3, vI (l3 + 1)), (2, vI l2), (5, vI 0), (4, vI z29), (0, vR 71), (1, vI l1)]) 5 rfl (by decide) rfl dX11_mend_203 rfl ?_
          refine x_goto (tgt := 124) dX11_mend_206 (by decide) ?_
          refine x_sub [4, 5, 1, 0] rfl ?_
          exact H
      · have H := H2 (hB)
        refine x_iload (q := 171) 0 rfl dX11_mend_169 rfl ?_
        refine x_aloadn (q := 172) 1 rfl rfl rfl dX11_mend_171 rfl ?_
        refine x_iloadn (q := 173) 3 rfl rfl dX11_mend_172 rfl ?_
        refine x_callV (q := 176) (d := d - 1) (as := [vI l2]) (st := [vI z29]) dX11_mend_173 rfl mv_X11_268 sh_71 rfl rfl rfl (by exact Nat.le_of_ble_eq_true rfl) ⟨by show _ ≤ d; omega, by show _ ≤ 40 * d; omega⟩ ⟨Nat.le_refl _, Nat.le_refl _⟩ (Ct.mono H (fun r9 m50 H => ?_))
        obtain ⟨z51, rfl, H⟩ := H
        show E_X11_mend G d 176 [(4, vI z29), (0, vR 71), (1, vI l1), (2, vI l2), (3, vI l3)] [vI z51, vI z29] m50 Q
        obtain ⟨⟨s52, s53⟩, H⟩ := H
        obtain ⟨H1, H2⟩ := H
        refine x_icmp_ge (tgt := 183) (q := 179) dX11_mend_176 (by decide) rfl s52 s53 (fun hB => ?_) (fun hB => ?_)
        · have H := H1 (hB)
          refine x_iconst (q := 184) dX11_mend_183 rfl ?_
          refine x_istore (q := 186) (ls' := [(5, vI 0), (4, vI z29), (0, vR 71), (1, vI l1), (2, vI l2), (3, vI l3)]) (by decide) rfl dX11_mend_184 rfl ?_
          refine x_iload (q := 188) 1 rfl dX11_mend_186 rfl ?_
          refine x_iloadn (q := 189) 3 rfl rfl dX11_mend_188 rfl ?_
          obtain ⟨s56, H⟩ := H
          obtain ⟨H1, H2⟩ := H
          refine x_icmp_gt (tgt := 201) (q := 192) dX11_mend_189 (by decide) rfl s52 s56 (fun hB => ?_) (fun hB => ?_)
          · have H := H1 (hB)
            refine x_iloadn (q := 202) 4 rfl rfl dX11_mend_201 rfl ?_
            refine x_istoren (q := 203) (ls' := [(2, vI l2), (5, vI 0), (4, vI z29), (0, vR 71), (1, vI l1), (3, vI l3)]) rfl (by decide) rfl dX11_mend_202 rfl ?_
            refine x_iinc (q := 206) (ls' := [(3, vI (l3 + 1)), (2, vI l2), (5, vI 0), (4, vI z29), (0, vR 71), (1, vI l1)]) 5 rfl (by decide) rfl dX11_mend_203 rfl ?_
            refine x_goto (tgt := 124) dX11_mend_206 (by decide) ?_
            refine x_sub [4, 5, 1, 0] rfl ?_
            exact H
          · have H := H2 (hB)
            refine x_iload (q := 194) 0 rfl dX11_mend_192 rfl ?_
            refine x_if_eq (tgt := 201) (q := 197) dX11_mend_194 (by decide) rfl (by decide) (fun _ => ?_) (fun h => absurd (by decide) h)
            refine x_iloadn (q := 202) 4 rfl rfl dX11_mend_201 rfl ?_
            refine x_istoren (q := 203) (ls' := [(2, vI l2), (5, vI 0), (4, vI z29), (0, vR 71), (1, vI l1), (3, vI l3)]) rfl (by decide) rfl dX11_mend_202 rfl ?_
            refine x_iinc (q := 206) (ls' := [(3, vI (l3 + 1)), (2, vI l2), (5, vI 0), (4, vI z29), (0, vR 71), (1, vI l1)]) 5 rfl (by decide) rfl dX11_mend_203 rfl ?_
            refine x_goto (tgt := 124) dX11_mend_206 (by decide) ?_
            refine x_sub [4, 5, 1, 0] rfl ?_
            exact H
        · have H := H2 (hB)
          refine x_iconst (q := 180) dX11_mend_179 rfl ?_
          refine x_goto (tgt := 184) dX11_mend_180 (by decide) ?_
          refine x_istore (q := 186) (ls' := [(5, vI 1), (4, vI z29), (0, vR 71), (1, vI l1), (2, vI l2), (3, vI l3)]) (by decide) rfl dX11_mend_184 rfl ?_
          refine x_iload (q := 188) 1 rfl dX11_mend_186 rfl ?_
          refine x_iloadn (q := 189) 3 rfl rfl dX11_mend_188 rfl ?_
          obtain ⟨s59, H⟩ := H
          obtain ⟨H1, H2⟩ := H
          refine x_icmp_gt (tgt := 201) (q := 192) dX11_mend_189 (by decide) rfl s52 s59 (fun hB => ?_) (fun hB => ?_)
          · have H := H1 (hB)
            refine x_iloadn (q := 202) 4 rfl rfl dX11_mend_201 rfl ?_
            refine x_istoren (q := 203) (ls' := [(2, vI l2), (5, vI 1), (4, vI z29), (0, vR 71), (1, vI l1), (3, vI l3)]) rfl (by decide) rfl dX11_mend_202 rfl ?_
            refine x_iinc (q := 206) (ls' := [(3, vI (l3 + 1)), (2, vI l2), (5, vI 1), (4, vI z29), (0, vR 71), (1, vI l1)]) 5 rfl (by decide) rfl dX11_mend_203 rfl ?_
            refine x_goto (tgt := 124) dX11_mend_206 (by decide) ?_
            refine x_sub [4, 5, 1, 0] rfl ?_
            exact H
          · have H := H2 (hB)
            refine x_iload (q := 194) 0 rfl dX11_mend_192 rfl ?_
            refine x_if_eq (tgt := 201) (q := 197) dX11_mend_194 (by decide) rfl (by decide) (fun h => absurd h (by decide)) (fun _ => ?_)
            refine x_iloadn (q := 198) 5 rfl rfl dX11_mend_197 rfl ?_
            refine x_goto (tgt := 202) dX11_mend_198 (by decide) ?_
            refine x_istoren (q := 203) (ls' := [(2, vI l3), (5, vI 1), (4, vI z29), (0, vR 71), (1, vI l1), (3, vI l3)]) rfl (by decide) rfl dX11_mend_202 rfl ?_
            refine x_iinc (q := 206) (ls' := [(3, vI (l3 + 1)), (2, vI l3), (5, vI 1), (4, vI z29), (0, vR 71), (1, vI l1)]) 5 rfl (by decide) rfl dX11_mend_203 rfl ?_
            refine x_goto (tgt := 124) dX11_mend_206 (by decide) ?_
            refine x_sub [4, 5, 1, 0] rfl ?_
            exact H
set_option maxRecDepth 20000 in
set_option maxHeartbeats 4000000 in
theorem B_X11_mend_67 {G : GT} {d : Nat} {l1 : Int} {l2 : Int} {l3 : Int} {mem : Mem} {Q : Option AV → Mem → Prop} (hd : 1 ≤ d) (H : (inr l3 ∧ inr (ishl 1 (mem 72 0) - 1)) ∧ (((ishl 1 (mem 72 0) - 1 < l3) → (E_X11_mend G d 55 [(0, vR 71), (1, vI l1), (2, vI (l2 + 1))] [] mem Q)) ∧ (¬ (ishl 1 (mem 72 0) - 1 < l3) → ((0 ≤ l3 ∧ l3 < 4096) ∧ ((¬ (iand (ishr l3 l2) 1 = 1) → ((inr ((mem 85 l3) + 0)) ∧ (∀ m71 : Mem, m71 = upM mem 85 l3 ((mem 85 l3) + 0) → (E_X11_mend G d 67 [(0, vR 71), (1, vI l1), (2, vI l2), (3, vI (l3 + 1))] [] m71 Q)))) ∧ ((iand (ishr l3 l2) 1 = 1) → ((0 ≤ iand l3 (ixor (ishl 1 l2) (-1)) ∧ iand l3 (ixor (ishl 1 l2) (-1)) < 4096) ∧ ((inr ((mem 85 l3) + (mem 85 (iand l3 (ixor (ishl 1 l2) (-1)))))) ∧ (∀ m76 : Mem, m76 = upM mem 85 l3 ((mem 85 l3) + (mem 85 (iand l3 (ixor (ishl 1 l2) (-1))))) → (E_X11_mend G d 67 [(0, vR 71), (1, vI l1), (2, vI l2), (3, vI (l3 + 1))] [] m76 Q)))))))))) : E_X11_mend G d 67 [(0, vR 71), (1, vI l1), (2, vI l2), (3, vI l3)] [] mem Q := by
  refine x_iloadn (q := 68) 3 rfl rfl dX11_mend_67 rfl ?_
  refine x_aloadn (q := 69) 0 rfl rfl rfl dX11_mend_68 rfl ?_
  refine x_callV (q := 72) (d := d - 1) (as := []) (st := [vI l3]) dX11_mend_69 rfl mv_X11_192 sh_71 rfl rfl rfl (by exact Nat.le_of_ble_eq_true rfl) ⟨by show _ ≤ d; omega, by show _ ≤ 40 * d; omega⟩ ⟨Nat.le_refl _, Nat.le_refl _⟩ (ct_all ?_)
  show E_X11_mend G d 72 [(0, vR 71), (1, vI l1), (2, vI l2), (3, vI l3)] [vI (ishl 1 (mem 72 0) - 1), vI l3] mem Q
  obtain ⟨⟨s62, s63⟩, H⟩ := H
  obtain ⟨H1, H2⟩ := H
  refine x_icmp_gt (tgt := 114) (q := 75) dX11_mend_72 (by decide) rfl s62 s63 (fun hB => ?_) (fun hB => ?_)
  · have H := H1 (hB)
    refine x_iinc (q := 117) (ls' := [(2, vI (l2 + 1)), (0, vR 71), (1, vI l1), (3, vI l3)]) 2 rfl (by decide) rfl dX11_mend_114 rfl ?_
    refine x_goto (tgt := 55) dX11_mend_117 (by decide) ?_
    refine x_sub [1, 2, 0] rfl ?_
    exact H
  · have H := H2 (hB)
    refine x_aloadn (q := 76) 0 rfl rfl rfl dX11_mend_75 rfl ?_
    refine x_getr (q := 79) dX11_mend_76 rfl fa_X11_64 sh_71 rfl ?_
    refine x_iloadn (q := 80) 3 rfl rfl dX11_mend_79 rfl ?_
    refine x_dup2 (q := 81) (by exact Nat.ne_of_beq_eq_false rfl) (by exact Nat.ne_of_beq_eq_false rfl) dX11_mend_80 rfl ?_
    obtain ⟨⟨s66, s67⟩, H⟩ := H
    refine x_iald (q := 82) dX11_mend_81 rfl sh_85 s66 s67 (fun r68 => ?_)
    refine x_iloadn (q := 83) 3 rfl rfl dX11_mend_82 rfl ?_
    refine x_iloadn (q := 84) 2 rfl rfl dX11_mend_83 rfl ?_
    refine x_callS (q := 87) (d := d - 1) (as := [vI l3, vI l2]) (st := [vI (mem 85 l3), vI l3, vR 85]) dX11_mend_84 rfl ms_X11_195 rfl rfl (by exact Nat.le_of_ble_eq_true rfl) ⟨by show _ ≤ d; omega, by show _ ≤ 40 * d; omega⟩ ⟨Nat.le_refl _, Nat.le_refl _⟩ (ct_hasb ?_)
    show E_X11_mend G d 87 [(0, vR 71), (1, vI l1), (2, vI l2), (3, vI l3)] [vI (bz (iand (ishr l3 l2) 1 = 1)), vI (mem 85 l3), vI l3, vR 85] mem Q
    obtain ⟨H1, H2⟩ := H
    refine x_if_eq (tgt := 105) (q := 90) dX11_mend_87 (by decide) rfl (bz_inr _) (fun hB => ?_) (fun hB => ?_)
    · have H := H1 (bz_0.mp hB)
      refine x_iconst (q := 106) dX11_mend_105 rfl ?_
      refine x_iadd (q := 107) dX11_mend_106 rfl ?_
      obtain ⟨s72, H⟩ := H
      refine x_iast (q := 108) dX11_mend_107 rfl sh_85 s66 s67 s72 (fun m71 em71 => ?_)
      have H := H m71 em71
      refine x_iinc (q := 111) (ls' := [(3, vI (l3 + 1)), (0, vR 71), (1, vI l1), (2, vI l2)]) 3 rfl (by decide) rfl dX11_mend_108 rfl ?_
      refine x_goto (tgt := 67) dX11_mend_111 (by decide) ?_
      refine x_sub [1, 2, 3, 0] rfl ?_
      exact H
    · have H := H2 (Classical.byContradiction (fun z => hB (bz_0.mpr z)))
      refine x_aloadn (q := 91) 0 rfl rfl rfl dX11_mend_90 rfl ?_
      refine x_getr (q := 94) dX11_mend_91 rfl fa_X11_64 sh_71 rfl ?_
      refine x_iloadn (q := 95) 3 rfl rfl dX11_mend_94 rfl ?_
      refine x_iconst (q := 96) dX11_mend_95 rfl ?_
      refine x_iloadn (q := 97) 2 rfl rfl dX11_mend_96 rfl ?_
      refine x_ishl (q := 98) dX11_mend_97 rfl ?_
      refine x_iconst (q := 99) dX11_mend_98 rfl ?_
      refine x_ixor (q := 100) dX11_mend_99 rfl ?_
      refine x_iand (q := 101) dX11_mend_100 rfl ?_
      obtain ⟨⟨s73, s74⟩, H⟩ := H
      refine x_iald (q := 102) dX11_mend_101 rfl sh_85 s73 s74 (fun r75 => ?_)
      refine x_goto (tgt := 106) dX11_mend_102 (by decide) ?_
      refine x_iadd (q := 107) dX11_mend_106 rfl ?_
      obtain ⟨s77, H⟩ := H
      refine x_iast (q := 108) dX11_mend_107 rfl sh_85 s66 s67 s77 (fun m76 em76 => ?_)
      have H := H m76 em76
      refine x_iinc (q := 111) (ls' := [(3, vI (l3 + 1)), (0, vR 71), (1, vI l1), (2, vI l2)]) 3 rfl (by decide) rfl dX11_mend_108 rfl ?_
      refine x_goto (tgt := 67) dX11_mend_111 (by decide) ?_
      refine x_sub [1, 2, 3, 0] rfl ?_
      exact H
set_option maxRecDepth 20000 in
set_option maxHeartbeats 4000000 in
theorem B_X11_voice {G : GT} {d : Nat} {l1 : Int} {l2 : Int} {l3 : Int} {mem : Mem} {Q : Option AV → Mem → Prop} (hd : 2 ≤ d) (H : (inr l1) ∧ ((0 ≤ mem 72 0) ∧ ((¬ (0 ≤ l1 ∧ l1 < mem 72 0) → (∀ m5 : Mem, m5 = fndM mem (-1000001) → (Q (some (vI (-1000001))) m5))) ∧ ((0 ≤ l1 ∧ l1 < mem 72 0) → ((inr l2) ∧ (((0 ≤ l2 ∧ l2 ≤ 3) → (∀ m9 : Mem, m9 = upM mem 71 21 0 → (∀ m10 : Mem, m10 = upM m9 71 22 l1 → (∀ m11 : Mem, m11 = upM m10 71 23 0 → (C_X11_voiced G (d - 1) [vR 71, vI l2, vI l3] m11 (fun r9 m12 => ∃ z13 : Int, r9 = some (vI z13) ∧ (((m12 71 23 = 0) → (Q (some (vI z13)) m12)) ∧ (¬ (m12 71 23 = 0) → (∀ m17 : Mem, m17 = fndM m12 (-1000006) → (Q (some (vI (-1000006))) m17)))))))))) ∧ (¬ (0 ≤ l2 ∧ l2 ≤ 3) → (∀ m18 : Mem, m18 = fndM mem (-1000001) → (Q (some (vI (-1000001))) m18))))))))) : C_X11_voice G d [vR 71, vI l1, vI l2, vI l3] mem Q := by
  refine Ct_of_Ex (by decide +kernel) (by exact Nat.le_of_ble_eq_true rfl) (ls := [(0, vR 71), (1, vI l1), (2, vI l2), (3, vI l3)]) rfl ?_
  show E_X11_voice G d 0 [(0, vR 71), (1, vI l1), (2, vI l2), (3, vI l3)] [] mem Q
  refine x_aloadn (q := 1) 0 rfl rfl rfl dX11_voice_0 rfl ?_
  refine x_iloadn (q := 2) 1 rfl rfl dX11_voice_1 rfl ?_
  refine x_iconst (q := 3) dX11_voice_2 rfl ?_
  obtain ⟨s1, H⟩ := H
  obtain ⟨s2, H⟩ := H
  refine x_callV (q := 6) (d := d - 1) (as := [vI l1, vI 0]) (st := []) dX11_voice_3 rfl mv_X11_101 sh_71 rfl rfl rfl (by exact Nat.le_of_ble_eq_true rfl) ⟨by show _ ≤ d; omega, by show _ ≤ 40 * d; omega⟩ ⟨Nat.le_refl _, Nat.le_refl _⟩ ((fun hq9 => ct_is (by omega) (by decide) (by decide) s1 (fun _ => hq9) s2)  ?_)
  show E_X11_voice G d 6 [(0, vR 71), (1, vI l1), (2, vI l2), (3, vI l3)] [vI (bz (0 ≤ l1 ∧ l1 < mem 72 0))] mem Q
  obtain ⟨H1, H2⟩ := H
  refine x_if_eq (tgt := 18) (q := 9) dX11_voice_6 (by decide) rfl (bz_inr _) (fun hB => ?_) (fun hB => ?_)
  · have H := H1 (bz_0.mp hB)
    refine x_aloadn (q := 19) 0 rfl rfl rfl dX11_voice_18 rfl ?_
    refine x_ldc (q := 21) (z := (-1000001)) cn_X11_87 (by decide) dX11_voice_19 rfl ?_
    obtain ⟨m5, em5⟩ : ∃ m9 : Mem, m9 = fndM mem (-1000001) := ⟨_, rfl⟩
    have H := H m5 em5
    refine x_callV (q := 24) (d := d - 1) (as := [vI (-1000001)]) (st := []) dX11_voice_21 rfl mv_X11_88 sh_71 rfl rfl rfl (by exact Nat.le_of_ble_eq_true rfl) ⟨by show _ ≤ d; omega, by show _ ≤ 40 * d; omega⟩ ⟨Nat.le_refl _, Nat.le_refl _⟩ (ct_finding (by decide) (by decide) ?_)
    rw [← em5]
    show E_X11_voice G d 24 [(0, vR 71), (1, vI l1), (2, vI l2), (3, vI l3)] [vI (-1000001)] m5 Q
    exact x_iret rfl dX11_voice_24 H
  · have H := H2 (Classical.byContradiction (fun z => hB (bz_0.mpr z)))
    refine x_iloadn (q := 10) 2 rfl rfl dX11_voice_9 rfl ?_
    refine x_iconst (q := 11) dX11_voice_10 rfl ?_
    refine x_iconst (q := 12) dX11_voice_11 rfl ?_
    obtain ⟨s6, H⟩ := H
    refine x_callS (q := 15) (d := d - 1) (as := [vI l2, vI 0, vI 3]) (st := []) dX11_voice_12 rfl ms_X11_83 rfl rfl (by exact Nat.le_of_ble_eq_true rfl) ⟨by show _ ≤ d; omega, by show _ ≤ 40 * d; omega⟩ ⟨Nat.le_refl _, Nat.le_refl _⟩ (ct_within s6 (by decide) (by decide) ?_)
    show E_X11_voice G d 15 [(0, vR 71), (1, vI l1), (2, vI l2), (3, vI l3)] [vI (bz (0 ≤ l2 ∧ l2 ≤ 3))] mem Q
    obtain ⟨H1, H2⟩ := H
    refine x_if_ne (tgt := 25) (q := 18) dX11_voice_15 (by decide) rfl (bz_inr _) (fun hB => ?_) (fun hB => ?_)
    · have H := H1 (bz_n0.mp hB)
      refine x_aloadn (q := 26) 0 rfl rfl rfl dX11_voice_25 rfl ?_
      refine x_iconst (q := 27) dX11_voice_26 rfl ?_
      refine x_puti (q := 30) (ji := 21) dX11_voice_27 rfl fp_X11_271 sh_71 rfl rfl (by decide) (fun m9 em9 => ?_)
      have H := H m9 em9
      refine x_aloadn (q := 31) 0 rfl rfl rfl dX11_voice_30 rfl ?_
      refine x_iloadn (q := 32) 1 rfl rfl dX11_voice_31 rfl ?_
      refine x_puti (q := 35) (ji := 22) dX11_voice_32 rfl fp_X11_274 sh_71 rfl rfl s1 (fun m10 em10 => ?_)
      have H := H m10 em10
      refine x_aloadn (q := 36) 0 rfl rfl rfl dX11_voice_35 rfl ?_
      refine x_iconst (q := 37) dX11_voice_36 rfl ?_
      refine x_putz (q := 40) (ji := 23) dX11_voice_37 rfl fp_X11_284 sh_71 rfl rfl (by decide) (fun m11 em11 => ?_)
      have H := H m11 em11
      refine x_aloadn (q := 41) 0 rfl rfl rfl dX11_voice_40 rfl ?_
      refine x_iloadn (q := 42) 2 rfl rfl dX11_voice_41 rfl ?_
      refine x_iloadn (q := 43) 3 rfl rfl dX11_voice_42 rfl ?_
      refine x_callV (q := 46) (d := d - 1) (as := [vI l2, vI l3]) (st := []) dX11_voice_43 rfl mv_X11_294 sh_71 rfl rfl rfl (by exact Nat.le_of_ble_eq_true rfl) ⟨by show _ ≤ d; omega, by show _ ≤ 40 * d; omega⟩ ⟨Nat.le_refl _, Nat.le_refl _⟩ (Ct.mono H (fun r9 m12 H => ?_))
      obtain ⟨z13, rfl, H⟩ := H
      show E_X11_voice G d 46 [(0, vR 71), (1, vI l1), (2, vI l2), (3, vI l3)] [vI z13] m12 Q
      refine x_istore (q := 48) (ls' := [(4, vI z13), (0, vR 71), (1, vI l1), (2, vI l2), (3, vI l3)]) (by decide) rfl dX11_voice_46 rfl ?_
      refine x_aloadn (q := 49) 1 rfl rfl rfl dX11_voice_48 rfl ?_
      refine x_geti (q := 52) (ji := 23) dX11_voice_49 rfl fa_X11_284 sh_71 rfl rfl (fun r14 => ?_)
      obtain ⟨H1, H2⟩ := H
      refine x_if_eq (tgt := 65) (q := 55) dX11_voice_52 (by decide) rfl r14 (fun hB => ?_) (fun hB => ?_)
      · have H := H1 (hB)
        refine x_iload (q := 67) 0 rfl dX11_voice_65 rfl ?_
        exact x_iret rfl dX11_voice_67 H
      · have H := H2 (hB)
        refine x_aloadn (q := 56) 1 rfl rfl rfl dX11_voice_55 rfl ?_
        refine x_ldcw (q := 59) (z := (-1000006)) cn_X11_297 (by decide) dX11_voice_56 rfl ?_
        obtain ⟨m17, em17⟩ : ∃ m9 : Mem, m9 = fndM m12 (-1000006) := ⟨_, rfl⟩
        have H := H m17 em17
        refine x_callV (q := 62) (d := d - 1) (as := [vI (-1000006)]) (st := []) dX11_voice_59 rfl mv_X11_88 sh_71 rfl rfl rfl (by exact Nat.le_of_ble_eq_true rfl) ⟨by show _ ≤ d; omega, by show _ ≤ 40 * d; omega⟩ ⟨Nat.le_refl _, Nat.le_refl _⟩ (ct_finding (by decide) (by decide) ?_)
        rw [← em17]
        show E_X11_voice G d 62 [(4, vI z13), (0, vR 71), (1, vI l1), (2, vI l2), (3, vI l3)] [vI (-1000006)] m17 Q
        refine x_goto (tgt := 67) dX11_voice_62 (by decide) ?_
        exact x_iret rfl dX11_voice_67 H
    · have H := H2 (fun z => hB (bz_n0.mpr z))
      refine x_aloadn (q := 19) 0 rfl rfl rfl dX11_voice_18 rfl ?_
      refine x_ldc (q := 21) (z := (-1000001)) cn_X11_87 (by decide) dX11_voice_19 rfl ?_
      obtain ⟨m18, em18⟩ : ∃ m9 : Mem, m9 = fndM mem (-1000001) := ⟨_, rfl⟩
      have H := H m18 em18
      refine x_callV (q := 24) (d := d - 1) (as := [vI (-1000001)]) (st := []) dX11_voice_21 rfl mv_X11_88 sh_71 rfl rfl rfl (by exact Nat.le_of_ble_eq_true rfl) ⟨by show _ ≤ d; omega, by show _ ≤ 40 * d; omega⟩ ⟨Nat.le_refl _, Nat.le_refl _⟩ (ct_finding (by decide) (by decide) ?_)
      rw [← em18]
      show E_X11_voice G d 24 [(0, vR 71), (1, vI l1), (2, vI l2), (3, vI l3)] [vI (-1000001)] m18 Q
      exact x_iret rfl dX11_voice_24 H
set_option maxRecDepth 20000 in
set_option maxHeartbeats 4000000 in
theorem B_X11_body_ {G : GT} {d : Nat} {l1 : Int} {mem : Mem} {Q : Option AV → Mem → Prop} (hd : 1 ≤ d) (H : (inr l1 ∧ inr ((mem 71 21) - 1)) ∧ ((¬ (0 ≤ l1 ∧ l1 ≤ (mem 71 21) - 1) → (∀ m6 : Mem, m6 = fndM mem (-1000002) → (Q (some (vI (-1000002))) m6))) ∧ ((0 ≤ l1 ∧ l1 ≤ (mem 71 21) - 1) → ((0 ≤ l1 ∧ l1 < 30) ∧ (Q (some (vI (mem 86 l1))) mem))))) : C_X11_body_ G d [vR 71, vI l1] mem Q := by
  refine Ct_of_Ex (by decide +kernel) (by exact Nat.le_of_ble_eq_true rfl) (ls := [(0, vR 71), (1, vI l1)]) rfl ?_
  show E_X11_body_ G d 0 [(0, vR 71), (1, vI l1)] [] mem Q
  refine x_iloadn (q := 1) 1 rfl rfl dX11_body__0 rfl ?_
  refine x_iconst (q := 2) dX11_body__1 rfl ?_
  refine x_aloadn (q := 3) 0 rfl rfl rfl dX11_body__2 rfl ?_
  refine x_geti (q := 6) (ji := 21) dX11_body__3 rfl fa_X11_271 sh_71 rfl rfl (fun r1 => ?_)
  refine x_iconst (q := 7) dX11_body__6 rfl ?_
  refine x_isub (q := 8) dX11_body__7 rfl ?_
  obtain ⟨⟨s2, s3⟩, H⟩ := H
  refine x_callS (q := 11) (d := d - 1) (as := [vI l1, vI 0, vI ((mem 71 21) - 1)]) (st := []) dX11_body__8 rfl ms_X11_83 rfl rfl (by exact Nat.le_of_ble_eq_true rfl) ⟨by show _ ≤ d; omega, by show _ ≤ 40 * d; omega⟩ ⟨Nat.le_refl _, Nat.le_refl _⟩ (ct_within s2 (by decide) s3 ?_)
  show E_X11_body_ G d 11 [(0, vR 71), (1, vI l1)] [vI (bz (0 ≤ l1 ∧ l1 ≤ (mem 71 21) - 1))] mem Q
  obtain ⟨H1, H2⟩ := H
  refine x_if_eq (tgt := 23) (q := 14) dX11_body__11 (by decide) rfl (bz_inr _) (fun hB => ?_) (fun hB => ?_)
  · have H := H1 (bz_0.mp hB)
    refine x_aloadn (q := 24) 0 rfl rfl rfl dX11_body__23 rfl ?_
    refine x_ldc (q := 26) (z := (-1000002)) cn_X11_219 (by decide) dX11_body__24 rfl ?_
    obtain ⟨m6, em6⟩ : ∃ m9 : Mem, m9 = fndM mem (-1000002) := ⟨_, rfl⟩
    have H := H m6 em6
    refine x_callV (q := 29) (d := d - 1) (as := [vI (-1000002)]) (st := []) dX11_body__26 rfl mv_X11_88 sh_71 rfl rfl rfl (by exact Nat.le_of_ble_eq_true rfl) ⟨by show _ ≤ d; omega, by show _ ≤ 40 * d; omega⟩ ⟨Nat.le_refl _, Nat.le_refl _⟩ (ct_finding (by decide) (by decide) ?_)
    rw [← em6]
    show E_X11_body_ G d 29 [(0, vR 71), (1, vI l1)] [vI (-1000002)] m6 Q
    exact x_iret rfl dX11_body__29 H
  · have H := H2 (Classical.byContradiction (fun z => hB (bz_0.mpr z)))
    refine x_aloadn (q := 15) 0 rfl rfl rfl dX11_body__14 rfl ?_
    refine x_getr (q := 18) dX11_body__15 rfl fa_X11_67 sh_71 rfl ?_
    refine x_iloadn (q := 19) 1 rfl rfl dX11_body__18 rfl ?_
    obtain ⟨⟨s7, s8⟩, H⟩ := H
    refine x_iald (q := 20) dX11_body__19 rfl sh_86 s7 s8 (fun r9 => ?_)
    refine x_goto (tgt := 29) dX11_body__20 (by decide) ?_
    exact x_iret rfl dX11_body__29 H
set_option maxRecDepth 20000 in
set_option maxHeartbeats 4000000 in
theorem B_X11_sheet {G : GT} {d : Nat} {l1 : Int} {l2 : Int} {l3 : Int} {mem : Mem} {Q : Option AV → Mem → Prop} (hd : 2 ≤ d) (H : (inr l1) ∧ ((¬ (0 ≤ l1 ∧ l1 ≤ 3) → (∀ m4 : Mem, m4 = fndM mem (-1000001) → (Q (some (vI (-1000001))) m4))) ∧ ((0 ≤ l1 ∧ l1 ≤ 3) → ((inr l2) ∧ (((l2 = 0) → (((l2 = 0) → (((l2 = 0) → ((0 ≤ l1 ∧ l1 < 4) ∧ (∀ m14 : Mem, m14 = upM mem 87 l1 l2 → (((l2 ≠ 0) → ((inr l3) ∧ (∀ m17 : Mem, m17 = upM m14 88 l1 l3 → (E_X11_sheet G d 93 [(0, vR 71), (1, vI l1), (4, vI 0)] [] m17 Q)))) ∧ (¬ (l2 ≠ 0) → (∀ m19 : Mem, m19 = upM m14 88 l1 0 → (E_X11_sheet G d 93 [(0, vR 71), (1, vI l1), (4, vI 0)] [] m19 Q))))))) ∧ (¬ (l2 = 0) → ((inr l3) ∧ (((l3 ≤ 24) → ((0 ≤ l1 ∧ l1 < 4) ∧ (∀ m25 : Mem, m25 = upM mem 87 l1 l2 → (((l2 ≠ 0) → (∀ m28 : Mem, m28 = upM m25 88 l1 l3 → (E_X11_sheet G d 93 [(0, vR 71), (1, vI l1), (4, vI 0)] [] m28 Q))) ∧ (¬ (l2 ≠ 0) → (∀ m29 : Mem, m29 = upM m25 88 l1 0 → (E_X11_sheet G d 93 [(0, vR 71), (1, vI l1), (4, vI 0)] [] m29 Q))))))) ∧ (¬ (l3 ≤ 24) → (∀ m30 : Mem, m30 = fndM mem (-1000001) → (Q (some (vI (-1000001))) m30)))))))) ∧ (¬ (l2 = 0) → ((inr l3) ∧ (((0 ≤ l3) → (((l2 = 0) → ((0 ≤ l1 ∧ l1 < 4) ∧ (∀ m38 : Mem, m38 = upM mem 87 l1 l2 → (((l2 ≠ 0) → (∀ m41 : Mem, m41 = upM m38 88 l1 l3 → (E_X11_sheet G d 93 [(0, vR 71), (1, vI l1), (4, vI 0)] [] m41 Q))) ∧ (¬ (l2 ≠ 0) → (∀ m42 : Mem, m42 = upM m38 88 l1 0 → (E_X11_sheet G d 93 [(0, vR 71), (1, vI l1), (4, vI 0)] [] m42 Q))))))) ∧ (¬ (l2 = 0) → (((l3 ≤ 24) → ((0 ≤ l1 ∧ l1 < 4) ∧ (∀ m47 : Mem, m47 = upM mem 87 l1 l2 → (((l2 ≠ 0) → (∀ m50 : Mem, m50 = upM m47 88 l1 l3 → (E_X11_sheet G d 93 [(0, vR 71), (1, vI l1), (4, vI 0)] [] m50 Q))) ∧ (¬ (l2 ≠ 0) → (∀ m51 : Mem, m51 = upM m47 88 l1 0 → (E_X11_sheet G d 93 [(0, vR 71), (1, vI l1), (4, vI 0)] [] m51 Q))))))) ∧ (¬ (l3 ≤ 24) → (∀ m52 : Mem, m52 = fndM mem (-1000001) → (Q (some (vI (-1000001))) m52))))))) ∧ (¬ (0 ≤ l3) → (∀ m53 : Mem, m53 = fndM mem (-1000003) → (Q (some (vI (-1000003))) m53)))))))) ∧ (¬ (l2 = 0) → (((l2 = 8) → (((l2 = 0) → (((l2 = 0) → ((0 ≤ l1 ∧ l1 < 4) ∧ (∀ m62 : Mem, m62 = upM mem 87 l1 l2 → (((l2 ≠ 0) → ((inr l3) ∧ (∀ m65 : Mem, m65 = upM m62 88 l1 l3 → (E_X11_sheet G d 93 [(0, vR 71), (1, vI l1), (4, vI 0)] [] m65 Q)))) ∧ (¬ (l2 ≠ 0) → (∀ m67 : Mem, m67 = upM m62 88 l1 0 → (E_X11_sheet G d 93 [(0, vR 71), (1, vI l1), (4, vI 0)] [] m67 Q))))))) ∧ (¬ (l2 = 0) → ((inr l3) ∧ (((l3 ≤ 24) → ((0 ≤ l1 ∧ l1 < 4) ∧ (∀ m73 : Mem, m73 = upM mem 87 l1 l2 → (((l2 ≠ 0) → (∀ m76 : Mem, m76 = upM m73 88 l1 l3 → (E_X11_sheet G d 93 [(0, vR 71), (1, vI l1), (4, vI 0)] [] m76 Q))) ∧ (¬ (l2 ≠ 0) → (∀ m77 : Mem, m77 = upM m73 88 l1 0 → (E_X11_sheet G d 93 [(0, vR 71), (1, vI l1), (4, vI 0)] [] m77 Q))))))) ∧ (¬ (l3 ≤ 24) → (∀ m78 : Mem, m78 = fndM mem (-1000001) → (Q (some (vI (-1000001))) m78)))))))) ∧ (¬ (l2 = 0) → ((inr l3) ∧ (((0 ≤ l3) → (((l2 = 0) → ((0 ≤ l1 ∧ l1 < 4) ∧ (∀ m86 : Mem, m86 = upM mem 87 l1 l2 → (((l2 ≠ 0) → (∀ m89 : Mem, m89 = upM m86 88 l1 l3 → (E_X11_sheet G d 93 [(0, vR 71), (1, vI l1), (4, vI 0)] [] m89 Q))) ∧ (¬ (l2 ≠ 0) → (∀ m90 : Mem, m90 = upM m86 88 l1 0 → (E_X11_sheet G d 93 [(0, vR 71), (1, vI l1), (4, vI 0)] [] m90 Q))))))) ∧ (¬ (l2 = 0) → (((l3 ≤ 24) → ((0 ≤ l1 ∧ l1 < 4) ∧ (∀ m95 : Mem, m95 = upM mem 87 l1 l2 → (((l2 ≠ 0) → (∀ m98 : Mem, m98 = upM m95 88 l1 l3 → (E_X11_sheet G d 93 [(0, vR 71), (1, vI l1), (4, vI 0)] [] m98 Q))) ∧ (¬ (l2 ≠ 0) → (∀ m99 : Mem, m99 = upM m95 88 l1 0 → (E_X11_sheet G d 93 [(0, vR 71), (1, vI l1), (4, vI 0)] [] m99 Q))))))) ∧ (¬ (l3 ≤ 24) → (∀ m100 : Mem, m100 = fndM mem (-1000001) → (Q (some (vI (-1000001))) m100))))))) ∧ (¬ (0 ≤ l3) → (∀ m101 : Mem, m101 = fndM mem (-1000003) → (Q (some (vI (-1000003))) m101)))))))) ∧ (¬ (l2 = 8) → (((l2 = 16) → (((l2 = 0) → (((l2 = 0) → ((0 ≤ l1 ∧ l1 < 4) ∧ (∀ m110 : Mem, m110 = upM mem 87 l1 l2 → (((l2 ≠ 0) → ((inr l3) ∧ (∀ m113 : Mem, m113 = upM m110 88 l1 l3 → (E_X11_sheet G d 93 [(0, vR 71), (1, vI l1), (4, vI 0)] [] m113 Q)))) ∧ (¬ (l2 ≠ 0) → (∀ m115 : Mem, m115 = upM m110 88 l1 0 → (E_X11_sheet G d 93 [(0, vR 71), (1, vI l1), (4, vI 0)] [] m115 Q))))))) ∧ (¬ (l2 = 0) → ((inr l3) ∧ (((l3 ≤ 24) → ((0 ≤ l1 ∧ l1 < 4) ∧ (∀ m121 : Mem, m121 = upM mem 87 l1 l2 → (((l2 ≠ 0) → (∀ m124 : Mem, m124 = upM m121 88 l1 l3 → (E_X11_sheet G d 93 [(0, vR 71), (1, vI l1), (4, vI 0)] [] m124 Q))) ∧ (¬ (l2 ≠ 0) → (∀ m125 : Mem, m125 = upM m121 88 l1 0 → (E_X11_sheet G d 93 [(0, vR 71), (1, vI l1), (4, vI 0)] [] m125 Q))))))) ∧ (¬ (l3 ≤ 24) → (∀ m126 : Mem, m126 = fndM mem (-1000001) → (Q (some (vI (-1000001))) m126)))))))) ∧ (¬ (l2 = 0) → ((inr l3) ∧ (((0 ≤ l3) → (((l2 = 0) → ((0 ≤ l1 ∧ l1 < 4) ∧ (∀ m134 : Mem, m134 = upM mem 87 l1 l2 → (((l2 ≠ 0) → (∀ m137 : Mem, m137 = upM m134 88 l1 l3 → (E_X11_sheet G d 93 [(0, vR 71), (1, vI l1), (4, vI 0)] [] m137 Q))) ∧ (¬ (l2 ≠ 0) → (∀ m138 : Mem, m138 = upM m134 88 l1 0 → (E_X11_sheet G d 93 [(0, vR 71), (1, vI l1), (4, vI 0)] [] m138 Q))))))) ∧ (¬ (l2 = 0) → (((l3 ≤ 24) → ((0 ≤ l1 ∧ l1 < 4) ∧ (∀ m143 : Mem, m143 = upM mem 87 l1 l2 → (((l2 ≠ 0) → (∀ m146 : Mem, m146 = upM m143 88 l1 l3 → (E_X11_sheet G d 93 [(0, vR 71), (1, vI l1), (4, vI 0)] [] m146 Q))) ∧ (¬ (l2 ≠ 0) → (∀ m147 : Mem, m147 = upM m143 88 l1 0 → (E_X11_sheet G d 93 [(0, vR 71), (1, vI l1), (4, vI 0)] [] m147 Q))))))) ∧ (¬ (l3 ≤ 24) → (∀ m148 : Mem, m148 = fndM mem (-1000001) → (Q (some (vI (-1000001))) m148))))))) ∧ (¬ (0 ≤ l3) → (∀ m149 : Mem, m149 = fndM mem (-1000003) → (Q (some (vI (-1000003))) m149)))))))) ∧ (¬ (l2 = 16) → (((l2 = 32) → (((l2 = 0) → (((l2 = 0) → ((0 ≤ l1 ∧ l1 < 4) ∧ (∀ m158 : Mem, m158 = upM mem 87 l1 l2 → (((l2 ≠ 0) → ((inr l3) ∧ (∀ m161 : Mem, m161 = upM m158 88 l1 l3 → (E_X11_sheet G d 93 [(0, vR 71), (1, vI l1), (4, vI 0)] [] m161 Q)))) ∧ (¬ (l2 ≠ 0) → (∀ m163 : Mem, m163 = upM m158 88 l1 0 → (E_X11_sheet G d 93 [(0, vR 71), (1, vI l1), (4, vI 0)] [] m163 Q))))))) ∧ (¬ (l2 = 0) → ((inr l3) ∧ (((l3 ≤ 24) → ((0 ≤ l1 ∧ l1 < 4) ∧ (∀ m169 : Mem, m169 = upM mem 87 l1 l2 → (((l2 ≠ 0) → (∀ m172 : Mem, m172 = upM m169 88 l1 l3 → (E_X11_sheet G d 93 [(0, vR 71), (1, vI l1), (4, vI 0)] [] m172 Q))) ∧ (¬ (l2 ≠ 0) → (∀ m173 : Mem, m173 = upM m169 88 l1 0 → (E_X11_sheet G d 93 [(0, vR 71), (1, vI l1), (4, vI 0)] [] m173 Q))))))) ∧ (¬ (l3 ≤ 24) → (∀ m174 : Mem, m174 = fndM mem (-1000001) → (Q (some (vI (-1000001))) m174)))))))) ∧ (¬ (l2 = 0) → ((inr l3) ∧ (((0 ≤ l3) → (((l2 = 0) → ((0 ≤ l1 ∧ l1 < 4) ∧ (∀ m182 : Mem, m182 = upM mem 87 l1 l2 → (((l2 ≠ 0) → (∀ m185 : Mem, m185 = upM m182 88 l1 l3 → (E_X11_sheet G d 93 [(0, vR 71), (1, vI l1), (4, vI 0)] [] m185 Q))) ∧ (¬ (l2 ≠ 0) → (∀ m186 : Mem, m186 = upM m182 88 l1 0 → (E_X11_sheet G d 93 [(0, vR 71), (1, vI l1), (4, vI 0)] [] m186 Q))))))) ∧ (¬ (l2 = 0) → (((l3 ≤ 24) → ((0 ≤ l1 ∧ l1 < 4) ∧ (∀ m191 : Mem, m191 = upM mem 87 l1 l2 → (((l2 ≠ 0) → (∀ m194 : Mem, m194 = upM m191 88 l1 l3 → (E_X11_sheet G d 93 [(0, vR 71), (1, vI l1), (4, vI 0)] [] m194 Q))) ∧ (¬ (l2 ≠ 0) → (∀ m195 : Mem, m195 = upM m191 88 l1 0 → (E_X11_sheet G d 93 [(0, vR 71), (1, vI l1), (4, vI 0)] [] m195 Q))))))) ∧ (¬ (l3 ≤ 24) → (∀ m196 : Mem, m196 = fndM mem (-1000001) → (Q (some (vI (-1000001))) m196))))))) ∧ (¬ (0 ≤ l3) → (∀ m197 : Mem, m197 = fndM mem (-1000003) → (Q (some (vI (-1000003))) m197)))))))) ∧ (¬ (l2 = 32) → (∀ m198 : Mem, m198 = fndM mem (-1000001) → (Q (some (vI (-1000001))) m198)))))))))))))) : C_X11_sheet G d [vR 71, vI l1, vI l2, vI l3] mem Q := by
  refine Ct_of_Ex (by decide +kernel) (by exact Nat.le_of_ble_eq_true rfl) (ls := [(0, vR 71), (1, vI l1), (2, vI l2), (3, vI l3)]) rfl ?_
  show E_X11_sheet G d 0 [(0, vR 71), (1, vI l1), (2, vI l2), (3, vI l3)] [] mem Q
  refine x_iloadn (q := 1) 1 rfl rfl dX11_sheet_0 rfl ?_
  obtain ⟨s1, H⟩ := H
  refine x_callS (q := 4) (d := d - 1) (as := [vI l1]) (st := []) dX11_sheet_1 rfl ms_X11_298 rfl rfl (by exact Nat.le_of_ble_eq_true rfl) ⟨by show _ ≤ d; omega, by show _ ≤ 40 * d; omega⟩ ⟨Nat.le_refl _, Nat.le_refl _⟩ (ct_isSheet (by omega) s1 ?_)
  show E_X11_sheet G d 4 [(0, vR 71), (1, vI l1), (2, vI l2), (3, vI l3)] [vI (bz (0 ≤ l1 ∧ l1 ≤ 3))] mem Q
  obtain ⟨H1, H2⟩ := H
  refine x_if_eq (tgt := 29) (q := 7) dX11_sheet_4 (by decide) rfl (bz_inr _) (fun hB => ?_) (fun hB => ?_)
  · have H := H1 (bz_0.mp hB)
    refine x_aloadn (q := 30) 0 rfl rfl rfl dX11_sheet_29 rfl ?_
    refine x_ldc (q := 32) (z := (-1000001)) cn_X11_87 (by decide) dX11_sheet_30 rfl ?_
    obtain ⟨m4, em4⟩ : ∃ m9 : Mem, m9 = fndM mem (-1000001) := ⟨_, rfl⟩
    have H := H m4 em4
    refine x_callV (q := 35) (d := d - 1) (as := [vI (-1000001)]) (st := []) dX11_sheet_32 rfl mv_X11_88 sh_71 rfl rfl rfl (by exact Nat.le_of_ble_eq_true rfl) ⟨by show _ ≤ d; omega, by show _ ≤ 40 * d; omega⟩ ⟨Nat.le_refl _, Nat.le_refl _⟩ (ct_finding (by decide) (by decide) ?_)
    rw [← em4]
    show E_X11_sheet G d 35 [(0, vR 71), (1, vI l1), (2, vI l2), (3, vI l3)] [vI (-1000001)] m4 Q
    exact x_iret rfl dX11_sheet_35 H
  · have H := H2 (Classical.byContradiction (fun z => hB (bz_0.mpr z)))
    refine x_iloadn (q := 8) 2 rfl rfl dX11_sheet_7 rfl ?_
    obtain ⟨s5, H⟩ := H
    obtain ⟨H1, H2⟩ := H
    refine x_if_eq (tgt := 36) (q := 11) dX11_sheet_8 (by decide) rfl s5 (fun hB => ?_) (fun hB => ?_)
    · have H := H1 (hB)
      refine x_iloadn (q := 37) 2 rfl rfl dX11_sheet_36 rfl ?_
      obtain ⟨H1, H2⟩ := H
      refine x_if_eq (tgt := 51) (q := 40) dX11_sheet_37 (by decide) rfl s5 (fun hB => ?_) (fun hB => ?_)
      · have H := H1 (hB)
        refine x_iloadn (q := 52) 2 rfl rfl dX11_sheet_51 rfl ?_
        obtain ⟨H1, H2⟩ := H
        refine x_if_eq (tgt := 68) (q := 55) dX11_sheet_52 (by decide) rfl s5 (fun hB => ?_) (fun hB => ?_)
        · have H := H1 (hB)
          refine x_aloadn (q := 69) 0 rfl rfl rfl dX11_sheet_68 rfl ?_
          refine x_getr (q := 72) dX11_sheet_69 rfl fa_X11_70 sh_71 rfl ?_
          refine x_iloadn (q := 73) 1 rfl rfl dX11_sheet_72 rfl ?_
          refine x_iloadn (q := 74) 2 rfl rfl dX11_sheet_73 rfl ?_
          obtain ⟨⟨s12, s13⟩, H⟩ := H
          refine x_iast (q := 75) dX11_sheet_74 rfl sh_87 s12 s13 s5 (fun m14 em14 => ?_)
          have H := H m14 em14
          refine x_aloadn (q := 76) 0 rfl rfl rfl dX11_sheet_75 rfl ?_
          refine x_getr (q := 79) dX11_sheet_76 rfl fa_X11_73 sh_71 rfl ?_
          refine x_iloadn (q := 80) 1 rfl rfl dX11_sheet_79 rfl ?_
          refine x_iloadn (q := 81) 2 rfl rfl dX11_sheet_80 rfl ?_
          obtain ⟨H1, H2⟩ := H
          refine x_if_ne (tgt := 88) (q := 84) dX11_sheet_81 (by decide) rfl s5 (fun hB => ?_) (fun hB => ?_)
          · have H := H1 (hB)
            refine x_iloadn (q := 89) 3 rfl rfl dX11_sheet_88 rfl ?_
            obtain ⟨s18, H⟩ := H
            refine x_iast (q := 90) dX11_sheet_89 rfl sh_88 s12 s13 s18 (fun m17 em17 => ?_)
            have H := H m17 em17
            refine x_iconst (q := 91) dX11_sheet_90 rfl ?_
            refine x_istore (q := 93) (ls' := [(4, vI 0), (0, vR 71), (1, vI l1), (2, vI l2), (3, vI l3)]) (by decide) rfl dX11_sheet_91 rfl ?_
            refine x_sub [1, 2, 0] rfl ?_
            exact H
          · have H := H2 (hB)
            refine x_iconst (q := 85) dX11_sheet_84 rfl ?_
            refine x_goto (tgt := 89) dX11_sheet_85 (by decide) ?_
            refine x_iast (q := 90) dX11_sheet_89 rfl sh_88 s12 s13 (by decide) (fun m19 em19 => ?_)
            have H := H m19 em19
            refine x_iconst (q := 91) dX11_sheet_90 rfl ?_
            refine x_istore (q := 93) (ls' := [(4, vI 0), (0, vR 71), (1, vI l1), (2, vI l2), (3, vI l3)]) (by decide) rfl dX11_sheet_91 rfl ?_
            refine x_sub [1, 2, 0] rfl ?_
            exact H
        · have H := H2 (hB)
          refine x_iloadn (q := 56) 3 rfl rfl dX11_sheet_55 rfl ?_
          refine x_bipush (q := 58) rfl dX11_sheet_56 rfl ?_
          obtain ⟨s20, H⟩ := H
          obtain ⟨H1, H2⟩ := H
          refine x_icmp_le (tgt := 68) (q := 61) dX11_sheet_58 (by decide) rfl s20 (by decide) (fun hB => ?_) (fun hB => ?_)
          · have H := H1 (hB)
            refine x_aloadn (q := 69) 0 rfl rfl rfl dX11_sheet_68 rfl ?_
            refine x_getr (q := 72) dX11_sheet_69 rfl fa_X11_70 sh_71 rfl ?_
            refine x_iloadn (q := 73) 1 rfl rfl dX11_sheet_72 rfl ?_
            refine x_iloadn (q := 74) 2 rfl rfl dX11_sheet_73 rfl ?_
            obtain ⟨⟨s23, s24⟩, H⟩ := H
            refine x_iast (q := 75) dX11_sheet_74 rfl sh_87 s23 s24 s5 (fun m25 em25 => ?_)
            have H := H m25 em25
            refine x_aloadn (q := 76) 0 rfl rfl rfl dX11_sheet_75 rfl ?_
            refine x_getr (q := 79) dX11_sheet_76 rfl fa_X11_73 sh_71 rfl ?_
            refine x_iloadn (q := 80) 1 rfl rfl dX11_sheet_79 rfl ?_
            refine x_iloadn (q := 81) 2 rfl rfl dX11_sheet_80 rfl ?_
            obtain ⟨H1, H2⟩ := H
            refine x_if_ne (tgt := 88) (q := 84) dX11_sheet_81 (by decide) rfl s5 (fun hB => ?_) (fun hB => ?_)
            · have H := H1 (hB)
              refine x_iloadn (q := 89) 3 rfl rfl dX11_sheet_88 rfl ?_
              refine x_iast (q := 90) dX11_sheet_89 rfl sh_88 s23 s24 s20 (fun m28 em28 => ?_)
              have H := H m28 em28
              refine x_iconst (q := 91) dX11_sheet_90 rfl ?_
              refine x_istore (q := 93) (ls' := [(4, vI 0), (0, vR 71), (1, vI l1), (2, vI l2), (3, vI l3)]) (by decide) rfl dX11_sheet_91 rfl ?_
              refine x_sub [1, 2, 0] rfl ?_
              exact H
            · have H := H2 (hB)
              refine x_iconst (q := 85) dX11_sheet_84 rfl ?_
              refine x_goto (tgt := 89) dX11_sheet_85 (by decide) ?_
              refine x_iast (q := 90) dX11_sheet_89 rfl sh_88 s23 s24 (by decide) (fun m29 em29 => ?_)
              have H := H m29 em29
              refine x_iconst (q := 91) dX11_sheet_90 rfl ?_
              refine x_istore (q := 93) (ls' := [(4, vI 0), (0, vR 71), (1, vI l1), (2, vI l2), (3, vI l3)]) (by decide) rfl dX11_sheet_91 rfl ?_
              refine x_sub [1, 2, 0] rfl ?_
              exact H
          · have H := H2 (hB)
            refine x_aloadn (q := 62) 0 rfl rfl rfl dX11_sheet_61 rfl ?_
            refine x_ldc (q := 64) (z := (-1000001)) cn_X11_87 (by decide) dX11_sheet_62 rfl ?_
            obtain ⟨m30, em30⟩ : ∃ m9 : Mem, m9 = fndM mem (-1000001) := ⟨_, rfl⟩
            have H := H m30 em30
            refine x_callV (q := 67) (d := d - 1) (as := [vI (-1000001)]) (st := []) dX11_sheet_64 rfl mv_X11_88 sh_71 rfl rfl rfl (by exact Nat.le_of_ble_eq_true rfl) ⟨by show _ ≤ d; omega, by show _ ≤ 40 * d; omega⟩ ⟨Nat.le_refl _, Nat.le_refl _⟩ (ct_finding (by decide) (by decide) ?_)
            rw [← em30]
            show E_X11_sheet G d 67 [(0, vR 71), (1, vI l1), (2, vI l2), (3, vI l3)] [vI (-1000001)] m30 Q
            exact x_iret rfl dX11_sheet_67 H
      · have H := H2 (hB)
        refine x_iloadn (q := 41) 3 rfl rfl dX11_sheet_40 rfl ?_
        obtain ⟨s31, H⟩ := H
        obtain ⟨H1, H2⟩ := H
        refine x_if_ge (tgt := 51) (q := 44) dX11_sheet_41 (by decide) rfl s31 (fun hB => ?_) (fun hB => ?_)
        · have H := H1 (hB)
          refine x_iloadn (q := 52) 2 rfl rfl dX11_sheet_51 rfl ?_
          obtain ⟨H1, H2⟩ := H
          refine x_if_eq (tgt := 68) (q := 55) dX11_sheet_52 (by decide) rfl s5 (fun hB => ?_) (fun hB => ?_)
          · have H := H1 (hB)
            refine x_aloadn (q := 69) 0 rfl rfl rfl dX11_sheet_68 rfl ?_
            refine x_getr (q := 72) dX11_sheet_69 rfl fa_X11_70 sh_71 rfl ?_
            refine x_iloadn (q := 73) 1 rfl rfl dX11_sheet_72 rfl ?_
            refine x_iloadn (q := 74) 2 rfl rfl dX11_sheet_73 rfl ?_
            obtain ⟨⟨s36, s37⟩, H⟩ := H
            refine x_iast (q := 75) dX11_sheet_74 rfl sh_87 s36 s37 s5 (fun m38 em38 => ?_)
            have H := H m38 em38
            refine x_aloadn (q := 76) 0 rfl rfl rfl dX11_sheet_75 rfl ?_
            refine x_getr (q := 79) dX11_sheet_76 rfl fa_X11_73 sh_71 rfl ?_
            refine x_iloadn (q := 80) 1 rfl rfl dX11_sheet_79 rfl ?_
            refine x_iloadn (q := 81) 2 rfl rfl dX11_sheet_80 rfl ?_
            obtain ⟨H1, H2⟩ := H
            refine x_if_ne (tgt := 88) (q := 84) dX11_sheet_81 (by decide) rfl s5 (fun hB => ?_) (fun hB => ?_)
            · have H := H1 (hB)
              refine x_iloadn (q := 89) 3 rfl rfl dX11_sheet_88 rfl ?_
              refine x_iast (q := 90) dX11_sheet_89 rfl sh_88 s36 s37 s31 (fun m41 em41 => ?_)
              have H := H m41 em41
              refine x_iconst (q := 91) dX11_sheet_90 rfl ?_
              refine x_istore (q := 93) (ls' := [(4, vI 0), (0, vR 71), (1, vI l1), (2, vI l2), (3, vI l3)]) (by decide) rfl dX11_sheet_91 rfl ?_
              refine x_sub [1, 2, 0] rfl ?_
              exact H
            · have H := H2 (hB)
              refine x_iconst (q := 85) dX11_sheet_84 rfl ?_
              refine x_goto (tgt := 89) dX11_sheet_85 (by decide) ?_
              refine x_iast (q := 90) dX11_sheet_89 rfl sh_88 s36 s37 (by decide) (fun m42 em42 => ?_)
              have H := H m42 em42
              refine x_iconst (q := 91) dX11_sheet_90 rfl ?_
              refine x_istore (q := 93) (ls' := [(4, vI 0), (0, vR 71), (1, vI l1), (2, vI l2), (3, vI l3)]) (by decide) rfl dX11_sheet_91 rfl ?_
              refine x_sub [1, 2, 0] rfl ?_
              exact H
          · have H := H2 (hB)
            refine x_iloadn (q := 56) 3 rfl rfl dX11_sheet_55 rfl ?_
            refine x_bipush (q := 58) rfl dX11_sheet_56 rfl ?_
            obtain ⟨H1, H2⟩ := H
            refine x_icmp_le (tgt := 68) (q := 61) dX11_sheet_58 (by decide) rfl s31 (by decide) (fun hB => ?_) (fun hB => ?_)
            · have H := H1 (hB)
              refine x_aloadn (q := 69) 0 rfl rfl rfl dX11_sheet_68 rfl ?_
              refine x_getr (q := 72) dX11_sheet_69 rfl fa_X11_70 sh_71 rfl ?_
              refine x_iloadn (q := 73) 1 rfl rfl dX11_sheet_72 rfl ?_
              refine x_iloadn (q := 74) 2 rfl rfl dX11_sheet_73 rfl ?_
              obtain ⟨⟨s45, s46⟩, H⟩ := H
              refine x_iast (q := 75) dX11_sheet_74 rfl sh_87 s45 s46 s5 (fun m47 em47 => ?_)
              have H := H m47 em47
              refine x_aloadn (q := 76) 0 rfl rfl rfl dX11_sheet_75 rfl ?_
              refine x_getr (q := 79) dX11_sheet_76 rfl fa_X11_73 sh_71 rfl ?_
              refine x_iloadn (q := 80) 1 rfl rfl dX11_sheet_79 rfl ?_
              refine x_iloadn (q := 81) 2 rfl rfl dX11_sheet_80 rfl ?_
              obtain ⟨H1, H2⟩ := H
              refine x_if_ne (tgt := 88) (q := 84) dX11_sheet_81 (by decide) rfl s5 (fun hB => ?_) (fun hB => ?_)
              · have H := H1 (hB)
                refine x_iloadn (q := 89) 3 rfl rfl dX11_sheet_88 rfl ?_
                refine x_iast (q := 90) dX11_sheet_89 rfl sh_88 s45 s46 s31 (fun m50 em50 => ?_)
                have H := H m50 em50
                refine x_iconst (q := 91) dX11_sheet_90 rfl ?_
                refine x_istore (q := 93) (ls' := [(4, vI 0), (0, vR 71), (1, vI l1), (2, vI l2), (3, vI l3)]) (by decide) rfl dX11_sheet_91 rfl ?_
                refine x_sub [1, 2, 0] rfl ?_
                exact H
              · have H := H2 (hB)
                refine x_iconst (q := 85) dX11_sheet_84 rfl ?_
                refine x_goto (tgt := 89) dX11_sheet_85 (by decide) ?_
                refine x_iast (q := 90) dX11_sheet_89 rfl sh_88 s45 s46 (by decide) (fun m51 em51 => ?_)
                have H := H m51 em51
                refine x_iconst (q := 91) dX11_sheet_90 rfl ?_
                refine x_istore (q := 93) (ls' := [(4, vI 0), (0, vR 71), (1, vI l1), (2, vI l2), (3, vI l3)]) (by decide) rfl dX11_sheet_91 rfl ?_
                refine x_sub [1, 2, 0] rfl ?_
                exact H
            · have H := H2 (hB)
              refine x_aloadn (q := 62) 0 rfl rfl rfl dX11_sheet_61 rfl ?_
              refine x_ldc (q := 64) (z := (-1000001)) cn_X11_87 (by decide) dX11_sheet_62 rfl ?_
              obtain ⟨m52, em52⟩ : ∃ m9 : Mem, m9 = fndM mem (-1000001) := ⟨_, rfl⟩
              have H := H m52 em52
              refine x_callV (q := 67) (d := d - 1) (as := [vI (-1000001)]) (st := []) dX11_sheet_64 rfl mv_X11_88 sh_71 rfl rfl rfl (by exact Nat.le_of_ble_eq_true rfl) ⟨by show _ ≤ d; omega, by show _ ≤ 40 * d; omega⟩ ⟨Nat.le_refl _, Nat.le_refl _⟩ (ct_finding (by decide) (by decide) ?_)
              rw [← em52]
              show E_X11_sheet G d 67 [(0, vR 71), (1, vI l1), (2, vI l2), (3, vI l3)] [vI (-1000001)] m52 Q
              exact x_iret rfl dX11_sheet_67 H
        · have H := H2 (hB)
          refine x_aloadn (q := 45) 0 rfl rfl rfl dX11_sheet_44 rfl ?_
          refine x_ldc (q := 47) (z := (-1000003)) cn_X11_122 (by decide) dX11_sheet_45 rfl ?_
          obtain ⟨m53, em53⟩ : ∃ m9 : Mem, m9 = fndM mem (-1000003) := ⟨_, rfl⟩
          have H := H m53 em53
          refine x_callV (q := 50) (d := d - 1) (as := [vI (-1000003)]) (st := []) dX11_sheet_47 rfl mv_X11_88 sh_71 rfl rfl rfl (by exact Nat.le_of_ble_eq_true rfl) ⟨by show _ ≤ d; omega, by show _ ≤ 40 * d; omega⟩ ⟨Nat.le_refl _, Nat.le_refl _⟩ (ct_finding (by decide) (by decide) ?_)
          rw [← em53]
          show E_X11_sheet G d 50 [(0, vR 71), (1, vI l1), (2, vI l2), (3, vI l3)] [vI (-1000003)] m53 Q
          exact x_iret rfl dX11_sheet_50 H
    · have H := H2 (hB)
      refine x_iloadn (q := 12) 2 rfl rfl dX11_sheet_11 rfl ?_
      refine x_bipush (q := 14) rfl dX11_sheet_12 rfl ?_
      obtain ⟨H1, H2⟩ := H
      refine x_icmp_eq (tgt := 36) (q := 17) dX11_sheet_14 (by decide) rfl s5 (by decide) (fun hB => ?_) (fun hB => ?_)
      · have H := H1 (hB)
        refine x_iloadn (q := 37) 2 rfl rfl dX11_sheet_36 rfl ?_
        obtain ⟨H1, H2⟩ := H
        refine x_if_eq (tgt := 51) (q := 40) dX11_sheet_37 (by decide) rfl s5 (fun hB => ?_) (fun hB => ?_)
        · have H := H1 (hB)
          refine x_iloadn (q := 52) 2 rfl rfl dX11_sheet_51 rfl ?_
          obtain ⟨H1, H2⟩ := H
          refine x_if_eq (tgt := 68) (q := 55) dX11_sheet_52 (by decide) rfl s5 (fun hB => ?_) (fun hB => ?_)
          · have H := H1 (hB)
            refine x_aloadn (q := 69) 0 rfl rfl rfl dX11_sheet_68 rfl ?_
            refine x_getr (q := 72) dX11_sheet_69 rfl fa_X11_70 sh_71 rfl ?_
            refine x_iloadn (q := 73) 1 rfl rfl dX11_sheet_72 rfl ?_
            refine x_iloadn (q := 74) 2 rfl rfl dX11_sheet_73 rfl ?_
            obtain ⟨⟨s60, s61⟩, H⟩ := H
            refine x_iast (q := 75) dX11_sheet_74 rfl sh_87 s60 s61 s5 (fun m62 em62 => ?_)
            have H := H m62 em62
            refine x_aloadn (q := 76) 0 rfl rfl rfl dX11_sheet_75 rfl ?_
            refine x_getr (q := 79) dX11_sheet_76 rfl fa_X11_73 sh_71 rfl ?_
            refine x_iloadn (q := 80) 1 rfl rfl dX11_sheet_79 rfl ?_
            refine x_iloadn (q := 81) 2 rfl rfl dX11_sheet_80 rfl ?_
            obtain ⟨H1, H2⟩ := H
            refine x_if_ne (tgt := 88) (q := 84) dX11_sheet_81 (by decide) rfl s5 (fun hB => ?_) (fun hB => ?_)
            · have H := H1 (hB)
              refine x_iloadn (q := 89) 3 rfl rfl dX11_sheet_88 rfl ?_
              obtain ⟨s66, H⟩ := H
              refine x_iast (q := 90) dX11_sheet_89 rfl sh_88 s60 s61 s66 (fun m65 em65 => ?_)
              have H := H m65 em65
              refine x_iconst (q := 91) dX11_sheet_90 rfl ?_
              refine x_istore (q := 93) (ls' := [(4, vI 0), (0, vR 71), (1, vI l1), (2, vI l2), (3, vI l3)]) (by decide) rfl dX11_sheet_91 rfl ?_
              refine x_sub [1, 2, 0] rfl ?_
              exact H
            · have H := H2 (hB)
              refine x_iconst (q := 85) dX11_sheet_84 rfl ?_
              refine x_goto (tgt := 89) dX11_sheet_85 (by decide) ?_
              refine x_iast (q := 90) dX11_sheet_89 rfl sh_88 s60 s61 (by decide) (fun m67 em67 => ?_)
              have H := H m67 em67
              refine x_iconst (q := 91) dX11_sheet_90 rfl ?_
              refine x_istore (q := 93) (ls' := [(4, vI 0), (0, vR 71), (1, vI l1), (2, vI l2), (3, vI l3)]) (by decide) rfl dX11_sheet_91 rfl ?_
              refine x_sub [1, 2, 0] rfl ?_
              exact H
          · have H := H2 (hB)
            refine x_iloadn (q := 56) 3 rfl rfl dX11_sheet_55 rfl ?_
            refine x_bipush (q := 58) rfl dX11_sheet_56 rfl ?_
            obtain ⟨s68, H⟩ := H
            obtain ⟨H1, H2⟩ := H
            refine x_icmp_le (tgt := 68) (q := 61) dX11_sheet_58 (by decide) rfl s68 (by decide) (fun hB => ?_) (fun hB => ?_)
            · have H := H1 (hB)
              refine x_aloadn (q := 69) 0 rfl rfl rfl dX11_sheet_68 rfl ?_
              refine x_getr (q := 72) dX11_sheet_69 rfl fa_X11_70 sh_71 rfl ?_
              refine x_iloadn (q := 73) 1 rfl rfl dX11_sheet_72 rfl ?_
              refine x_iloadn (q := 74) 2 rfl rfl dX11_sheet_73 rfl ?_
              obtain ⟨⟨s71, s72⟩, H⟩ := H
              refine x_iast (q := 75) dX11_sheet_74 rfl sh_87 s71 s72 s5 (fun m73 em73 => ?_)
              have H := H m73 em73
              refine x_aloadn (q := 76) 0 rfl rfl rfl dX11_sheet_75 rfl ?_
              refine x_getr (q := 79) dX11_sheet_76 rfl fa_X11_73 sh_71 rfl ?_
              refine x_iloadn (q := 80) 1 rfl rfl dX11_sheet_79 rfl ?_
              refine x_iloadn (q := 81) 2 rfl rfl dX11_sheet_80 rfl ?_
              obtain ⟨H1, H2⟩ := H
              refine x_if_ne (tgt := 88) (q := 84) dX11_sheet_81 (by decide) rfl s5 (fun hB => ?_) (fun hB => ?_)
              · have H := H1 (hB)
                refine x_iloadn (q := 89) 3 rfl rfl dX11_sheet_88 rfl ?_
                refine x_iast (q := 90) dX11_sheet_89 rfl sh_88 s71 s72 s68 (fun m76 em76 => ?_)
                have H := H m76 em76
                refine x_iconst (q := 91) dX11_sheet_90 rfl ?_
                refine x_istore (q := 93) (ls' := [(4, vI 0), (0, vR 71), (1, vI l1), (2, vI l2), (3, vI l3)]) (by decide) rfl dX11_sheet_91 rfl ?_
                refine x_sub [1, 2, 0] rfl ?_
                exact H
              · have H := H2 (hB)
                refine x_iconst (q := 85) dX11_sheet_84 rfl ?_
                refine x_goto (tgt := 89) dX11_sheet_85 (by decide) ?_
                refine x_iast (q := 90) dX11_sheet_89 rfl sh_88 s71 s72 (by decide) (fun m77 em77 => ?_)
                have H := H m77 em77
                refine x_iconst (q := 91) dX11_sheet_90 rfl ?_
                refine x_istore (q := 93) (ls' := [(4, vI 0), (0, vR 71), (1, vI l1), (2, vI l2), (3, vI l3)]) (by decide) rfl dX11_sheet_91 rfl ?_
                refine x_sub [1, 2, 0] rfl ?_
                exact H
            · have H := H2 (hB)
              refine x_aloadn (q := 62) 0 rfl rfl rfl dX11_sheet_61 rfl ?_
              refine x_ldc (q := 64) (z := (-1000001)) cn_X11_87 (by decide) dX11_sheet_62 rfl ?_
              obtain ⟨m78, em78⟩ : ∃ m9 : Mem, m9 = fndM mem (-1000001) := ⟨_, rfl⟩
              have H := H m78 em78
              refine x_callV (q := 67) (d := d - 1) (as := [vI (-1000001)]) (st := []) dX11_sheet_64 rfl mv_X11_88 sh_71 rfl rfl rfl (by exact Nat.le_of_ble_eq_true rfl) ⟨by show _ ≤ d; omega, by show _ ≤ 40 * d; omega⟩ ⟨Nat.le_refl _, Nat.le_refl _⟩ (ct_finding (by decide) (by decide) ?_)
              rw [← em78]
              show E_X11_sheet G d 67 [(0, vR 71), (1, vI l1), (2, vI l2), (3, vI l3)] [vI (-1000001)] m78 Q
              exact x_iret rfl dX11_sheet_67 H
        · have H := H2 (hB)
          refine x_iloadn (q := 41) 3 rfl rfl dX11_sheet_40 rfl ?_
          obtain ⟨s79, H⟩ := H
          obtain ⟨H1, H2⟩ := H
          refine x_if_ge (tgt := 51) (q := 44) dX11_sheet_41 (by decide) rfl s79 (fun hB => ?_) (fun hB => ?_)
          · have H := H1 (hB)
            refine x_iloadn (q := 52) 2 rfl rfl dX11_sheet_51 rfl ?_
            obtain ⟨H1, H2⟩ := H
            refine x_if_eq (tgt := 68) (q := 55) dX11_sheet_52 (by decide) rfl s5 (fun hB => ?_) (fun hB => ?_)
            · have H := H1 (hB)
              refine x_aloadn (q := 69) 0 rfl rfl rfl dX11_sheet_68 rfl ?_
              refine x_getr (q := 72) dX11_sheet_69 rfl fa_X11_70 sh_71 rfl ?_
              refine x_iloadn (q := 73) 1 rfl rfl dX11_sheet_72 rfl ?_
              refine x_iloadn (q := 74) 2 rfl rfl dX11_sheet_73 rfl ?_
              obtain ⟨⟨s84, s85⟩, H⟩ := H
              refine x_iast (q := 75) dX11_sheet_74 rfl sh_87 s84 s85 s5 (fun m86 em86 => ?_)
              have H := H m86 em86
              refine x_aloadn (q := 76) 0 rfl rfl rfl dX11_sheet_75 rfl ?_
              refine x_getr (q := 79) dX11_sheet_76 rfl fa_X11_73 sh_71 rfl ?_
              refine x_iloadn (q := 80) 1 rfl rfl dX11_sheet_79 rfl ?_
              refine x_iloadn (q := 81) 2 rfl rfl dX11_sheet_80 rfl ?_
              obtain ⟨H1, H2⟩ := H
              refine x_if_ne (tgt := 88) (q := 84) dX11_sheet_81 (by decide) rfl s5 (fun hB => ?_) (fun hB => ?_)
              · have H := H1 (hB)
                refine x_iloadn (q := 89) 3 rfl rfl dX11_sheet_88 rfl ?_
                refine x_iast (q := 90) dX11_sheet_89 rfl sh_88 s84 s85 s79 (fun m89 em89 => ?_)
                have H := H m89 em89
                refine x_iconst (q := 91) dX11_sheet_90 rfl ?_
                refine x_istore (q := 93) (ls' := [(4, vI 0), (0, vR 71), (1, vI l1), (2, vI l2), (3, vI l3)]) (by decide) rfl dX11_sheet_91 rfl ?_
                refine x_sub [1, 2, 0] rfl ?_
                exact H
              · have H := H2 (hB)
                refine x_iconst (q := 85) dX11_sheet_84 rfl ?_
                refine x_goto (tgt := 89) dX11_sheet_85 (by decide) ?_
                refine x_iast (q := 90) dX11_sheet_89 rfl sh_88 s84 s85 (by decide) (fun m90 em90 => ?_)
                have H := H m90 em90
                refine x_iconst (q := 91) dX11_sheet_90 rfl ?_
                refine x_istore (q := 93) (ls' := [(4, vI 0), (0, vR 71), (1, vI l1), (2, vI l2), (3, vI l3)]) (by decide) rfl dX11_sheet_91 rfl ?_
                refine x_sub [1, 2, 0] rfl ?_
                exact H
            · have H := H2 (hB)
              refine x_iloadn (q := 56) 3 rfl rfl dX11_sheet_55 rfl ?_
              refine x_bipush (q := 58) rfl dX11_sheet_56 rfl ?_
              obtain ⟨H1, H2⟩ := H
              refine x_icmp_le (tgt := 68) (q := 61) dX11_sheet_58 (by decide) rfl s79 (by decide) (fun hB => ?_) (fun hB => ?_)
              · have H := H1 (hB)
                refine x_aloadn (q := 69) 0 rfl rfl rfl dX11_sheet_68 rfl ?_
                refine x_getr (q := 72) dX11_sheet_69 rfl fa_X11_70 sh_71 rfl ?_
                refine x_iloadn (q := 73) 1 rfl rfl dX11_sheet_72 rfl ?_
                refine x_iloadn (q := 74) 2 rfl rfl dX11_sheet_73 rfl ?_
                obtain ⟨⟨s93, s94⟩, H⟩ := H
                refine x_iast (q := 75) dX11_sheet_74 rfl sh_87 s93 s94 s5 (fun m95 em95 => ?_)
                have H := H m95 em95
                refine x_aloadn (q := 76) 0 rfl rfl rfl dX11_sheet_75 rfl ?_
                refine x_getr (q := 79) dX11_sheet_76 rfl fa_X11_73 sh_71 rfl ?_
                refine x_iloadn (q := 80) 1 rfl rfl dX11_sheet_79 rfl ?_
                refine x_iloadn (q := 81) 2 rfl rfl dX11_sheet_80 rfl ?_
                obtain ⟨H1, H2⟩ := H
                refine x_if_ne (tgt := 88) (q := 84) dX11_sheet_81 (by decide) rfl s5 (fun hB => ?_) (fun hB => ?_)
                · have H := H1 (hB)
                  refine x_iloadn (q := 89) 3 rfl rfl dX11_sheet_88 rfl ?_
                  refine x_iast (q := 90) dX11_sheet_89 rfl sh_88 s93 s94 s79 (fun m98 em98 => ?_)
                  have H := H m98 em98
                  refine x_iconst (q := 91) dX11_sheet_90 rfl ?_
                  refine x_istore (q := 93) (ls' := [(4, vI 0), (0, vR 71), (1, vI l1), (2, vI l2), (3, vI l3)]) (by decide) rfl dX11_sheet_91 rfl ?_
                  refine x_sub [1, 2, 0] rfl ?_
                  exact H
                · have H := H2 (hB)
                  refine x_iconst (q := 85) dX11_sheet_84 rfl ?_
                  refine x_goto (tgt := 89) dX11_sheet_85 (by decide) ?_
                  refine x_iast (q := 90) dX11_sheet_89 rfl sh_88 s93 s94 (by decide) (fun m99 em99 => ?_)
                  have H := H m99 em99
                  refine x_iconst (q := 91) dX11_sheet_90 rfl ?_
                  refine x_istore (q := 93) (ls' := [(4, vI 0), (0, vR 71), (1, vI l1), (2, vI l2), (3, vI l3)]) (by decide) rfl dX11_sheet_91 rfl ?_
                  refine x_sub [1, 2, 0] rfl ?_
                  exact H
              · have H := H2 (hB)
                refine x_aloadn (q := 62) 0 rfl rfl rfl dX11_sheet_61 rfl ?_
                refine x_ldc (q := 64) (z := (-1000001)) cn_X11_87 (by decide) dX11_sheet_62 rfl ?_
                obtain ⟨m100, em100⟩ : ∃ m9 : Mem, m9 = fndM mem (-1000001) := ⟨_, rfl⟩
                have H := H m100 em100
                refine x_callV (q := 67) (d := d - 1) (as := [vI (-1000001)]) (st := []) dX11_sheet_64 rfl mv_X11_88 sh_71 rfl rfl rfl (by exact Nat.le_of_ble_eq_true rfl) ⟨by show _ ≤ d; omega, by show _ ≤ 40 * d; omega⟩ ⟨Nat.le_refl _, Nat.le_refl _⟩ (ct_finding (by decide) (by decide) ?_)
                rw [← em100]
                show E_X11_sheet G d 67 [(0, vR 71), (1, vI l1), (2, vI l2), (3, vI l3)] [vI (-1000001)] m100 Q
                exact x_iret rfl dX11_sheet_67 H
          · have H := H2 (hB)
            refine x_aloadn (q := 45) 0 rfl rfl rfl dX11_sheet_44 rfl ?_
            refine x_ldc (q := 47) (z := (-1000003)) cn_X11_122 (by decide) dX11_sheet_45 rfl ?_
            obtain ⟨m101, em101⟩ : ∃ m9 : Mem, m9 = fndM mem (-1000003) := ⟨_, rfl⟩
            have H := H m101 em101
            refine x_callV (q := 50) (d := d - 1) (as := [vI (-1000003)]) (st := []) dX11_sheet_47 rfl mv_X11_88 sh_71 rfl rfl rfl (by exact Nat.le_of_ble_eq_true rfl) ⟨by show _ ≤ d; omega, by show _ ≤ 40 * d; omega⟩ ⟨Nat.le_refl _, Nat.le_refl _⟩ (ct_finding (by decide) (by decide) ?_)
            rw [← em101]
            show E_X11_sheet G d 50 [(0, vR 71), (1, vI l1), (2, vI l2), (3, vI l3)] [vI (-1000003)] m101 Q
            exact x_iret rfl dX11_sheet_50 H
      · have H := H2 (hB)
        refine x_iloadn (q := 18) 2 rfl rfl dX11_sheet_17 rfl ?_
        refine x_bipush (q := 20) rfl dX11_sheet_18 rfl ?_
        obtain ⟨H1, H2⟩ := H
        refine x_icmp_eq (tgt := 36) (q := 23) dX11_sheet_20 (by decide) rfl s5 (by decide) (fun hB => ?_) (fun hB => ?_)
        · have H := H1 (hB)
          refine x_iloadn (q := 37) 2 rfl rfl dX11_sheet_36 rfl ?_
          obtain ⟨H1, H2⟩ := H
          refine x_if_eq (tgt := 51) (q := 40) dX11_sheet_37 (by decide) rfl s5 (fun hB => ?_) (fun hB => ?_)
          · have H := H1 (hB)
            refine x_iloadn (q := 52) 2 rfl rfl dX11_sheet_51 rfl ?_
            obtain ⟨H1, H2⟩ := H
            refine x_if_eq (tgt := 68) (q := 55) dX11_sheet_52 (by decide) rfl s5 (fun hB => ?_) (fun hB => ?_)
            · have H := H1 (hB)
              refine x_aloadn (q := 69) 0 rfl rfl rfl dX11_sheet_68 rfl ?_
              refine x_getr (q := 72) dX11_sheet_69 rfl fa_X11_70 sh_71 rfl ?_
              refine x_iloadn (q := 73) 1 rfl rfl dX11_sheet_72 rfl ?_
              refine x_iloadn (q := 74) 2 rfl rfl dX11_sheet_73 rfl ?_
              obtain ⟨⟨s108, s109⟩, H⟩ := H
              refine x_iast (q := 75) dX11_sheet_74 rfl sh_87 s108 s109 s5 (fun m110 em110 => ?_)
              have H := H m110 em110
              refine x_aloadn (q := 76) 0 rfl rfl rfl dX11_sheet_75 rfl ?_
              refine x_getr (q := 79) dX11_sheet_76 rfl fa_X11_73 sh_71 rfl ?_
              refine x_iloadn (q := 80) 1 rfl rfl dX11_sheet_79 rfl ?_
              refine x_iloadn (q := 81) 2 rfl rfl dX11_sheet_80 rfl ?_
              obtain ⟨H1, H2⟩ := H
              refine x_if_ne (tgt := 88) (q := 84) dX11_sheet_81 (by decide) rfl s5 (fun hB => ?_) (fun hB => ?_)
              · have H := H1 (hB)
                refine x_iloadn (q := 89) 3 rfl rfl dX11_sheet_88 rfl ?_
                obtain ⟨s114, H⟩ := H
                refine x_iast (q := 90) dX11_sheet_89 rfl sh_88 s108 s109 s114 (fun m113 em113 => ?_)
                have H := H m113 em113
                refine x_iconst (q := 91) dX11_sheet_90 rfl ?_
                refine x_istore (q := 93) (ls' := [(4, vI 0), (0, vR 71), (1, vI l1), (2, vI l2), (3, vI l3)]) (by decide) rfl dX11_sheet_91 rfl ?_
                refine x_sub [1, 2, 0] rfl ?_
                exact H
              · have H := H2 (hB)
                refine x_iconst (q := 85) dX11_sheet_84 rfl ?_
                refine x_goto (tgt := 89) dX11_sheet_85 (by decide) ?_
                refine x_iast (q := 90) dX11_sheet_89 rfl sh_88 s108 s109 (by decide) (fun m115 em115 => ?_)
                have H := H m115 em115
                refine x_iconst (q := 91) dX11_sheet_90 rfl ?_
                refine x_istore (q := 93) (ls' := [(4, vI 0), (0, vR 71), (1, vI l1), (2, vI l2), (3, vI l3)]) (by decide) rfl dX11_sheet_91 rfl ?_
                refine x_sub [1, 2, 0] rfl ?_
                exact H
            · have H := H2 (hB)
              refine x_iloadn (q := 56) 3 rfl rfl dX11_sheet_55 rfl ?_
              refine x_bipush (q := 58) rfl dX11_sheet_56 rfl ?_
              obtain ⟨s116, H⟩ := H
              obtain ⟨H1, H2⟩ := H
              refine x_icmp_le (tgt := 68) (q := 61) dX11_sheet_58 (by decide) rfl s116 (by decide) (fun hB => ?_) (fun hB => ?_)
              · have H := H1 (hB)
                refine x_aloadn (q := 69) 0 rfl rfl rfl dX11_sheet_68 rfl ?_
                refine x_getr (q := 72) dX11_sheet_69 rfl fa_X11_70 sh_71 rfl ?_
                refine x_iloadn (q := 73) 1 rfl rfl dX11_sheet_72 rfl ?_
                refine x_iloadn (q := 74) 2 rfl rfl dX11_sheet_73 rfl ?_
                obtain ⟨⟨s119, s120⟩, H⟩ := H
                refine x_iast (q := 75) dX11_sheet_74 rfl sh_87 s119 s120 s5 (fun m121 em121 => ?_)
                have H := H m121 em121
                refine x_aloadn (q := 76) 0 rfl rfl rfl dX11_sheet_75 rfl ?_
                refine x_getr (q := 79) dX11_sheet_76 rfl fa_X11_73 sh_71 rfl ?_
                refine x_iloadn (q := 80) 1 rfl rfl dX11_sheet_79 rfl ?_
                refine x_iloadn (q := 81) 2 rfl rfl dX11_sheet_80 rfl ?_
                obtain ⟨H1, H2⟩ := H
                refine x_if_ne (tgt := 88) (q := 84) dX11_sheet_81 (by decide) rfl s5 (fun hB => ?_) (fun hB => ?_)
                · have H := H1 (hB)
                  refine x_iloadn (q := 89) 3 rfl rfl dX11_sheet_88 rfl ?_
                  refine x_iast (q := 90) dX11_sheet_89 rfl sh_88 s119 s120 s116 (fun m124 em124 => ?_)
                  have H := H m124 em124
                  refine x_iconst (q := 91) dX11_sheet_90 rfl ?_
                  refine x_istore (q := 93) (ls' := [(4, vI 0), (0, vR 71), (1, vI l1), (2, vI l2), (3, vI l3)]) (by decide) rfl dX11_sheet_91 rfl ?_
                  refine x_sub [1, 2, 0] rfl ?_
                  exact H
                · have H := H2 (hB)
                  refine x_iconst (q := 85) dX11_sheet_84 rfl ?_
                  refine x_goto (tgt := 89) dX11_sheet_85 (by decide) ?_
                  refine x_iast (q := 90) dX11_sheet_89 rfl sh_88 s119 s120 (by decide) (fun m125 em125 => ?_)
                  have H := H m125 em125
                  refine x_iconst (q := 91) dX11_sheet_90 rfl ?_
                  refine x_istore (q := 93) (ls' := [(4, vI 0), (0, vR 71), (1, vI l1), (2, vI l2), (3, vI l3)]) (by decide) rfl dX11_sheet_91 rfl ?_
                  refine x_sub [1, 2, 0] rfl ?_
                  exact H
              · have H := H2 (hB)
                refine x_aloadn (q := 62) 0 rfl rfl rfl dX11_sheet_61 rfl ?_
                refine x_ldc (q := 64) (z := (-1000001)) cn_X11_87 (by decide) dX11_sheet_62 rfl ?_
                obtain ⟨m126, em126⟩ : ∃ m9 : Mem, m9 = fndM mem (-1000001) := ⟨_, rfl⟩
                have H := H m126 em126
                refine x_callV (q := 67) (d := d - 1) (as := [vI (-1000001)]) (st := []) dX11_sheet_64 rfl mv_X11_88 sh_71 rfl rfl rfl (by exact Nat.le_of_ble_eq_true rfl) ⟨by show _ ≤ d; omega, by show _ ≤ 40 * d; omega⟩ ⟨Nat.le_refl _, Nat.le_refl _⟩ (ct_finding (by decide) (by decide) ?_)
                rw [← em126]
                show E_X11_sheet G d 67 [(0, vR 71), (1, vI l1), (2, vI l2), (3, vI l3)] [vI (-1000001)] m126 Q
                exact x_iret rfl dX11_sheet_67 H
          · have H := H2 (hB)
            refine x_iloadn (q := 41) 3 rfl rfl dX11_sheet_40 rfl ?_
            obtain ⟨s127, H⟩ := H
            obtain ⟨H1, H2⟩ := H
            refine x_if_ge (tgt := 51) (q := 44) dX11_sheet_41 (by decide) rfl s127 (fun hB => ?_) (fun hB => ?_)
            · have H := H1 (hB)
              refine x_iloadn (q := 52) 2 rfl rfl dX11_sheet_51 rfl ?_
              obtain ⟨H1, H2⟩ := H
              refine x_if_eq (tgt := 68) (q := 55) dX11_sheet_52 (by decide) rfl s5 (fun hB => ?_) (fun hB => ?_)
              · have H := H1 (hB)
                refine x_aloadn (q := 69) 0 rfl rfl rfl dX11_sheet_68 rfl ?_
                refine x_getr (q := 72) dX11_sheet_69 rfl fa_X11_70 sh_71 rfl ?_
                refine x_iloadn (q := 73) 1 rfl rfl dX11_sheet_72 rfl ?_
                refine x_iloadn (q := 74) 2 rfl rfl dX11_sheet_73 rfl ?_
                obtain ⟨⟨s132, s133⟩, H⟩ := H
                refine x_iast (q := 75) dX11_sheet_74 rfl sh_87 s132 s133 s5 (fun m134 em134 => ?_)
                have H := H m134 em134
                refine x_aloadn (q := 76) 0 rfl rfl rfl dX11_sheet_75 rfl ?_
                refine x_getr (q := 79) dX11_sheet_76 rfl fa_X11_73 sh_71 rfl ?_
                refine x_iloadn (q := 80) 1 rfl rfl dX11_sheet_79 rfl ?_
                refine x_iloadn (q := 81) 2 rfl rfl dX11_sheet_80 rfl ?_
                obtain ⟨H1, H2⟩ := H
                refine x_if_ne (tgt := 88) (q := 84) dX11_sheet_81 (by decide) rfl s5 (fun hB => ?_) (fun hB => ?_)
                · have H := H1 (hB)
                  refine x_iloadn (q := 89) 3 rfl rfl dX11_sheet_88 rfl ?_
                  refine x_iast (q := 90) dX11_sheet_89 rfl sh_88 s132 s133 s127 (fun m137 em137 => ?_)
                  have H := H m137 em137
                  refine x_iconst (q := 91) dX11_sheet_90 rfl ?_
                  refine x_istore (q := 93) (ls' := [(4, vI 0), (0, vR 71), (1, vI l1), (2, vI l2), (3, vI l3)]) (by decide) rfl dX11_sheet_91 rfl ?_
                  refine x_sub [1, 2, 0] rfl ?_
                  exact H
                · have H := H2 (hB)
                  refine x_iconst (q := 85) dX11_sheet_84 rfl ?_
                  refine x_goto (tgt := 89) dX11_sheet_85 (by decide) ?_
                  refine x_iast (q := 90) dX11_sheet_89 rfl sh_88 s132 s133 (by decide) (fun m138 em138 => ?_)
                  have H := H m138 em138
                  refine x_iconst (q := 91) dX11_sheet_90 rfl ?_
                  refine x_istore (q := 93) (ls' := [(4, vI 0), (0, vR 71), (1, vI l1), (2, vI l2), (3, vI l3)]) (by decide) rfl dX11_sheet_91 rfl ?_
                  refine x_sub [1, 2, 0] rfl ?_
                  exact H
              · have H := H2 (hB)
                refine x_iloadn (q := 56) 3 rfl rfl dX11_sheet_55 rfl ?_
                refine x_bipush (q := 58) rfl dX11_sheet_56 rfl ?_
                obtain ⟨H1, H2⟩ := H
                refine x_icmp_le (tgt := 68) (q := 61) dX11_sheet_58 (by decide) rfl s127 (by decide) (fun hB => ?_) (fun hB => ?_)
                · have H := H1 (hB)
                  refine x_aloadn (q := 69) 0 rfl rfl rfl dX11_sheet_68 rfl ?_
                  refine x_getr (q := 72) dX11_sheet_69 rfl fa_X11_70 sh_71 rfl ?_
                  refine x_iloadn (q := 73) 1 rfl rfl dX11_sheet_72 rfl ?_
                  refine x_iloadn (q := 74) 2 rfl rfl dX11_sheet_73 rfl ?_
                  obtain ⟨⟨s141, s142⟩, H⟩ := H
                  refine x_iast (q := 75) dX11_sheet_74 rfl sh_87 s141 s142 s5 (fun m143 em143 => ?_)
                  have H := H m143 em143
                  refine x_aloadn (q := 76) 0 rfl rfl rfl dX11_sheet_75 rfl ?_
                  refine x_getr (q := 79) dX11_sheet_76 rfl fa_X11_73 sh_71 rfl ?_
                  refine x_iloadn (q := 80) 1 rfl rfl dX11_sheet_79 rfl ?_
                  refine x_iloadn (q := 81) 2 rfl rfl dX11_sheet_80 rfl ?_
                  obtain ⟨H1, H2⟩ := H
                  refine x_if_ne (tgt := 88) (q := 84) dX11_sheet_81 (by decide) rfl s5 (fun hB => ?_) (fun hB => ?_)
                  · have H := H1 (hB)
                    refine x_iloadn (q := 89) 3 rfl rfl dX11_sheet_88 rfl ?_
                    refine x_iast (q := 90) dX11_sheet_89 rfl sh_88 s141 s142 s127 (fun m146 em146 => ?_)
                    have H := H m146 em146
                    refine x_iconst (q := 91) dX11_sheet_90 rfl ?_
                    refine x_istore (q := 93) (ls' := [(4, vI 0), (0, vR 71), (1, vI l1), (2, vI l2), (3, vI l3)]) (by decide) rfl dX11_sheet_91 rfl ?_
                    refine x_sub [1, 2, 0] rfl ?_
                    exact H
                  · have H := H2 (hB)
                    refine x_iconst (q := 85) dX11_sheet_84 rfl ?_
                    refine x_goto (tgt := 89) dX11_sheet_85 (by decide) ?_
                    refine x_iast (q := 90) dX11_sheet_89 rfl sh_88 s141 s142 (by decide) (fun m147 em147 => ?_)
                    have H := H m147 em147
                    refine x_iconst (q := 91) dX11_sheet_90 rfl ?_
                    refine x_istore (q := 93) (ls' := [(4, vI 0), (0, vR 71), (1, vI l1), (2, vI l2), (3, vI l3)]) (by decide) rfl dX11_sheet_91 rfl ?_
                    refine x_sub [1, 2, 0] rfl ?_
                    exact H
                · have H := H2 (hB)
                  refine x_aloadn (q := 62) 0 rfl rfl rfl dX11_sheet_61 rfl ?_
                  refine x_ldc (q := 64) (z := (-1000001)) cn_X11_87 (by decide) dX11_sheet_62 rfl ?_
                  obtain ⟨m148, em148⟩ : ∃ m9 : Mem, m9 = fndM mem (-1000001) := ⟨_, rfl⟩
                  have H := H m148 em148
                  refine x_callV (q := 67) (d := d - 1) (as := [vI (-1000001)]) (st := []) dX11_sheet_64 rfl mv_X11_88 sh_71 rfl rfl rfl (by exact Nat.le_of_ble_eq_true rfl) ⟨by show _ ≤ d; omega, by show _ ≤ 40 * d; omega⟩ ⟨Nat.le_refl _, Nat.le_refl _⟩ (ct_finding (by decide) (by decide) ?_)
                  rw [← em148]
                  show E_X11_sheet G d 67 [(0, vR 71), (1, vI l1), (2, vI l2), (3, vI l3)] [vI (-1000001)] m148 Q
                  exact x_iret rfl dX11_sheet_67 H
            · have H := H2 (hB)
              refine x_aloadn (q := 45) 0 rfl rfl rfl dX11_sheet_44 rfl ?_
              refine x_ldc (q := 47) (z := (-1000003)) cn_X11_122 (by decide) dX11_sheet_45 rfl ?_
              obtain ⟨m149, em149⟩ : ∃ m9 : Mem, m9 = fndM mem (-1000003) := ⟨_, rfl⟩
              have H := H m149 em149
              refine x_callV (q := 50) (d := d - 1) (as := [vI (-1000003)]) (st := []) dX11_sheet_47 rfl mv_X11_88 sh_71 rfl rfl rfl (by exact Nat.le_of_ble_eq_true rfl) ⟨by show _ ≤ d; omega, by show _ ≤ 40 * d; omega⟩ ⟨Nat.le_refl _, Nat.le_refl _⟩ (ct_finding (by decide) (by decide) ?_)
              rw [← em149]
              show E_X11_sheet G d 50 [(0, vR 71), (1, vI l1), (2, vI l2), (3, vI l3)] [vI (-1000003)] m149 Q
              exact x_iret rfl dX11_sheet_50 H
        · have H := H2 (hB)
          refine x_iloadn (q := 24) 2 rfl rfl dX11_sheet_23 rfl ?_
          refine x_bipush (q := 26) rfl dX11_sheet_24 rfl ?_
          obtain ⟨H1, H2⟩ := H
          refine x_icmp_eq (tgt := 36) (q := 29) dX11_sheet_26 (by decide) rfl s5 (by decide) (fun hB => ?_) (fun hB => ?_)
          · have H := H1 (hB)
            refine x_iloadn (q := 37) 2 rfl rfl dX11_sheet_36 rfl ?_
            obtain ⟨H1, H2⟩ := H
            refine x_if_eq (tgt := 51) (q := 40) dX11_sheet_37 (by decide) rfl s5 (fun hB => ?_) (fun hB => ?_)
            · have H := H1 (hB)
              refine x_iloadn (q := 52) 2 rfl rfl dX11_sheet_51 rfl ?_
              obtain ⟨H1, H2⟩ := H
              refine x_if_eq (tgt := 68) (q := 55) dX11_sheet_52 (by decide) rfl s5 (fun hB => ?_) (fun hB => ?_)
              · have H := H1 (hB)
                refine x_aloadn (q := 69) 0 rfl rfl rfl dX11_sheet_68 rfl ?_
                refine x_getr (q := 72) dX11_sheet_69 rfl fa_X11_70 sh_71 rfl ?_
                refine x_iloadn (q := 73) 1 rfl rfl dX11_sheet_72 rfl ?_
                refine x_iloadn (q := 74) 2 rfl rfl dX11_sheet_73 rfl ?_
                obtain ⟨⟨s156, s157⟩, H⟩ := H
                refine x_iast (q := 75) dX11_sheet_74 rfl sh_87 s156 s157 s5 (fun m158 em158 => ?_)
                have H := H m158 em158
                refine x_aloadn (q := 76) 0 rfl rfl rfl dX11_sheet_75 rfl ?_
                refine x_getr (q := 79) dX11_sheet_76 rfl fa_X11_73 sh_71 rfl ?_
                refine x_iloadn (q := 80) 1 rfl rfl dX11_sheet_79 rfl ?_
                refine x_iloadn (q := 81) 2 rfl rfl dX11_sheet_80 rfl ?_
                obtain ⟨H1, H2⟩ := H
                refine x_if_ne (tgt := 88) (q := 84) dX11_sheet_81 (by decide) rfl s5 (fun hB => ?_) (fun hB => ?_)
                · have H := H1 (hB)
                  refine x_iloadn (q := 89) 3 rfl rfl dX11_sheet_88 rfl ?_
                  obtain ⟨s162, H⟩ := H
                  refine x_iast (q := 90) dX11_sheet_89 rfl sh_88 s156 s157 s162 (fun m161 em161 => ?_)
                  have H := H m161 em161
                  refine x_iconst (q := 91) dX11_sheet_90 rfl ?_
                  refine x_istore (q := 93) (ls' := [(4, vI 0), (0, vR 71), (1, vI l1), (2, vI l2), (3, vI l3)]) (by decide) rfl dX11_sheet_91 rfl ?_
                  refine x_sub [1, 2, 0] rfl ?_
                  exact H
                · have H := H2 (hB)
                  refine x_iconst (q := 85) dX11_sheet_84 rfl ?_
                  refine x_goto (tgt := 89) dX11_sheet_85 (by decide) ?_
                  refine x_iast (q := 90) dX11_sheet_89 rfl sh_88 s156 s157 (by decide) (fun m163 em163 => ?_)
                  have H := H m163 em163
                  refine x_iconst (q := 91) dX11_sheet_90 rfl ?_
                  refine x_istore (q := 93) (ls' := [(4, vI 0), (0, vR 71), (1, vI l1), (2, vI l2), (3, vI l3)]) (by decide) rfl dX11_sheet_91 rfl ?_
                  refine x_sub [1, 2, 0] rfl ?_
                  exact H
              · have H := H2 (hB)
                refine x_iloadn (q := 56) 3 rfl rfl dX11_sheet_55 rfl ?_
                refine x_bipush (q := 58) rfl dX11_sheet_56 rfl ?_
                obtain ⟨s164, H⟩ := H
                obtain ⟨H1, H2⟩ := H
                refine x_icmp_le (tgt := 68) (q := 61) dX11_sheet_58 (by decide) rfl s164 (by decide) (fun hB => ?_) (fun hB => ?_)
                · have H := H1 (hB)
                  refine x_aloadn (q := 69) 0 rfl rfl rfl dX11_sheet_68 rfl ?_
                  refine x_getr (q := 72) dX11_sheet_69 rfl fa_X11_70 sh_71 rfl ?_
                  refine x_iloadn (q := 73) 1 rfl rfl dX11_sheet_72 rfl ?_
                  refine x_iloadn (q := 74) 2 rfl rfl dX11_sheet_73 rfl ?_
                  obtain ⟨⟨s167, s168⟩, H⟩ := H
                  refine x_iast (q := 75) dX11_sheet_74 rfl sh_87 s167 s168 s5 (fun m169 em169 => ?_)
                  have H := H m169 em169
                  refine x_aloadn (q := 76) 0 rfl rfl rfl dX11_sheet_75 rfl ?_
                  refine x_getr (q := 79) dX11_sheet_76 rfl fa_X11_73 sh_71 rfl ?_
                  refine x_iloadn (q := 80) 1 rfl rfl dX11_sheet_79 rfl ?_
                  refine x_iloadn (q := 81) 2 rfl rfl dX11_sheet_80 rfl ?_
                  obtain ⟨H1, H2⟩ := H
                  refine x_if_ne (tgt := 88) (q := 84) dX11_sheet_81 (by decide) rfl s5 (fun hB => ?_) (fun hB => ?_)
                  · have H := H1 (hB)
                    refine x_iloadn (q := 89) 3 rfl rfl dX11_sheet_88 rfl ?_
                    refine x_iast (q := 90) dX11_sheet_89 rfl sh_88 s167 s168 s164 (fun m172 em172 => ?_)
                    have H := H m172 em172
                    refine x_iconst (q := 91) dX11_sheet_90 rfl ?_
                    refine x_istore (q := 93) (ls' := [(4, vI 0), (0, vR 71), (1, vI l1), (2, vI l2), (3, vI l3)]) (by decide) rfl dX11_sheet_91 rfl ?_
                    refine x_sub [1, 2, 0] rfl ?_
                    exact H
                  · have H := H2 (hB)
                    refine x_iconst (q := 85) dX11_sheet_84 rfl ?_
                    refine x_goto (tgt := 89) dX11_sheet_85 (by decide) ?_
                    refine x_iast (q := 90) dX11_sheet_89 rfl sh_88 s167 s168 (by decide) (fun m173 em173 => ?_)
                    have H := H m173 em173
                    refine x_iconst (q := 91) dX11_sheet_90 rfl ?_
                    refine x_istore (q := 93) (ls' := [(4, vI 0), (0, vR 71), (1, vI l1), (2, vI l2), (3, vI l3)]) (by decide) rfl dX11_sheet_91 rfl ?_
                    refine x_sub [1, 2, 0] rfl ?_
                    exact H
                · have H := H2 (hB)
                  refine x_aloadn (q := 62) 0 rfl rfl rfl dX11_sheet_61 rfl ?_
                  refine x_ldc (q := 64) (z := (-1000001)) cn_X11_87 (by decide) dX11_sheet_62 rfl ?_
                  obtain ⟨m174, em174⟩ : ∃ m9 : Mem, m9 = fndM mem (-1000001) := ⟨_, rfl⟩
                  have H := H m174 em174
                  refine x_callV (q := 67) (d := d - 1) (as := [vI (-1000001)]) (st := []) dX11_sheet_64 rfl mv_X11_88 sh_71 rfl rfl rfl (by exact Nat.le_of_ble_eq_true rfl) ⟨by show _ ≤ d; omega, by show _ ≤ 40 * d; omega⟩ ⟨Nat.le_refl _, Nat.le_refl _⟩ (ct_finding (by decide) (by decide) ?_)
                  rw [← em174]
                  show E_X11_sheet G d 67 [(0, vR 71), (1, vI l1), (2, vI l2), (3, vI l3)] [vI (-1000001)] m174 Q
                  exact x_iret rfl dX11_sheet_67 H
            · have H := H2 (hB)
              refine x_iloadn (q := 41) 3 rfl rfl dX11_sheet_40 rfl ?_
              obtain ⟨s175, H⟩ := H
              obtain ⟨H1, H2⟩ := H
              refine x_if_ge (tgt := 51) (q := 44) dX11_sheet_41 (by decide) rfl s175 (fun hB => ?_) (fun hB => ?_)
              · have H := H1 (hB)
                refine x_iloadn (q := 52) 2 rfl rfl dX11_sheet_51 rfl ?_
                obtain ⟨H1, H2⟩ := H
                refine x_if_eq (tgt := 68) (q := 55) dX11_sheet_52 (by decide) rfl s5 (fun hB => ?_) (fun hB => ?_)
                · have H := H1 (hB)
                  refine x_aloadn (q := 69) 0 rfl rfl rfl dX11_sheet_68 rfl ?_
                  refine x_getr (q := 72) dX11_sheet_69 rfl fa_X11_70 sh_71 rfl ?_
                  refine x_iloadn (q := 73) 1 rfl rfl dX11_sheet_72 rfl ?_
                  refine x_iloadn (q := 74) 2 rfl rfl dX11_sheet_73 rfl ?_
                  obtain ⟨⟨s180, s181⟩, H⟩ := H
                  refine x_iast (q := 75) dX11_sheet_74 rfl sh_87 s180 s181 s5 (fun m182 em182 => ?_)
                  have H := H m182 em182
                  refine x_aloadn (q := 76) 0 rfl rfl rfl dX11_sheet_75 rfl ?_
                  refine x_getr (q := 79) dX11_sheet_76 rfl fa_X11_73 sh_71 rfl ?_
                  refine x_iloadn (q := 80) 1 rfl rfl dX11_sheet_79 rfl ?_
                  refine x_iloadn (q := 81) 2 rfl rfl dX11_sheet_80 rfl ?_
                  obtain ⟨H1, H2⟩ := H
                  refine x_if_ne (tgt := 88) (q := 84) dX11_sheet_81 (by decide) rfl s5 (fun hB => ?_) (fun hB => ?_)
                  · have H := H1 (hB)
                    refine x_iloadn (q := 89) 3 rfl rfl dX11_sheet_88 rfl ?_
                    refine x_iast (q := 90) dX11_sheet_89 rfl sh_88 s180 s181 s175 (fun m185 em185 => ?_)
                    have H := H m185 em185
                    refine x_iconst (q := 91) dX11_sheet_90 rfl ?_
                    refine x_istore (q := 93) (ls' := [(4, vI 0), (0, vR 71), (1, vI l1), (2, vI l2), (3, vI l3)]) (by decide) rfl dX11_sheet_91 rfl ?_
                    refine x_sub [1, 2, 0] rfl ?_
                    exact H
                  · have H := H2 (hB)
                    refine x_iconst (q := 85) dX11_sheet_84 rfl ?_
                    refine x_goto (tgt := 89) dX11_sheet_85 (by decide) ?_
                    refine x_iast (q := 90) dX11_sheet_89 rfl sh_88 s180 s181 (by decide) (fun m186 em186 => ?_)
                    have H := H m186 em186
                    refine x_iconst (q := 91) dX11_sheet_90 rfl ?_
                    refine x_istore (q := 93) (ls' := [(4, vI 0), (0, vR 71), (1, vI l1), (2, vI l2), (3, vI l3)]) (by decide) rfl dX11_sheet_91 rfl ?_
                    refine x_sub [1, 2, 0] rfl ?_
                    exact H
                · have H := H2 (hB)
                  refine x_iloadn (q := 56) 3 rfl rfl dX11_sheet_55 rfl ?_
                  refine x_bipush (q := 58) rfl dX11_sheet_56 rfl ?_
                  obtain ⟨H1, H2⟩ := H
                  refine x_icmp_le (tgt := 68) (q := 61) dX11_sheet_58 (by decide) rfl s175 (by decide) (fun hB => ?_) (fun hB => ?_)
                  · have H := H1 (hB)
                    refine x_aloadn (q := 69) 0 rfl rfl rfl dX11_sheet_68 rfl ?_
                    refine x_getr (q := 72) dX11_sheet_69 rfl fa_X11_70 sh_71 rfl ?_
                    refine x_iloadn (q := 73) 1 rfl rfl dX11_sheet_72 rfl ?_
                    refine x_iloadn (q := 74) 2 rfl rfl dX11_sheet_73 rfl ?_
                    obtain ⟨⟨s189, s190⟩, H⟩ := H
                    refine x_iast (q := 75) dX11_sheet_74 rfl sh_87 s189 s190 s5 (fun m191 em191 => ?_)
                    have H := H m191 em191
                    refine x_aloadn (q := 76) 0 rfl rfl rfl dX11_sheet_75 rfl ?_
                    refine x_getr (q := 79) dX11_sheet_76 rfl fa_X11_73 sh_71 rfl ?_
                    refine x_iloadn (q := 80) 1 rfl rfl dX11_sheet_79 rfl ?_
                    refine x_iloadn (q := 81) 2 rfl rfl dX11_sheet_80 rfl ?_
                    obtain ⟨H1, H2⟩ := H
                    refine x_if_ne (tgt := 88) (q := 84) dX11_sheet_81 (by decide) rfl s5 (fun hB => ?_) (fun hB => ?_)
                    · have H := H1 (hB)
                      refine x_iloadn (q := 89) 3 rfl rfl dX11_sheet_88 rfl ?_
                      refine x_iast (q := 90) dX11_sheet_89 rfl sh_88 s189 s190 s175 (fun m194 em194 => ?_)
                      have H := H m194 em194
                      refine x_iconst (q := 91) dX11_sheet_90 rfl ?_
                      refine x_istore (q := 93) (ls' := [(4, vI 0), (0, vR 71), (1, vI l1), (2, vI l2), (3, vI l3)]) (by decide) rfl dX11_sheet_91 rfl ?_
                      refine x_sub [1, 2, 0] rfl ?_
                      exact H
                    · have H := H2 (hB)
                      refine x_iconst (q := 85) dX11_sheet_84 rfl ?_
                      refine x_goto (tgt := 89) dX11_sheet_85 (by decide) ?_
                      refine x_iast (q := 90) dX11_sheet_89 rfl sh_88 s189 s190 (by decide) (fun m195 em195 => ?_)
                      have H := H m195 em195
                      refine x_iconst (q := 91) dX11_sheet_90 rfl ?_
                      refine x_istore (q := 93) (ls' := [(4, vI 0), (0, vR 71), (1, vI l1), (2, vI l2), (3, vI l3)]) (by decide) rfl dX11_sheet_91 rfl ?_
                      refine x_sub [1, 2, 0] rfl ?_
                      exact H
                  · have H := H2 (hB)
                    refine x_aloadn (q := 62) 0 rfl rfl rfl dX11_sheet_61 rfl ?_
                    refine x_ldc (q := 64) (z := (-1000001)) cn_X11_87 (by decide) dX11_sheet_62 rfl ?_
                    obtain ⟨m196, em196⟩ : ∃ m9 : Mem, m9 = fndM mem (-1000001) := ⟨_, rfl⟩
                    have H := H m196 em196
                    refine x_callV (q := 67) (d := d - 1) (as := [vI (-1000001)]) (st := []) dX11_sheet_64 rfl mv_X11_88 sh_71 rfl rfl rfl (by exact Nat.le_of_ble_eq_true rfl) ⟨by show _ ≤ d; omega, by show _ ≤ 40 * d; omega⟩ ⟨Nat.le_refl _, Nat.le_refl _⟩ (ct_finding (by decide) (by decide) ?_)
                    rw [← em196]
                    show E_X11_sheet G d 67 [(0, vR 71), (1, vI l1), (2, vI l2), (3, vI l3)] [vI (-1000001)] m196 Q
                    exact x_iret rfl dX11_sheet_67 H
              · have H := H2 (hB)
                refine x_aloadn (q := 45) 0 rfl rfl rfl dX11_sheet_44 rfl ?_
                refine x_ldc (q := 47) (z := (-1000003)) cn_X11_122 (by decide) dX11_sheet_45 rfl ?_
                obtain ⟨m197, em197⟩ : ∃ m9 : Mem, m9 = fndM mem (-1000003) := ⟨_, rfl⟩
                have H := H m197 em197
                refine x_callV (q := 50) (d := d - 1) (as := [vI (-1000003)]) (st := []) dX11_sheet_47 rfl mv_X11_88 sh_71 rfl rfl rfl (by exact Nat.le_of_ble_eq_true rfl) ⟨by show _ ≤ d; omega, by show _ ≤ 40 * d; omega⟩ ⟨Nat.le_refl _, Nat.le_refl _⟩ (ct_finding (by decide) (by decide) ?_)
                rw [← em197]
                show E_X11_sheet G d 50 [(0, vR 71), (1, vI l1), (2, vI l2), (3, vI l3)] [vI (-1000003)] m197 Q
                exact x_iret rfl dX11_sheet_50 H
          · have H := H2 (hB)
            refine x_aloadn (q := 30) 0 rfl rfl rfl dX11_sheet_29 rfl ?_
            refine x_ldc (q := 32) (z := (-1000001)) cn_X11_87 (by decide) dX11_sheet_30 rfl ?_
            obtain ⟨m198, em198⟩ : ∃ m9 : Mem, m9 = fndM mem (-1000001) := ⟨_, rfl⟩
            have H := H m198 em198
            refine x_callV (q := 35) (d := d - 1) (as := [vI (-1000001)]) (st := []) dX11_sheet_32 rfl mv_X11_88 sh_71 rfl rfl rfl (by exact Nat.le_of_ble_eq_true rfl) ⟨by show _ ≤ d; omega, by show _ ≤ 40 * d; omega⟩ ⟨Nat.le_refl _, Nat.le_refl _⟩ (ct_finding (by decide) (by decide) ?_)
            rw [← em198]
            show E_X11_sheet G d 35 [(0, vR 71), (1, vI l1), (2, vI l2), (3, vI l3)] [vI (-1000001)] m198 Q
            exact x_iret rfl dX11_sheet_35 H
set_option maxRecDepth 20000 in
set_option maxHeartbeats 4000000 in
theorem B_X11_sheet_93 {G : GT} {d : Nat} {l1 : Int} {l4 : Int} {mem : Mem} {Q : Option AV → Mem → Prop} (hd : 2 ≤ d) (H : (inr l4) ∧ (((24 ≤ l4) → (Q (some (vI 1)) mem)) ∧ (¬ (24 ≤ l4) → ((0 ≤ (24 * l1) + l4 ∧ (24 * l1) + l4 < 96) ∧ (∀ m204 : Mem, m204 = upM mem 89 ((24 * l1) + l4) 0 → (E_X11_sheet G d 93 [(0, vR 71), (1, vI l1), (4, vI (l4 + 1))] [] m204 Q)))))) : E_X11_sheet G d 93 [(0, vR 71), (1, vI l1), (4, vI l4)] [] mem Q := by
  refine x_iload (q := 95) 2 rfl dX11_sheet_93 rfl ?_
  refine x_bipush (q := 97) rfl dX11_sheet_95 rfl ?_
  obtain ⟨s199, H⟩ := H
  obtain ⟨H1, H2⟩ := H
  refine x_icmp_ge (tgt := 119) (q := 100) dX11_sheet_97 (by decide) rfl s199 (by decide) (fun hB => ?_) (fun hB => ?_)
  · have H := H1 (hB)
    refine x_iconst (q := 120) dX11_sheet_119 rfl ?_
    exact x_iret rfl dX11_sheet_120 H
  · have H := H2 (hB)
    refine x_aloadn (q := 101) 0 rfl rfl rfl dX11_sheet_100 rfl ?_
    refine x_getr (q := 104) dX11_sheet_101 rfl fa_X11_76 sh_71 rfl ?_
    refine x_bipush (q := 106) rfl dX11_sheet_104 rfl ?_
    refine x_iloadn (q := 107) 1 rfl rfl dX11_sheet_106 rfl ?_
    refine x_imul (q := 108) dX11_sheet_107 rfl ?_
    refine x_iload (q := 110) 2 rfl dX11_sheet_108 rfl ?_
    refine x_iadd (q := 111) dX11_sheet_110 rfl ?_
    refine x_iconst (q := 112) dX11_sheet_111 rfl ?_
    obtain ⟨⟨s202, s203⟩, H⟩ := H
    refine x_iast (q := 113) dX11_sheet_112 rfl sh_89 s202 s203 (by decide) (fun m204 em204 => ?_)
    have H := H m204 em204
    refine x_iinc (q := 116) (ls' := [(4, vI (l4 + 1)), (0, vR 71), (1, vI l1)]) 2 rfl (by decide) rfl dX11_sheet_113 rfl ?_
    refine x_goto (tgt := 93) dX11_sheet_116 (by decide) ?_
    refine x_sub [1, 2, 0] rfl ?_
    exact H
set_option maxRecDepth 20000 in
set_option maxHeartbeats 4000000 in
theorem B_X11_put {G : GT} {d : Nat} {l1 : Int} {l2 : Int} {l3 : Int} {mem : Mem} {Q : Option AV → Mem → Prop} (hd : 2 ≤ d) (H : (inr l1) ∧ (((0 ≤ l1 ∧ l1 ≤ 3) → ((0 ≤ l1 ∧ l1 < 4) ∧ (((mem 87 l1 ≠ 0) → ((inr l2 ∧ inr ((mem 88 l1) - 1)) ∧ (((0 ≤ l2 ∧ l2 ≤ (mem 88 l1) - 1) → (((mem 87 l1 ≠ 8) → (((mem 87 l1 ≠ 16) → ((0 ≤ (24 * l1) + l2 ∧ (24 * l1) + l2 < 96) ∧ ((inr l3) ∧ (∀ m22 : Mem, m22 = upM mem 89 ((24 * l1) + l2) l3 → (Q (some (vI 1)) m22))))) ∧ (¬ (mem 87 l1 ≠ 16) → ((0 ≤ (24 * l1) + l2 ∧ (24 * l1) + l2 < 96) ∧ (∀ m26 : Mem, m26 = upM mem 89 ((24 * l1) + l2) (i2s l3) → (Q (some (vI 1)) m26)))))) ∧ (¬ (mem 87 l1 ≠ 8) → ((0 ≤ (24 * l1) + l2 ∧ (24 * l1) + l2 < 96) ∧ (∀ m29 : Mem, m29 = upM mem 89 ((24 * l1) + l2) (i2b l3) → (Q (some (vI 1)) m29)))))) ∧ (¬ (0 ≤ l2 ∧ l2 ≤ (mem 88 l1) - 1) → (∀ m30 : Mem, m30 = fndM mem (-1000001) → (Q (some (vI (-1000001))) m30)))))) ∧ (¬ (mem 87 l1 ≠ 0) → (∀ m31 : Mem, m31 = fndM mem (-1000002) → (Q (some (vI (-1000002))) m31)))))) ∧ (¬ (0 ≤ l1 ∧ l1 ≤ 3) → (∀ m32 : Mem, m32 = fndM mem (-1000001) → (Q (some (vI (-1000001))) m32))))) : C_X11_put G d [vR 71, vI l1, vI l2, vI l3] mem Q := by
  refine Ct_of_Ex (by decide +kernel) (by exact Nat.le_of_ble_eq_true rfl) (ls := [(0, vR 71), (1, vI l1), (2, vI l2), (3, vI l3)]) rfl ?_
  show E_X11_put G d 0 [(0, vR 71), (1, vI l1), (2, vI l2), (3, vI l3)] [] mem Q
  refine x_iloadn (q := 1) 1 rfl rfl dX11_put_0 rfl ?_
  obtain ⟨s1, H⟩ := H
  refine x_callS (q := 4) (d := d - 1) (as := [vI l1]) (st := []) dX11_put_1 rfl ms_X11_298 rfl rfl (by exact Nat.le_of_ble_eq_true rfl) ⟨by show _ ≤ d; omega, by show _ ≤ 40 * d; omega⟩ ⟨Nat.le_refl _, Nat.le_refl _⟩ (ct_isSheet (by omega) s1 ?_)
  show E_X11_put G d 4 [(0, vR 71), (1, vI l1), (2, vI l2), (3, vI l3)] [vI (bz (0 ≤ l1 ∧ l1 ≤ 3))] mem Q
  obtain ⟨H1, H2⟩ := H
  refine x_if_ne (tgt := 14) (q := 7) dX11_put_4 (by decide) rfl (bz_inr _) (fun hB => ?_) (fun hB => ?_)
  · have H := H1 (bz_n0.mp hB)
    refine x_aloadn (q := 15) 0 rfl rfl rfl dX11_put_14 rfl ?_
    refine x_getr (q := 18) dX11_put_15 rfl fa_X11_70 sh_71 rfl ?_
    refine x_iloadn (q := 19) 1 rfl rfl dX11_put_18 rfl ?_
    obtain ⟨⟨s4, s5⟩, H⟩ := H
    refine x_iald (q := 20) dX11_put_19 rfl sh_87 s4 s5 (fun r6 => ?_)
    obtain ⟨H1, H2⟩ := H
    refine x_if_ne (tgt := 30) (q := 23) dX11_put_20 (by decide) rfl r6 (fun hB => ?_) (fun hB => ?_)
    · have H := H1 (hB)
      refine x_iloadn (q := 31) 2 rfl rfl dX11_put_30 rfl ?_
      refine x_iconst (q := 32) dX11_put_31 rfl ?_
      refine x_aloadn (q := 33) 0 rfl rfl rfl dX11_put_32 rfl ?_
      refine x_getr (q := 36) dX11_put_33 rfl fa_X11_73 sh_71 rfl ?_
      refine x_iloadn (q := 37) 1 rfl rfl dX11_put_36 rfl ?_
      refine x_iald (q := 38) dX11_put_37 rfl sh_88 s4 s5 (fun r9 => ?_)
      refine x_iconst (q := 39) dX11_put_38 rfl ?_
      refine x_isub (q := 40) dX11_put_39 rfl ?_
      obtain ⟨⟨s10, s11⟩, H⟩ := H
      refine x_callS (q := 43) (d := d - 1) (as := [vI l2, vI 0, vI ((mem 88 l1) - 1)]) (st := []) dX11_put_40 rfl ms_X11_83 rfl rfl (by exact Nat.le_of_ble_eq_true rfl) ⟨by show _ ≤ d; omega, by show _ ≤ 40 * d; omega⟩ ⟨Nat.le_refl _, Nat.le_refl _⟩ (ct_within s10 (by decide) s11 ?_)
      show E_X11_put G d 43 [(0, vR 71), (1, vI l1), (2, vI l2), (3, vI l3)] [vI (bz (0 ≤ l2 ∧ l2 ≤ (mem 88 l1) - 1))] mem Q
      obtain ⟨H1, H2⟩ := H
      refine x_if_ne (tgt := 53) (q := 46) dX11_put_43 (by decide) rfl (bz_inr _) (fun hB => ?_) (fun hB => ?_)
      · have H := H1 (bz_n0.mp hB)
        refine x_aloadn (q := 54) 0 rfl rfl rfl dX11_put_53 rfl ?_
        refine x_getr (q := 57) dX11_put_54 rfl fa_X11_76 sh_71 rfl ?_
        refine x_bipush (q := 59) rfl dX11_put_57 rfl ?_
        refine x_iloadn (q := 60) 1 rfl rfl dX11_put_59 rfl ?_
        refine x_imul (q := 61) dX11_put_60 rfl ?_
        refine x_iloadn (q := 62) 2 rfl rfl dX11_put_61 rfl ?_
        refine x_iadd (q := 63) dX11_put_62 rfl ?_
        refine x_aloadn (q := 64) 0 rfl rfl rfl dX11_put_63 rfl ?_
        refine x_getr (q := 67) dX11_put_64 rfl fa_X11_70 sh_71 rfl ?_
        refine x_iloadn (q := 68) 1 rfl rfl dX11_put_67 rfl ?_
        refine x_iald (q := 69) dX11_put_68 rfl sh_87 s4 s5 (fun r14 => ?_)
        refine x_bipush (q := 71) rfl dX11_put_69 rfl ?_
        obtain ⟨H1, H2⟩ := H
        refine x_icmp_ne (tgt := 79) (q := 74) dX11_put_71 (by decide) rfl r14 (by decide) (fun hB => ?_) (fun hB => ?_)
        · have H := H1 (hB)
          refine x_aloadn (q := 80) 0 rfl rfl rfl dX11_put_79 rfl ?_
          refine x_getr (q := 83) dX11_put_80 rfl fa_X11_70 sh_71 rfl ?_
          refine x_iloadn (q := 84) 1 rfl rfl dX11_put_83 rfl ?_
          refine x_iald (q := 85) dX11_put_84 rfl sh_87 s4 s5 (fun r17 => ?_)
          refine x_bipush (q := 87) rfl dX11_put_85 rfl ?_
          obtain ⟨H1, H2⟩ := H
          refine x_icmp_ne (tgt := 95) (q := 90) dX11_put_87 (by decide) rfl r17 (by decide) (fun hB => ?_) (fun hB => ?_)
          · have H := H1 (hB)
            refine x_iloadn (q := 96) 3 rfl rfl dX11_put_95 rfl ?_
            obtain ⟨⟨s20, s21⟩, H⟩ := H
            obtain ⟨s23, H⟩ := H
            refine x_iast (q := 97) dX11_put_96 rfl sh_89 s20 s21 s23 (fun m22 em22 => ?_)
            have H := H m22 em22
            refine x_iconst (q := 98) dX11_put_97 rfl ?_
            exact x_iret rfl dX11_put_98 H
          · have H := H2 (hB)
            refine x_iloadn (q := 91) 3 rfl rfl dX11_put_90 rfl ?_
            refine x_i2s (q := 92) dX11_put_91 rfl ?_
            refine x_goto (tgt := 96) dX11_put_92 (by decide) ?_
            obtain ⟨⟨s24, s25⟩, H⟩ := H
            refine x_iast (q := 97) dX11_put_96 rfl sh_89 s24 s25 (i2s_inr _) (fun m26 em26 => ?_)
            have H := H m26 em26
            refine x_iconst (q := 98) dX11_put_97 rfl ?_
            exact x_iret rfl dX11_put_98 H
        · have H := H2 (hB)
          refine x_iloadn (q := 75) 3 rfl rfl dX11_put_74 rfl ?_
          refine x_i2b (q := 76) dX11_put_75 rfl ?_
          refine x_goto (tgt := 96) dX11_put_76 (by decide) ?_
          obtain ⟨⟨s27, s28⟩, H⟩ := H
          refine x_iast (q := 97) dX11_put_96 rfl sh_89 s27 s28 (i2b_inr _) (fun m29 em29 => ?_)
          have H := H m29 em29
          refine x_iconst (q := 98) dX11_put_97 rfl ?_
          exact x_iret rfl dX11_put_98 H
      · have H := H2 (fun z => hB (bz_n0.mpr z))
        refine x_aloadn (q := 47) 0 rfl rfl rfl dX11_put_46 rfl ?_
        refine x_ldc (q := 49) (z := (-1000001)) cn_X11_87 (by decide) dX11_put_47 rfl ?_
        obtain ⟨m30, em30⟩ : ∃ m9 : Mem, m9 = fndM mem (-1000001) := ⟨_, rfl⟩
        have H := H m30 em30
        refine x_callV (q := 52) (d := d - 1) (as := [vI (-1000001)]) (st := []) dX11_put_49 rfl mv_X11_88 sh_71 rfl rfl rfl (by exact Nat.le_of_ble_eq_true rfl) ⟨by show _ ≤ d; omega, by show _ ≤ 40 * d; omega⟩ ⟨Nat.le_refl _, Nat.le_refl _⟩ (ct_finding (by decide) (by decide) ?_)
        rw [← em30]
        show E_X11_put G d 52 [(0, vR 71), (1, vI l1), (2, vI l2), (3, vI l3)] [vI (-1000001)] m30 Q
        exact x_iret rfl dX11_put_52 H
    · have H := H2 (hB)
      refine x_aloadn (q := 24) 0 rfl rfl rfl dX11_put_23 rfl ?_
      refine x_ldc (q := 26) (z := (-1000002)) cn_X11_219 (by decide) dX11_put_24 rfl ?_
      obtain ⟨m31, em31⟩ : ∃ m9 : Mem, m9 = fndM mem (-1000002) := ⟨_, rfl⟩
      have H := H m31 em31
      refine x_callV (q := 29) (d := d - 1) (as := [vI (-1000002)]) (st := []) dX11_put_26 rfl mv_X11_88 sh_71 rfl rfl rfl (by exact Nat.le_of_ble_eq_true rfl) ⟨by show _ ≤ d; omega, by show _ ≤ 40 * d; omega⟩ ⟨Nat.le_refl _, Nat.le_refl _⟩ (ct_finding (by decide) (by decide) ?_)
      rw [← em31]
      show E_X11_put G d 29 [(0, vR 71), (1, vI l1), (2, vI l2), (3, vI l3)] [vI (-1000002)] m31 Q
      exact x_iret rfl dX11_put_29 H
  · have H := H2 (fun z => hB (bz_n0.mpr z))
    refine x_aloadn (q := 8) 0 rfl rfl rfl dX11_put_7 rfl ?_
    refine x_ldc (q := 10) (z := (-1000001)) cn_X11_87 (by decide) dX11_put_8 rfl ?_
    obtain ⟨m32, em32⟩ : ∃ m9 : Mem, m9 = fndM mem (-1000001) := ⟨_, rfl⟩
    have H := H m32 em32
    refine x_callV (q := 13) (d := d - 1) (as := [vI (-1000001)]) (st := []) dX11_put_10 rfl mv_X11_88 sh_71 rfl rfl rfl (by exact Nat.le_of_ble_eq_true rfl) ⟨by show _ ≤ d; omega, by show _ ≤ 40 * d; omega⟩ ⟨Nat.le_refl _, Nat.le_refl _⟩ (ct_finding (by decide) (by decide) ?_)
    rw [← em32]
    show E_X11_put G d 13 [(0, vR 71), (1, vI l1), (2, vI l2), (3, vI l3)] [vI (-1000001)] m32 Q
    exact x_iret rfl dX11_put_13 H
set_option maxRecDepth 20000 in
set_option maxHeartbeats 4000000 in
theorem B_X11_move {G : GT} {d : Nat} {l1 : Int} {l2 : Int} {l3 : Int} {l4 : Int} {l5 : Int} {mem : Mem} {Q : Option AV → Mem → Prop} (hd : 2 ≤ d) (H : (inr l1) ∧ ((¬ (0 ≤ l1 ∧ l1 ≤ 3) → (∀ m4 : Mem, m4 = fndM mem (-1000001) → (Q (some (vI (-1000001))) m4))) ∧ ((0 ≤ l1 ∧ l1 ≤ 3) → ((inr l3) ∧ (((0 ≤ l3 ∧ l3 ≤ 3) → ((0 ≤ l1 ∧ l1 < 4) ∧ (((mem 87 l1 = 0) → (∀ m13 : Mem, m13 = fndM mem (-1000002) → (Q (some (vI (-1000002))) m13))) ∧ (¬ (mem 87 l1 = 0) → ((0 ≤ l3 ∧ l3 < 4) ∧ (((mem 87 l3 ≠ 0) → (((mem 87 l1 = mem 87 l3) → ((inr l5) ∧ (((l5 < 0) → (∀ m26 : Mem, m26 = fndM mem (-1000001) → (Q (some (vI (-1000001))) m26))) ∧ (¬ (l5 < 0) → ((inr l2) ∧ (((l2 < 0) → (∀ m30 : Mem, m30 = fndM mem (-1000001) → (Q (some (vI (-1000001))) m30))) ∧ (¬ (l2 < 0) → ((inr l4) ∧ (((l4 < 0) → (∀ m34 : Mem, m34 = fndM mem (-1000001) → (Q (some (vI (-1000001))) m34))) ∧ (¬ (l4 < 0) → ((inl (l2 + l5)) ∧ (((0 < lcmp (l2 + l5) (mem 88 l1)) → (∀ m39 : Mem, m39 = fndM mem (-1000001) → (Q (some (vI (-1000001))) m39))) ∧ (¬ (0 < lcmp (l2 + l5) (mem 88 l1)) → ((inl (l4 + l5)) ∧ (((lcmp (l4 + l5) (mem 88 l3) ≤ 0) → (E_X11_move G d 127 [(0, vR 71), (1, vI l1), (2, vI l2), (3, vI l3), (4, vI l4), (5, vI l5), (6, vI 0)] [] mem Q)) ∧ (¬ (lcmp (l4 + l5) (mem 88 l3) ≤ 0) → (∀ m44 : Mem, m44 = fndM mem (-1000001) → (Q (some (vI (-1000001))) m44)))))))))))))))))) ∧ (¬ (mem 87 l1 = mem 87 l3) → (∀ m45 : Mem, m45 = fndM mem (-1000005) → (Q (some (vI (-1000005))) m45))))) ∧ (¬ (mem 87 l3 ≠ 0) → (∀ m46 : Mem, m46 = fndM mem (-1000002) → (Q (some (vI (-1000002))) m46))))))))) ∧ (¬ (0 ≤ l3 ∧ l3 ≤ 3) → (∀ m47 : Mem, m47 = fndM mem (-1000001) → (Q (some (vI (-1000001))) m47)))))))) : C_X11_move G d [vR 71, vI l1, vI l2, vI l3, vI l4, vI l5] mem Q := by
  refine Ct_of_Ex (by decide +kernel) (by exact Nat.le_of_ble_eq_true rfl) (ls := [(0, vR 71), (1, vI l1), (2, vI l2), (3, vI l3), (4, vI l4), (5, vI l5)]) rfl ?_
  show E_X11_move G d 0 [(0, vR 71), (1, vI l1), (2, vI l2), (3, vI l3), (4, vI l4), (5, vI l5)] [] mem Q
  refine x_iloadn (q := 1) 1 rfl rfl dX11_move_0 rfl ?_
  obtain ⟨s1, H⟩ := H
  refine x_callS (q := 4) (d := d - 1) (as := [vI l1]) (st := []) dX11_move_1 rfl ms_X11_298 rfl rfl (by exact Nat.le_of_ble_eq_true rfl) ⟨by show _ ≤ d; omega, by show _ ≤ 40 * d; omega⟩ ⟨Nat.le_refl _, Nat.le_refl _⟩ (ct_isSheet (by omega) s1 ?_)
  show E_X11_move G d 4 [(0, vR 71), (1, vI l1), (2, vI l2), (3, vI l3), (4, vI l4), (5, vI l5)] [vI (bz (0 ≤ l1 ∧ l1 ≤ 3))] mem Q
  obtain ⟨H1, H2⟩ := H
  refine x_if_eq (tgt := 14) (q := 7) dX11_move_4 (by decide) rfl (bz_inr _) (fun hB => ?_) (fun hB => ?_)
  · have H := H1 (bz_0.mp hB)
    refine x_aloadn (q := 15) 0 rfl rfl rfl dX11_move_14 rfl ?_
    refine x_ldc (q := 17) (z := (-1000001)) cn_X11_87 (by decide) dX11_move_15 rfl ?_
    obtain ⟨m4, em4⟩ : ∃ m9 : Mem, m9 = fndM mem (-1000001) := ⟨_, rfl⟩
    have H := H m4 em4
    refine x_callV (q := 20) (d := d - 1) (as := [vI (-1000001)]) (st := []) dX11_move_17 rfl mv_X11_88 sh_71 rfl rfl rfl (by exact Nat.le_of_ble_eq_true rfl) ⟨by show _ ≤ d; omega, by show _ ≤ 40 * d; omega⟩ ⟨Nat.le_refl _, Nat.le_refl _⟩ (ct_finding (by decide) (by decide) ?_)
    rw [← em4]
    show E_X11_move G d 20 [(0, vR 71), (1, vI l1), (2, vI l2), (3, vI l3), (4, vI l4), (5, vI l5)] [vI (-1000001)] m4 Q
    exact x_iret rfl dX11_move_20 H
  · have H := H2 (Classical.byContradiction (fun z => hB (bz_0.mpr z)))
    refine x_iloadn (q := 8) 3 rfl rfl dX11_move_7 rfl ?_
    obtain ⟨s5, H⟩ := H
    refine x_callS (q := 11) (d := d - 1) (as := [vI l3]) (st := []) dX11_move_8 rfl ms_X11_298 rfl rfl (by exact Nat.le_of_ble_eq_true rfl) ⟨by show _ ≤ d; omega, by show _ ≤ 40 * d; omega⟩ ⟨Nat.le_refl _, Nat.le_refl _⟩ (ct_isSheet (by omega) s5 ?_)
    show E_X11_move G d 11 [(0, vR 71), (1, vI l1), (2, vI l2), (3, vI l3), (4, vI l4), (5, vI l5)] [vI (bz (0 ≤ l3 ∧ l3 ≤ 3))] mem Q
    obtain ⟨H1, H2⟩ := H
    refine x_if_ne (tgt := 21) (q := 14) dX11_move_11 (by decide) rfl (bz_inr _) (fun hB => ?_) (fun hB => ?_)
    · have H := H1 (bz_n0.mp hB)
      refine x_aloadn (q := 22) 0 rfl rfl rfl dX11_move_21 rfl ?_
      refine x_getr (q := 25) dX11_move_22 rfl fa_X11_70 sh_71 rfl ?_
      refine x_iloadn (q := 26) 1 rfl rfl dX11_move_25 rfl ?_
      obtain ⟨⟨s8, s9⟩, H⟩ := H
      refine x_iald (q := 27) dX11_move_26 rfl sh_87 s8 s9 (fun r10 => ?_)
      obtain ⟨H1, H2⟩ := H
      refine x_if_eq (tgt := 39) (q := 30) dX11_move_27 (by decide) rfl r10 (fun hB => ?_) (fun hB => ?_)
      · have H := H1 (hB)
        refine x_aloadn (q := 40) 0 rfl rfl rfl dX11_move_39 rfl ?_
        refine x_ldc (q := 42) (z := (-1000002)) cn_X11_219 (by decide) dX11_move_40 rfl ?_
        obtain ⟨m13, em13⟩ : ∃ m9 : Mem, m9 = fndM mem (-1000002) := ⟨_, rfl⟩
        have H := H m13 em13
        refine x_callV (q := 45) (d := d - 1) (as := [vI (-1000002)]) (st := []) dX11_move_42 rfl mv_X11_88 sh_71 rfl rfl rfl (by exact Nat.le_of_ble_eq_true rfl) ⟨by show _ ≤ d; omega, by show _ ≤ 40 * d; omega⟩ ⟨Nat.le_refl _, Nat.le_refl _⟩ (ct_finding (by decide) (by decide) ?_)
        rw [← em13]
        show E_X11_move G d 45 [(0, vR 71), (1, vI l1), (2, vI l2), (3, vI l3), (4, vI l4), (5, vI l5)] [vI (-1000002)] m13 Q
        exact x_iret rfl dX11_move_45 H
      · have H := H2 (hB)
        refine x_aloadn (q := 31) 0 rfl rfl rfl dX11_move_30 rfl ?_
        refine x_getr (q := 34) dX11_move_31 rfl fa_X11_70 sh_71 rfl ?_
        refine x_iloadn (q := 35) 3 rfl rfl dX11_move_34 rfl ?_
        obtain ⟨⟨s14, s15⟩, H⟩ := H
        refine x_iald (q := 36) dX11_move_35 rfl sh_87 s14 s15 (fun r16 => ?_)
        obtain ⟨H1, H2⟩ := H
        refine x_if_ne (tgt := 46) (q := 39) dX11_move_36 (by decide) rfl r16 (fun hB => ?_) (fun hB => ?_)
        · have H := H1 (hB)
          refine x_aloadn (q := 47) 0 rfl rfl rfl dX11_move_46 rfl ?_
          refine x_getr (q := 50) dX11_move_47 rfl fa_X11_70 sh_71 rfl ?_
          refine x_iloadn (q := 51) 1 rfl rfl dX11_move_50 rfl ?_
          refine x_iald (q := 52) dX11_move_51 rfl sh_87 s8 s9 (fun r19 => ?_)
          refine x_aloadn (q := 53) 0 rfl rfl rfl dX11_move_52 rfl ?_
          refine x_getr (q := 56) dX11_move_53 rfl fa_X11_70 sh_71 rfl ?_
          refine x_iloadn (q := 57) 3 rfl rfl dX11_move_56 rfl ?_
          refine x_iald (q := 58) dX11_move_57 rfl sh_87 s14 s15 (fun r20 => ?_)
          obtain ⟨H1, H2⟩ := H
          refine x_icmp_eq (tgt := 68) (q := 61) dX11_move_58 (by decide) rfl r19 r20 (fun hB => ?_) (fun hB => ?_)
          · have H := H1 (hB)
            refine x_iload (q := 70) 5 rfl dX11_move_68 rfl ?_
            obtain ⟨s23, H⟩ := H
            obtain ⟨H1, H2⟩ := H
            refine x_if_lt (tgt := 117) (q := 73) dX11_move_70 (by decide) rfl s23 (fun hB => ?_) (fun hB => ?_)
            · have H := H1 (hB)
              refine x_aloadn (q := 118) 0 rfl rfl rfl dX11_move_117 rfl ?_
              refine x_ldc (q := 120) (z := (-1000001)) cn_X11_87 (by decide) dX11_move_118 rfl ?_
              obtain ⟨m26, em26⟩ : ∃ m9 : Mem, m9 = fndM mem (-1000001) := ⟨_, rfl⟩
              have H := H m26 em26
              refine x_callV (q := 123) (d := d - 1) (as := [vI (-1000001)]) (st := []) dX11_move_120 rfl mv_X11_88 sh_71 rfl rfl rfl (by exact Nat.le_of_ble_eq_true rfl) ⟨by show _ ≤ d; omega, by show _ ≤ 40 * d; omega⟩ ⟨Nat.le_refl _, Nat.le_refl _⟩ (ct_finding (by decide) (by decide) ?_)
              rw [← em26]
              show E_X11_move G d 123 [(0, vR 71), (1, vI l1), (2, vI l2), (3, vI l3), (4, vI l4), (5, vI l5)] [vI (-1000001)] m26 Q
              exact x_iret rfl dX11_move_123 H
            · have H := H2 (hB)
              refine x_iloadn (q := 74) 2 rfl rfl dX11_move_73 rfl ?_
              obtain ⟨s27, H⟩ := H
              obtain ⟨H1, H2⟩ := H
              refine x_if_lt (tgt := 117) (q := 77) dX11_move_74 (by decide) rfl s27 (fun hB => ?_) (fun hB => ?_)
              · have H := H1 (hB)
                refine x_aloadn (q := 118) 0 rfl rfl rfl dX11_move_117 rfl ?_
                refine x_ldc (q := 120) (z := (-1000001)) cn_X11_87 (by decide) dX11_move_118 rfl ?_
                obtain ⟨m30, em30⟩ : ∃ m9 : Mem, m9 = fndM mem (-1000001) := ⟨_, rfl⟩
                have H := H m30 em30
                refine x_callV (q := 123) (d := d - 1) (as := [vI (-1000001)]) (st := []) dX11_move_120 rfl mv_X11_88 sh_71 rfl rfl rfl (by exact Nat.le_of_ble_eq_true rfl) ⟨by show _ ≤ d; omega, by show _ ≤ 40 * d; omega⟩ ⟨Nat.le_refl _, Nat.le_refl _⟩ (ct_finding (by decide) (by decide) ?_)
                rw [← em30]
                show E_X11_move G d 123 [(0, vR 71), (1, vI l1), (2, vI l2), (3, vI l3), (4, vI l4), (5, vI l5)] [vI (-1000001)] m30 Q
                exact x_iret rfl dX11_move_123 H
              · have H := H2 (hB)
                refine x_iload (q := 79) 4 rfl dX11_move_77 rfl ?_
                obtain ⟨s31, H⟩ := H
                obtain ⟨H1, H2⟩ := H
                refine x_if_lt (tgt := 117) (q := 82) dX11_move_79 (by decide) rfl s31 (fun hB => ?_) (fun hB => ?_)
                · have H := H1 (hB)
                  refine x_aloadn (q := 118) 0 rfl rfl rfl dX11_move_117 rfl ?_
                  refine x_ldc (q := 120) (z := (-1000001)) cn_X11_87 (by decide) dX11_move_118 rfl ?_
                  obtain ⟨m34, em34⟩ : ∃ m9 : Mem, m9 = fndM mem (-1000001) := ⟨_, rfl⟩
                  have H := H m34 em34
                  refine x_callV (q := 123) (d := d - 1) (as := [vI (-1000001)]) (st := []) dX11_move_120 rfl mv_X11_88 sh_71 rfl rfl rfl (by exact Nat.le_of_ble_eq_true rfl) ⟨by show _ ≤ d; omega, by show _ ≤ 40 * d; omega⟩ ⟨Nat.le_refl _, Nat.le_refl _⟩ (ct_finding (by decide) (by decide) ?_)
                  rw [← em34]
                  show E_X11_move G d 123 [(0, vR 71), (1, vI l1), (2, vI l2), (3, vI l3), (4, vI l4), (5, vI l5)] [vI (-1000001)] m34 Q
                  exact x_iret rfl dX11_move_123 H
                · have H := H2 (hB)
                  refine x_iloadn (q := 83) 2 rfl rfl dX11_move_82 rfl ?_
                  refine x_i2l (q := 84) s27 dX11_move_83 rfl ?_
                  refine x_iload (q := 86) 5 rfl dX11_move_84 rfl ?_
                  refine x_i2l (q := 87) s23 dX11_move_86 rfl ?_
                  refine x_ladd (q := 88) dX11_move_87 rfl ?_
                  refine x_aloadn (q := 89) 0 rfl rfl rfl dX11_move_88 rfl ?_
                  refine x_getr (q := 92) dX11_move_89 rfl fa_X11_73 sh_71 rfl ?_
                  refine x_iloadn (q := 93) 1 rfl rfl dX11_move_92 rfl ?_
                  refine x_iald (q := 94) dX11_move_93 rfl sh_88 s8 s9 (fun r35 => ?_)
                  refine x_i2l (q := 95) r35 dX11_move_94 rfl ?_
                  obtain ⟨s36, H⟩ := H
                  refine x_lcmp (q := 96) s36 (inl_of r35) dX11_move_95 rfl ?_
                  obtain ⟨H1, H2⟩ := H
                  refine x_if_gt (tgt := 117) (q := 99) dX11_move_96 (by decide) rfl (lcmp_inr _ _) (fun hB => ?_) (fun hB => ?_)
                  · have H := H1 (hB)
                    refine x_aloadn (q := 118) 0 rfl rfl rfl dX11_move_117 rfl ?_
                    refine x_ldc (q := 120) (z := (-1000001)) cn_X11_87 (by decide) dX11_move_118 rfl ?_
                    obtain ⟨m39, em39⟩ : ∃ m9 : Mem, m9 = fndM mem (-1000001) := ⟨_, rfl⟩
                    have H := H m39 em39
                    refine x_callV (q := 123) (d := d - 1) (as := [vI (-1000001)]) (st := []) dX11_move_120 rfl mv_X11_88 sh_71 rfl rfl rfl (by exact Nat.le_of_ble_eq_true rfl) ⟨by show _ ≤ d; omega, by show _ ≤ 40 * d; omega⟩ ⟨Nat.le_refl _, Nat.le_refl _⟩ (ct_finding (by decide) (by decide) ?_)
                    rw [← em39]
                    show E_X11_move G d 123 [(0, vR 71), (1, vI l1), (2, vI l2), (3, vI l3), (4, vI l4), (5, vI l5)] [vI (-1000001)] m39 Q
                    exact x_iret rfl dX11_move_123 H
                  · have H := H2 (hB)
                    refine x_iload (q := 101) 4 rfl dX11_move_99 rfl ?_
                    refine x_i2l (q := 102) s31 dX11_move_101 rfl ?_
                    refine x_iload (q := 104) 5 rfl dX11_move_102 rfl ?_
                    refine x_i2l (q := 105) s23 dX11_move_104 rfl ?_
                    refine x_ladd (q := 106) dX11_move_105 rfl ?_
                    refine x_aloadn (q := 107) 0 rfl rfl rfl dX11_move_106 rfl ?_
                    refine x_getr (q := 110) dX11_move_107 rfl fa_X11_73 sh_71 rfl ?_
                    refine x_iloadn (q := 111) 3 rfl rfl dX11_move_110 rfl ?_
                    refine x_iald (q := 112) dX11_move_111 rfl sh_88 s14 s15 (fun r40 => ?_)
                    refine x_i2l (q := 113) r40 dX11_move_112 rfl ?_
                    obtain ⟨s41, H⟩ := H
                    refine x_lcmp (q := 114) s41 (inl_of r40) dX11_move_113 rfl ?_
                    obtain ⟨H1, H2⟩ := H
                    refine x_if_le (tgt := 124) (q := 117) dX11_move_114 (by decide) rfl (lcmp_inr _ _) (fun hB => ?_) (fun hB => ?_)
                    · have H := H1 (hB)
                      refine x_iconst (q := 125) dX11_move_124 rfl ?_
                      refine x_istore (q := 127) (ls' := [(6, vI 0), (0, vR 71), (1, vI l1), (2, vI l2), (3, vI l3), (4, vI l4), (5, vI l5)]) (by decide) rfl dX11_move_125 rfl ?_
                      refine x_sub [1, 2, 3, 4, 5, 6, 0] rfl ?_
                      exact H
                    · have H := H2 (hB)
                      refine x_aloadn (q := 118) 0 rfl rfl rfl dX11_move_117 rfl ?_
                      refine x_ldc (q := 120) (z := (-1000001)) cn_X11_87 (by decide) dX11_move_118 rfl ?_
                      obtain ⟨m44, em44⟩ : ∃ m9 : Mem, m9 = fndM mem (-1000001) := ⟨_, rfl⟩
                      have H := H m44 em44
                      refine x_callV (q := 123) (d := d - 1) (as := [vI (-1000001)]) (st := []) dX11_move_120 rfl mv_X11_88 sh_71 rfl rfl rfl (by exact Nat.le_of_ble_eq_true rfl) ⟨by show _ ≤ d; omega, by show _ ≤ 40 * d; omega⟩ ⟨Nat.le_refl _, Nat.le_refl _⟩ (ct_finding (by decide) (by decide) ?_)
                      rw [← em44]
                      show E_X11_move G d 123 [(0, vR 71), (1, vI l1), (2, vI l2), (3, vI l3), (4, vI l4), (5, vI l5)] [vI (-1000001)] m44 Q
                      exact x_iret rfl dX11_move_123 H
          · have H := H2 (hB)
            refine x_aloadn (q := 62) 0 rfl rfl rfl dX11_move_61 rfl ?_
            refine x_ldc (q := 64) (z := (-1000005)) cn_X11_118 (by decide) dX11_move_62 rfl ?_
            obtain ⟨m45, em45⟩ : ∃ m9 : Mem, m9 = fndM mem (-1000005) := ⟨_, rfl⟩
            have H := H m45 em45
            refine x_callV (q := 67) (d := d - 1) (as := [vI (-1000005)]) (st := []) dX11_move_64 rfl mv_X11_88 sh_71 rfl rfl rfl (by exact Nat.le_of_ble_eq_true rfl) ⟨by show _ ≤ d; omega, by show _ ≤ 40 * d; omega⟩ ⟨Nat.le_refl _, Nat.le_refl _⟩ (ct_finding (by decide) (by decide) ?_)
            rw [← em45]
            show E_X11_move G d 67 [(0, vR 71), (1, vI l1), (2, vI l2), (3, vI l3), (4, vI l4), (5, vI l5)] [vI (-1000005)] m45 Q
            exact x_iret rfl dX11_move_67 H
        · have H := H2 (hB)
          refine x_aloadn (q := 40) 0 rfl rfl rfl dX11_move_39 rfl ?_
          refine x_ldc (q := 42) (z := (-1000002)) cn_X11_219 (by decide) dX11_move_40 rfl ?_
          obtain ⟨m46, em46⟩ : ∃ m9 : Mem, m9 = fndM mem (-1000002) := ⟨_, rfl⟩
          have H := H m46 em46
          refine x_callV (q := 45) (d := d - 1) (as := [vI (-1000002)]) (st := []) dX11_move_42 rfl mv_X11_88 sh_71 rfl rfl rfl (by exact Nat.le_of_ble_eq_true rfl) ⟨by show _ ≤ d; omega, by show _ ≤ 40 * d; omega⟩ ⟨Nat.le_refl _, Nat.le_refl _⟩ (ct_finding (by decide) (by decide) ?_)
          rw [← em46]
          show E_X11_move G d 45 [(0, vR 71), (1, vI l1), (2, vI l2), (3, vI l3), (4, vI l4), (5, vI l5)] [vI (-1000002)] m46 Q
          exact x_iret rfl dX11_move_45 H
    · have H := H2 (fun z => hB (bz_n0.mpr z))
      refine x_aloadn (q := 15) 0 rfl rfl rfl dX11_move_14 rfl ?_
      refine x_ldc (q := 17) (z := (-1000001)) cn_X11_87 (by decide) dX11_move_15 rfl ?_
      obtain ⟨m47, em47⟩ : ∃ m9 : Mem, m9 = fndM mem (-1000001) := ⟨_, rfl⟩
      have H := H m47 em47
      refine x_callV (q := 20) (d := d - 1) (as := [vI (-1000001)]) (st := []) dX11_move_17 rfl mv_X11_88 sh_71 rfl rfl rfl (by exact Nat.le_of_ble_eq_true rfl) ⟨by show _ ≤ d; omega, by show _ ≤ 40 * d; omega⟩ ⟨Nat.le_refl _, Nat.le_refl _⟩ (ct_finding (by decide) (by decide) ?_)
      rw [← em47]
      show E_X11_move G d 20 [(0, vR 71), (1, vI l1), (2, vI l2), (3, vI l3), (4, vI l4), (5, vI l5)] [vI (-1000001)] m47 Q
      exact x_iret rfl dX11_move_20 H
set_option maxRecDepth 20000 in
set_option maxHeartbeats 4000000 in
theorem B_X11_move_127 {G : GT} {d : Nat} {l1 : Int} {l2 : Int} {l3 : Int} {l4 : Int} {l5 : Int} {l6 : Int} {mem : Mem} {Q : Option AV → Mem → Prop} (hd : 2 ≤ d) (H : (inr l6 ∧ inr l5) ∧ (((l5 ≤ l6) → (E_X11_move G d 164 [(0, vR 71), (3, vI l3), (4, vI l4), (5, vI l5), (6, vI 0)] [] mem Q)) ∧ (¬ (l5 ≤ l6) → ((0 ≤ ((24 * l1) + l2) + l6 ∧ ((24 * l1) + l2) + l6 < 96) ∧ ((0 ≤ l6 ∧ l6 < 24) ∧ (∀ m57 : Mem, m57 = upM mem 90 l6 (mem 89 (((24 * l1) + l2) + l6)) → (E_X11_move G d 127 [(0, vR 71), (1, vI l1), (2, vI l2), (3, vI l3), (4, vI l4), (5, vI l5), (6, vI (l6 + 1))] [] m57 Q))))))) : E_X11_move G d 127 [(0, vR 71), (1, vI l1), (2, vI l2), (3, vI l3), (4, vI l4), (5, vI l5), (6, vI l6)] [] mem Q := by
  refine x_iload (q := 129) 6 rfl dX11_move_127 rfl ?_
  refine x_iload (q := 131) 5 rfl dX11_move_129 rfl ?_
  obtain ⟨⟨s48, s49⟩, H⟩ := H
  obtain ⟨H1, H2⟩ := H
  refine x_icmp_ge (tgt := 161) (q := 134) dX11_move_131 (by decide) rfl s48 s49 (fun hB => ?_) (fun hB => ?_)
  · have H := H1 (hB)
    refine x_iconst (q := 162) dX11_move_161 rfl ?_
    refine x_istore (q := 164) (ls' := [(6, vI 0), (0, vR 71), (1, vI l1), (2, vI l2), (3, vI l3), (4, vI l4), (5, vI l5)]) (by decide) rfl dX11_move_162 rfl ?_
    refine x_sub [1, 4, 5, 6, 0] rfl ?_
    exact H
  · have H := H2 (hB)
    refine x_aloadn (q := 135) 0 rfl rfl rfl dX11_move_134 rfl ?_
    refine x_getr (q := 138) dX11_move_135 rfl fa_X11_79 sh_71 rfl ?_
    refine x_iload (q := 140) 6 rfl dX11_move_138 rfl ?_
    refine x_aloadn (q := 141) 0 rfl rfl rfl dX11_move_140 rfl ?_
    refine x_getr (q := 144) dX11_move_141 rfl fa_X11_76 sh_71 rfl ?_
    refine x_bipush (q := 146) rfl dX11_move_144 rfl ?_
    refine x_iloadn (q := 147) 1 rfl rfl dX11_move_146 rfl ?_
    refine x_imul (q := 148) dX11_move_147 rfl ?_
    refine x_iloadn (q := 149) 2 rfl rfl dX11_move_148 rfl ?_
    refine x_iadd (q := 150) dX11_move_149 rfl ?_
    refine x_iload (q := 152) 6 rfl dX11_move_150 rfl ?_
    refine x_iadd (q := 153) dX11_move_152 rfl ?_
    obtain ⟨⟨s52, s53⟩, H⟩ := H
    refine x_iald (q := 154) dX11_move_153 rfl sh_89 s52 s53 (fun r54 => ?_)
    obtain ⟨⟨s55, s56⟩, H⟩ := H
    refine x_iast (q := 155) dX11_move_154 rfl sh_90 s55 s56 r54 (fun m57 em57 => ?_)
    have H := H m57 em57
    refine x_iinc (q := 158) (ls' := [(6, vI (l6 + 1)), (0, vR 71), (1, vI l1), (2, vI l2), (3, vI l3), (4, vI l4), (5, vI l5)]) 6 rfl (by decide) rfl dX11_move_155 rfl ?_
    refine x_goto (tgt := 127) dX11_move_158 (by decide) ?_
    refine x_sub [1, 2, 3, 4, 5, 6, 0] rfl ?_
    exact H
set_option maxRecDepth 20000 in
set_option maxHeartbeats 4000000 in
theorem B_X11_move_164 {G : GT} {d : Nat} {l3 : Int} {l4 : Int} {l5 : Int} {l6 : Int} {mem : Mem} {Q : Option AV → Mem → Prop} (hd : 2 ≤ d) (H : (inr l6 ∧ inr l5) ∧ (((l5 ≤ l6) → (Q (some (vI l5)) mem)) ∧ (¬ (l5 ≤ l6) → ((0 ≤ l6 ∧ l6 < 24) ∧ ((0 ≤ ((24 * l3) + l4) + l6 ∧ ((24 * l3) + l4) + l6 < 96) ∧ (∀ m67 : Mem, m67 = upM mem 89 (((24 * l3) + l4) + l6) (mem 90 l6) → (E_X11_move G d 164 [(0, vR 71), (3, vI l3), (4, vI l4), (5, vI l5), (6, vI (l6 + 1))] [] m67 Q))))))) : E_X11_move G d 164 [(0, vR 71), (3, vI l3), (4, vI l4), (5, vI l5), (6, vI l6)] [] mem Q := by
  refine x_iload (q := 166) 4 rfl dX11_move_164 rfl ?_
  refine x_iload (q := 168) 3 rfl dX11_move_166 rfl ?_
  obtain ⟨⟨s58, s59⟩, H⟩ := H
  obtain ⟨H1, H2⟩ := H
  refine x_icmp_ge (tgt := 199) (q := 171) dX11_move_168 (by decide) rfl s58 s59 (fun hB => ?_) (fun hB => ?_)
  · have H := H1 (hB)
    refine x_iload (q := 201) 3 rfl dX11_move_199 rfl ?_
    exact x_iret rfl dX11_move_201 H
  · have H := H2 (hB)
    refine x_aloadn (q := 172) 0 rfl rfl rfl dX11_move_171 rfl ?_
    refine x_getr (q := 175) dX11_move_172 rfl fa_X11_76 sh_71 rfl ?_
    refine x_bipush (q := 177) rfl dX11_move_175 rfl ?_
    refine x_iloadn (q := 178) 1 rfl rfl dX11_move_177 rfl ?_
    refine x_imul (q := 179) dX11_move_178 rfl ?_
    refine x_iload (q := 181) 2 rfl dX11_move_179 rfl ?_
    refine x_iadd (q := 182) dX11_move_181 rfl ?_
    refine x_iload (q := 184) 4 rfl dX11_move_182 rfl ?_
    refine x_iadd (q := 185) dX11_move_184 rfl ?_
    refine x_aloadn (q := 186) 0 rfl rfl rfl dX11_move_185 rfl ?_
    refine x_getr (q := 189) dX11_move_186 rfl fa_X11_79 sh_71 rfl ?_
    refine x_iload (q := 191) 4 rfl dX11_move_189 rfl ?_
    obtain ⟨⟨s62, s63⟩, H⟩ := H
    refine x_iald (q := 192) dX11_move_191 rfl sh_90 s62 s63 (fun r64 => ?_)
    obtain ⟨⟨s65, s66⟩, H⟩ := H
    refine x_iast (q := 193) dX11_move_192 rfl sh_89 s65 s66 r64 (fun m67 em67 => ?_)
    have H := H m67 em67
    refine x_iinc (q := 196) (ls' := [(6, vI (l6 + 1)), (0, vR 71), (3, vI l3), (4, vI l4), (5, vI l5)]) 4 rfl (by decide) rfl dX11_move_193 rfl ?_
    refine x_goto (tgt := 164) dX11_move_196 (by decide) ?_
    refine x_sub [1, 2, 3, 4, 0] rfl ?_
    exact H
set_option maxRecDepth 20000 in
set_option maxHeartbeats 4000000 in
theorem B_X11_says {G : GT} {d : Nat} {l1 : Int} {mem : Mem} {Q : Option AV → Mem → Prop} (hd : 2 ≤ d) (H : (inr l1) ∧ (((0 ≤ l1 ∧ l1 ≤ 3) → ((0 ≤ l1 ∧ l1 < 4) ∧ (((mem 87 l1 ≠ 0) → (E_X11_says G d 37 [(0, vR 71), (1, vI l1), (2, vI 0), (3, vI (24 * l1))] [] mem Q)) ∧ (¬ (mem 87 l1 ≠ 0) → (∀ m9 : Mem, m9 = fndM mem (-1000002) → (Q (some (vI (-1000002))) m9)))))) ∧ (¬ (0 ≤ l1 ∧ l1 ≤ 3) → (∀ m10 : Mem, m10 = fndM mem (-1000001) → (Q (some (vI (-1000001))) m10))))) : C_X11_says G d [vR 71, vI l1] mem Q := by
  refine Ct_of_Ex (by decide +kernel) (by exact Nat.le_of_ble_eq_true rfl) (ls := [(0, vR 71), (1, vI l1)]) rfl ?_
  show E_X11_says G d 0 [(0, vR 71), (1, vI l1)] [] mem Q
  refine x_iloadn (q := 1) 1 rfl rfl dX11_says_0 rfl ?_
  obtain ⟨s1, H⟩ := H
  refine x_callS (q := 4) (d := d - 1) (as := [vI l1]) (st := []) dX11_says_1 rfl ms_X11_298 rfl rfl (by exact Nat.le_of_ble_eq_true rfl) ⟨by show _ ≤ d; omega, by show _ ≤ 40 * d; omega⟩ ⟨Nat.le_refl _, Nat.le_refl _⟩ (ct_isSheet (by omega) s1 ?_)
  show E_X11_says G d 4 [(0, vR 71), (1, vI l1)] [vI (bz (0 ≤ l1 ∧ l1 ≤ 3))] mem Q
  obtain ⟨H1, H2⟩ := H
  refine x_if_ne (tgt := 14) (q := 7) dX11_says_4 (by decide) rfl (bz_inr _) (fun hB => ?_) (fun hB => ?_)
  · have H := H1 (bz_n0.mp hB)
    refine x_aloadn (q := 15) 0 rfl rfl rfl dX11_says_14 rfl ?_
    refine x_getr (q := 18) dX11_says_15 rfl fa_X11_70 sh_71 rfl ?_
    refine x_iloadn (q := 19) 1 rfl rfl dX11_says_18 rfl ?_
    obtain ⟨⟨s4, s5⟩, H⟩ := H
    refine x_iald (q := 20) dX11_says_19 rfl sh_87 s4 s5 (fun r6 => ?_)
    obtain ⟨H1, H2⟩ := H
    refine x_if_ne (tgt := 30) (q := 23) dX11_says_20 (by decide) rfl r6 (fun hB => ?_) (fun hB => ?_)
    · have H := H1 (hB)
      refine x_iconst (q := 31) dX11_says_30 rfl ?_
      refine x_istoren (q := 32) (ls' := [(2, vI 0), (0, vR 71), (1, vI l1)]) rfl (by decide) rfl dX11_says_31 rfl ?_
      refine x_bipush (q := 34) rfl dX11_says_32 rfl ?_
      refine x_iloadn (q := 35) 2 rfl rfl dX11_says_34 rfl ?_
      refine x_imul (q := 36) dX11_says_35 rfl ?_
      refine x_istoren (q := 37) (ls' := [(3, vI (24 * l1)), (2, vI 0), (0, vR 71), (1, vI l1)]) rfl (by decide) rfl dX11_says_36 rfl ?_
      refine x_sub [2, 3, 1, 0] rfl ?_
      exact H
    · have H := H2 (hB)
      refine x_aloadn (q := 24) 0 rfl rfl rfl dX11_says_23 rfl ?_
      refine x_ldc (q := 26) (z := (-1000002)) cn_X11_219 (by decide) dX11_says_24 rfl ?_
      obtain ⟨m9, em9⟩ : ∃ m9 : Mem, m9 = fndM mem (-1000002) := ⟨_, rfl⟩
      have H := H m9 em9
      refine x_callV (q := 29) (d := d - 1) (as := [vI (-1000002)]) (st := []) dX11_says_26 rfl mv_X11_88 sh_71 rfl rfl rfl (by exact Nat.le_of_ble_eq_true rfl) ⟨by show _ ≤ d; omega, by show _ ≤ 40 * d; omega⟩ ⟨Nat.le_refl _, Nat.le_refl _⟩ (ct_finding (by decide) (by decide) ?_)
      rw [← em9]
      show E_X11_says G d 29 [(0, vR 71), (1, vI l1)] [vI (-1000002)] m9 Q
      exact x_iret rfl dX11_says_29 H
  · have H := H2 (fun z => hB (bz_n0.mpr z))
    refine x_aloadn (q := 8) 0 rfl rfl rfl dX11_says_7 rfl ?_
    refine x_ldc (q := 10) (z := (-1000001)) cn_X11_87 (by decide) dX11_says_8 rfl ?_
    obtain ⟨m10, em10⟩ : ∃ m9 : Mem, m9 = fndM mem (-1000001) := ⟨_, rfl⟩
    have H := H m10 em10
    refine x_callV (q := 13) (d := d - 1) (as := [vI (-1000001)]) (st := []) dX11_says_10 rfl mv_X11_88 sh_71 rfl rfl rfl (by exact Nat.le_of_ble_eq_true rfl) ⟨by show _ ≤ d; omega, by show _ ≤ 40 * d; omega⟩ ⟨Nat.le_refl _, Nat.le_refl _⟩ (ct_finding (by decide) (by decide) ?_)
    rw [← em10]
    show E_X11_says G d 13 [(0, vR 71), (1, vI l1)] [vI (-1000001)] m10 Q
    exact x_iret rfl dX11_says_13 H
set_option maxRecDepth 20000 in
set_option maxHeartbeats 4000000 in
theorem B_X11_says_37 {G : GT} {d : Nat} {l1 : Int} {l2 : Int} {l3 : Int} {mem : Mem} {Q : Option AV → Mem → Prop} (hd : 2 ≤ d) (H : (0 ≤ l1 ∧ l1 < 4) ∧ ((inr ((2 * l2) + 2)) ∧ (((mem 88 l1 < (2 * l2) + 2) → (Q (some (vI l2)) mem)) ∧ (¬ (mem 88 l1 < (2 * l2) + 2) → ((0 ≤ l3 ∧ l3 < 96) ∧ (((mem 89 l3 < 0) → (Q (some (vI l2)) mem)) ∧ (¬ (mem 89 l3 < 0) → (C_X11_whyNot G (d - 1) [vR 71, vI (Int.tdiv (mem 89 l3) 12), vI (Int.tmod (mem 89 l3) 12)] mem (fun r9 m22 => ∃ z23 : Int, r9 = some (vI z23) ∧ ((inr z23) ∧ (((z23 = 0) → ((0 ≤ l3 + 1 ∧ l3 + 1 < 96) ∧ (((m22 89 (l3 + 1) = 0) → ((inr (Int.tdiv (mem 89 l3) 12) ∧ inr (Int.tmod (mem 89 l3) 12)) ∧ ((0 ≤ m22 72 1 ∧ m22 72 1 < 60) ∧ (∀ m36 : Mem, m36 = ssM m22 (Int.tdiv (mem 89 l3) 12) (Int.tmod (mem 89 l3) 12) 0 → (E_X11_says G d 37 [(0, vR 71), (1, vI l1), (2, vI (l2 + 1)), (3, vI (l3 + 2))] [] m36 Q))))) ∧ (¬ (m22 89 (l3 + 1) = 0) → ((inr (Int.tdiv (mem 89 l3) 12) ∧ inr (Int.tmod (mem 89 l3) 12)) ∧ ((0 ≤ m22 72 1 ∧ m22 72 1 < 60) ∧ (∀ m41 : Mem, m41 = ssM m22 (Int.tdiv (mem 89 l3) 12) (Int.tmod (mem 89 l3) 12) 1 → (E_X11_says G d 37 [(0, vR 71), (1, vI l1), (2, vI (l2 + 1)), (3, vI (l3 + 2))] [] m41 Q)))))))) ∧ (¬ (z23 = 0) → (Q (some (vI l2)) m22))))))))))))) : E_X11_says G d 37 [(0, vR 71), (1, vI l1), (2, vI l2), (3, vI l3)] [] mem Q := by
  refine x_iconst (q := 38) dX11_says_37 rfl ?_
  refine x_iloadn (q := 39) 2 rfl rfl dX11_says_38 rfl ?_
  refine x_imul (q := 40) dX11_says_39 rfl ?_
  refine x_iconst (q := 41) dX11_says_40 rfl ?_
  refine x_iadd (q := 42) dX11_says_41 rfl ?_
  refine x_aloadn (q := 43) 0 rfl rfl rfl dX11_says_42 rfl ?_
  refine x_getr (q := 46) dX11_says_43 rfl fa_X11_73 sh_71 rfl ?_
  refine x_iloadn (q := 47) 1 rfl rfl dX11_says_46 rfl ?_
  obtain ⟨⟨s11, s12⟩, H⟩ := H
  refine x_iald (q := 48) dX11_says_47 rfl sh_88 s11 s12 (fun r13 => ?_)
  obtain ⟨s14, H⟩ := H
  obtain ⟨H1, H2⟩ := H
  refine x_icmp_gt (tgt := 122) (q := 51) dX11_says_48 (by decide) rfl s14 r13 (fun hB => ?_) (fun hB => ?_)
  · have H := H1 (hB)
    refine x_iloadn (q := 123) 2 rfl rfl dX11_says_122 rfl ?_
    exact x_iret rfl dX11_says_123 H
  · have H := H2 (hB)
    refine x_aloadn (q := 52) 0 rfl rfl rfl dX11_says_51 rfl ?_
    refine x_getr (q := 55) dX11_says_52 rfl fa_X11_76 sh_71 rfl ?_
    refine x_iloadn (q := 56) 3 rfl rfl dX11_says_55 rfl ?_
    obtain ⟨⟨s17, s18⟩, H⟩ := H
    refine x_iald (q := 57) dX11_says_56 rfl sh_89 s17 s18 (fun r19 => ?_)
    refine x_istore (q := 59) (ls' := [(4, vI (mem 89 l3)), (0, vR 71), (1, vI l1), (2, vI l2), (3, vI l3)]) (by decide) rfl dX11_says_57 rfl ?_
    refine x_iload (q := 61) 0 rfl dX11_says_59 rfl ?_
    obtain ⟨H1, H2⟩ := H
    refine x_if_lt (tgt := 81) (q := 64) dX11_says_61 (by decide) rfl r19 (fun hB => ?_) (fun hB => ?_)
    · have H := H1 (hB)
      refine x_iloadn (q := 82) 3 rfl rfl dX11_says_81 rfl ?_
      exact x_iret rfl dX11_says_82 H
    · have H := H2 (hB)
      refine x_aloadn (q := 65) 1 rfl rfl rfl dX11_says_64 rfl ?_
      refine x_iload (q := 67) 0 rfl dX11_says_65 rfl ?_
      refine x_bipush (q := 69) rfl dX11_says_67 rfl ?_
      refine x_idiv (q := 70) r19 (by decide) (by decide) dX11_says_69 rfl ?_
      refine x_iload (q := 72) 0 rfl dX11_says_70 rfl ?_
      refine x_bipush (q := 74) rfl dX11_says_72 rfl ?_
      refine x_irem (q := 75) r19 (by decide) (by decide) dX11_says_74 rfl ?_
      refine x_callV (q := 78) (d := d - 1) (as := [vI (Int.tdiv (mem 89 l3) 12), vI (Int.tmod (mem 89 l3) 12)]) (st := []) dX11_says_75 rfl mv_X11_123 sh_71 rfl rfl rfl (by exact Nat.le_of_ble_eq_true rfl) ⟨by show _ ≤ d; omega, by show _ ≤ 40 * d; omega⟩ ⟨Nat.le_refl _, Nat.le_refl _⟩ (Ct.mono H (fun r9 m22 H => ?_))
      obtain ⟨z23, rfl, H⟩ := H
      show E_X11_says G d 78 [(4, vI (mem 89 l3)), (0, vR 71), (1, vI l1), (2, vI l2), (3, vI l3)] [vI z23] m22 Q
      obtain ⟨s24, H⟩ := H
      obtain ⟨H1, H2⟩ := H
      refine x_if_eq (tgt := 83) (q := 81) dX11_says_78 (by decide) rfl s24 (fun hB => ?_) (fun hB => ?_)
      · have H := H1 (hB)
        refine x_aloadn (q := 84) 1 rfl rfl rfl dX11_says_83 rfl ?_
        refine x_iload (q := 86) 0 rfl dX11_says_84 rfl ?_
        refine x_bipush (q := 88) rfl dX11_says_86 rfl ?_
        refine x_idiv (q := 89) r19 (by decide) (by decide) dX11_says_88 rfl ?_
        refine x_iload (q := 91) 0 rfl dX11_says_89 rfl ?_
        refine x_bipush (q := 93) rfl dX11_says_91 rfl ?_
        refine x_irem (q := 94) r19 (by decide) (by decide) dX11_says_93 rfl ?_
        refine x_aloadn (q := 95) 1 rfl rfl rfl dX11_says_94 rfl ?_
        refine x_getr (q := 98) dX11_says_95 rfl fa_X11_76 sh_71 rfl ?_
        refine x_iloadn (q := 99) 4 rfl rfl dX11_says_98 rfl ?_
        refine x_iconst (q := 100) dX11_says_99 rfl ?_
        refine x_iadd (q := 101) dX11_says_100 rfl ?_
        obtain ⟨⟨s27, s28⟩, H⟩ := H
        refine x_iald (q := 102) dX11_says_101 rfl sh_89 s27 s28 (fun r29 => ?_)
        obtain ⟨H1, H2⟩ := H
        refine x_if_eq (tgt := 109) (q := 105) dX11_says_102 (by decide) rfl r29 (fun hB => ?_) (fun hB => ?_)
        · have H := H1 (hB)
          refine x_iconst (q := 110) dX11_says_109 rfl ?_
          obtain ⟨⟨s32, s33⟩, H⟩ := H
          obtain ⟨⟨s34, s35⟩, H⟩ := H
          obtain ⟨m36, em36⟩ : ∃ m9 : Mem, m9 = ssM m22 (Int.tdiv (mem 89 l3) 12) (Int.tmod (mem 89 l3) 12) 0 := ⟨_, rfl⟩
          have H := H m36 em36
          refine x_callV (q := 113) (d := d - 1) (as := [vI (Int.tdiv (mem 89 l3) 12), vI (Int.tmod (mem 89 l3) 12), vI 0]) (st := []) dX11_says_110 rfl mv_X11_126 sh_71 rfl rfl rfl (by exact Nat.le_of_ble_eq_true rfl) ⟨by show _ ≤ d; omega, by show _ ≤ 40 * d; omega⟩ ⟨Nat.le_refl _, Nat.le_refl _⟩ (ct_saysSo s34 s35 s32 s33 (by decide) ?_)
          rw [← em36]
          show E_X11_says G d 113 [(4, vI (mem 89 l3)), (0, vR 71), (1, vI l1), (2, vI l2), (3, vI l3)] [] m36 Q
          refine x_iinc (q := 116) (ls' := [(2, vI (l2 + 1)), (4, vI (mem 89 l3)), (0, vR 71), (1, vI l1), (3, vI l3)]) 3 rfl (by decide) rfl dX11_says_113 rfl ?_
          refine x_iinc (q := 119) (ls' := [(3, vI (l3 + 2)), (2, vI (l2 + 1)), (4, vI (mem 89 l3)), (0, vR 71), (1, vI l1)]) 4 rfl (by decide) rfl dX11_says_116 rfl ?_
          refine x_goto (tgt := 37) dX11_says_119 (by decide) ?_
          refine x_sub [3, 4, 1, 0] rfl ?_
          exact H
        · have H := H2 (hB)
          refine x_iconst (q := 106) dX11_says_105 rfl ?_
          refine x_goto (tgt := 110) dX11_says_106 (by decide) ?_
          obtain ⟨⟨s37, s38⟩, H⟩ := H
          obtain ⟨⟨s39, s40⟩, H⟩ := H
          obtain ⟨m41, em41⟩ : ∃ m9 : Mem, m9 = ssM m22 (Int.tdiv (mem 89 l3) 12) (Int.tmod (mem 89 l3) 12) 1 := ⟨_, rfl⟩
          have H := H m41 em41
          refine x_callV (q := 113) (d := d - 1) (as := [vI (Int.tdiv (mem 89 l3) 12), vI (Int.tmod (mem 89 l3) 12), vI 1]) (st := []) dX11_says_110 rfl mv_X11_126 sh_71 rfl rfl rfl (by exact Nat.le_of_ble_eq_true rfl) ⟨by show _ ≤ d; omega, by show _ ≤ 40 * d; omega⟩ ⟨Nat.le_refl _, Nat.le_refl _⟩ (ct_saysSo s39 s40 s37 s38 (by decide) ?_)
          rw [← em41]
          show E_X11_says G d 113 [(4, vI (mem 89 l3)), (0, vR 71), (1, vI l1), (2, vI l2), (3, vI l3)] [] m41 Q
          refine x_iinc (q := 116) (ls' := [(2, vI (l2 + 1)), (4, vI (mem 89 l3)), (0, vR 71), (1, vI l1), (3, vI l3)]) 3 rfl (by decide) rfl dX11_says_113 rfl ?_
          refine x_iinc (q := 119) (ls' := [(3, vI (l3 + 2)), (2, vI (l2 + 1)), (4, vI (mem 89 l3)), (0, vR 71), (1, vI l1)]) 4 rfl (by decide) rfl dX11_says_116 rfl ?_
          refine x_goto (tgt := 37) dX11_says_119 (by decide) ?_
          refine x_sub [3, 4, 1, 0] rfl ?_
          exact H
      · have H := H2 (hB)
        refine x_iloadn (q := 82) 3 rfl rfl dX11_says_81 rfl ?_
        exact x_iret rfl dX11_says_82 H
