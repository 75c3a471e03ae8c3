abbrev E_X10_fits (G : GT) (d pc : Nat) (ls : List (Nat × AV)) (st : List AV) (mem : Mem) (Q : Option AV → Mem → Prop) : Prop := Ex G RX10 cX10_fits 2 (some .int) d pc ls st mem Q
abbrev C_X10_fits (G : GT) (d : Nat) (as : List AV) (mem : Mem) (Q : Option AV → Mem → Prop) : Prop := Ct G yX10_fits cX10_fits 2 (some .int) d as mem Q
abbrev E_X10_bars (G : GT) (d pc : Nat) (ls : List (Nat × AV)) (st : List AV) (mem : Mem) (Q : Option AV → Mem → Prop) : Prop := Ex G RX10 cX10_bars 2 (some .int) d pc ls st mem Q
abbrev C_X10_bars (G : GT) (d : Nat) (as : List AV) (mem : Mem) (Q : Option AV → Mem → Prop) : Prop := Ct G yX10_bars cX10_bars 2 (some .int) d as mem Q
abbrev E_X10_many (G : GT) (d pc : Nat) (ls : List (Nat × AV)) (st : List AV) (mem : Mem) (Q : Option AV → Mem → Prop) : Prop := Ex G RX10 cX10_many 1 (some .int) d pc ls st mem Q
abbrev C_X10_many (G : GT) (d : Nat) (as : List AV) (mem : Mem) (Q : Option AV → Mem → Prop) : Prop := Ct G yX10_many cX10_many 1 (some .int) d as mem Q
abbrev E_X10_which (G : GT) (d pc : Nat) (ls : List (Nat × AV)) (st : List AV) (mem : Mem) (Q : Option AV → Mem → Prop) : Prop := Ex G RX10 cX10_which 2 (some .int) d pc ls st mem Q
abbrev C_X10_which (G : GT) (d : Nat) (as : List AV) (mem : Mem) (Q : Option AV → Mem → Prop) : Prop := Ct G yX10_which cX10_which 2 (some .int) d as mem Q
abbrev E_X10_sure (G : GT) (d pc : Nat) (ls : List (Nat × AV)) (st : List AV) (mem : Mem) (Q : Option AV → Mem → Prop) : Prop := Ex G RX10 cX10_sure 2 (some .int) d pc ls st mem Q
abbrev C_X10_sure (G : GT) (d : Nat) (as : List AV) (mem : Mem) (Q : Option AV → Mem → Prop) : Prop := Ct G yX10_sure cX10_sure 2 (some .int) d as mem Q
abbrev E_X10_blame (G : GT) (d pc : Nat) (ls : List (Nat × AV)) (st : List AV) (mem : Mem) (Q : Option AV → Mem → Prop) : Prop := Ex G RX10 cX10_blame 3 (some .int) d pc ls st mem Q
abbrev C_X10_blame (G : GT) (d : Nat) (as : List AV) (mem : Mem) (Q : Option AV → Mem → Prop) : Prop := Ct G yX10_blame cX10_blame 3 (some .int) d as mem Q
abbrev E_X10_leads (G : GT) (d pc : Nat) (ls : List (Nat × AV)) (st : List AV) (mem : Mem) (Q : Option AV → Mem → Prop) : Prop := Ex G RX10 cX10_leads 2 (some .int) d pc ls st mem Q
abbrev C_X10_leads (G : GT) (d : Nat) (as : List AV) (mem : Mem) (Q : Option AV → Mem → Prop) : Prop := Ct G yX10_leads cX10_leads 2 (some .int) d as mem Q
abbrev E_X10_likely (G : GT) (d pc : Nat) (ls : List (Nat × AV)) (st : List AV) (mem : Mem) (Q : Option AV → Mem → Prop) : Prop := Ex G RX10 cX10_likely 1 (some .int) d pc ls st mem Q
abbrev C_X10_likely (G : GT) (d : Nat) (as : List AV) (mem : Mem) (Q : Option AV → Mem → Prop) : Prop := Ct G yX10_likely cX10_likely 1 (some .int) d as mem Q
abbrev E_X10_check (G : GT) (d pc : Nat) (ls : List (Nat × AV)) (st : List AV) (mem : Mem) (Q : Option AV → Mem → Prop) : Prop := Ex G RX10 cX10_check 3 (some .int) d pc ls st mem Q
abbrev C_X10_check (G : GT) (d : Nat) (as : List AV) (mem : Mem) (Q : Option AV → Mem → Prop) : Prop := Ct G yX10_check cX10_check 3 (some .int) d as mem Q
abbrev E_X10_known (G : GT) (d pc : Nat) (ls : List (Nat × AV)) (st : List AV) (mem : Mem) (Q : Option AV → Mem → Prop) : Prop := Ex G RX10 cX10_known 1 (some .int) d pc ls st mem Q
abbrev C_X10_known (G : GT) (d : Nat) (as : List AV) (mem : Mem) (Q : Option AV → Mem → Prop) : Prop := Ct G yX10_known cX10_known 1 (some .int) d as mem Q
abbrev E_X10_pair (G : GT) (d pc : Nat) (ls : List (Nat × AV)) (st : List AV) (mem : Mem) (Q : Option AV → Mem → Prop) : Prop := Ex G RX10 cX10_pair 2 (some .int) d pc ls st mem Q
abbrev C_X10_pair (G : GT) (d : Nat) (as : List AV) (mem : Mem) (Q : Option AV → Mem → Prop) : Prop := Ct G yX10_pair cX10_pair 2 (some .int) d as mem Q
abbrev E_X10_more (G : GT) (d pc : Nat) (ls : List (Nat × AV)) (st : List AV) (mem : Mem) (Q : Option AV → Mem → Prop) : Prop := Ex G RX10 cX10_more 2 (some .int) d pc ls st mem Q
abbrev C_X10_more (G : GT) (d : Nat) (as : List AV) (mem : Mem) (Q : Option AV → Mem → Prop) : Prop := Ct G yX10_more cX10_more 2 (some .int) d as mem Q
abbrev E_X10_without (G : GT) (d pc : Nat) (ls : List (Nat × AV)) (st : List AV) (mem : Mem) (Q : Option AV → Mem → Prop) : Prop := Ex G RX10 cX10_without 3 (some .int) d pc ls st mem Q
abbrev C_X10_without (G : GT) (d : Nat) (as : List AV) (mem : Mem) (Q : Option AV → Mem → Prop) : Prop := Ct G yX10_without cX10_without 3 (some .int) d as mem Q
abbrev E_X11_fits (G : GT) (d pc : Nat) (ls : List (Nat × AV)) (st : List AV) (mem : Mem) (Q : Option AV → Mem → Prop) : Prop := Ex G RX11 cX11_fits 2 (some .int) d pc ls st mem Q
abbrev C_X11_fits (G : GT) (d : Nat) (as : List AV) (mem : Mem) (Q : Option AV → Mem → Prop) : Prop := Ct G yX11_fits cX11_fits 2 (some .int) d as mem Q
abbrev E_X11_bars (G : GT) (d pc : Nat) (ls : List (Nat × AV)) (st : List AV) (mem : Mem) (Q : Option AV → Mem → Prop) : Prop := Ex G RX11 cX11_bars 2 (some .int) d pc ls st mem Q
abbrev C_X11_bars (G : GT) (d : Nat) (as : List AV) (mem : Mem) (Q : Option AV → Mem → Prop) : Prop := Ct G yX11_bars cX11_bars 2 (some .int) d as mem Q
abbrev E_X11_many (G : GT) (d pc : Nat) (ls : List (Nat × AV)) (st : List AV) (mem : Mem) (Q : Option AV → Mem → Prop) : Prop := Ex G RX11 cX11_many 1 (some .int) d pc ls st mem Q
abbrev C_X11_many (G : GT) (d : Nat) (as : List AV) (mem : Mem) (Q : Option AV → Mem → Prop) : Prop := Ct G yX11_many cX11_many 1 (some .int) d as mem Q
abbrev E_X11_which (G : GT) (d pc : Nat) (ls : List (Nat × AV)) (st : List AV) (mem : Mem) (Q : Option AV → Mem → Prop) : Prop := Ex G RX11 cX11_which 2 (some .int) d pc ls st mem Q
abbrev C_X11_which (G : GT) (d : Nat) (as : List AV) (mem : Mem) (Q : Option AV → Mem → Prop) : Prop := Ct G yX11_which cX11_which 2 (some .int) d as mem Q
abbrev E_X11_sure (G : GT) (d pc : Nat) (ls : List (Nat × AV)) (st : List AV) (mem : Mem) (Q : Option AV → Mem → Prop) : Prop := Ex G RX11 cX11_sure 5 (some .int) d pc ls st mem Q
abbrev C_X11_sure (G : GT) (d : Nat) (as : List AV) (mem : Mem) (Q : Option AV → Mem → Prop) : Prop := Ct G yX11_sure cX11_sure 5 (some .int) d as mem Q
abbrev E_X11_blame (G : GT) (d pc : Nat) (ls : List (Nat × AV)) (st : List AV) (mem : Mem) (Q : Option AV → Mem → Prop) : Prop := Ex G RX11 cX11_blame 7 (some .int) d pc ls st mem Q
abbrev C_X11_blame (G : GT) (d : Nat) (as : List AV) (mem : Mem) (Q : Option AV → Mem → Prop) : Prop := Ct G yX11_blame cX11_blame 7 (some .int) d as mem Q
abbrev E_X11_leads (G : GT) (d pc : Nat) (ls : List (Nat × AV)) (st : List AV) (mem : Mem) (Q : Option AV → Mem → Prop) : Prop := Ex G RX11 cX11_leads 7 (some .int) d pc ls st mem Q
abbrev C_X11_leads (G : GT) (d : Nat) (as : List AV) (mem : Mem) (Q : Option AV → Mem → Prop) : Prop := Ct G yX11_leads cX11_leads 7 (some .int) d as mem Q
abbrev E_X11_likely (G : GT) (d pc : Nat) (ls : List (Nat × AV)) (st : List AV) (mem : Mem) (Q : Option AV → Mem → Prop) : Prop := Ex G RX11 cX11_likely 7 (some .int) d pc ls st mem Q
abbrev C_X11_likely (G : GT) (d : Nat) (as : List AV) (mem : Mem) (Q : Option AV → Mem → Prop) : Prop := Ct G yX11_likely cX11_likely 7 (some .int) d as mem Q
abbrev E_X11_check (G : GT) (d pc : Nat) (ls : List (Nat × AV)) (st : List AV) (mem : Mem) (Q : Option AV → Mem → Prop) : Prop := Ex G RX11 cX11_check 3 (some .int) d pc ls st mem Q
abbrev C_X11_check (G : GT) (d : Nat) (as : List AV) (mem : Mem) (Q : Option AV → Mem → Prop) : Prop := Ct G yX11_check cX11_check 3 (some .int) d as mem Q
abbrev E_X11_known (G : GT) (d pc : Nat) (ls : List (Nat × AV)) (st : List AV) (mem : Mem) (Q : Option AV → Mem → Prop) : Prop := Ex G RX11 cX11_known 1 (some .int) d pc ls st mem Q
abbrev C_X11_known (G : GT) (d : Nat) (as : List AV) (mem : Mem) (Q : Option AV → Mem → Prop) : Prop := Ct G yX11_known cX11_known 1 (some .int) d as mem Q
abbrev E_X11_pair (G : GT) (d pc : Nat) (ls : List (Nat × AV)) (st : List AV) (mem : Mem) (Q : Option AV → Mem → Prop) : Prop := Ex G RX11 cX11_pair 7 (some .int) d pc ls st mem Q
abbrev C_X11_pair (G : GT) (d : Nat) (as : List AV) (mem : Mem) (Q : Option AV → Mem → Prop) : Prop := Ct G yX11_pair cX11_pair 7 (some .int) d as mem Q
abbrev E_X11_more (G : GT) (d pc : Nat) (ls : List (Nat × AV)) (st : List AV) (mem : Mem) (Q : Option AV → Mem → Prop) : Prop := Ex G RX11 cX11_more 6 (some .int) d pc ls st mem Q
abbrev C_X11_more (G : GT) (d : Nat) (as : List AV) (mem : Mem) (Q : Option AV → Mem → Prop) : Prop := Ct G yX11_more cX11_more 6 (some .int) d as mem Q
abbrev E_X11_without (G : GT) (d pc : Nat) (ls : List (Nat × AV)) (st : List AV) (mem : Mem) (Q : Option AV → Mem → Prop) : Prop := Ex G RX11 cX11_without 4 (some .int) d pc ls st mem Q
abbrev C_X11_without (G : GT) (d : Nat) (as : List AV) (mem : Mem) (Q : Option AV → Mem → Prop) : Prop := Ct G yX11_without cX11_without 4 (some .int) d as mem Q
set_option maxRecDepth 20000 in
set_option maxHeartbeats 4000000 in
theorem B_X10_fits {G : GT} {d : Nat} {l1 : Int} {mem : Mem} {Q : Option AV → Mem → Prop} (hd : 2 ≤ d) (H : ((iand l1 (ixor (ishl 1 (mem 1 0) - 1) (-1)) = 0) → (C_X1_refresh G (d - 1) [vR 32] mem (fun r9 m3 => r9 = none ∧ ((0 ≤ l1 ∧ l1 < 4096) ∧ ((¬ (m3 34 l1 = 0 ∧ bitc l1 ≤ m3 1 11) → (Q (some (vI 0)) m3)) ∧ ((m3 34 l1 = 0 ∧ bitc l1 ≤ m3 1 11) → (Q (some (vI 1)) m3))))))) ∧ (¬ (iand l1 (ixor (ishl 1 (mem 1 0) - 1) (-1)) = 0) → (∀ m8 : Mem, m8 = refM mem (-1000001) → (Q (some (vI (-1000001))) m8)))) : C_X10_fits G d [vR 0, vI l1] mem Q := by
  refine Ct_of_Ex (by decide +kernel) (by exact Nat.le_of_ble_eq_true rfl) (ls := [(0, vR 0), (1, vI l1)]) rfl ?_
  show E_X10_fits G d 0 [(0, vR 0), (1, vI l1)] [] mem Q
  refine x_aloadn (q := 1) 0 rfl rfl rfl dX10_fits_0 rfl ?_
  refine x_getr (q := 4) dX10_fits_1 rfl fa_X10_12 sh_0 rfl ?_
  refine x_iloadn (q := 5) 1 rfl rfl dX10_fits_4 rfl ?_
  refine x_callV (q := 8) (d := d - 1) (as := [vI l1]) (st := []) dX10_fits_5 rfl mv_X10_175 sh_1 rfl rfl rfl (by exact Nat.le_of_ble_eq_true rfl) ⟨by show _ ≤ d; omega, by show _ ≤ 40 * d; omega⟩ ⟨Nat.le_refl _, Nat.le_refl _⟩ (ct_hasAll (by decide) (by omega) ?_)
  show E_X10_fits G d 8 [(0, vR 0), (1, vI l1)] [vI (bz (iand l1 (ixor (ishl 1 (mem 1 0) - 1) (-1)) = 0))] mem Q
  obtain ⟨H1, H2⟩ := H
  refine x_if_ne (tgt := 18) (q := 11) dX10_fits_8 (by decide) rfl (bz_inr _) (fun hB => ?_) (fun hB => ?_)
  · have H := H1 (bz_n0.mp hB)
    refine x_aloadn (q := 19) 0 rfl rfl rfl dX10_fits_18 rfl ?_
    refine x_getr (q := 22) dX10_fits_19 rfl fa_X10_34 sh_0 rfl ?_
    refine x_callV (q := 25) (d := d - 1) (as := []) (st := []) dX10_fits_22 rfl mv_X10_178 sh_32 rfl rfl rfl (by exact Nat.le_of_ble_eq_true rfl) ⟨by show _ ≤ d; omega, by show _ ≤ 40 * d; omega⟩ ⟨Nat.le_refl _, Nat.le_refl _⟩ (Ct.mono H (fun r9 m3 H => ?_))
    obtain ⟨rfl, H⟩ := H
    show E_X10_fits G d 25 [(0, vR 0), (1, vI l1)] [] m3 Q
    refine x_aloadn (q := 26) 0 rfl rfl rfl dX10_fits_25 rfl ?_
    refine x_getr (q := 29) dX10_fits_26 rfl fa_X10_34 sh_0 rfl ?_
    refine x_iloadn (q := 30) 1 rfl rfl dX10_fits_29 rfl ?_
    obtain ⟨⟨s4, s5⟩, H⟩ := H
    refine x_callV (q := 33) (d := d - 1) (as := [vI l1]) (st := []) dX10_fits_30 rfl mv_X10_181 sh_32 rfl rfl rfl (by exact Nat.le_of_ble_eq_true rfl) ⟨by show _ ≤ d; omega, by show _ ≤ 40 * d; omega⟩ ⟨Nat.le_refl _, Nat.le_refl _⟩ (ct_holds (by omega) s4 s5 ?_)
    show E_X10_fits G d 33 [(0, vR 0), (1, vI l1)] [vI (bz (m3 34 l1 = 0 ∧ bitc l1 ≤ m3 1 11))] m3 Q
    obtain ⟨H1, H2⟩ := H
    refine x_if_eq (tgt := 40) (q := 36) dX10_fits_33 (by decide) rfl (bz_inr _) (fun hB => ?_) (fun hB => ?_)
    · have H := H1 (bz_0.mp hB)
      refine x_iconst (q := 41) dX10_fits_40 rfl ?_
      exact x_iret rfl dX10_fits_41 H
    · have H := H2 (Classical.byContradiction (fun z => hB (bz_0.mpr z)))
      refine x_iconst (q := 37) dX10_fits_36 rfl ?_
      refine x_goto (tgt := 41) dX10_fits_37 (by decide) ?_
      exact x_iret rfl dX10_fits_41 H
  · have H := H2 (fun z => hB (bz_n0.mpr z))
    refine x_aloadn (q := 12) 0 rfl rfl rfl dX10_fits_11 rfl ?_
    refine x_ldc (q := 14) (z := (-1000001)) cn_X10_83 (by decide) dX10_fits_12 rfl ?_
    obtain ⟨m8, em8⟩ : ∃ m9 : Mem, m9 = refM mem (-1000001) := ⟨_, rfl⟩
    have H := H m8 em8
    refine x_callV (q := 17) (d := d - 1) (as := [vI (-1000001)]) (st := []) dX10_fits_14 rfl mv_X10_84 sh_0 rfl rfl rfl (by exact Nat.le_of_ble_eq_true rfl) ⟨by show _ ≤ d; omega, by show _ ≤ 40 * d; omega⟩ ⟨Nat.le_refl _, Nat.le_refl _⟩ (ct_refuse (by omega) (by decide) (by decide) ?_)
    rw [← em8]
    show E_X10_fits G d 17 [(0, vR 0), (1, vI l1)] [vI (-1000001)] m8 Q
    exact x_iret rfl dX10_fits_17 H
set_option maxRecDepth 20000 in
set_option maxHeartbeats 4000000 in
theorem B_X10_bars {G : GT} {d : Nat} {l1 : Int} {mem : Mem} {Q : Option AV → Mem → Prop} (hd : 2 ≤ d) (H : ((iand l1 (ixor (ishl 1 (mem 1 0) - 1) (-1)) = 0) → (((bitc l1 ≤ mem 1 11) → (C_X2_firstNotLet G (d - 1) [vR 1, vI l1] mem (fun r9 m6 => ∃ z7 : Int, r9 = some (vI z7) ∧ (Q (some (vI z7)) m6)))) ∧ (¬ (bitc l1 ≤ mem 1 11) → (Q (some (vI 100)) mem)))) ∧ (¬ (iand l1 (ixor (ishl 1 (mem 1 0) - 1) (-1)) = 0) → (∀ m8 : Mem, m8 = refM mem (-1000001) → (Q (some (vI (-1000001))) m8)))) : C_X10_bars G d [vR 0, vI l1] mem Q := by
  refine Ct_of_Ex (by decide +kernel) (by exact Nat.le_of_ble_eq_true rfl) (ls := [(0, vR 0), (1, vI l1)]) rfl ?_
  show E_X10_bars G d 0 [(0, vR 0), (1, vI l1)] [] mem Q
  refine x_aloadn (q := 1) 0 rfl rfl rfl dX10_bars_0 rfl ?_
  refine x_getr (q := 4) dX10_bars_1 rfl fa_X10_12 sh_0 rfl ?_
  refine x_iloadn (q := 5) 1 rfl rfl dX10_bars_4 rfl ?_
  refine x_callV (q := 8) (d := d - 1) (as := [vI l1]) (st := []) dX10_bars_5 rfl mv_X10_175 sh_1 rfl rfl rfl (by exact Nat.le_of_ble_eq_true rfl) ⟨by show _ ≤ d; omega, by show _ ≤ 40 * d; omega⟩ ⟨Nat.le_refl _, Nat.le_refl _⟩ (ct_hasAll (by decide) (by omega) ?_)
  show E_X10_bars G d 8 [(0, vR 0), (1, vI l1)] [vI (bz (iand l1 (ixor (ishl 1 (mem 1 0) - 1) (-1)) = 0))] mem Q
  obtain ⟨H1, H2⟩ := H
  refine x_if_ne (tgt := 18) (q := 11) dX10_bars_8 (by decide) rfl (bz_inr _) (fun hB => ?_) (fun hB => ?_)
  · have H := H1 (bz_n0.mp hB)
    refine x_iloadn (q := 19) 1 rfl rfl dX10_bars_18 rfl ?_
    refine x_callS (q := 22) (d := d - 1) (as := [vI l1]) (st := []) dX10_bars_19 rfl ms_X10_184 rfl rfl (by exact Nat.le_of_ble_eq_true rfl) ⟨by show _ ≤ d; omega, by show _ ≤ 40 * d; omega⟩ ⟨Nat.le_refl _, Nat.le_refl _⟩ (ct_bitc ?_)
    show E_X10_bars G d 22 [(0, vR 0), (1, vI l1)] [vI (bitc l1)] mem Q
    refine x_aloadn (q := 23) 0 rfl rfl rfl dX10_bars_22 rfl ?_
    refine x_getr (q := 26) dX10_bars_23 rfl fa_X10_12 sh_0 rfl ?_
    refine x_geti (q := 29) (ji := 11) dX10_bars_26 rfl fa_X10_189 sh_1 rfl rfl (fun r3 => ?_)
    obtain ⟨H1, H2⟩ := H
    refine x_icmp_le (tgt := 35) (q := 32) dX10_bars_29 (by decide) rfl (bitc_inr _) r3 (fun hB => ?_) (fun hB => ?_)
    · have H := H1 (hB)
      refine x_aloadn (q := 36) 0 rfl rfl rfl dX10_bars_35 rfl ?_
      refine x_getr (q := 39) dX10_bars_36 rfl fa_X10_12 sh_0 rfl ?_
      refine x_iloadn (q := 40) 1 rfl rfl dX10_bars_39 rfl ?_
      refine x_callV (q := 43) (d := d - 1) (as := [vI l1]) (st := []) dX10_bars_40 rfl mv_X10_192 sh_1 rfl rfl rfl (by exact Nat.le_of_ble_eq_true rfl) ⟨by show _ ≤ d; omega, by show _ ≤ 40 * d; omega⟩ ⟨Nat.le_refl _, Nat.le_refl _⟩ (Ct.mono H (fun r9 m6 H => ?_))
      obtain ⟨z7, rfl, H⟩ := H
      show E_X10_bars G d 43 [(0, vR 0), (1, vI l1)] [vI z7] m6 Q
      exact x_iret rfl dX10_bars_43 H
    · have H := H2 (hB)
      refine x_bipush (q := 34) rfl dX10_bars_32 rfl ?_
      exact x_iret rfl dX10_bars_34 H
  · have H := H2 (fun z => hB (bz_n0.mpr z))
    refine x_aloadn (q := 12) 0 rfl rfl rfl dX10_bars_11 rfl ?_
    refine x_ldc (q := 14) (z := (-1000001)) cn_X10_83 (by decide) dX10_bars_12 rfl ?_
    obtain ⟨m8, em8⟩ : ∃ m9 : Mem, m9 = refM mem (-1000001) := ⟨_, rfl⟩
    have H := H m8 em8
    refine x_callV (q := 17) (d := d - 1) (as := [vI (-1000001)]) (st := []) dX10_bars_14 rfl mv_X10_84 sh_0 rfl rfl rfl (by exact Nat.le_of_ble_eq_true rfl) ⟨by show _ ≤ d; omega, by show _ ≤ 40 * d; omega⟩ ⟨Nat.le_refl _, Nat.le_refl _⟩ (ct_refuse (by omega) (by decide) (by decide) ?_)
    rw [← em8]
    show E_X10_bars G d 17 [(0, vR 0), (1, vI l1)] [vI (-1000001)] m8 Q
    exact x_iret rfl dX10_bars_17 H
set_option maxRecDepth 20000 in
set_option maxHeartbeats 4000000 in
theorem B_X10_many {G : GT} {d : Nat}  {mem : Mem} {Q : Option AV → Mem → Prop} (hd : 1 ≤ d) (H : C_X1_refresh G (d - 1) [vR 32] mem (fun r9 m1 => r9 = none ∧ (Q (some (vI (m1 32 7))) m1))) : C_X10_many G d [vR 0] mem Q := by
  refine Ct_of_Ex (by decide +kernel) (by exact Nat.le_of_ble_eq_true rfl) (ls := [(0, vR 0)]) rfl ?_
  show E_X10_many G d 0 [(0, vR 0)] [] mem Q
  refine x_aloadn (q := 1) 0 rfl rfl rfl dX10_many_0 rfl ?_
  refine x_getr (q := 4) dX10_many_1 rfl fa_X10_34 sh_0 rfl ?_
  refine x_callV (q := 7) (d := d - 1) (as := []) (st := []) dX10_many_4 rfl mv_X10_178 sh_32 rfl rfl rfl (by exact Nat.le_of_ble_eq_true rfl) ⟨by show _ ≤ d; omega, by show _ ≤ 40 * d; omega⟩ ⟨Nat.le_refl _, Nat.le_refl _⟩ (Ct.mono H (fun r9 m1 H => ?_))
  obtain ⟨rfl, H⟩ := H
  show E_X10_many G d 7 [(0, vR 0)] [] m1 Q
  refine x_aloadn (q := 8) 0 rfl rfl rfl dX10_many_7 rfl ?_
  refine x_getr (q := 11) dX10_many_8 rfl fa_X10_34 sh_0 rfl ?_
  refine x_geti (q := 14) (ji := 7) dX10_many_11 rfl fa_X10_195 sh_32 rfl rfl (fun r2 => ?_)
  exact x_iret rfl dX10_many_14 H
set_option maxRecDepth 20000 in
set_option maxHeartbeats 4000000 in
theorem B_X10_which {G : GT} {d : Nat} {l1 : Int} {mem : Mem} {Q : Option AV → Mem → Prop} (hd : 2 ≤ d) (H : C_X1_refresh G (d - 1) [vR 32] mem (fun r9 m1 => r9 = none ∧ ((inr l1 ∧ inr ((m1 32 7) - 1)) ∧ ((¬ (l1 < 0 ∨ (m1 32 7) - 1 < l1) → ((0 ≤ l1 ∧ l1 < 4096) ∧ (Q (some (vI (m1 37 l1))) m1))) ∧ ((l1 < 0 ∨ (m1 32 7) - 1 < l1) → (∀ m10 : Mem, m10 = refM m1 (-1000001) → (Q (some (vI (-1000001))) m10))))))) : C_X10_which G d [vR 0, vI l1] mem Q := by
  refine Ct_of_Ex (by decide +kernel) (by exact Nat.le_of_ble_eq_true rfl) (ls := [(0, vR 0), (1, vI l1)]) rfl ?_
  show E_X10_which G d 0 [(0, vR 0), (1, vI l1)] [] mem Q
  refine x_aloadn (q := 1) 0 rfl rfl rfl dX10_which_0 rfl ?_
  refine x_getr (q := 4) dX10_which_1 rfl fa_X10_34 sh_0 rfl ?_
  refine x_callV (q := 7) (d := d - 1) (as := []) (st := []) dX10_which_4 rfl mv_X10_178 sh_32 rfl rfl rfl (by exact Nat.le_of_ble_eq_true rfl) ⟨by show _ ≤ d; omega, by show _ ≤ 40 * d; omega⟩ ⟨Nat.le_refl _, Nat.le_refl _⟩ (Ct.mono H (fun r9 m1 H => ?_))
  obtain ⟨rfl, H⟩ := H
  show E_X10_which G d 7 [(0, vR 0), (1, vI l1)] [] m1 Q
  refine x_iloadn (q := 8) 1 rfl rfl dX10_which_7 rfl ?_
  refine x_iconst (q := 9) dX10_which_8 rfl ?_
  refine x_aloadn (q := 10) 0 rfl rfl rfl dX10_which_9 rfl ?_
  refine x_getr (q := 13) dX10_which_10 rfl fa_X10_34 sh_0 rfl ?_
  refine x_geti (q := 16) (ji := 7) dX10_which_13 rfl fa_X10_195 sh_32 rfl rfl (fun r2 => ?_)
  refine x_iconst (q := 17) dX10_which_16 rfl ?_
  refine x_isub (q := 18) dX10_which_17 rfl ?_
  obtain ⟨⟨s3, s4⟩, H⟩ := H
  refine x_callS (q := 21) (d := d - 1) (as := [vI l1, vI 0, vI ((m1 32 7) - 1)]) (st := []) dX10_which_18 rfl ms_X10_79 rfl rfl (by exact Nat.le_of_ble_eq_true rfl) ⟨by show _ ≤ d; omega, by show _ ≤ 40 * d; omega⟩ ⟨Nat.le_refl _, Nat.le_refl _⟩ (ct_outside s3 (by decide) s4 ?_)
  show E_X10_which G d 21 [(0, vR 0), (1, vI l1)] [vI (bz (l1 < 0 ∨ (m1 32 7) - 1 < l1))] m1 Q
  obtain ⟨H1, H2⟩ := H
  refine x_if_eq (tgt := 31) (q := 24) dX10_which_21 (by decide) rfl (bz_inr _) (fun hB => ?_) (fun hB => ?_)
  · have H := H1 (bz_0.mp hB)
    refine x_aloadn (q := 32) 0 rfl rfl rfl dX10_which_31 rfl ?_
    refine x_getr (q := 35) dX10_which_32 rfl fa_X10_34 sh_0 rfl ?_
    refine x_getr (q := 38) dX10_which_35 rfl fa_X10_198 sh_32 rfl ?_
    refine x_iloadn (q := 39) 1 rfl rfl dX10_which_38 rfl ?_
    obtain ⟨⟨s7, s8⟩, H⟩ := H
    refine x_iald (q := 40) dX10_which_39 rfl sh_37 s7 s8 (fun r9 => ?_)
    exact x_iret rfl dX10_which_40 H
  · have H := H2 (Classical.byContradiction (fun z => hB (bz_0.mpr z)))
    refine x_aloadn (q := 25) 0 rfl rfl rfl dX10_which_24 rfl ?_
    refine x_ldc (q := 27) (z := (-1000001)) cn_X10_83 (by decide) dX10_which_25 rfl ?_
    obtain ⟨m10, em10⟩ : ∃ m9 : Mem, m9 = refM m1 (-1000001) := ⟨_, rfl⟩
    have H := H m10 em10
    refine x_callV (q := 30) (d := d - 1) (as := [vI (-1000001)]) (st := []) dX10_which_27 rfl mv_X10_84 sh_0 rfl rfl rfl (by exact Nat.le_of_ble_eq_true rfl) ⟨by show _ ≤ d; omega, by show _ ≤ 40 * d; omega⟩ ⟨Nat.le_refl _, Nat.le_refl _⟩ (ct_refuse (by omega) (by decide) (by decide) ?_)
    rw [← em10]
    show E_X10_which G d 30 [(0, vR 0), (1, vI l1)] [vI (-1000001)] m10 Q
    exact x_iret rfl dX10_which_30 H
set_option maxRecDepth 20000 in
set_option maxHeartbeats 4000000 in
theorem B_X10_sure {G : GT} {d : Nat} {l1 : Int} {mem : Mem} {Q : Option AV → Mem → Prop} (hd : 2 ≤ d) (H : (inr l1) ∧ ((¬ (l1 < 0 ∨ 1 < l1) → (C_X1_refresh G (d - 1) [vR 32] mem (fun r9 m4 => r9 = none ∧ (((m4 32 7 ≠ 0) → (((l1 ≠ 0) → (C_X1_inNone G (d - 1) [vR 32] m4 (fun r9 m10 => ∃ z11 : Int, r9 = some (vI z11) ∧ (Q (some (vI z11)) m10)))) ∧ (¬ (l1 ≠ 0) → (C_X1_inAll G (d - 1) [vR 32] m4 (fun r9 m12 => ∃ z13 : Int, r9 = some (vI z13) ∧ (Q (some (vI z13)) m12)))))) ∧ (¬ (m4 32 7 ≠ 0) → (∀ m14 : Mem, m14 = refM m4 (-1000002) → (Q (some (vI (-1000002))) m14))))))) ∧ ((l1 < 0 ∨ 1 < l1) → (∀ m15 : Mem, m15 = refM mem (-1000001) → (Q (some (vI (-1000001))) m15))))) : C_X10_sure G d [vR 0, vI l1] mem Q := by
  refine Ct_of_Ex (by decide +kernel) (by exact Nat.le_of_ble_eq_true rfl) (ls := [(0, vR 0), (1, vI l1)]) rfl ?_
  show E_X10_sure G d 0 [(0, vR 0), (1, vI l1)] [] mem Q
  refine x_iloadn (q := 1) 1 rfl rfl dX10_sure_0 rfl ?_
  refine x_iconst (q := 2) dX10_sure_1 rfl ?_
  refine x_iconst (q := 3) dX10_sure_2 rfl ?_
  obtain ⟨s1, H⟩ := H
  refine x_callS (q := 6) (d := d - 1) (as := [vI l1, vI 0, vI 1]) (st := []) dX10_sure_3 rfl ms_X10_79 rfl rfl (by exact Nat.le_of_ble_eq_true rfl) ⟨by show _ ≤ d; omega, by show _ ≤ 40 * d; omega⟩ ⟨Nat.le_refl _, Nat.le_refl _⟩ (ct_outside s1 (by decide) (by decide) ?_)
  show E_X10_sure G d 6 [(0, vR 0), (1, vI l1)] [vI (bz (l1 < 0 ∨ 1 < l1))] mem Q
  obtain ⟨H1, H2⟩ := H
  refine x_if_eq (tgt := 16) (q := 9) dX10_sure_6 (by decide) rfl (bz_inr _) (fun hB => ?_) (fun hB => ?_)
  · have H := H1 (bz_0.mp hB)
    refine x_aloadn (q := 17) 0 rfl rfl rfl dX10_sure_16 rfl ?_
    refine x_getr (q := 20) dX10_sure_17 rfl fa_X10_34 sh_0 rfl ?_
    refine x_callV (q := 23) (d := d - 1) (as := []) (st := []) dX10_sure_20 rfl mv_X10_178 sh_32 rfl rfl rfl (by exact Nat.le_of_ble_eq_true rfl) ⟨by show _ ≤ d; omega, by show _ ≤ 40 * d; omega⟩ ⟨Nat.le_refl _, Nat.le_refl _⟩ (Ct.mono H (fun r9 m4 H => ?_))
    obtain ⟨rfl, H⟩ := H
    show E_X10_sure G d 23 [(0, vR 0), (1, vI l1)] [] m4 Q
    refine x_aloadn (q := 24) 0 rfl rfl rfl dX10_sure_23 rfl ?_
    refine x_getr (q := 27) dX10_sure_24 rfl fa_X10_34 sh_0 rfl ?_
    refine x_geti (q := 30) (ji := 7) dX10_sure_27 rfl fa_X10_195 sh_32 rfl rfl (fun r5 => ?_)
    obtain ⟨H1, H2⟩ := H
    refine x_if_ne (tgt := 40) (q := 33) dX10_sure_30 (by decide) rfl r5 (fun hB => ?_) (fun hB => ?_)
    · have H := H1 (hB)
      refine x_iloadn (q := 41) 1 rfl rfl dX10_sure_40 rfl ?_
      obtain ⟨H1, H2⟩ := H
      refine x_if_ne (tgt := 54) (q := 44) dX10_sure_41 (by decide) rfl s1 (fun hB => ?_) (fun hB => ?_)
      · have H := H1 (hB)
        refine x_aloadn (q := 55) 0 rfl rfl rfl dX10_sure_54 rfl ?_
        refine x_getr (q := 58) dX10_sure_55 rfl fa_X10_34 sh_0 rfl ?_
        refine x_callV (q := 61) (d := d - 1) (as := []) (st := []) dX10_sure_58 rfl mv_X10_205 sh_32 rfl rfl rfl (by exact Nat.le_of_ble_eq_true rfl) ⟨by show _ ≤ d; omega, by show _ ≤ 40 * d; omega⟩ ⟨Nat.le_refl _, Nat.le_refl _⟩ (Ct.mono H (fun r9 m10 H => ?_))
        obtain ⟨z11, rfl, H⟩ := H
        show E_X10_sure G d 61 [(0, vR 0), (1, vI l1)] [vI z11] m10 Q
        exact x_iret rfl dX10_sure_61 H
      · have H := H2 (hB)
        refine x_aloadn (q := 45) 0 rfl rfl rfl dX10_sure_44 rfl ?_
        refine x_getr (q := 48) dX10_sure_45 rfl fa_X10_34 sh_0 rfl ?_
        refine x_callV (q := 51) (d := d - 1) (as := []) (st := []) dX10_sure_48 rfl mv_X10_202 sh_32 rfl rfl rfl (by exact Nat.le_of_ble_eq_true rfl) ⟨by show _ ≤ d; omega, by show _ ≤ 40 * d; omega⟩ ⟨Nat.le_refl _, Nat.le_refl _⟩ (Ct.mono H (fun r9 m12 H => ?_))
        obtain ⟨z13, rfl, H⟩ := H
        show E_X10_sure G d 51 [(0, vR 0), (1, vI l1)] [vI z13] m12 Q
        refine x_goto (tgt := 61) dX10_sure_51 (by decide) ?_
        exact x_iret rfl dX10_sure_61 H
    · have H := H2 (hB)
      refine x_aloadn (q := 34) 0 rfl rfl rfl dX10_sure_33 rfl ?_
      refine x_ldc (q := 36) (z := (-1000002)) cn_X10_201 (by decide) dX10_sure_34 rfl ?_
      obtain ⟨m14, em14⟩ : ∃ m9 : Mem, m9 = refM m4 (-1000002) := ⟨_, rfl⟩
      have H := H m14 em14
      refine x_callV (q := 39) (d := d - 1) (as := [vI (-1000002)]) (st := []) dX10_sure_36 rfl mv_X10_84 sh_0 rfl rfl rfl (by exact Nat.le_of_ble_eq_true rfl) ⟨by show _ ≤ d; omega, by show _ ≤ 40 * d; omega⟩ ⟨Nat.le_refl _, Nat.le_refl _⟩ (ct_refuse (by omega) (by decide) (by decide) ?_)
      rw [← em14]
      show E_X10_sure G d 39 [(0, vR 0), (1, vI l1)] [vI (-1000002)] m14 Q
      exact x_iret rfl dX10_sure_39 H
  · have H := H2 (Classical.byContradiction (fun z => hB (bz_0.mpr z)))
    refine x_aloadn (q := 10) 0 rfl rfl rfl dX10_sure_9 rfl ?_
    refine x_ldc (q := 12) (z := (-1000001)) cn_X10_83 (by decide) dX10_sure_10 rfl ?_
    obtain ⟨m15, em15⟩ : ∃ m9 : Mem, m9 = refM mem (-1000001) := ⟨_, rfl⟩
    have H := H m15 em15
    refine x_callV (q := 15) (d := d - 1) (as := [vI (-1000001)]) (st := []) dX10_sure_12 rfl mv_X10_84 sh_0 rfl rfl rfl (by exact Nat.le_of_ble_eq_true rfl) ⟨by show _ ≤ d; omega, by show _ ≤ 40 * d; omega⟩ ⟨Nat.le_refl _, Nat.le_refl _⟩ (ct_refuse (by omega) (by decide) (by decide) ?_)
    rw [← em15]
    show E_X10_sure G d 15 [(0, vR 0), (1, vI l1)] [vI (-1000001)] m15 Q
    exact x_iret rfl dX10_sure_15 H
set_option maxRecDepth 20000 in
set_option maxHeartbeats 4000000 in
theorem B_X10_blame {G : GT} {d : Nat} {l1 : Int} {mem : Mem} {Q : Option AV → Mem → Prop} (hd : 2 ≤ d) (H : (inr l1) ∧ ((¬ (l1 < 0 ∨ 1 < l1) → (C_X1_refresh G (d - 1) [vR 32] mem (fun r9 m4 => r9 = none ∧ (C_X1_leastNotLet G (d - 1) [vR 32] m4 (fun r9 m5 => ∃ z6 : Int, r9 = some (vI z6) ∧ (((l1 ≠ 0) → (Q (some (vI z6)) m5)) ∧ (¬ (l1 ≠ 0) → ((0 ≤ z6 ∧ z6 < 4096) ∧ (Q (some (vI (m5 34 z6))) m5))))))))) ∧ ((l1 < 0 ∨ 1 < l1) → (∀ m11 : Mem, m11 = refM mem (-1000001) → (Q (some (vI (-1000001))) m11))))) : C_X10_blame G d [vR 0, vI l1] mem Q := by
  refine Ct_of_Ex (by decide +kernel) (by exact Nat.le_of_ble_eq_true rfl) (ls := [(0, vR 0), (1, vI l1)]) rfl ?_
  show E_X10_blame G d 0 [(0, vR 0), (1, vI l1)] [] mem Q
  refine x_iloadn (q := 1) 1 rfl rfl dX10_blame_0 rfl ?_
  refine x_iconst (q := 2) dX10_blame_1 rfl ?_
  refine x_iconst (q := 3) dX10_blame_2 rfl ?_
  obtain ⟨s1, H⟩ := H
  refine x_callS (q := 6) (d := d - 1) (as := [vI l1, vI 0, vI 1]) (st := []) dX10_blame_3 rfl ms_X10_79 rfl rfl (by exact Nat.le_of_ble_eq_true rfl) ⟨by show _ ≤ d; omega, by show _ ≤ 40 * d; omega⟩ ⟨Nat.le_refl _, Nat.le_refl _⟩ (ct_outside s1 (by decide) (by decide) ?_)
  show E_X10_blame G d 6 [(0, vR 0), (1, vI l1)] [vI (bz (l1 < 0 ∨ 1 < l1))] mem Q
  obtain ⟨H1, H2⟩ := H
  refine x_if_eq (tgt := 16) (q := 9) dX10_blame_6 (by decide) rfl (bz_inr _) (fun hB => ?_) (fun hB => ?_)
  · have H := H1 (bz_0.mp hB)
    refine x_aloadn (q := 17) 0 rfl rfl rfl dX10_blame_16 rfl ?_
    refine x_getr (q := 20) dX10_blame_17 rfl fa_X10_34 sh_0 rfl ?_
    refine x_callV (q := 23) (d := d - 1) (as := []) (st := []) dX10_blame_20 rfl mv_X10_178 sh_32 rfl rfl rfl (by exact Nat.le_of_ble_eq_true rfl) ⟨by show _ ≤ d; omega, by show _ ≤ 40 * d; omega⟩ ⟨Nat.le_refl _, Nat.le_refl _⟩ (Ct.mono H (fun r9 m4 H => ?_))
    obtain ⟨rfl, H⟩ := H
    show E_X10_blame G d 23 [(0, vR 0), (1, vI l1)] [] m4 Q
    refine x_aloadn (q := 24) 0 rfl rfl rfl dX10_blame_23 rfl ?_
    refine x_getr (q := 27) dX10_blame_24 rfl fa_X10_34 sh_0 rfl ?_
    refine x_callV (q := 30) (d := d - 1) (as := []) (st := []) dX10_blame_27 rfl mv_X10_208 sh_32 rfl rfl rfl (by exact Nat.le_of_ble_eq_true rfl) ⟨by show _ ≤ d; omega, by show _ ≤ 40 * d; omega⟩ ⟨Nat.le_refl _, Nat.le_refl _⟩ (Ct.mono H (fun r9 m5 H => ?_))
    obtain ⟨z6, rfl, H⟩ := H
    show E_X10_blame G d 30 [(0, vR 0), (1, vI l1)] [vI z6] m5 Q
    refine x_istoren (q := 31) (ls' := [(2, vI z6), (0, vR 0), (1, vI l1)]) rfl (by decide) rfl dX10_blame_30 rfl ?_
    refine x_iloadn (q := 32) 2 rfl rfl dX10_blame_31 rfl ?_
    obtain ⟨H1, H2⟩ := H
    refine x_if_ne (tgt := 46) (q := 35) dX10_blame_32 (by decide) rfl s1 (fun hB => ?_) (fun hB => ?_)
    · have H := H1 (hB)
      refine x_iloadn (q := 47) 0 rfl rfl dX10_blame_46 rfl ?_
      exact x_iret rfl dX10_blame_47 H
    · have H := H2 (hB)
      refine x_aloadn (q := 36) 1 rfl rfl rfl dX10_blame_35 rfl ?_
      refine x_getr (q := 39) dX10_blame_36 rfl fa_X10_34 sh_0 rfl ?_
      refine x_iloadn (q := 40) 0 rfl rfl dX10_blame_39 rfl ?_
      obtain ⟨⟨s9, s10⟩, H⟩ := H
      refine x_callV (q := 43) (d := d - 1) (as := [vI z6]) (st := []) dX10_blame_40 rfl mv_X10_211 sh_32 rfl rfl rfl (by exact Nat.le_of_ble_eq_true rfl) ⟨by show _ ≤ d; omega, by show _ ≤ 40 * d; omega⟩ ⟨Nat.le_refl _, Nat.le_refl _⟩ (ct_notLetBy s9 s10 ?_)
      show E_X10_blame G d 43 [(2, vI z6), (0, vR 0), (1, vI l1)] [vI (m5 34 z6)] m5 Q
      refine x_goto (tgt := 47) dX10_blame_43 (by decide) ?_
      exact x_iret rfl dX10_blame_47 H
  · have H := H2 (Classical.byContradiction (fun z => hB (bz_0.mpr z)))
    refine x_aloadn (q := 10) 0 rfl rfl rfl dX10_blame_9 rfl ?_
    refine x_ldc (q := 12) (z := (-1000001)) cn_X10_83 (by decide) dX10_blame_10 rfl ?_
    obtain ⟨m11, em11⟩ : ∃ m9 : Mem, m9 = refM mem (-1000001) := ⟨_, rfl⟩
    have H := H m11 em11
    refine x_callV (q := 15) (d := d - 1) (as := [vI (-1000001)]) (st := []) dX10_blame_12 rfl mv_X10_84 sh_0 rfl rfl rfl (by exact Nat.le_of_ble_eq_true rfl) ⟨by show _ ≤ d; omega, by show _ ≤ 40 * d; omega⟩ ⟨Nat.le_refl _, Nat.le_refl _⟩ (ct_refuse (by omega) (by decide) (by decide) ?_)
    rw [← em11]
    show E_X10_blame G d 15 [(0, vR 0), (1, vI l1)] [vI (-1000001)] m11 Q
    exact x_iret rfl dX10_blame_15 H
set_option maxRecDepth 20000 in
set_option maxHeartbeats 4000000 in
theorem B_X10_leads {G : GT} {d : Nat} {l1 : Int} {mem : Mem} {Q : Option AV → Mem → Prop} (hd : 2 ≤ d) (H : (inr l1) ∧ (((0 ≤ l1 ∧ l1 < mem 1 0) → (C_X2_ledFrom G (d - 1) [vR 1, vI l1] mem (fun r9 m4 => ∃ z5 : Int, r9 = some (vI z5) ∧ (Q (some (vI z5)) m4)))) ∧ (¬ (0 ≤ l1 ∧ l1 < mem 1 0) → (∀ m6 : Mem, m6 = refM mem (-1000001) → (Q (some (vI (-1000001))) m6))))) : C_X10_leads G d [vR 0, vI l1] mem Q := by
  refine Ct_of_Ex (by decide +kernel) (by exact Nat.le_of_ble_eq_true rfl) (ls := [(0, vR 0), (1, vI l1)]) rfl ?_
  show E_X10_leads G d 0 [(0, vR 0), (1, vI l1)] [] mem Q
  refine x_aloadn (q := 1) 0 rfl rfl rfl dX10_leads_0 rfl ?_
  refine x_getr (q := 4) dX10_leads_1 rfl fa_X10_12 sh_0 rfl ?_
  refine x_iloadn (q := 5) 1 rfl rfl dX10_leads_4 rfl ?_
  obtain ⟨s1, H⟩ := H
  refine x_callV (q := 8) (d := d - 1) (as := [vI l1]) (st := []) dX10_leads_5 rfl mv_X10_97 sh_1 rfl rfl rfl (by exact Nat.le_of_ble_eq_true rfl) ⟨by show _ ≤ d; omega, by show _ ≤ 40 * d; omega⟩ ⟨Nat.le_refl _, Nat.le_refl _⟩ (ct_has (by decide) s1 ?_)
  show E_X10_leads G d 8 [(0, vR 0), (1, vI l1)] [vI (bz (0 ≤ l1 ∧ l1 < mem 1 0))] mem Q
  obtain ⟨H1, H2⟩ := H
  refine x_if_ne (tgt := 18) (q := 11) dX10_leads_8 (by decide) rfl (bz_inr _) (fun hB => ?_) (fun hB => ?_)
  · have H := H1 (bz_n0.mp hB)
    refine x_aloadn (q := 19) 0 rfl rfl rfl dX10_leads_18 rfl ?_
    refine x_getr (q := 22) dX10_leads_19 rfl fa_X10_12 sh_0 rfl ?_
    refine x_iloadn (q := 23) 1 rfl rfl dX10_leads_22 rfl ?_
    refine x_callV (q := 26) (d := d - 1) (as := [vI l1]) (st := []) dX10_leads_23 rfl mv_X10_214 sh_1 rfl rfl rfl (by exact Nat.le_of_ble_eq_true rfl) ⟨by show _ ≤ d; omega, by show _ ≤ 40 * d; omega⟩ ⟨Nat.le_refl _, Nat.le_refl _⟩ (Ct.mono H (fun r9 m4 H => ?_))
    obtain ⟨z5, rfl, H⟩ := H
    show E_X10_leads G d 26 [(0, vR 0), (1, vI l1)] [vI z5] m4 Q
    exact x_iret rfl dX10_leads_26 H
  · have H := H2 (fun z => hB (bz_n0.mpr z))
    refine x_aloadn (q := 12) 0 rfl rfl rfl dX10_leads_11 rfl ?_
    refine x_ldc (q := 14) (z := (-1000001)) cn_X10_83 (by decide) dX10_leads_12 rfl ?_
    obtain ⟨m6, em6⟩ : ∃ m9 : Mem, m9 = refM mem (-1000001) := ⟨_, rfl⟩
    have H := H m6 em6
    refine x_callV (q := 17) (d := d - 1) (as := [vI (-1000001)]) (st := []) dX10_leads_14 rfl mv_X10_84 sh_0 rfl rfl rfl (by exact Nat.le_of_ble_eq_true rfl) ⟨by show _ ≤ d; omega, by show _ ≤ 40 * d; omega⟩ ⟨Nat.le_refl _, Nat.le_refl _⟩ (ct_refuse (by omega) (by decide) (by decide) ?_)
    rw [← em6]
    show E_X10_leads G d 17 [(0, vR 0), (1, vI l1)] [vI (-1000001)] m6 Q
    exact x_iret rfl dX10_leads_17 H
set_option maxRecDepth 20000 in
set_option maxHeartbeats 4000000 in
theorem B_X10_likely {G : GT} {d : Nat}  {mem : Mem} {Q : Option AV → Mem → Prop} (hd : 2 ≤ d) (H : C_X1_refresh G (d - 1) [vR 32] mem (fun r9 m1 => r9 = none ∧ (((m1 32 7 ≠ 0) → (C_X1_weightiest G (d - 1) [vR 32] m1 (fun r9 m5 => ∃ z6 : Int, r9 = some (vI z6) ∧ (Q (some (vI z6)) m5)))) ∧ (¬ (m1 32 7 ≠ 0) → (∀ m7 : Mem, m7 = refM m1 (-1000002) → (Q (some (vI (-1000002))) m7)))))) : C_X10_likely G d [vR 0] mem Q := by
  refine Ct_of_Ex (by decide +kernel) (by exact Nat.le_of_ble_eq_true rfl) (ls := [(0, vR 0)]) rfl ?_
  show E_X10_likely G d 0 [(0, vR 0)] [] mem Q
  refine x_aloadn (q := 1) 0 rfl rfl rfl dX10_likely_0 rfl ?_
  refine x_getr (q := 4) dX10_likely_1 rfl fa_X10_34 sh_0 rfl ?_
  refine x_callV (q := 7) (d := d - 1) (as := []) (st := []) dX10_likely_4 rfl mv_X10_178 sh_32 rfl rfl rfl (by exact Nat.le_of_ble_eq_true rfl) ⟨by show _ ≤ d; omega, by show _ ≤ 40 * d; omega⟩ ⟨Nat.le_refl _, Nat.le_refl _⟩ (Ct.mono H (fun r9 m1 H => ?_))
  obtain ⟨rfl, H⟩ := H
  show E_X10_likely G d 7 [(0, vR 0)] [] m1 Q
  refine x_aloadn (q := 8) 0 rfl rfl rfl dX10_likely_7 rfl ?_
  refine x_getr (q := 11) dX10_likely_8 rfl fa_X10_34 sh_0 rfl ?_
  refine x_geti (q := 14) (ji := 7) dX10_likely_11 rfl fa_X10_195 sh_32 rfl rfl (fun r2 => ?_)
  obtain ⟨H1, H2⟩ := H
  refine x_if_ne (tgt := 24) (q := 17) dX10_likely_14 (by decide) rfl r2 (fun hB => ?_) (fun hB => ?_)
  · have H := H1 (hB)
    refine x_aloadn (q := 25) 0 rfl rfl rfl dX10_likely_24 rfl ?_
    refine x_getr (q := 28) dX10_likely_25 rfl fa_X10_34 sh_0 rfl ?_
    refine x_callV (q := 31) (d := d - 1) (as := []) (st := []) dX10_likely_28 rfl mv_X10_254 sh_32 rfl rfl rfl (by exact Nat.le_of_ble_eq_true rfl) ⟨by show _ ≤ d; omega, by show _ ≤ 40 * d; omega⟩ ⟨Nat.le_refl _, Nat.le_refl _⟩ (Ct.mono H (fun r9 m5 H => ?_))
    obtain ⟨z6, rfl, H⟩ := H
    show E_X10_likely G d 31 [(0, vR 0)] [vI z6] m5 Q
    exact x_iret rfl dX10_likely_31 H
  · have H := H2 (hB)
    refine x_aloadn (q := 18) 0 rfl rfl rfl dX10_likely_17 rfl ?_
    refine x_ldc (q := 20) (z := (-1000002)) cn_X10_201 (by decide) dX10_likely_18 rfl ?_
    obtain ⟨m7, em7⟩ : ∃ m9 : Mem, m9 = refM m1 (-1000002) := ⟨_, rfl⟩
    have H := H m7 em7
    refine x_callV (q := 23) (d := d - 1) (as := [vI (-1000002)]) (st := []) dX10_likely_20 rfl mv_X10_84 sh_0 rfl rfl rfl (by exact Nat.le_of_ble_eq_true rfl) ⟨by show _ ≤ d; omega, by show _ ≤ 40 * d; omega⟩ ⟨Nat.le_refl _, Nat.le_refl _⟩ (ct_refuse (by omega) (by decide) (by decide) ?_)
    rw [← em7]
    show E_X10_likely G d 23 [(0, vR 0)] [vI (-1000002)] m7 Q
    exact x_iret rfl dX10_likely_23 H
set_option maxRecDepth 20000 in
set_option maxHeartbeats 4000000 in
theorem B_X10_check {G : GT} {d : Nat}  {mem : Mem} {Q : Option AV → Mem → Prop} (hd : 1 ≤ d) (H : C_X1_refresh G (d - 1) [vR 32] mem (fun r9 m1 => r9 = none ∧ (∀ m3 : Mem, m3 = upM m1 1 15 0 → (E_X10_check G d 25 [(0, vR 0), (1, vI (m1 1 15)), (2, vI 0)] [] m3 Q)))) : C_X10_check G d [vR 0] mem Q := by
  refine Ct_of_Ex (by decide +kernel) (by exact Nat.le_of_ble_eq_true rfl) (ls := [(0, vR 0)]) rfl ?_
  show E_X10_check G d 0 [(0, vR 0)] [] mem Q
  refine x_aloadn (q := 1) 0 rfl rfl rfl dX10_check_0 rfl ?_
  refine x_getr (q := 4) dX10_check_1 rfl fa_X10_34 sh_0 rfl ?_
  refine x_callV (q := 7) (d := d - 1) (as := []) (st := []) dX10_check_4 rfl mv_X10_178 sh_32 rfl rfl rfl (by exact Nat.le_of_ble_eq_true rfl) ⟨by show _ ≤ d; omega, by show _ ≤ 40 * d; omega⟩ ⟨Nat.le_refl _, Nat.le_refl _⟩ (Ct.mono H (fun r9 m1 H => ?_))
  obtain ⟨rfl, H⟩ := H
  show E_X10_check G d 7 [(0, vR 0)] [] m1 Q
  refine x_aloadn (q := 8) 0 rfl rfl rfl dX10_check_7 rfl ?_
  refine x_getr (q := 11) dX10_check_8 rfl fa_X10_12 sh_0 rfl ?_
  refine x_geti (q := 14) (ji := 15) dX10_check_11 rfl fa_X10_333 sh_1 rfl rfl (fun r2 => ?_)
  refine x_istoren (q := 15) (ls' := [(1, vI (m1 1 15)), (0, vR 0)]) rfl (by decide) rfl dX10_check_14 rfl ?_
  refine x_aloadn (q := 16) 1 rfl rfl rfl dX10_check_15 rfl ?_
  refine x_getr (q := 19) dX10_check_16 rfl fa_X10_12 sh_0 rfl ?_
  refine x_iconst (q := 20) dX10_check_19 rfl ?_
  refine x_puti (q := 23) (ji := 15) dX10_check_20 rfl fp_X10_333 sh_1 rfl rfl (by decide) (fun m3 em3 => ?_)
  have H := H m3 em3
  refine x_iconst (q := 24) dX10_check_23 rfl ?_
  refine x_istoren (q := 25) (ls' := [(2, vI 0), (1, vI (m1 1 15)), (0, vR 0)]) rfl (by decide) rfl dX10_check_24 rfl ?_
  refine x_sub [2, 1, 0] rfl ?_
  exact H
set_option maxRecDepth 20000 in
set_option maxHeartbeats 4000000 in
theorem B_X10_check_25 {G : GT} {d : Nat} {l1 : Int} {l2 : Int} {mem : Mem} {Q : Option AV → Mem → Prop} (hd : 1 ≤ d) (H : (inr l2 ∧ inr l1) ∧ (((l1 ≤ l2) → (Q (some (vI 0)) mem)) ∧ (¬ (l1 ≤ l2) → (((mem 32 7 ≤ l2) → (Q (some (vI (1 + l2))) mem)) ∧ (¬ (mem 32 7 ≤ l2) → ((0 ≤ l2 ∧ l2 < 48) ∧ ((0 ≤ l2 ∧ l2 < 4096) ∧ (((mem 10 l2 = mem 37 l2) → (E_X10_check G d 25 [(0, vR 0), (1, vI l1), (2, vI (l2 + 1))] [] mem Q)) ∧ (¬ (mem 10 l2 = mem 37 l2) → (Q (some (vI (1 + l2))) mem)))))))))) : E_X10_check G d 25 [(0, vR 0), (1, vI l1), (2, vI l2)] [] mem Q := by
  refine x_iloadn (q := 26) 2 rfl rfl dX10_check_25 rfl ?_
  refine x_iloadn (q := 27) 1 rfl rfl dX10_check_26 rfl ?_
  obtain ⟨⟨s4, s5⟩, H⟩ := H
  obtain ⟨H1, H2⟩ := H
  refine x_icmp_ge (tgt := 72) (q := 30) dX10_check_27 (by decide) rfl s4 s5 (fun hB => ?_) (fun hB => ?_)
  · have H := H1 (hB)
    refine x_iconst (q := 73) dX10_check_72 rfl ?_
    exact x_iret rfl dX10_check_73 H
  · have H := H2 (hB)
    refine x_iloadn (q := 31) 2 rfl rfl dX10_check_30 rfl ?_
    refine x_aloadn (q := 32) 0 rfl rfl rfl dX10_check_31 rfl ?_
    refine x_getr (q := 35) dX10_check_32 rfl fa_X10_34 sh_0 rfl ?_
    refine x_geti (q := 38) (ji := 7) dX10_check_35 rfl fa_X10_195 sh_32 rfl rfl (fun r8 => ?_)
    obtain ⟨H1, H2⟩ := H
    refine x_icmp_ge (tgt := 62) (q := 41) dX10_check_38 (by decide) rfl s4 r8 (fun hB => ?_) (fun hB => ?_)
    · have H := H1 (hB)
      refine x_iconst (q := 63) dX10_check_62 rfl ?_
      refine x_iloadn (q := 64) 2 rfl rfl dX10_check_63 rfl ?_
      refine x_iadd (q := 65) dX10_check_64 rfl ?_
      exact x_iret rfl dX10_check_65 H
    · have H := H2 (hB)
      refine x_aloadn (q := 42) 0 rfl rfl rfl dX10_check_41 rfl ?_
      refine x_getr (q := 45) dX10_check_42 rfl fa_X10_12 sh_0 rfl ?_
      refine x_getr (q := 48) dX10_check_45 rfl fa_X10_339 sh_1 rfl ?_
      refine x_iloadn (q := 49) 2 rfl rfl dX10_check_48 rfl ?_
      obtain ⟨⟨s11, s12⟩, H⟩ := H
      refine x_iald (q := 50) dX10_check_49 rfl sh_10 s11 s12 (fun r13 => ?_)
      refine x_aloadn (q := 51) 0 rfl rfl rfl dX10_check_50 rfl ?_
      refine x_getr (q := 54) dX10_check_51 rfl fa_X10_34 sh_0 rfl ?_
      refine x_getr (q := 57) dX10_check_54 rfl fa_X10_198 sh_32 rfl ?_
      refine x_iloadn (q := 58) 2 rfl rfl dX10_check_57 rfl ?_
      obtain ⟨⟨s14, s15⟩, H⟩ := H
      refine x_iald (q := 59) dX10_check_58 rfl sh_37 s14 s15 (fun r16 => ?_)
      obtain ⟨H1, H2⟩ := H
      refine x_icmp_eq (tgt := 66) (q := 62) dX10_check_59 (by decide) rfl r13 r16 (fun hB => ?_) (fun hB => ?_)
      · have H := H1 (hB)
        refine x_iinc (q := 69) (ls' := [(2, vI (l2 + 1)), (0, vR 0), (1, vI l1)]) 2 rfl (by decide) rfl dX10_check_66 rfl ?_
        refine x_goto (tgt := 25) dX10_check_69 (by decide) ?_
        refine x_sub [1, 2, 0] rfl ?_
        exact H
      · have H := H2 (hB)
        refine x_iconst (q := 63) dX10_check_62 rfl ?_
        refine x_iloadn (q := 64) 2 rfl rfl dX10_check_63 rfl ?_
        refine x_iadd (q := 65) dX10_check_64 rfl ?_
        exact x_iret rfl dX10_check_65 H
set_option maxRecDepth 20000 in
set_option maxHeartbeats 4000000 in
theorem B_X10_known {G : GT} {d : Nat}  {mem : Mem} {Q : Option AV → Mem → Prop} (hd : 1 ≤ d) (H : C_X0_look G (d - 1) [vR 42] mem (fun r9 m1 => r9 = none ∧ (Q (some (vI (m1 42 5 - 1))) m1))) : C_X10_known G d [vR 0] mem Q := by
  refine Ct_of_Ex (by decide +kernel) (by exact Nat.le_of_ble_eq_true rfl) (ls := [(0, vR 0)]) rfl ?_
  show E_X10_known G d 0 [(0, vR 0)] [] mem Q
  refine x_aloadn (q := 1) 0 rfl rfl rfl dX10_known_0 rfl ?_
  refine x_getr (q := 4) dX10_known_1 rfl fa_X10_41 sh_0 rfl ?_
  refine x_callV (q := 7) (d := d - 1) (as := []) (st := []) dX10_known_4 rfl mv_X10_217 sh_42 rfl rfl rfl (by exact Nat.le_of_ble_eq_true rfl) ⟨by show _ ≤ d; omega, by show _ ≤ 40 * d; omega⟩ ⟨Nat.le_refl _, Nat.le_refl _⟩ (Ct.mono H (fun r9 m1 H => ?_))
  obtain ⟨rfl, H⟩ := H
  show E_X10_known G d 7 [(0, vR 0)] [] m1 Q
  refine x_aloadn (q := 8) 0 rfl rfl rfl dX10_known_7 rfl ?_
  refine x_getr (q := 11) dX10_known_8 rfl fa_X10_41 sh_0 rfl ?_
  refine x_callV (q := 14) (d := d - 1) (as := []) (st := []) dX10_known_11 rfl mv_X10_220 sh_42 rfl rfl rfl (by exact Nat.le_of_ble_eq_true rfl) ⟨by show _ ≤ d; omega, by show _ ≤ 40 * d; omega⟩ ⟨Nat.le_refl _, Nat.le_refl _⟩ (ct_knowable ?_)
  show E_X10_known G d 14 [(0, vR 0)] [vI (m1 42 5 - 1)] m1 Q
  exact x_iret rfl dX10_known_14 H
set_option maxRecDepth 20000 in
set_option maxHeartbeats 4000000 in
theorem B_X10_pair {G : GT} {d : Nat} {l1 : Int} {mem : Mem} {Q : Option AV → Mem → Prop} (hd : 2 ≤ d) (H : (inr l1) ∧ ((¬ (l1 < 0 ∨ 1 < l1) → (C_X0_look G (d - 1) [vR 42] mem (fun r9 m4 => r9 = none ∧ ((inr (m4 42 5 - 1)) ∧ (((m4 42 5 - 1 ≠ 12) → (((l1 ≠ 0) → (C_X0_otherOfPair G (d - 1) [vR 42] m4 (fun r9 m10 => ∃ z11 : Int, r9 = some (vI z11) ∧ (Q (some (vI z11)) m10)))) ∧ (¬ (l1 ≠ 0) → (C_X0_firstOfPair G (d - 1) [vR 42] m4 (fun r9 m12 => ∃ z13 : Int, r9 = some (vI z13) ∧ (Q (some (vI z13)) m12)))))) ∧ (¬ (m4 42 5 - 1 ≠ 12) → (∀ m14 : Mem, m14 = refM m4 (-1000002) → (Q (some (vI (-1000002))) m14)))))))) ∧ ((l1 < 0 ∨ 1 < l1) → (∀ m15 : Mem, m15 = refM mem (-1000001) → (Q (some (vI (-1000001))) m15))))) : C_X10_pair G d [vR 0, vI l1] mem Q := by
  refine Ct_of_Ex (by decide +kernel) (by exact Nat.le_of_ble_eq_true rfl) (ls := [(0, vR 0), (1, vI l1)]) rfl ?_
  show E_X10_pair G d 0 [(0, vR 0), (1, vI l1)] [] mem Q
  refine x_iloadn (q := 1) 1 rfl rfl dX10_pair_0 rfl ?_
  refine x_iconst (q := 2) dX10_pair_1 rfl ?_
  refine x_iconst (q := 3) dX10_pair_2 rfl ?_
  obtain ⟨s1, H⟩ := H
  refine x_callS (q := 6) (d := d - 1) (as := [vI l1, vI 0, vI 1]) (st := []) dX10_pair_3 rfl ms_X10_79 rfl rfl (by exact Nat.le_of_ble_eq_true rfl) ⟨by show _ ≤ d; omega, by show _ ≤ 40 * d; omega⟩ ⟨Nat.le_refl _, Nat.le_refl _⟩ (ct_outside s1 (by decide) (by decide) ?_)
  show E_X10_pair G d 6 [(0, vR 0), (1, vI l1)] [vI (bz (l1 < 0 ∨ 1 < l1))] mem Q
  obtain ⟨H1, H2⟩ := H
  refine x_if_eq (tgt := 16) (q := 9) dX10_pair_6 (by decide) rfl (bz_inr _) (fun hB => ?_) (fun hB => ?_)
  · have H := H1 (bz_0.mp hB)
    refine x_aloadn (q := 17) 0 rfl rfl rfl dX10_pair_16 rfl ?_
    refine x_getr (q := 20) dX10_pair_17 rfl fa_X10_41 sh_0 rfl ?_
    refine x_callV (q := 23) (d := d - 1) (as := []) (st := []) dX10_pair_20 rfl mv_X10_217 sh_42 rfl rfl rfl (by exact Nat.le_of_ble_eq_true rfl) ⟨by show _ ≤ d; omega, by show _ ≤ 40 * d; omega⟩ ⟨Nat.le_refl _, Nat.le_refl _⟩ (Ct.mono H (fun r9 m4 H => ?_))
    obtain ⟨rfl, H⟩ := H
    show E_X10_pair G d 23 [(0, vR 0), (1, vI l1)] [] m4 Q
    refine x_aloadn (q := 24) 0 rfl rfl rfl dX10_pair_23 rfl ?_
    refine x_getr (q := 27) dX10_pair_24 rfl fa_X10_41 sh_0 rfl ?_
    refine x_callV (q := 30) (d := d - 1) (as := []) (st := []) dX10_pair_27 rfl mv_X10_220 sh_42 rfl rfl rfl (by exact Nat.le_of_ble_eq_true rfl) ⟨by show _ ≤ d; omega, by show _ ≤ 40 * d; omega⟩ ⟨Nat.le_refl _, Nat.le_refl _⟩ (ct_knowable ?_)
    show E_X10_pair G d 30 [(0, vR 0), (1, vI l1)] [vI (m4 42 5 - 1)] m4 Q
    refine x_bipush (q := 32) rfl dX10_pair_30 rfl ?_
    obtain ⟨s5, H⟩ := H
    obtain ⟨H1, H2⟩ := H
    refine x_icmp_ne (tgt := 42) (q := 35) dX10_pair_32 (by decide) rfl s5 (by decide) (fun hB => ?_) (fun hB => ?_)
    · have H := H1 (hB)
      refine x_iloadn (q := 43) 1 rfl rfl dX10_pair_42 rfl ?_
      obtain ⟨H1, H2⟩ := H
      refine x_if_ne (tgt := 56) (q := 46) dX10_pair_43 (by decide) rfl s1 (fun hB => ?_) (fun hB => ?_)
      · have H := H1 (hB)
        refine x_aloadn (q := 57) 0 rfl rfl rfl dX10_pair_56 rfl ?_
        refine x_getr (q := 60) dX10_pair_57 rfl fa_X10_41 sh_0 rfl ?_
        refine x_callV (q := 63) (d := d - 1) (as := []) (st := []) dX10_pair_60 rfl mv_X10_226 sh_42 rfl rfl rfl (by exact Nat.le_of_ble_eq_true rfl) ⟨by show _ ≤ d; omega, by show _ ≤ 40 * d; omega⟩ ⟨Nat.le_refl _, Nat.le_refl _⟩ (Ct.mono H (fun r9 m10 H => ?_))
        obtain ⟨z11, rfl, H⟩ := H
        show E_X10_pair G d 63 [(0, vR 0), (1, vI l1)] [vI z11] m10 Q
        exact x_iret rfl dX10_pair_63 H
      · have H := H2 (hB)
        refine x_aloadn (q := 47) 0 rfl rfl rfl dX10_pair_46 rfl ?_
        refine x_getr (q := 50) dX10_pair_47 rfl fa_X10_41 sh_0 rfl ?_
        refine x_callV (q := 53) (d := d - 1) (as := []) (st := []) dX10_pair_50 rfl mv_X10_223 sh_42 rfl rfl rfl (by exact Nat.le_of_ble_eq_true rfl) ⟨by show _ ≤ d; omega, by show _ ≤ 40 * d; omega⟩ ⟨Nat.le_refl _, Nat.le_refl _⟩ (Ct.mono H (fun r9 m12 H => ?_))
        obtain ⟨z13, rfl, H⟩ := H
        show E_X10_pair G d 53 [(0, vR 0), (1, vI l1)] [vI z13] m12 Q
        refine x_goto (tgt := 63) dX10_pair_53 (by decide) ?_
        exact x_iret rfl dX10_pair_63 H
    · have H := H2 (hB)
      refine x_aloadn (q := 36) 0 rfl rfl rfl dX10_pair_35 rfl ?_
      refine x_ldc (q := 38) (z := (-1000002)) cn_X10_201 (by decide) dX10_pair_36 rfl ?_
      obtain ⟨m14, em14⟩ : ∃ m9 : Mem, m9 = refM m4 (-1000002) := ⟨_, rfl⟩
      have H := H m14 em14
      refine x_callV (q := 41) (d := d - 1) (as := [vI (-1000002)]) (st := []) dX10_pair_38 rfl mv_X10_84 sh_0 rfl rfl rfl (by exact Nat.le_of_ble_eq_true rfl) ⟨by show _ ≤ d; omega, by show _ ≤ 40 * d; omega⟩ ⟨Nat.le_refl _, Nat.le_refl _⟩ (ct_refuse (by omega) (by decide) (by decide) ?_)
      rw [← em14]
      show E_X10_pair G d 41 [(0, vR 0), (1, vI l1)] [vI (-1000002)] m14 Q
      exact x_iret rfl dX10_pair_41 H
  · have H := H2 (Classical.byContradiction (fun z => hB (bz_0.mpr z)))
    refine x_aloadn (q := 10) 0 rfl rfl rfl dX10_pair_9 rfl ?_
    refine x_ldc (q := 12) (z := (-1000001)) cn_X10_83 (by decide) dX10_pair_10 rfl ?_
    obtain ⟨m15, em15⟩ : ∃ m9 : Mem, m9 = refM mem (-1000001) := ⟨_, rfl⟩
    have H := H m15 em15
    refine x_callV (q := 15) (d := d - 1) (as := [vI (-1000001)]) (st := []) dX10_pair_12 rfl mv_X10_84 sh_0 rfl rfl rfl (by exact Nat.le_of_ble_eq_true rfl) ⟨by show _ ≤ d; omega, by show _ ≤ 40 * d; omega⟩ ⟨Nat.le_refl _, Nat.le_refl _⟩ (ct_refuse (by omega) (by decide) (by decide) ?_)
    rw [← em15]
    show E_X10_pair G d 15 [(0, vR 0), (1, vI l1)] [vI (-1000001)] m15 Q
    exact x_iret rfl dX10_pair_15 H
set_option maxRecDepth 20000 in
set_option maxHeartbeats 4000000 in
theorem B_X10_more {G : GT} {d : Nat}  {mem : Mem} {Q : Option AV → Mem → Prop} (hd : 2 ≤ d) (H : C_X0_look G (d - 1) [vR 42] mem (fun r9 m1 => r9 = none ∧ (C_X0_bestMissingTie G (d - 1) [vR 42] m1 (fun r9 m2 => ∃ z3 : Int, r9 = some (vI z3) ∧ ((inr z3) ∧ (((0 ≤ z3) → (Q (some (vI z3)) m2)) ∧ (¬ (0 ≤ z3) → (∀ m7 : Mem, m7 = refM m2 (-1000002) → (Q (some (vI (-1000002))) m7))))))))) : C_X10_more G d [vR 0] mem Q := by
  refine Ct_of_Ex (by decide +kernel) (by exact Nat.le_of_ble_eq_true rfl) (ls := [(0, vR 0)]) rfl ?_
  show E_X10_more G d 0 [(0, vR 0)] [] mem Q
  refine x_aloadn (q := 1) 0 rfl rfl rfl dX10_more_0 rfl ?_
  refine x_getr (q := 4) dX10_more_1 rfl fa_X10_41 sh_0 rfl ?_
  refine x_callV (q := 7) (d := d - 1) (as := []) (st := []) dX10_more_4 rfl mv_X10_217 sh_42 rfl rfl rfl (by exact Nat.le_of_ble_eq_true rfl) ⟨by show _ ≤ d; omega, by show _ ≤ 40 * d; omega⟩ ⟨Nat.le_refl _, Nat.le_refl _⟩ (Ct.mono H (fun r9 m1 H => ?_))
  obtain ⟨rfl, H⟩ := H
  show E_X10_more G d 7 [(0, vR 0)] [] m1 Q
  refine x_aloadn (q := 8) 0 rfl rfl rfl dX10_more_7 rfl ?_
  refine x_getr (q := 11) dX10_more_8 rfl fa_X10_41 sh_0 rfl ?_
  refine x_callV (q := 14) (d := d - 1) (as := []) (st := []) dX10_more_11 rfl mv_X10_229 sh_42 rfl rfl rfl (by exact Nat.le_of_ble_eq_true rfl) ⟨by show _ ≤ d; omega, by show _ ≤ 40 * d; omega⟩ ⟨Nat.le_refl _, Nat.le_refl _⟩ (Ct.mono H (fun r9 m2 H => ?_))
  obtain ⟨z3, rfl, H⟩ := H
  show E_X10_more G d 14 [(0, vR 0)] [vI z3] m2 Q
  refine x_istoren (q := 15) (ls' := [(1, vI z3), (0, vR 0)]) rfl (by decide) rfl dX10_more_14 rfl ?_
  refine x_iloadn (q := 16) 0 rfl rfl dX10_more_15 rfl ?_
  obtain ⟨s4, H⟩ := H
  obtain ⟨H1, H2⟩ := H
  refine x_if_ge (tgt := 28) (q := 19) dX10_more_16 (by decide) rfl s4 (fun hB => ?_) (fun hB => ?_)
  · have H := H1 (hB)
    refine x_iloadn (q := 29) 0 rfl rfl dX10_more_28 rfl ?_
    exact x_iret rfl dX10_more_29 H
  · have H := H2 (hB)
    refine x_aloadn (q := 20) 1 rfl rfl rfl dX10_more_19 rfl ?_
    refine x_ldc (q := 22) (z := (-1000002)) cn_X10_201 (by decide) dX10_more_20 rfl ?_
    obtain ⟨m7, em7⟩ : ∃ m9 : Mem, m9 = refM m2 (-1000002) := ⟨_, rfl⟩
    have H := H m7 em7
    refine x_callV (q := 25) (d := d - 1) (as := [vI (-1000002)]) (st := []) dX10_more_22 rfl mv_X10_84 sh_0 rfl rfl rfl (by exact Nat.le_of_ble_eq_true rfl) ⟨by show _ ≤ d; omega, by show _ ≤ 40 * d; omega⟩ ⟨Nat.le_refl _, Nat.le_refl _⟩ (ct_refuse (by omega) (by decide) (by decide) ?_)
    rw [← em7]
    show E_X10_more G d 25 [(1, vI z3), (0, vR 0)] [vI (-1000002)] m7 Q
    refine x_goto (tgt := 29) dX10_more_25 (by decide) ?_
    exact x_iret rfl dX10_more_29 H
set_option maxRecDepth 20000 in
set_option maxHeartbeats 4000000 in
theorem B_X10_without {G : GT} {d : Nat} {l1 : Int} {l2 : Int} {mem : Mem} {Q : Option AV → Mem → Prop} (hd : 2 ≤ d) (H : (inr l1) ∧ ((¬ (0 ≤ l1 ∧ l1 < mem 1 0) → (∀ m4 : Mem, m4 = refM mem (-1000001) → (Q (some (vI (-1000001))) m4))) ∧ ((0 ≤ l1 ∧ l1 < mem 1 0) → ((inr l2) ∧ (((0 ≤ l2 ∧ l2 < mem 1 0) → ((0 ≤ l1 ∧ l1 < 12) ∧ (((iand (ishr (mem 5 l1) l2) 1 ≠ 0) → (C_X0_lookWithout G (d - 1) [vR 42, vI l1, vI l2] mem (fun r9 m12 => r9 = none ∧ (Q (some (vI (m12 42 5 - 1))) m12)))) ∧ (¬ (iand (ishr (mem 5 l1) l2) 1 ≠ 0) → (∀ m13 : Mem, m13 = refM mem (-1000003) → (Q (some (vI (-1000003))) m13)))))) ∧ (¬ (0 ≤ l2 ∧ l2 < mem 1 0) → (∀ m14 : Mem, m14 = refM mem (-1000001) → (Q (some (vI (-1000001))) m14)))))))) : C_X10_without G d [vR 0, vI l1, vI l2] mem Q := by
  refine Ct_of_Ex (by decide +kernel) (by exact Nat.le_of_ble_eq_true rfl) (ls := [(0, vR 0), (1, vI l1), (2, vI l2)]) rfl ?_
  show E_X10_without G d 0 [(0, vR 0), (1, vI l1), (2, vI l2)] [] mem Q
  refine x_aloadn (q := 1) 0 rfl rfl rfl dX10_without_0 rfl ?_
  refine x_getr (q := 4) dX10_without_1 rfl fa_X10_12 sh_0 rfl ?_
  refine x_iloadn (q := 5) 1 rfl rfl dX10_without_4 rfl ?_
  obtain ⟨s1, H⟩ := H
  refine x_callV (q := 8) (d := d - 1) (as := [vI l1]) (st := []) dX10_without_5 rfl mv_X10_97 sh_1 rfl rfl rfl (by exact Nat.le_of_ble_eq_true rfl) ⟨by show _ ≤ d; omega, by show _ ≤ 40 * d; omega⟩ ⟨Nat.le_refl _, Nat.le_refl _⟩ (ct_has (by decide) s1 ?_)
  show E_X10_without G d 8 [(0, vR 0), (1, vI l1), (2, vI l2)] [vI (bz (0 ≤ l1 ∧ l1 < mem 1 0))] mem Q
  obtain ⟨H1, H2⟩ := H
  refine x_if_eq (tgt := 22) (q := 11) dX10_without_8 (by decide) rfl (bz_inr _) (fun hB => ?_) (fun hB => ?_)
  · have H := H1 (bz_0.mp hB)
    refine x_aloadn (q := 23) 0 rfl rfl rfl dX10_without_22 rfl ?_
    refine x_ldc (q := 25) (z := (-1000001)) cn_X10_83 (by decide) dX10_without_23 rfl ?_
    obtain ⟨m4, em4⟩ : ∃ m9 : Mem, m9 = refM mem (-1000001) := ⟨_, rfl⟩
    have H := H m4 em4
    refine x_callV (q := 28) (d := d - 1) (as := [vI (-1000001)]) (st := []) dX10_without_25 rfl mv_X10_84 sh_0 rfl rfl rfl (by exact Nat.le_of_ble_eq_true rfl) ⟨by show _ ≤ d; omega, by show _ ≤ 40 * d; omega⟩ ⟨Nat.le_refl _, Nat.le_refl _⟩ (ct_refuse (by omega) (by decide) (by decide) ?_)
    rw [← em4]
    show E_X10_without G d 28 [(0, vR 0), (1, vI l1), (2, vI l2)] [vI (-1000001)] m4 Q
    exact x_iret rfl dX10_without_28 H
  · have H := H2 (Classical.byContradiction (fun z => hB (bz_0.mpr z)))
    refine x_aloadn (q := 12) 0 rfl rfl rfl dX10_without_11 rfl ?_
    refine x_getr (q := 15) dX10_without_12 rfl fa_X10_12 sh_0 rfl ?_
    refine x_iloadn (q := 16) 2 rfl rfl dX10_without_15 rfl ?_
    obtain ⟨s5, H⟩ := H
    refine x_callV (q := 19) (d := d - 1) (as := [vI l2]) (st := []) dX10_without_16 rfl mv_X10_97 sh_1 rfl rfl rfl (by exact Nat.le_of_ble_eq_true rfl) ⟨by show _ ≤ d; omega, by show _ ≤ 40 * d; omega⟩ ⟨Nat.le_refl _, Nat.le_refl _⟩ (ct_has (by decide) s5 ?_)
    show E_X10_without G d 19 [(0, vR 0), (1, vI l1), (2, vI l2)] [vI (bz (0 ≤ l2 ∧ l2 < mem 1 0))] mem Q
    obtain ⟨H1, H2⟩ := H
    refine x_if_ne (tgt := 29) (q := 22) dX10_without_19 (by decide) rfl (bz_inr _) (fun hB => ?_) (fun hB => ?_)
    · have H := H1 (bz_n0.mp hB)
      refine x_aloadn (q := 30) 0 rfl rfl rfl dX10_without_29 rfl ?_
      refine x_getr (q := 33) dX10_without_30 rfl fa_X10_12 sh_0 rfl ?_
      refine x_iloadn (q := 34) 1 rfl rfl dX10_without_33 rfl ?_
      refine x_iloadn (q := 35) 2 rfl rfl dX10_without_34 rfl ?_
      obtain ⟨⟨s8, s9⟩, H⟩ := H
      refine x_callV (q := 38) (d := d - 1) (as := [vI l1, vI l2]) (st := []) dX10_without_35 rfl mv_X10_232 sh_1 rfl rfl rfl (by exact Nat.le_of_ble_eq_true rfl) ⟨by show _ ≤ d; omega, by show _ ≤ 40 * d; omega⟩ ⟨Nat.le_refl _, Nat.le_refl _⟩ (ct_tied (by decide) s8 s9 ?_)
      show E_X10_without G d 38 [(0, vR 0), (1, vI l1), (2, vI l2)] [vI (bz (iand (ishr (mem 5 l1) l2) 1 ≠ 0))] mem Q
      obtain ⟨H1, H2⟩ := H
      refine x_if_ne (tgt := 48) (q := 41) dX10_without_38 (by decide) rfl (bz_inr _) (fun hB => ?_) (fun hB => ?_)
      · have H := H1 (bz_n0.mp hB)
        refine x_aloadn (q := 49) 0 rfl rfl rfl dX10_without_48 rfl ?_
        refine x_getr (q := 52) dX10_without_49 rfl fa_X10_41 sh_0 rfl ?_
        refine x_iloadn (q := 53) 1 rfl rfl dX10_without_52 rfl ?_
        refine x_iloadn (q := 54) 2 rfl rfl dX10_without_53 rfl ?_
        refine x_callV (q := 57) (d := d - 1) (as := [vI l1, vI l2]) (st := []) dX10_without_54 rfl mv_X10_235 sh_42 rfl rfl rfl (by exact Nat.le_of_ble_eq_true rfl) ⟨by show _ ≤ d; omega, by show _ ≤ 40 * d; omega⟩ ⟨Nat.le_refl _, Nat.le_refl _⟩ (Ct.mono H (fun r9 m12 H => ?_))
        obtain ⟨rfl, H⟩ := H
        show E_X10_without G d 57 [(0, vR 0), (1, vI l1), (2, vI l2)] [] m12 Q
        refine x_aloadn (q := 58) 0 rfl rfl rfl dX10_without_57 rfl ?_
        refine x_getr (q := 61) dX10_without_58 rfl fa_X10_41 sh_0 rfl ?_
        refine x_callV (q := 64) (d := d - 1) (as := []) (st := []) dX10_without_61 rfl mv_X10_220 sh_42 rfl rfl rfl (by exact Nat.le_of_ble_eq_true rfl) ⟨by show _ ≤ d; omega, by show _ ≤ 40 * d; omega⟩ ⟨Nat.le_refl _, Nat.le_refl _⟩ (ct_knowable ?_)
        show E_X10_without G d 64 [(0, vR 0), (1, vI l1), (2, vI l2)] [vI (m12 42 5 - 1)] m12 Q
        exact x_iret rfl dX10_without_64 H
      · have H := H2 (fun z => hB (bz_n0.mpr z))
        refine x_aloadn (q := 42) 0 rfl rfl rfl dX10_without_41 rfl ?_
        refine x_ldc (q := 44) (z := (-1000003)) cn_X10_126 (by decide) dX10_without_42 rfl ?_
        obtain ⟨m13, em13⟩ : ∃ m9 : Mem, m9 = refM mem (-1000003) := ⟨_, rfl⟩
        have H := H m13 em13
        refine x_callV (q := 47) (d := d - 1) (as := [vI (-1000003)]) (st := []) dX10_without_44 rfl mv_X10_84 sh_0 rfl rfl rfl (by exact Nat.le_of_ble_eq_true rfl) ⟨by show _ ≤ d; omega, by show _ ≤ 40 * d; omega⟩ ⟨Nat.le_refl _, Nat.le_refl _⟩ (ct_refuse (by omega) (by decide) (by decide) ?_)
        rw [← em13]
        show E_X10_without G d 47 [(0, vR 0), (1, vI l1), (2, vI l2)] [vI (-1000003)] m13 Q
        exact x_iret rfl dX10_without_47 H
    · have H := H2 (fun z => hB (bz_n0.mpr z))
      refine x_aloadn (q := 23) 0 rfl rfl rfl dX10_without_22 rfl ?_
      refine x_ldc (q := 25) (z := (-1000001)) cn_X10_83 (by decide) dX10_without_23 rfl ?_
      obtain ⟨m14, em14⟩ : ∃ m9 : Mem, m9 = refM mem (-1000001) := ⟨_, rfl⟩
      have H := H m14 em14
      refine x_callV (q := 28) (d := d - 1) (as := [vI (-1000001)]) (st := []) dX10_without_25 rfl mv_X10_84 sh_0 rfl rfl rfl (by exact Nat.le_of_ble_eq_true rfl) ⟨by show _ ≤ d; omega, by show _ ≤ 40 * d; omega⟩ ⟨Nat.le_refl _, Nat.le_refl _⟩ (ct_refuse (by omega) (by decide) (by decide) ?_)
      rw [← em14]
      show E_X10_without G d 28 [(0, vR 0), (1, vI l1), (2, vI l2)] [vI (-1000001)] m14 Q
      exact x_iret rfl dX10_without_28 H
set_option maxRecDepth 20000 in
set_option maxHeartbeats 4000000 in
theorem B_X11_fits {G : GT} {d : Nat} {l1 : Int} {mem : Mem} {Q : Option AV → Mem → Prop} (hd : 2 ≤ d) (H : (inr l1) ∧ ((0 ≤ mem 72 0 ∧ mem 72 0 ≤ 12) ∧ ((¬ (0 ≤ l1 ∧ l1 < 2 ^ (mem 72 0).toNat) → (∀ m6 : Mem, m6 = fndM mem (-1000001) → (Q (some (vI (-1000001))) m6))) ∧ ((0 ≤ l1 ∧ l1 < 2 ^ (mem 72 0).toNat) → (C_X11_barsOf G (d - 1) [vR 71, vI l1] mem (fun r9 m7 => ∃ z8 : Int, r9 = some (vI z8) ∧ ((inr z8) ∧ (((0 ≤ z8) → (Q (some (vI 0)) m7)) ∧ (¬ (0 ≤ z8) → (Q (some (vI 1)) m7)))))))))) : C_X11_fits G d [vR 71, vI l1] mem Q := by
  refine Ct_of_Ex (by decide +kernel) (by exact Nat.le_of_ble_eq_true rfl) (ls := [(0, vR 71), (1, vI l1)]) rfl ?_
  show E_X11_fits G d 0 [(0, vR 71), (1, vI l1)] [] mem Q
  refine x_aloadn (q := 1) 0 rfl rfl rfl dX11_fits_0 rfl ?_
  refine x_iloadn (q := 2) 1 rfl rfl dX11_fits_1 rfl ?_
  obtain ⟨s1, H⟩ := H
  obtain ⟨⟨s2, s3⟩, H⟩ := H
  refine x_callV (q := 5) (d := d - 1) (as := [vI l1]) (st := []) dX11_fits_2 rfl mv_X11_207 sh_71 rfl rfl rfl (by exact Nat.le_of_ble_eq_true rfl) ⟨by show _ ≤ d; omega, by show _ ≤ 40 * d; omega⟩ ⟨Nat.le_refl _, Nat.le_refl _⟩ (ct_isSet (by omega) s2 s3 s1 ?_)
  show E_X11_fits G d 5 [(0, vR 71), (1, vI l1)] [vI (bz (0 ≤ l1 ∧ l1 < 2 ^ (mem 72 0).toNat))] mem Q
  obtain ⟨H1, H2⟩ := H
  refine x_if_eq (tgt := 24) (q := 8) dX11_fits_5 (by decide) rfl (bz_inr _) (fun hB => ?_) (fun hB => ?_)
  · have H := H1 (bz_0.mp hB)
    refine x_aloadn (q := 25) 0 rfl rfl rfl dX11_fits_24 rfl ?_
    refine x_ldc (q := 27) (z := (-1000001)) cn_X11_87 (by decide) dX11_fits_25 rfl ?_
    obtain ⟨m6, em6⟩ : ∃ m9 : Mem, m9 = fndM mem (-1000001) := ⟨_, rfl⟩
    have H := H m6 em6
    refine x_callV (q := 30) (d := d - 1) (as := [vI (-1000001)]) (st := []) dX11_fits_27 rfl mv_X11_88 sh_71 rfl rfl rfl (by exact Nat.le_of_ble_eq_true rfl) ⟨by show _ ≤ d; omega, by show _ ≤ 40 * d; omega⟩ ⟨Nat.le_refl _, Nat.le_refl _⟩ (ct_finding (by decide) (by decide) ?_)
    rw [← em6]
    show E_X11_fits G d 30 [(0, vR 71), (1, vI l1)] [vI (-1000001)] m6 Q
    exact x_iret rfl dX11_fits_30 H
  · have H := H2 (Classical.byContradiction (fun z => hB (bz_0.mpr z)))
    refine x_aloadn (q := 9) 0 rfl rfl rfl dX11_fits_8 rfl ?_
    refine x_iloadn (q := 10) 1 rfl rfl dX11_fits_9 rfl ?_
    refine x_callV (q := 13) (d := d - 1) (as := [vI l1]) (st := []) dX11_fits_10 rfl mv_X11_210 sh_71 rfl rfl rfl (by exact Nat.le_of_ble_eq_true rfl) ⟨by show _ ≤ d; omega, by show _ ≤ 40 * d; omega⟩ ⟨Nat.le_refl _, Nat.le_refl _⟩ (Ct.mono H (fun r9 m7 H => ?_))
    obtain ⟨z8, rfl, H⟩ := H
    show E_X11_fits G d 13 [(0, vR 71), (1, vI l1)] [vI z8] m7 Q
    obtain ⟨s9, H⟩ := H
    obtain ⟨H1, H2⟩ := H
    refine x_if_ge (tgt := 20) (q := 16) dX11_fits_13 (by decide) rfl s9 (fun hB => ?_) (fun hB => ?_)
    · have H := H1 (hB)
      refine x_iconst (q := 21) dX11_fits_20 rfl ?_
      refine x_goto (tgt := 30) dX11_fits_21 (by decide) ?_
      exact x_iret rfl dX11_fits_30 H
    · have H := H2 (hB)
      refine x_iconst (q := 17) dX11_fits_16 rfl ?_
      refine x_goto (tgt := 30) dX11_fits_17 (by decide) ?_
      exact x_iret rfl dX11_fits_30 H
set_option maxRecDepth 20000 in
set_option maxHeartbeats 4000000 in
theorem B_X11_bars {G : GT} {d : Nat} {l1 : Int} {mem : Mem} {Q : Option AV → Mem → Prop} (hd : 2 ≤ d) (H : (inr l1) ∧ ((0 ≤ mem 72 0 ∧ mem 72 0 ≤ 12) ∧ ((¬ (0 ≤ l1 ∧ l1 < 2 ^ (mem 72 0).toNat) → (∀ m6 : Mem, m6 = fndM mem (-1000001) → (Q (some (vI (-1000001))) m6))) ∧ ((0 ≤ l1 ∧ l1 < 2 ^ (mem 72 0).toNat) → (C_X11_barsOf G (d - 1) [vR 71, vI l1] mem (fun r9 m7 => ∃ z8 : Int, r9 = some (vI z8) ∧ (Q (some (vI z8)) m7))))))) : C_X11_bars G d [vR 71, vI l1] mem Q := by
  refine Ct_of_Ex (by decide +kernel) (by exact Nat.le_of_ble_eq_true rfl) (ls := [(0, vR 71), (1, vI l1)]) rfl ?_
  show E_X11_bars G d 0 [(0, vR 71), (1, vI l1)] [] mem Q
  refine x_aloadn (q := 1) 0 rfl rfl rfl dX11_bars_0 rfl ?_
  refine x_iloadn (q := 2) 1 rfl rfl dX11_bars_1 rfl ?_
  obtain ⟨s1, H⟩ := H
  obtain ⟨⟨s2, s3⟩, H⟩ := H
  refine x_callV (q := 5) (d := d - 1) (as := [vI l1]) (st := []) dX11_bars_2 rfl mv_X11_207 sh_71 rfl rfl rfl (by exact Nat.le_of_ble_eq_true rfl) ⟨by show _ ≤ d; omega, by show _ ≤ 40 * d; omega⟩ ⟨Nat.le_refl _, Nat.le_refl _⟩ (ct_isSet (by omega) s2 s3 s1 ?_)
  show E_X11_bars G d 5 [(0, vR 71), (1, vI l1)] [vI (bz (0 ≤ l1 ∧ l1 < 2 ^ (mem 72 0).toNat))] mem Q
  obtain ⟨H1, H2⟩ := H
  refine x_if_eq (tgt := 16) (q := 8) dX11_bars_5 (by decide) rfl (bz_inr _) (fun hB => ?_) (fun hB => ?_)
  · have H := H1 (bz_0.mp hB)
    refine x_aloadn (q := 17) 0 rfl rfl rfl dX11_bars_16 rfl ?_
    refine x_ldc (q := 19) (z := (-1000001)) cn_X11_87 (by decide) dX11_bars_17 rfl ?_
    obtain ⟨m6, em6⟩ : ∃ m9 : Mem, m9 = fndM mem (-1000001) := ⟨_, rfl⟩
    have H := H m6 em6
    refine x_callV (q := 22) (d := d - 1) (as := [vI (-1000001)]) (st := []) dX11_bars_19 rfl mv_X11_88 sh_71 rfl rfl rfl (by exact Nat.le_of_ble_eq_true rfl) ⟨by show _ ≤ d; omega, by show _ ≤ 40 * d; omega⟩ ⟨Nat.le_refl _, Nat.le_refl _⟩ (ct_finding (by decide) (by decide) ?_)
    rw [← em6]
    show E_X11_bars G d 22 [(0, vR 71), (1, vI l1)] [vI (-1000001)] m6 Q
    exact x_iret rfl dX11_bars_22 H
  · have H := H2 (Classical.byContradiction (fun z => hB (bz_0.mpr z)))
    refine x_aloadn (q := 9) 0 rfl rfl rfl dX11_bars_8 rfl ?_
    refine x_iloadn (q := 10) 1 rfl rfl dX11_bars_9 rfl ?_
    refine x_callV (q := 13) (d := d - 1) (as := [vI l1]) (st := []) dX11_bars_10 rfl mv_X11_210 sh_71 rfl rfl rfl (by exact Nat.le_of_ble_eq_true rfl) ⟨by show _ ≤ d; omega, by show _ ≤ 40 * d; omega⟩ ⟨Nat.le_refl _, Nat.le_refl _⟩ (Ct.mono H (fun r9 m7 H => ?_))
    obtain ⟨z8, rfl, H⟩ := H
    show E_X11_bars G d 13 [(0, vR 71), (1, vI l1)] [vI z8] m7 Q
    refine x_goto (tgt := 22) dX11_bars_13 (by decide) ?_
    exact x_iret rfl dX11_bars_22 H
set_option maxRecDepth 20000 in
set_option maxHeartbeats 4000000 in
theorem B_X11_many {G : GT} {d : Nat}  {mem : Mem} {Q : Option AV → Mem → Prop} (hd : 1 ≤ d) (H : C_X11_findFitting G (d - 1) [vR 71] mem (fun r9 m1 => r9 = none ∧ (Q (some (vI (m1 71 12))) m1))) : C_X11_many G d [vR 71] mem Q := by
  refine Ct_of_Ex (by decide +kernel) (by exact Nat.le_of_ble_eq_true rfl) (ls := [(0, vR 71)]) rfl ?_
  show E_X11_many G d 0 [(0, vR 71)] [] mem Q
  refine x_aloadn (q := 1) 0 rfl rfl rfl dX11_many_0 rfl ?_
  refine x_callV (q := 4) (d := d - 1) (as := []) (st := []) dX11_many_1 rfl mv_X11_216 sh_71 rfl rfl rfl (by exact Nat.le_of_ble_eq_true rfl) ⟨by show _ ≤ d; omega, by show _ ≤ 40 * d; omega⟩ ⟨Nat.le_refl _, Nat.le_refl _⟩ (Ct.mono H (fun r9 m1 H => ?_))
  obtain ⟨rfl, H⟩ := H
  show E_X11_many G d 4 [(0, vR 71)] [] m1 Q
  refine x_aloadn (q := 5) 0 rfl rfl rfl dX11_many_4 rfl ?_
  refine x_geti (q := 8) (ji := 12) dX11_many_5 rfl fa_X11_213 sh_71 rfl rfl (fun r2 => ?_)
  exact x_iret rfl dX11_many_8 H
set_option maxRecDepth 20000 in
set_option maxHeartbeats 4000000 in
theorem B_X11_which {G : GT} {d : Nat} {l1 : Int} {mem : Mem} {Q : Option AV → Mem → Prop} (hd : 1 ≤ d) (H : C_X11_findFitting G (d - 1) [vR 71] mem (fun r9 m1 => r9 = none ∧ ((inr l1 ∧ inr ((m1 71 12) - 1)) ∧ ((¬ (0 ≤ l1 ∧ l1 ≤ (m1 71 12) - 1) → (∀ m7 : Mem, m7 = fndM m1 (-1000001) → (Q (some (vI (-1000001))) m7))) ∧ ((0 ≤ l1 ∧ l1 ≤ (m1 71 12) - 1) → ((0 ≤ l1 ∧ l1 < 4096) ∧ (Q (some (vI (m1 77 l1))) m1))))))) : C_X11_which G d [vR 71, vI l1] mem Q := by
  refine Ct_of_Ex (by decide +kernel) (by exact Nat.le_of_ble_eq_true rfl) (ls := [(0, vR 71), (1, vI l1)]) rfl ?_
  show E_X11_which G d 0 [(0, vR 71), (1, vI l1)] [] mem Q
  refine x_aloadn (q := 1) 0 rfl rfl rfl dX11_which_0 rfl ?_
  refine x_callV (q := 4) (d := d - 1) (as := []) (st := []) dX11_which_1 rfl mv_X11_216 sh_71 rfl rfl rfl (by exact Nat.le_of_ble_eq_true rfl) ⟨by show _ ≤ d; omega, by show _ ≤ 40 * d; omega⟩ ⟨Nat.le_refl _, Nat.le_refl _⟩ (Ct.mono H (fun r9 m1 H => ?_))
  obtain ⟨rfl, H⟩ := H
  show E_X11_which G d 4 [(0, vR 71), (1, vI l1)] [] m1 Q
  refine x_iloadn (q := 5) 1 rfl rfl dX11_which_4 rfl ?_
  refine x_iconst (q := 6) dX11_which_5 rfl ?_
  refine x_aloadn (q := 7) 0 rfl rfl rfl dX11_which_6 rfl ?_
  refine x_geti (q := 10) (ji := 12) dX11_which_7 rfl fa_X11_213 sh_71 rfl rfl (fun r2 => ?_)
  refine x_iconst (q := 11) dX11_which_10 rfl ?_
  refine x_isub (q := 12) dX11_which_11 rfl ?_
  obtain ⟨⟨s3, s4⟩, H⟩ := H
  refine x_callS (q := 15) (d := d - 1) (as := [vI l1, vI 0, vI ((m1 71 12) - 1)]) (st := []) dX11_which_12 rfl ms_X11_83 rfl rfl (by exact Nat.le_of_ble_eq_true rfl) ⟨by show _ ≤ d; omega, by show _ ≤ 40 * d; omega⟩ ⟨Nat.le_refl _, Nat.le_refl _⟩ (ct_within s3 (by decide) s4 ?_)
  show E_X11_which G d 15 [(0, vR 71), (1, vI l1)] [vI (bz (0 ≤ l1 ∧ l1 ≤ (m1 71 12) - 1))] m1 Q
  obtain ⟨H1, H2⟩ := H
  refine x_if_eq (tgt := 27) (q := 18) dX11_which_15 (by decide) rfl (bz_inr _) (fun hB => ?_) (fun hB => ?_)
  · have H := H1 (bz_0.mp hB)
    refine x_aloadn (q := 28) 0 rfl rfl rfl dX11_which_27 rfl ?_
    refine x_ldc (q := 30) (z := (-1000001)) cn_X11_87 (by decide) dX11_which_28 rfl ?_
    obtain ⟨m7, em7⟩ : ∃ m9 : Mem, m9 = fndM m1 (-1000001) := ⟨_, rfl⟩
    have H := H m7 em7
    refine x_callV (q := 33) (d := d - 1) (as := [vI (-1000001)]) (st := []) dX11_which_30 rfl mv_X11_88 sh_71 rfl rfl rfl (by exact Nat.le_of_ble_eq_true rfl) ⟨by show _ ≤ d; omega, by show _ ≤ 40 * d; omega⟩ ⟨Nat.le_refl _, Nat.le_refl _⟩ (ct_finding (by decide) (by decide) ?_)
    rw [← em7]
    show E_X11_which G d 33 [(0, vR 71), (1, vI l1)] [vI (-1000001)] m7 Q
    exact x_iret rfl dX11_which_33 H
  · have H := H2 (Classical.byContradiction (fun z => hB (bz_0.mpr z)))
    refine x_aloadn (q := 19) 0 rfl rfl rfl dX11_which_18 rfl ?_
    refine x_getr (q := 22) dX11_which_19 rfl fa_X11_40 sh_71 rfl ?_
    refine x_iloadn (q := 23) 1 rfl rfl dX11_which_22 rfl ?_
    obtain ⟨⟨s8, s9⟩, H⟩ := H
    refine x_iald (q := 24) dX11_which_23 rfl sh_77 s8 s9 (fun r10 => ?_)
    refine x_goto (tgt := 33) dX11_which_24 (by decide) ?_
    exact x_iret rfl dX11_which_33 H
set_option maxRecDepth 20000 in
set_option maxHeartbeats 4000000 in
theorem B_X11_sure {G : GT} {d : Nat} {l1 : Int} {mem : Mem} {Q : Option AV → Mem → Prop} (hd : 1 ≤ d) (H : (inr l1) ∧ (((0 ≤ l1 ∧ l1 ≤ 1) → (C_X11_findFitting G (d - 1) [vR 71] mem (fun r9 m4 => r9 = none ∧ (((m4 71 12 ≠ 0) → (E_X11_sure G d 44 [(0, vR 71), (1, vI l1), (2, vI (ishl 1 (m4 72 0) - 1)), (3, vI 0), (4, vI 0)] [] m4 Q)) ∧ (¬ (m4 71 12 ≠ 0) → (∀ m8 : Mem, m8 = fndM m4 (-1000002) → (Q (some (vI (-1000002))) m8))))))) ∧ (¬ (0 ≤ l1 ∧ l1 ≤ 1) → (∀ m9 : Mem, m9 = fndM mem (-1000001) → (Q (some (vI (-1000001))) m9))))) : C_X11_sure G d [vR 71, vI l1] mem Q := by
  refine Ct_of_Ex (by decide +kernel) (by exact Nat.le_of_ble_eq_true rfl) (ls := [(0, vR 71), (1, vI l1)]) rfl ?_
  show E_X11_sure G d 0 [(0, vR 71), (1, vI l1)] [] mem Q
  refine x_iloadn (q := 1) 1 rfl rfl dX11_sure_0 rfl ?_
  refine x_iconst (q := 2) dX11_sure_1 rfl ?_
  refine x_iconst (q := 3) dX11_sure_2 rfl ?_
  obtain ⟨s1, H⟩ := H
  refine x_callS (q := 6) (d := d - 1) (as := [vI l1, vI 0, vI 1]) (st := []) dX11_sure_3 rfl ms_X11_83 rfl rfl (by exact Nat.le_of_ble_eq_true rfl) ⟨by show _ ≤ d; omega, by show _ ≤ 40 * d; omega⟩ ⟨Nat.le_refl _, Nat.le_refl _⟩ (ct_within s1 (by decide) (by decide) ?_)
  show E_X11_sure G d 6 [(0, vR 71), (1, vI l1)] [vI (bz (0 ≤ l1 ∧ l1 ≤ 1))] mem Q
  obtain ⟨H1, H2⟩ := H
  refine x_if_ne (tgt := 16) (q := 9) dX11_sure_6 (by decide) rfl (bz_inr _) (fun hB => ?_) (fun hB => ?_)
  · have H := H1 (bz_n0.mp hB)
    refine x_aloadn (q := 17) 0 rfl rfl rfl dX11_sure_16 rfl ?_
    refine x_callV (q := 20) (d := d - 1) (as := []) (st := []) dX11_sure_17 rfl mv_X11_216 sh_71 rfl rfl rfl (by exact Nat.le_of_ble_eq_true rfl) ⟨by show _ ≤ d; omega, by show _ ≤ 40 * d; omega⟩ ⟨Nat.le_refl _, Nat.le_refl _⟩ (Ct.mono H (fun r9 m4 H => ?_))
    obtain ⟨rfl, H⟩ := H
    show E_X11_sure G d 20 [(0, vR 71), (1, vI l1)] [] m4 Q
    refine x_aloadn (q := 21) 0 rfl rfl rfl dX11_sure_20 rfl ?_
    refine x_geti (q := 24) (ji := 12) dX11_sure_21 rfl fa_X11_213 sh_71 rfl rfl (fun r5 => ?_)
    obtain ⟨H1, H2⟩ := H
    refine x_if_ne (tgt := 34) (q := 27) dX11_sure_24 (by decide) rfl r5 (fun hB => ?_) (fun hB => ?_)
    · have H := H1 (hB)
      refine x_aloadn (q := 35) 0 rfl rfl rfl dX11_sure_34 rfl ?_
      refine x_callV (q := 38) (d := d - 1) (as := []) (st := []) dX11_sure_35 rfl mv_X11_192 sh_71 rfl rfl rfl (by exact Nat.le_of_ble_eq_true rfl) ⟨by show _ ≤ d; omega, by show _ ≤ 40 * d; omega⟩ ⟨Nat.le_refl _, Nat.le_refl _⟩ (ct_all ?_)
      show E_X11_sure G d 38 [(0, vR 71), (1, vI l1)] [vI (ishl 1 (m4 72 0) - 1)] m4 Q
      refine x_istoren (q := 39) (ls' := [(2, vI (ishl 1 (m4 72 0) - 1)), (0, vR 71), (1, vI l1)]) rfl (by decide) rfl dX11_sure_38 rfl ?_
      refine x_iconst (q := 40) dX11_sure_39 rfl ?_
      refine x_istoren (q := 41) (ls' := [(3, vI 0), (2, vI (ishl 1 (m4 72 0) - 1)), (0, vR 71), (1, vI l1)]) rfl (by decide) rfl dX11_sure_40 rfl ?_
      refine x_iconst (q := 42) dX11_sure_41 rfl ?_
      refine x_istore (q := 44) (ls' := [(4, vI 0), (3, vI 0), (2, vI (ishl 1 (m4 72 0) - 1)), (0, vR 71), (1, vI l1)]) (by decide) rfl dX11_sure_42 rfl ?_
      refine x_sub [3, 4, 2, 1, 0] rfl ?_
      exact H
    · have H := H2 (hB)
      refine x_aloadn (q := 28) 0 rfl rfl rfl dX11_sure_27 rfl ?_
      refine x_ldc (q := 30) (z := (-1000002)) cn_X11_219 (by decide) dX11_sure_28 rfl ?_
      obtain ⟨m8, em8⟩ : ∃ m9 : Mem, m9 = fndM m4 (-1000002) := ⟨_, rfl⟩
      have H := H m8 em8
      refine x_callV (q := 33) (d := d - 1) (as := [vI (-1000002)]) (st := []) dX11_sure_30 rfl mv_X11_88 sh_71 rfl rfl rfl (by exact Nat.le_of_ble_eq_true rfl) ⟨by show _ ≤ d; omega, by show _ ≤ 40 * d; omega⟩ ⟨Nat.le_refl _, Nat.le_refl _⟩ (ct_finding (by decide) (by decide) ?_)
      rw [← em8]
      show E_X11_sure G d 33 [(0, vR 71), (1, vI l1)] [vI (-1000002)] m8 Q
      exact x_iret rfl dX11_sure_33 H
  · have H := H2 (fun z => hB (bz_n0.mpr z))
    refine x_aloadn (q := 10) 0 rfl rfl rfl dX11_sure_9 rfl ?_
    refine x_ldc (q := 12) (z := (-1000001)) cn_X11_87 (by decide) dX11_sure_10 rfl ?_
    obtain ⟨m9, em9⟩ : ∃ m9 : Mem, m9 = fndM mem (-1000001) := ⟨_, rfl⟩
    have H := H m9 em9
    refine x_callV (q := 15) (d := d - 1) (as := [vI (-1000001)]) (st := []) dX11_sure_12 rfl mv_X11_88 sh_71 rfl rfl rfl (by exact Nat.le_of_ble_eq_true rfl) ⟨by show _ ≤ d; omega, by show _ ≤ 40 * d; omega⟩ ⟨Nat.le_refl _, Nat.le_refl _⟩ (ct_finding (by decide) (by decide) ?_)
    rw [← em9]
    show E_X11_sure G d 15 [(0, vR 71), (1, vI l1)] [vI (-1000001)] m9 Q
    exact x_iret rfl dX11_sure_15 H
set_option maxRecDepth 20000 in
set_option maxHeartbeats 4000000 in
theorem B_X11_sure_44 {G : GT} {d : Nat} {l1 : Int} {l2 : Int} {l3 : Int} {l4 : Int} {mem : Mem} {Q : Option AV → Mem → Prop} (hd : 1 ≤ d) (H : (inr l4) ∧ (((mem 71 12 ≤ l4) → ((inr l1) ∧ (((l1 ≠ 0) → (Q (some (vI (iand (ishl 1 (mem 72 0) - 1) (ixor l3 (-1))))) mem)) ∧ (¬ (l1 ≠ 0) → (Q (some (vI l2)) mem))))) ∧ (¬ (mem 71 12 ≤ l4) → ((0 ≤ l4 ∧ l4 < 4096) ∧ (E_X11_sure G d 44 [(0, vR 71), (1, vI l1), (2, vI (iand l2 (mem 77 l4))), (3, vI (ior l3 (mem 77 l4))), (4, vI (l4 + 1))] [] mem Q))))) : E_X11_sure G d 44 [(0, vR 71), (1, vI l1), (2, vI l2), (3, vI l3), (4, vI l4)] [] mem Q := by
  refine x_iload (q := 46) 4 rfl dX11_sure_44 rfl ?_
  refine x_aloadn (q := 47) 0 rfl rfl rfl dX11_sure_46 rfl ?_
  refine x_geti (q := 50) (ji := 12) dX11_sure_47 rfl fa_X11_213 sh_71 rfl rfl (fun r10 => ?_)
  obtain ⟨s11, H⟩ := H
  obtain ⟨H1, H2⟩ := H
  refine x_icmp_ge (tgt := 79) (q := 53) dX11_sure_50 (by decide) rfl s11 r10 (fun hB => ?_) (fun hB => ?_)
  · have H := H1 (hB)
    refine x_iloadn (q := 80) 1 rfl rfl dX11_sure_79 rfl ?_
    obtain ⟨s14, H⟩ := H
    obtain ⟨H1, H2⟩ := H
    refine x_if_ne (tgt := 87) (q := 83) dX11_sure_80 (by decide) rfl s14 (fun hB => ?_) (fun hB => ?_)
    · have H := H1 (hB)
      refine x_aloadn (q := 88) 0 rfl rfl rfl dX11_sure_87 rfl ?_
      refine x_callV (q := 91) (d := d - 1) (as := []) (st := []) dX11_sure_88 rfl mv_X11_192 sh_71 rfl rfl rfl (by exact Nat.le_of_ble_eq_true rfl) ⟨by show _ ≤ d; omega, by show _ ≤ 40 * d; omega⟩ ⟨Nat.le_refl _, Nat.le_refl _⟩ (ct_all ?_)
      show E_X11_sure G d 91 [(0, vR 71), (1, vI l1), (2, vI l2), (3, vI l3), (4, vI l4)] [vI (ishl 1 (mem 72 0) - 1)] mem Q
      refine x_iloadn (q := 92) 3 rfl rfl dX11_sure_91 rfl ?_
      refine x_iconst (q := 93) dX11_sure_92 rfl ?_
      refine x_ixor (q := 94) dX11_sure_93 rfl ?_
      refine x_iand (q := 95) dX11_sure_94 rfl ?_
      exact x_iret rfl dX11_sure_95 H
    · have H := H2 (hB)
      refine x_iloadn (q := 84) 2 rfl rfl dX11_sure_83 rfl ?_
      refine x_goto (tgt := 95) dX11_sure_84 (by decide) ?_
      exact x_iret rfl dX11_sure_95 H
  · have H := H2 (hB)
    refine x_iloadn (q := 54) 2 rfl rfl dX11_sure_53 rfl ?_
    refine x_aloadn (q := 55) 0 rfl rfl rfl dX11_sure_54 rfl ?_
    refine x_getr (q := 58) dX11_sure_55 rfl fa_X11_40 sh_71 rfl ?_
    refine x_iload (q := 60) 4 rfl dX11_sure_58 rfl ?_
    obtain ⟨⟨s17, s18⟩, H⟩ := H
    refine x_iald (q := 61) dX11_sure_60 rfl sh_77 s17 s18 (fun r19 => ?_)
    refine x_iand (q := 62) dX11_sure_61 rfl ?_
    refine x_istoren (q := 63) (ls' := [(2, vI (iand l2 (mem 77 l4))), (0, vR 71), (1, vI l1), (3, vI l3), (4, vI l4)]) rfl (by decide) rfl dX11_sure_62 rfl ?_
    refine x_iloadn (q := 64) 3 rfl rfl dX11_sure_63 rfl ?_
    refine x_aloadn (q := 65) 1 rfl rfl rfl dX11_sure_64 rfl ?_
    refine x_getr (q := 68) dX11_sure_65 rfl fa_X11_40 sh_71 rfl ?_
    refine x_iload (q := 70) 4 rfl dX11_sure_68 rfl ?_
    refine x_iald (q := 71) dX11_sure_70 rfl sh_77 s17 s18 (fun r20 => ?_)
    refine x_ior (q := 72) dX11_sure_71 rfl ?_
    refine x_istoren (q := 73) (ls' := [(3, vI (ior l3 (mem 77 l4))), (2, vI (iand l2 (mem 77 l4))), (0, vR 71), (1, vI l1), (4, vI l4)]) rfl (by decide) rfl dX11_sure_72 rfl ?_
    refine x_iinc (q := 76) (ls' := [(4, vI (l4 + 1)), (3, vI (ior l3 (mem 77 l4))), (2, vI (iand l2 (mem 77 l4))), (0, vR 71), (1, vI l1)]) 4 rfl (by decide) rfl dX11_sure_73 rfl ?_
    refine x_goto (tgt := 44) dX11_sure_76 (by decide) ?_
    refine x_sub [3, 4, 2, 1, 0] rfl ?_
    exact H
set_option maxRecDepth 20000 in
set_option maxHeartbeats 4000000 in
theorem B_X11_blame {G : GT} {d : Nat} {l1 : Int} {mem : Mem} {Q : Option AV → Mem → Prop} (hd : 1 ≤ d) (H : (inr l1) ∧ (((0 ≤ l1 ∧ l1 ≤ 1) → (E_X11_blame G d 24 [(0, vR 71), (1, vI l1), (2, vI 0), (3, vI 61), (4, vI 0)] [] mem Q)) ∧ (¬ (0 ≤ l1 ∧ l1 ≤ 1) → (∀ m4 : Mem, m4 = fndM mem (-1000001) → (Q (some (vI (-1000001))) m4))))) : C_X11_blame G d [vR 71, vI l1] mem Q := by
  refine Ct_of_Ex (by decide +kernel) (by exact Nat.le_of_ble_eq_true rfl) (ls := [(0, vR 71), (1, vI l1)]) rfl ?_
  show E_X11_blame G d 0 [(0, vR 71), (1, vI l1)] [] mem Q
  refine x_iloadn (q := 1) 1 rfl rfl dX11_blame_0 rfl ?_
  refine x_iconst (q := 2) dX11_blame_1 rfl ?_
  refine x_iconst (q := 3) dX11_blame_2 rfl ?_
  obtain ⟨s1, H⟩ := H
  refine x_callS (q := 6) (d := d - 1) (as := [vI l1, vI 0, vI 1]) (st := []) dX11_blame_3 rfl ms_X11_83 rfl rfl (by exact Nat.le_of_ble_eq_true rfl) ⟨by show _ ≤ d; omega, by show _ ≤ 40 * d; omega⟩ ⟨Nat.le_refl _, Nat.le_refl _⟩ (ct_within s1 (by decide) (by decide) ?_)
  show E_X11_blame G d 6 [(0, vR 71), (1, vI l1)] [vI (bz (0 ≤ l1 ∧ l1 ≤ 1))] mem Q
  obtain ⟨H1, H2⟩ := H
  refine x_if_ne (tgt := 16) (q := 9) dX11_blame_6 (by decide) rfl (bz_inr _) (fun hB => ?_) (fun hB => ?_)
  · have H := H1 (bz_n0.mp hB)
    refine x_iconst (q := 17) dX11_blame_16 rfl ?_
    refine x_istoren (q := 18) (ls' := [(2, vI 0), (0, vR 71), (1, vI l1)]) rfl (by decide) rfl dX11_blame_17 rfl ?_
    refine x_bipush (q := 20) rfl dX11_blame_18 rfl ?_
    refine x_istoren (q := 21) (ls' := [(3, vI 61), (2, vI 0), (0, vR 71), (1, vI l1)]) rfl (by decide) rfl dX11_blame_20 rfl ?_
    refine x_iconst (q := 22) dX11_blame_21 rfl ?_
    refine x_istore (q := 24) (ls' := [(4, vI 0), (3, vI 61), (2, vI 0), (0, vR 71), (1, vI l1)]) (by decide) rfl dX11_blame_22 rfl ?_
    refine x_sub [3, 4, 2, 1, 0] rfl ?_
    exact H
  · have H := H2 (fun z => hB (bz_n0.mpr z))
    refine x_aloadn (q := 10) 0 rfl rfl rfl dX11_blame_9 rfl ?_
    refine x_ldc (q := 12) (z := (-1000001)) cn_X11_87 (by decide) dX11_blame_10 rfl ?_
    obtain ⟨m4, em4⟩ : ∃ m9 : Mem, m9 = fndM mem (-1000001) := ⟨_, rfl⟩
    have H := H m4 em4
    refine x_callV (q := 15) (d := d - 1) (as := [vI (-1000001)]) (st := []) dX11_blame_12 rfl mv_X11_88 sh_71 rfl rfl rfl (by exact Nat.le_of_ble_eq_true rfl) ⟨by show _ ≤ d; omega, by show _ ≤ 40 * d; omega⟩ ⟨Nat.le_refl _, Nat.le_refl _⟩ (ct_finding (by decide) (by decide) ?_)
    rw [← em4]
    show E_X11_blame G d 15 [(0, vR 71), (1, vI l1)] [vI (-1000001)] m4 Q
    exact x_iret rfl dX11_blame_15 H
set_option maxRecDepth 20000 in
set_option maxHeartbeats 4000000 in
theorem B_X11_blame_24 {G : GT} {d : Nat} {l1 : Int} {l2 : Int} {l3 : Int} {l4 : Int} {mem : Mem} {Q : Option AV → Mem → Prop} (hd : 1 ≤ d) (H : (inr l4 ∧ inr (ishl 1 (mem 72 0) - 1)) ∧ (((ishl 1 (mem 72 0) - 1 < l4) → ((inr l1) ∧ (((l1 ≠ 0) → (Q (some (vI l2)) mem)) ∧ (¬ (l1 ≠ 0) → (Q (some (vI l3)) mem))))) ∧ (¬ (ishl 1 (mem 72 0) - 1 < l4) → (E_X11_blame G d 39 [(0, vR 71), (1, vI l1), (2, vI l2), (3, vI l3), (4, vI l4), (5, vI 0), (6, vI 0)] [] mem Q)))) : E_X11_blame G d 24 [(0, vR 71), (1, vI l1), (2, vI l2), (3, vI l3), (4, vI l4)] [] mem Q := by
  refine x_iload (q := 26) 4 rfl dX11_blame_24 rfl ?_
  refine x_aloadn (q := 27) 0 rfl rfl rfl dX11_blame_26 rfl ?_
  refine x_callV (q := 30) (d := d - 1) (as := []) (st := [vI l4]) dX11_blame_27 rfl mv_X11_192 sh_71 rfl rfl rfl (by exact Nat.le_of_ble_eq_true rfl) ⟨by show _ ≤ d; omega, by show _ ≤ 40 * d; omega⟩ ⟨Nat.le_refl _, Nat.le_refl _⟩ (ct_all ?_)
  show E_X11_blame G d 30 [(0, vR 71), (1, vI l1), (2, vI l2), (3, vI l3), (4, vI l4)] [vI (ishl 1 (mem 72 0) - 1), vI l4] mem Q
  obtain ⟨⟨s5, s6⟩, H⟩ := H
  obtain ⟨H1, H2⟩ := H
  refine x_icmp_gt (tgt := 148) (q := 33) dX11_blame_30 (by decide) rfl s5 s6 (fun hB => ?_) (fun hB => ?_)
  · have H := H1 (hB)
    refine x_iloadn (q := 149) 1 rfl rfl dX11_blame_148 rfl ?_
    obtain ⟨s9, H⟩ := H
    obtain ⟨H1, H2⟩ := H
    refine x_if_ne (tgt := 156) (q := 152) dX11_blame_149 (by decide) rfl s9 (fun hB => ?_) (fun hB => ?_)
    · have H := H1 (hB)
      refine x_iloadn (q := 157) 2 rfl rfl dX11_blame_156 rfl ?_
      exact x_iret rfl dX11_blame_157 H
    · have H := H2 (hB)
      refine x_iloadn (q := 153) 3 rfl rfl dX11_blame_152 rfl ?_
      refine x_goto (tgt := 157) dX11_blame_153 (by decide) ?_
      exact x_iret rfl dX11_blame_157 H
  · have H := H2 (hB)
    refine x_iconst (q := 34) dX11_blame_33 rfl ?_
    refine x_istore (q := 36) (ls' := [(5, vI 0), (0, vR 71), (1, vI l1), (2, vI l2), (3, vI l3), (4, vI l4)]) (by decide) rfl dX11_blame_34 rfl ?_
    refine x_iconst (q := 37) dX11_blame_36 rfl ?_
    refine x_istore (q := 39) (ls' := [(6, vI 0), (5, vI 0), (0, vR 71), (1, vI l1), (2, vI l2), (3, vI l3), (4, vI l4)]) (by decide) rfl dX11_blame_37 rfl ?_
    refine x_sub [2, 3, 4, 5, 6, 1, 0] rfl ?_
    exact H
set_option maxRecDepth 20000 in
set_option maxHeartbeats 4000000 in
theorem B_X11_blame_39 {G : GT} {d : Nat} {l1 : Int} {l2 : Int} {l3 : Int} {l4 : Int} {l5 : Int} {l6 : Int} {mem : Mem} {Q : Option AV → Mem → Prop} (hd : 2 ≤ d) (H : (inr l6) ∧ (((mem 72 1 ≤ l6) → ((inr l5 ∧ inr l3) ∧ (((l5 < l3) → ((inr (sm 12 (fun k => iand (ishr l4 k) 1))) ∧ (((mem 72 2 < sm 12 (fun k => iand (ishr l4 k) 1)) → (E_X11_blame G d 24 [(0, vR 71), (1, vI l1), (2, vI l2), (3, vI l3), (4, vI (l4 + 1))] [] mem Q)) ∧ (¬ (mem 72 2 < sm 12 (fun k => iand (ishr l4 k) 1)) → (E_X11_blame G d 24 [(0, vR 71), (1, vI l1), (2, vI l4), (3, vI l5), (4, vI (l4 + 1))] [] mem Q))))) ∧ (¬ (l5 < l3) → (((l5 ≠ l3) → ((inr (sm 12 (fun k => iand (ishr l4 k) 1))) ∧ (((mem 72 2 < sm 12 (fun k => iand (ishr l4 k) 1)) → (E_X11_blame G d 24 [(0, vR 71), (1, vI l1), (2, vI l2), (3, vI l3), (4, vI (l4 + 1))] [] mem Q)) ∧ (¬ (mem 72 2 < sm 12 (fun k => iand (ishr l4 k) 1)) → (E_X11_blame G d 24 [(0, vR 71), (1, vI l1), (2, vI l2), (3, vI l3), (4, vI (l4 + 1))] [] mem Q))))) ∧ (¬ (l5 ≠ l3) → ((inr (sm 12 (fun k => iand (ishr l4 k) 1)) ∧ inr (sm 12 (fun k => iand (ishr l2 k) 1))) ∧ (((sm 12 (fun k => iand (ishr l2 k) 1) ≤ sm 12 (fun k => iand (ishr l4 k) 1)) → (((mem 72 2 < sm 12 (fun k => iand (ishr l4 k) 1)) → (E_X11_blame G d 24 [(0, vR 71), (1, vI l1), (2, vI l2), (3, vI l3), (4, vI (l4 + 1))] [] mem Q)) ∧ (¬ (mem 72 2 < sm 12 (fun k => iand (ishr l4 k) 1)) → (E_X11_blame G d 24 [(0, vR 71), (1, vI l1), (2, vI l2), (3, vI l3), (4, vI (l4 + 1))] [] mem Q)))) ∧ (¬ (sm 12 (fun k => iand (ishr l2 k) 1) ≤ sm 12 (fun k => iand (ishr l4 k) 1)) → (((mem 72 2 < sm 12 (fun k => iand (ishr l4 k) 1)) → (E_X11_blame G d 24 [(0, vR 71), (1, vI l1), (2, vI l2), (3, vI l3), (4, vI (l4 + 1))] [] mem Q)) ∧ (¬ (mem 72 2 < sm 12 (fun k => iand (ishr l4 k) 1)) → (E_X11_blame G d 24 [(0, vR 71), (1, vI l1), (2, vI l4), (3, vI l5), (4, vI (l4 + 1))] [] mem Q)))))))))))) ∧ (¬ (mem 72 1 ≤ l6) → ((0 ≤ l6 ∧ l6 < 60) ∧ ((¬ (mem 72 (185 + 4 * l6 + 3) = 1) → (E_X11_blame G d 39 [(0, vR 71), (1, vI l1), (2, vI l2), (3, vI l3), (4, vI l4), (5, vI (l5 + 0)), (6, vI (l6 + 1))] [] mem Q)) ∧ ((mem 72 (185 + 4 * l6 + 3) = 1) → (C_X11_isLet_ G (d - 1) [vR 71, vI l4, vI l6] mem (fun r9 m44 => ∃ z45 : Int, r9 = some (vI z45) ∧ ((inr z45) ∧ (((z45 ≠ 0) → (E_X11_blame G d 39 [(0, vR 71), (1, vI l1), (2, vI l2), (3, vI l3), (4, vI l4), (5, vI (l5 + 0)), (6, vI (l6 + 1))] [] m44 Q)) ∧ (¬ (z45 ≠ 0) → (E_X11_blame G d 39 [(0, vR 71), (1, vI l1), (2, vI l2), (3, vI l3), (4, vI l4), (5, vI (l5 + 1)), (6, vI (l6 + 1))] [] m44 Q)))))))))))) : E_X11_blame G d 39 [(0, vR 71), (1, vI l1), (2, vI l2), (3, vI l3), (4, vI l4), (5, vI l5), (6, vI l6)] [] mem Q := by
  refine x_iload (q := 41) 6 rfl dX11_blame_39 rfl ?_
  refine x_aloadn (q := 42) 0 rfl rfl rfl dX11_blame_41 rfl ?_
  refine x_getr (q := 45) dX11_blame_42 rfl fa_X11_9 sh_71 rfl ?_
  refine x_iconst (q := 46) dX11_blame_45 rfl ?_
  refine x_iald (q := 47) dX11_blame_46 rfl sh_72 (by decide) (by decide) (fun r12 => ?_)
  obtain ⟨s13, H⟩ := H
  obtain ⟨H1, H2⟩ := H
  refine x_icmp_ge (tgt := 86) (q := 50) dX11_blame_47 (by decide) rfl s13 r12 (fun hB => ?_) (fun hB => ?_)
  · have H := H1 (hB)
    refine x_iload (q := 88) 5 rfl dX11_blame_86 rfl ?_
    refine x_iloadn (q := 89) 3 rfl rfl dX11_blame_88 rfl ?_
    obtain ⟨⟨s16, s17⟩, H⟩ := H
    obtain ⟨H1, H2⟩ := H
    refine x_icmp_lt (tgt := 110) (q := 92) dX11_blame_89 (by decide) rfl s16 s17 (fun hB => ?_) (fun hB => ?_)
    · have H := H1 (hB)
      refine x_iconst (q := 111) dX11_blame_110 rfl ?_
      refine x_goto (tgt := 115) dX11_blame_111 (by decide) ?_
      refine x_istore (q := 117) (ls' := [(6, vI 1), (0, vR 71), (1, vI l1), (2, vI l2), (3, vI l3), (4, vI l4), (5, vI l5)]) (by decide) rfl dX11_blame_115 rfl ?_
      refine x_iload (q := 119) 5 rfl dX11_blame_117 rfl ?_
      refine x_callS (q := 122) (d := d - 1) (as := [vI l4]) (st := []) dX11_blame_119 rfl ms_X11_202 rfl rfl (by exact Nat.le_of_ble_eq_true rfl) ⟨by show _ ≤ d; omega, by show _ ≤ 40 * d; omega⟩ ⟨Nat.le_refl _, Nat.le_refl _⟩ (ct_bits ?_)
      show E_X11_blame G d 122 [(6, vI 1), (0, vR 71), (1, vI l1), (2, vI l2), (3, vI l3), (4, vI l4), (5, vI l5)] [vI (sm 12 (fun k => iand (ishr l4 k) 1))] mem Q
      refine x_aloadn (q := 123) 1 rfl rfl rfl dX11_blame_122 rfl ?_
      refine x_getr (q := 126) dX11_blame_123 rfl fa_X11_9 sh_71 rfl ?_
      refine x_iconst (q := 127) dX11_blame_126 rfl ?_
      refine x_iald (q := 128) dX11_blame_127 rfl sh_72 (by decide) (by decide) (fun r20 => ?_)
      obtain ⟨s21, H⟩ := H
      obtain ⟨H1, H2⟩ := H
      refine x_icmp_gt (tgt := 142) (q := 131) dX11_blame_128 (by decide) rfl s21 r20 (fun hB => ?_) (fun hB => ?_)
      · have H := H1 (hB)
        refine x_iinc (q := 145) (ls' := [(4, vI (l4 + 1)), (6, vI 1), (0, vR 71), (1, vI l1), (2, vI l2), (3, vI l3), (5, vI l5)]) 5 rfl (by decide) rfl dX11_blame_142 rfl ?_
        refine x_goto (tgt := 24) dX11_blame_145 (by decide) ?_
        refine x_sub [2, 3, 4, 5, 0] rfl ?_
        exact H
      · have H := H2 (hB)
        refine x_iload (q := 133) 0 rfl dX11_blame_131 rfl ?_
        refine x_if_eq (tgt := 142) (q := 136) dX11_blame_133 (by decide) rfl (by decide) (fun h => absurd h (by decide)) (fun _ => ?_)
        refine x_iload (q := 138) 5 rfl dX11_blame_136 rfl ?_
        refine x_istoren (q := 139) (ls' := [(2, vI l4), (6, vI 1), (0, vR 71), (1, vI l1), (3, vI l3), (4, vI l4), (5, vI l5)]) rfl (by decide) rfl dX11_blame_138 rfl ?_
        refine x_iload (q := 141) 6 rfl dX11_blame_139 rfl ?_
        refine x_istoren (q := 142) (ls' := [(3, vI l5), (2, vI l4), (6, vI 1), (0, vR 71), (1, vI l1), (4, vI l4), (5, vI l5)]) rfl (by decide) rfl dX11_blame_141 rfl ?_
        refine x_iinc (q := 145) (ls' := [(4, vI (l4 + 1)), (3, vI l5), (2, vI l4), (6, vI 1), (0, vR 71), (1, vI l1), (5, vI l5)]) 5 rfl (by decide) rfl dX11_blame_142 rfl ?_
        refine x_goto (tgt := 24) dX11_blame_145 (by decide) ?_
        refine x_sub [4, 5, 2, 1, 0] rfl ?_
        exact H
    · have H := H2 (hB)
      refine x_iload (q := 94) 5 rfl dX11_blame_92 rfl ?_
      refine x_iloadn (q := 95) 3 rfl rfl dX11_blame_94 rfl ?_
      obtain ⟨H1, H2⟩ := H
      refine x_icmp_ne (tgt := 114) (q := 98) dX11_blame_95 (by decide) rfl s16 s17 (fun hB => ?_) (fun hB => ?_)
      · have H := H1 (hB)
        refine x_iconst (q := 115) dX11_blame_114 rfl ?_
        refine x_istore (q := 117) (ls' := [(6, vI 0), (0, vR 71), (1, vI l1), (2, vI l2), (3, vI l3), (4, vI l4), (5, vI l5)]) (by decide) rfl dX11_blame_115 rfl ?_
        refine x_iload (q := 119) 5 rfl dX11_blame_117 rfl ?_
        refine x_callS (q := 122) (d := d - 1) (as := [vI l4]) (st := []) dX11_blame_119 rfl ms_X11_202 rfl rfl (by exact Nat.le_of_ble_eq_true rfl) ⟨by show _ ≤ d; omega, by show _ ≤ 40 * d; omega⟩ ⟨Nat.le_refl _, Nat.le_refl _⟩ (ct_bits ?_)
        show E_X11_blame G d 122 [(6, vI 0), (0, vR 71), (1, vI l1), (2, vI l2), (3, vI l3), (4, vI l4), (5, vI l5)] [vI (sm 12 (fun k => iand (ishr l4 k) 1))] mem Q
        refine x_aloadn (q := 123) 1 rfl rfl rfl dX11_blame_122 rfl ?_
        refine x_getr (q := 126) dX11_blame_123 rfl fa_X11_9 sh_71 rfl ?_
        refine x_iconst (q := 127) dX11_blame_126 rfl ?_
        refine x_iald (q := 128) dX11_blame_127 rfl sh_72 (by decide) (by decide) (fun r26 => ?_)
        obtain ⟨s27, H⟩ := H
        obtain ⟨H1, H2⟩ := H
        refine x_icmp_gt (tgt := 142) (q := 131) dX11_blame_128 (by decide) rfl s27 r26 (fun hB => ?_) (fun hB => ?_)
        · have H := H1 (hB)
          refine x_iinc (q := 145) (ls' := [(4, vI (l4 + 1)), (6, vI 0), (0, vR 71), (1, vI l1), (2, vI l2), (3, vI l3), (5, vI l5)]) 5 rfl (by decide) rfl dX11_blame_142 rfl ?_
          refine x_goto (tgt := 24) dX11_blame_145 (by decide) ?_
          refine x_sub [2, 3, 4, 5, 0] rfl ?_
          exact H
        · have H := H2 (hB)
          refine x_iload (q := 133) 0 rfl dX11_blame_131 rfl ?_
          refine x_if_eq (tgt := 142) (q := 136) dX11_blame_133 (by decide) rfl (by decide) (fun _ => ?_) (fun h => absurd (by decide) h)
          refine x_iinc (q := 145) (ls' := [(4, vI (l4 + 1)), (6, vI 0), (0, vR 71), (1, vI l1), (2, vI l2), (3, vI l3), (5, vI l5)]) 5 rfl (by decide) rfl dX11_blame_142 rfl ?_
          refine x_goto (tgt := 24) dX11_blame_145 (by decide) ?_
          refine x_sub [2, 3, 4, 5, 0] rfl ?_
          exact H
      · have H := H2 (hB)
        refine x_iload (q := 100) 4 rfl dX11_blame_98 rfl ?_
        refine x_callS (q := 103) (d := d - 1) (as := [vI l4]) (st := []) dX11_blame_100 rfl ms_X11_202 rfl rfl (by exact Nat.le_of_ble_eq_true rfl) ⟨by show _ ≤ d; omega, by show _ ≤ 40 * d; omega⟩ ⟨Nat.le_refl _, Nat.le_refl _⟩ (ct_bits ?_)
        show E_X11_blame G d 103 [(0, vR 71), (1, vI l1), (2, vI l2), (3, vI l3), (4, vI l4), (5, vI l5), (6, vI l6)] [vI (sm 12 (fun k => iand (ishr l4 k) 1))] mem Q
        refine x_iloadn (q := 104) 2 rfl rfl dX11_blame_103 rfl ?_
        refine x_callS (q := 107) (d := d - 1) (as := [vI l2]) (st := [vI (sm 12 (fun k => iand (ishr l4 k) 1))]) dX11_blame_104 rfl ms_X11_202 rfl rfl (by exact Nat.le_of_ble_eq_true rfl) ⟨by show _ ≤ d; omega, by show _ ≤ 40 * d; omega⟩ ⟨Nat.le_refl _, Nat.le_refl _⟩ (ct_bits ?_)
        show E_X11_blame G d 107 [(0, vR 71), (1, vI l1), (2, vI l2), (3, vI l3), (4, vI l4), (5, vI l5), (6, vI l6)] [vI (sm 12 (fun k => iand (ishr l2 k) 1)), vI (sm 12 (fun k => iand (ishr l4 k) 1))] mem Q
        obtain ⟨⟨s30, s31⟩, H⟩ := H
        obtain ⟨H1, H2⟩ := H
        refine x_icmp_ge (tgt := 114) (q := 110) dX11_blame_107 (by decide) rfl s30 s31 (fun hB => ?_) (fun hB => ?_)
        · have H := H1 (hB)
          refine x_iconst (q := 115) dX11_blame_114 rfl ?_
          refine x_istore (q := 117) (ls' := [(6, vI 0), (0, vR 71), (1, vI l1), (2, vI l2), (3, vI l3), (4, vI l4), (5, vI l5)]) (by decide) rfl dX11_blame_115 rfl ?_
          refine x_iload (q := 119) 5 rfl dX11_blame_117 rfl ?_
          refine x_callS (q := 122) (d := d - 1) (as := [vI l4]) (st := []) dX11_blame_119 rfl ms_X11_202 rfl rfl (by exact Nat.le_of_ble_eq_true rfl) ⟨by show _ ≤ d; omega, by show _ ≤ 40 * d; omega⟩ ⟨Nat.le_refl _, Nat.le_refl _⟩ (ct_bits ?_)
          show E_X11_blame G d 122 [(6, vI 0), (0, vR 71), (1, vI l1), (2, vI l2), (3, vI l3), (4, vI l4), (5, vI l5)] [vI (sm 12 (fun k => iand (ishr l4 k) 1))] mem Q
          refine x_aloadn (q := 123) 1 rfl rfl rfl dX11_blame_122 rfl ?_
          refine x_getr (q := 126) dX11_blame_123 rfl fa_X11_9 sh_71 rfl ?_
          refine x_iconst (q := 127) dX11_blame_126 rfl ?_
          refine x_iald (q := 128) dX11_blame_127 rfl sh_72 (by decide) (by decide) (fun r34 => ?_)
          obtain ⟨H1, H2⟩ := H
          refine x_icmp_gt (tgt := 142) (q := 131) dX11_blame_128 (by decide) rfl s30 r34 (fun hB => ?_) (fun hB => ?_)
          · have H := H1 (hB)
            refine x_iinc (q := 145) (ls' := [(4, vI (l4 + 1)), (6, vI 0), (0, vR 71), (1, vI l1), (2, vI l2), (3, vI l3), (5, vI l5)]) 5 rfl (by decide) rfl dX11_blame_142 rfl ?_
            refine x_goto (tgt := 24) dX11_blame_145 (by decide) ?_
            refine x_sub [2, 3, 4, 5, 0] rfl ?_
            exact H
          · have H := H2 (hB)
            refine x_iload (q := 133) 0 rfl dX11_blame_131 rfl ?_
            refine x_if_eq (tgt := 142) (q := 136) dX11_blame_133 (by decide) rfl (by decide) (fun _ => ?_) (fun h => absurd (by decide) h)
            refine x_iinc (q := 145) (ls' := [(4, vI (l4 + 1)), (6, vI 0), (0, vR 71), (1, vI l1), (2, vI l2), (3, vI l3), (5, vI l5)]) 5 rfl (by decide) rfl dX11_blame_142 rfl ?_
            refine x_goto (tgt := 24) dX11_blame_145 (by decide) ?_
            refine x_sub [2, 3, 4, 5, 0] rfl ?_
            exact H
        · have H := H2 (hB)
          refine x_iconst (q := 111) dX11_blame_110 rfl ?_
          refine x_goto (tgt := 115) dX11_blame_111 (by decide) ?_
          refine x_istore (q := 117) (ls' := [(6, vI 1), (0, vR 71), (1, vI l1), (2, vI l2), (3, vI l3), (4, vI l4), (5, vI l5)]) (by decide) rfl dX11_blame_115 rfl ?_
          refine x_iload (q := 119) 5 rfl dX11_blame_117 rfl ?_
          refine x_callS (q := 122) (d := d - 1) (as := [vI l4]) (st := []) dX11_blame_119 rfl ms_X11_202 rfl rfl (by exact Nat.le_of_ble_eq_true rfl) ⟨by show _ ≤ d; omega, by show _ ≤ 40 * d; omega⟩ ⟨Nat.le_refl _, Nat.le_refl _⟩ (ct_bits ?_)
          show E_X11_blame G d 122 [(6, vI 1), (0, vR 71), (1, vI l1), (2, vI l2), (3, vI l3), (4, vI l4), (5, vI l5)] [vI (sm 12 (fun k => iand (ishr l4 k) 1))] mem Q
          refine x_aloadn (q := 123) 1 rfl rfl rfl dX11_blame_122 rfl ?_
          refine x_getr (q := 126) dX11_blame_123 rfl fa_X11_9 sh_71 rfl ?_
          refine x_iconst (q := 127) dX11_blame_126 rfl ?_
          refine x_iald (q := 128) dX11_blame_127 rfl sh_72 (by decide) (by decide) (fun r37 => ?_)
          obtain ⟨H1, H2⟩ := H
          refine x_icmp_gt (tgt := 142) (q := 131) dX11_blame_128 (by decide) rfl s30 r37 (fun hB => ?_) (fun hB => ?_)
          · have H := H1 (hB)
            refine x_iinc (q := 145) (ls' := [(4, vI (l4 + 1)), (6, vI 1), (0, vR 71), (1, vI l1), (2, vI l2), (3, vI l3), (5, vI l5)]) 5 rfl (by decide) rfl dX11_blame_142 rfl ?_
            refine x_goto (tgt := 24) dX11_blame_145 (by decide) ?_
            refine x_sub [2, 3, 4, 5, 0] rfl ?_
            exact H
          · have H := H2 (hB)
            refine x_iload (q := 133) 0 rfl dX11_blame_131 rfl ?_
            refine x_if_eq (tgt := 142) (q := 136) dX11_blame_133 (by decide) rfl (by decide) (fun h => absurd h (by decide)) (fun _ => ?_)
            refine x_iload (q := 138) 5 rfl dX11_blame_136 rfl ?_
            refine x_istoren (q := 139) (ls' := [(2, vI l4), (6, vI 1), (0, vR 71), (1, vI l1), (3, vI l3), (4, vI l4), (5, vI l5)]) rfl (by decide) rfl dX11_blame_138 rfl ?_
            refine x_iload (q := 141) 6 rfl dX11_blame_139 rfl ?_
            refine x_istoren (q := 142) (ls' := [(3, vI l5), (2, vI l4), (6, vI 1), (0, vR 71), (1, vI l1), (4, vI l4), (5, vI l5)]) rfl (by decide) rfl dX11_blame_141 rfl ?_
            refine x_iinc (q := 145) (ls' := [(4, vI (l4 + 1)), (3, vI l5), (2, vI l4), (6, vI 1), (0, vR 71), (1, vI l1), (5, vI l5)]) 5 rfl (by decide) rfl dX11_blame_142 rfl ?_
            refine x_goto (tgt := 24) dX11_blame_145 (by decide) ?_
            refine x_sub [4, 5, 2, 1, 0] rfl ?_
            exact H
  · have H := H2 (hB)
    refine x_iload (q := 52) 5 rfl dX11_blame_50 rfl ?_
    refine x_aloadn (q := 53) 0 rfl rfl rfl dX11_blame_52 rfl ?_
    refine x_iload (q := 55) 6 rfl dX11_blame_53 rfl ?_
    obtain ⟨⟨s40, s41⟩, H⟩ := H
    refine x_callV (q := 58) (d := d - 1) (as := [vI l6]) (st := [vI l5]) dX11_blame_55 rfl mv_X11_111 sh_71 rfl rfl rfl (by exact Nat.le_of_ble_eq_true rfl) ⟨by show _ ≤ d; omega, by show _ ≤ 40 * d; omega⟩ ⟨Nat.le_refl _, Nat.le_refl _⟩ (ct_counts (by omega) s40 s41 ?_)
    show E_X11_blame G d 58 [(0, vR 71), (1, vI l1), (2, vI l2), (3, vI l3), (4, vI l4), (5, vI l5), (6, vI l6)] [vI (bz (mem 72 (185 + 4 * l6 + 3) = 1)), vI l5] mem Q
    obtain ⟨H1, H2⟩ := H
    refine x_if_eq (tgt := 76) (q := 61) dX11_blame_58 (by decide) rfl (bz_inr _) (fun hB => ?_) (fun hB => ?_)
    · have H := H1 (bz_0.mp hB)
      refine x_iconst (q := 77) dX11_blame_76 rfl ?_
      refine x_iadd (q := 78) dX11_blame_77 rfl ?_
      refine x_istore (q := 80) (ls' := [(5, vI (l5 + 0)), (0, vR 71), (1, vI l1), (2, vI l2), (3, vI l3), (4, vI l4), (6, vI l6)]) (by decide) rfl dX11_blame_78 rfl ?_
      refine x_iinc (q := 83) (ls' := [(6, vI (l6 + 1)), (5, vI (l5 + 0)), (0, vR 71), (1, vI l1), (2, vI l2), (3, vI l3), (4, vI l4)]) 6 rfl (by decide) rfl dX11_blame_80 rfl ?_
      refine x_goto (tgt := 39) dX11_blame_83 (by decide) ?_
      refine x_sub [2, 3, 4, 5, 6, 1, 0] rfl ?_
      exact H
    · have H := H2 (Classical.byContradiction (fun z => hB (bz_0.mpr z)))
      refine x_aloadn (q := 62) 0 rfl rfl rfl dX11_blame_61 rfl ?_
      refine x_iload (q := 64) 4 rfl dX11_blame_62 rfl ?_
      refine x_iload (q := 66) 6 rfl dX11_blame_64 rfl ?_
      refine x_callV (q := 69) (d := d - 1) (as := [vI l4, vI l6]) (st := [vI l5]) dX11_blame_66 rfl mv_X11_205 sh_71 rfl rfl rfl (by exact Nat.le_of_ble_eq_true rfl) ⟨by show _ ≤ d; omega, by show _ ≤ 40 * d; omega⟩ ⟨Nat.le_refl _, Nat.le_refl _⟩ (Ct.mono H (fun r9 m44 H => ?_))
      obtain ⟨z45, rfl, H⟩ := H
      show E_X11_blame G d 69 [(0, vR 71), (1, vI l1), (2, vI l2), (3, vI l3), (4, vI l4), (5, vI l5), (6, vI l6)] [vI z45, vI l5] m44 Q
      obtain ⟨s46, H⟩ := H
      obtain ⟨H1, H2⟩ := H
      refine x_if_ne (tgt := 76) (q := 72) dX11_blame_69 (by decide) rfl s46 (fun hB => ?_) (fun hB => ?_)
      · have H := H1 (hB)
        refine x_iconst (q := 77) dX11_blame_76 rfl ?_
        refine x_iadd (q := 78) dX11_blame_77 rfl ?_
        refine x_istore (q := 80) (ls' := [(5, vI (l5 + 0)), (0, vR 71), (1, vI l1), (2, vI l2), (3, vI l3), (4, vI l4), (6, vI l6)]) (by decide) rfl dX11_blame_78 rfl ?_
        refine x_iinc (q := 83) (ls' := [(6, vI (l6 + 1)), (5, vI (l5 + 0)), (0, vR 71), (1, vI l1), (2, vI l2), (3, vI l3), (4, vI l4)]) 6 rfl (by decide) rfl dX11_blame_80 rfl ?_
        refine x_goto (tgt := 39) dX11_blame_83 (by decide) ?_
        refine x_sub [2, 3, 4, 5, 6, 1, 0] rfl ?_
        exact H
      · have H := H2 (hB)
        refine x_iconst (q := 73) dX11_blame_72 rfl ?_
        refine x_goto (tgt := 77) dX11_blame_73 (by decide) ?_
        refine x_iadd (q := 78) dX11_blame_77 rfl ?_
        refine x_istore (q := 80) (ls' := [(5, vI (l5 + 1)), (0, vR 71), (1, vI l1), (2, vI l2), (3, vI l3), (4, vI l4), (6, vI l6)]) (by decide) rfl dX11_blame_78 rfl ?_
        refine x_iinc (q := 83) (ls' := [(6, vI (l6 + 1)), (5, vI (l5 + 1)), (0, vR 71), (1, vI l1), (2, vI l2), (3, vI l3), (4, vI l4)]) 6 rfl (by decide) rfl dX11_blame_80 rfl ?_
        refine x_goto (tgt := 39) dX11_blame_83 (by decide) ?_
        refine x_sub [2, 3, 4, 5, 6, 1, 0] rfl ?_
        exact H
set_option maxRecDepth 20000 in
set_option maxHeartbeats 4000000 in
theorem B_X11_leads {G : GT} {d : Nat} {l1 : Int} {mem : Mem} {Q : Option AV → Mem → Prop} (hd : 2 ≤ d) (H : (inr l1) ∧ ((0 ≤ mem 72 0) ∧ (((0 ≤ l1 ∧ l1 < mem 72 0) → (E_X11_leads G d 22 [(0, vR 71), (2, vI (ishl 1 l1)), (3, vI 0)] [] mem Q)) ∧ (¬ (0 ≤ l1 ∧ l1 < mem 72 0) → (∀ m5 : Mem, m5 = fndM mem (-1000001) → (Q (some (vI (-1000001))) m5)))))) : C_X11_leads G d [vR 71, vI l1] mem Q := by
  refine Ct_of_Ex (by decide +kernel) (by exact Nat.le_of_ble_eq_true rfl) (ls := [(0, vR 71), (1, vI l1)]) rfl ?_
  show E_X11_leads G d 0 [(0, vR 71), (1, vI l1)] [] mem Q
  refine x_aloadn (q := 1) 0 rfl rfl rfl dX11_leads_0 rfl ?_
  refine x_iloadn (q := 2) 1 rfl rfl dX11_leads_1 rfl ?_
  refine x_iconst (q := 3) dX11_leads_2 rfl ?_
  obtain ⟨s1, H⟩ := H
  obtain ⟨s2, H⟩ := H
  refine x_callV (q := 6) (d := d - 1) (as := [vI l1, vI 0]) (st := []) dX11_leads_3 rfl mv_X11_101 sh_71 rfl rfl rfl (by exact Nat.le_of_ble_eq_true rfl) ⟨by show _ ≤ d; omega, by show _ ≤ 40 * d; omega⟩ ⟨Nat.le_refl _, Nat.le_refl _⟩ ((fun hq9 => ct_is (by omega) (by decide) (by decide) s1 (fun _ => hq9) s2)  ?_)
  show E_X11_leads G d 6 [(0, vR 71), (1, vI l1)] [vI (bz (0 ≤ l1 ∧ l1 < mem 72 0))] mem Q
  obtain ⟨H1, H2⟩ := H
  refine x_if_ne (tgt := 16) (q := 9) dX11_leads_6 (by decide) rfl (bz_inr _) (fun hB => ?_) (fun hB => ?_)
  · have H := H1 (bz_n0.mp hB)
    refine x_iconst (q := 17) dX11_leads_16 rfl ?_
    refine x_iloadn (q := 18) 1 rfl rfl dX11_leads_17 rfl ?_
    refine x_ishl (q := 19) dX11_leads_18 rfl ?_
    refine x_istoren (q := 20) (ls' := [(2, vI (ishl 1 l1)), (0, vR 71), (1, vI l1)]) rfl (by decide) rfl dX11_leads_19 rfl ?_
    refine x_iconst (q := 21) dX11_leads_20 rfl ?_
    refine x_istoren (q := 22) (ls' := [(3, vI 0), (2, vI (ishl 1 l1)), (0, vR 71), (1, vI l1)]) rfl (by decide) rfl dX11_leads_21 rfl ?_
    refine x_sub [2, 1, 0] rfl ?_
    exact H
  · have H := H2 (fun z => hB (bz_n0.mpr z))
    refine x_aloadn (q := 10) 0 rfl rfl rfl dX11_leads_9 rfl ?_
    refine x_ldc (q := 12) (z := (-1000001)) cn_X11_87 (by decide) dX11_leads_10 rfl ?_
    obtain ⟨m5, em5⟩ : ∃ m9 : Mem, m9 = fndM mem (-1000001) := ⟨_, rfl⟩
    have H := H m5 em5
    refine x_callV (q := 15) (d := d - 1) (as := [vI (-1000001)]) (st := []) dX11_leads_12 rfl mv_X11_88 sh_71 rfl rfl rfl (by exact Nat.le_of_ble_eq_true rfl) ⟨by show _ ≤ d; omega, by show _ ≤ 40 * d; omega⟩ ⟨Nat.le_refl _, Nat.le_refl _⟩ (ct_finding (by decide) (by decide) ?_)
    rw [← em5]
    show E_X11_leads G d 15 [(0, vR 71), (1, vI l1)] [vI (-1000001)] m5 Q
    exact x_iret rfl dX11_leads_15 H
set_option maxRecDepth 20000 in
set_option maxHeartbeats 4000000 in
theorem B_X11_leads_22 {G : GT} {d : Nat} {l2 : Int} {l3 : Int} {mem : Mem} {Q : Option AV → Mem → Prop} (hd : 2 ≤ d) (H : (inr l2 ∧ inr l3) ∧ (((l2 = l3) → (Q (some (vI l2)) mem)) ∧ (¬ (l2 = l3) → (E_X11_leads G d 32 [(0, vR 71), (2, vI l2), (3, vI l2), (4, vI 0)] [] mem Q)))) : E_X11_leads G d 22 [(0, vR 71), (2, vI l2), (3, vI l3)] [] mem Q := by
  refine x_iloadn (q := 23) 1 rfl rfl dX11_leads_22 rfl ?_
  refine x_iloadn (q := 24) 2 rfl rfl dX11_leads_23 rfl ?_
  obtain ⟨⟨s6, s7⟩, H⟩ := H
  obtain ⟨H1, H2⟩ := H
  refine x_icmp_eq (tgt := 140) (q := 27) dX11_leads_24 (by decide) rfl s6 s7 (fun hB => ?_) (fun hB => ?_)
  · have H := H1 (hB)
    refine x_iloadn (q := 141) 1 rfl rfl dX11_leads_140 rfl ?_
    exact x_iret rfl dX11_leads_141 H
  · have H := H2 (hB)
    refine x_iloadn (q := 28) 1 rfl rfl dX11_leads_27 rfl ?_
    refine x_istoren (q := 29) (ls' := [(3, vI l2), (0, vR 71), (2, vI l2)]) rfl (by decide) rfl dX11_leads_28 rfl ?_
    refine x_iconst (q := 30) dX11_leads_29 rfl ?_
    refine x_istore (q := 32) (ls' := [(4, vI 0), (3, vI l2), (0, vR 71), (2, vI l2)]) (by decide) rfl dX11_leads_30 rfl ?_
    refine x_sub [2, 3, 1, 0] rfl ?_
    exact H
set_option maxRecDepth 20000 in
set_option maxHeartbeats 4000000 in
theorem B_X11_leads_32 {G : GT} {d : Nat} {l2 : Int} {l3 : Int} {l4 : Int} {mem : Mem} {Q : Option AV → Mem → Prop} (hd : 2 ≤ d) (H : (inr l4) ∧ (((mem 72 1 ≤ l4) → (E_X11_leads G d 22 [(0, vR 71), (2, vI l2), (3, vI l3)] [] mem Q)) ∧ (¬ (mem 72 1 ≤ l4) → ((0 ≤ 185 + 4 * l4 + 0 ∧ 185 + 4 * l4 + 0 < 553) ∧ ((0 ≤ 5 + 3 * (mem 72 (185 + 4 * l4 + 0)) + 0 ∧ 5 + 3 * (mem 72 (185 + 4 * l4 + 0)) + 0 < 553) ∧ ((0 ≤ l4 ∧ l4 < 60) ∧ ((¬ (mem 72 (185 + 4 * l4 + 3) = 1) → (E_X11_leads G d 32 [(0, vR 71), (2, vI (ior l2 0)), (3, vI l3), (4, vI (l4 + 1))] [] mem Q)) ∧ ((mem 72 (185 + 4 * l4 + 3) = 1) → ((0 ≤ 185 + 4 * l4 + 2 ∧ 185 + 4 * l4 + 2 < 553) ∧ (((mem 72 (185 + 4 * l4 + 2) ≠ 1) → (E_X11_leads G d 32 [(0, vR 71), (2, vI (ior l2 0)), (3, vI l3), (4, vI (l4 + 1))] [] mem Q)) ∧ (¬ (mem 72 (185 + 4 * l4 + 2) ≠ 1) → (((mem 72 (5 + 3 * (mem 72 (185 + 4 * l4 + 0)) + 0) = 3) → (E_X11_leads G d 32 [(0, vR 71), (2, vI (ior l2 0)), (3, vI l3), (4, vI (l4 + 1))] [] mem Q)) ∧ (¬ (mem 72 (5 + 3 * (mem 72 (185 + 4 * l4 + 0)) + 0) = 3) → (((mem 72 (5 + 3 * (mem 72 (185 + 4 * l4 + 0)) + 0) = 5) → (E_X11_leads G d 32 [(0, vR 71), (2, vI (ior l2 0)), (3, vI l3), (4, vI (l4 + 1))] [] mem Q)) ∧ (¬ (mem 72 (5 + 3 * (mem 72 (185 + 4 * l4 + 0)) + 0) = 5) → ((0 ≤ 185 + 4 * l4 + 0 ∧ 185 + 4 * l4 + 0 < 553) ∧ ((¬ (iand (ishr l2 (mem 72 (185 + 4 * l4 + 0))) 1 = 1) → (E_X11_leads G d 32 [(0, vR 71), (2, vI (ior l2 0)), (3, vI l3), (4, vI (l4 + 1))] [] mem Q)) ∧ ((iand (ishr l2 (mem 72 (185 + 4 * l4 + 0))) 1 = 1) → ((0 ≤ 185 + 4 * l4 + 1 ∧ 185 + 4 * l4 + 1 < 553) ∧ (E_X11_leads G d 32 [(0, vR 71), (2, vI (ior l2 (ishl 1 (mem 72 (185 + 4 * l4 + 1))))), (3, vI l3), (4, vI (l4 + 1))] [] mem Q)))))))))))))))))))) : E_X11_leads G d 32 [(0, vR 71), (2, vI l2), (3, vI l3), (4, vI l4)] [] mem Q := by
  refine x_iload (q := 34) 3 rfl dX11_leads_32 rfl ?_
  refine x_aloadn (q := 35) 0 rfl rfl rfl dX11_leads_34 rfl ?_
  refine x_getr (q := 38) dX11_leads_35 rfl fa_X11_9 sh_71 rfl ?_
  refine x_iconst (q := 39) dX11_leads_38 rfl ?_
  refine x_iald (q := 40) dX11_leads_39 rfl sh_72 (by decide) (by decide) (fun r10 => ?_)
  obtain ⟨s11, H⟩ := H
  obtain ⟨H1, H2⟩ := H
  refine x_icmp_ge (tgt := 137) (q := 43) dX11_leads_40 (by decide) rfl s11 r10 (fun hB => ?_) (fun hB => ?_)
  · have H := H1 (hB)
    refine x_goto (tgt := 22) dX11_leads_137 (by decide) ?_
    refine x_sub [0, 1, 2] rfl ?_
    exact H
  · have H := H2 (hB)
    refine x_aloadn (q := 44) 0 rfl rfl rfl dX11_leads_43 rfl ?_
    refine x_aloadn (q := 45) 0 rfl rfl rfl dX11_leads_44 rfl ?_
    refine x_iload (q := 47) 3 rfl dX11_leads_45 rfl ?_
    refine x_iconst (q := 48) dX11_leads_47 rfl ?_
    obtain ⟨⟨s14, s15⟩, H⟩ := H
    refine x_callV (q := 51) (d := d - 1) (as := [vI l4, vI 0]) (st := [vR 71]) dX11_leads_48 rfl mv_X11_97 sh_71 rfl rfl rfl (by exact Nat.le_of_ble_eq_true rfl) ⟨by show _ ≤ d; omega, by show _ ≤ 40 * d; omega⟩ ⟨Nat.le_refl _, Nat.le_refl _⟩ (ct_saying s14 s15 ?_)
    show E_X11_leads G d 51 [(0, vR 71), (2, vI l2), (3, vI l3), (4, vI l4)] [vI (mem 72 (185 + 4 * l4 + 0)), vR 71] mem Q
    refine x_iconst (q := 52) dX11_leads_51 rfl ?_
    obtain ⟨⟨s16, s17⟩, H⟩ := H
    refine x_callV (q := 55) (d := d - 1) (as := [vI (mem 72 (185 + 4 * l4 + 0)), vI 0]) (st := []) dX11_leads_52 rfl mv_X11_105 sh_71 rfl rfl rfl (by exact Nat.le_of_ble_eq_true rfl) ⟨by show _ ≤ d; omega, by show _ ≤ 40 * d; omega⟩ ⟨Nat.le_refl _, Nat.le_refl _⟩ (ct_machine11 s16 s17 ?_)
    show E_X11_leads G d 55 [(0, vR 71), (2, vI l2), (3, vI l3), (4, vI l4)] [vI (mem 72 (5 + 3 * (mem 72 (185 + 4 * l4 + 0)) + 0))] mem Q
    refine x_istore (q := 57) (ls' := [(5, vI (mem 72 (5 + 3 * (mem 72 (185 + 4 * l4 + 0)) + 0))), (0, vR 71), (2, vI l2), (3, vI l3), (4, vI l4)]) (by decide) rfl dX11_leads_55 rfl ?_
    refine x_aloadn (q := 58) 1 rfl rfl rfl dX11_leads_57 rfl ?_
    refine x_iload (q := 60) 4 rfl dX11_leads_58 rfl ?_
    obtain ⟨⟨s18, s19⟩, H⟩ := H
    refine x_callV (q := 63) (d := d - 1) (as := [vI l4]) (st := []) dX11_leads_60 rfl mv_X11_111 sh_71 rfl rfl rfl (by exact Nat.le_of_ble_eq_true rfl) ⟨by show _ ≤ d; omega, by show _ ≤ 40 * d; omega⟩ ⟨Nat.le_refl _, Nat.le_refl _⟩ (ct_counts (by omega) s18 s19 ?_)
    show E_X11_leads G d 63 [(5, vI (mem 72 (5 + 3 * (mem 72 (185 + 4 * l4 + 0)) + 0))), (0, vR 71), (2, vI l2), (3, vI l3), (4, vI l4)] [vI (bz (mem 72 (185 + 4 * l4 + 3) = 1))] mem Q
    obtain ⟨H1, H2⟩ := H
    refine x_if_eq (tgt := 107) (q := 66) dX11_leads_63 (by decide) rfl (bz_inr _) (fun hB => ?_) (fun hB => ?_)
    · have H := H1 (bz_0.mp hB)
      refine x_iconst (q := 108) dX11_leads_107 rfl ?_
      refine x_istore (q := 110) (ls' := [(6, vI 0), (5, vI (mem 72 (5 + 3 * (mem 72 (185 + 4 * l4 + 0)) + 0))), (0, vR 71), (2, vI l2), (3, vI l3), (4, vI l4)]) (by decide) rfl dX11_leads_108 rfl ?_
      refine x_iloadn (q := 111) 3 rfl rfl dX11_leads_110 rfl ?_
      refine x_iload (q := 113) 0 rfl dX11_leads_111 rfl ?_
      refine x_if_eq (tgt := 128) (q := 116) dX11_leads_113 (by decide) rfl (by decide) (fun _ => ?_) (fun h => absurd (by decide) h)
      refine x_iconst (q := 129) dX11_leads_128 rfl ?_
      refine x_ior (q := 130) dX11_leads_129 rfl ?_
      refine x_istoren (q := 131) (ls' := [(2, vI (ior l2 0)), (6, vI 0), (5, vI (mem 72 (5 + 3 * (mem 72 (185 + 4 * l4 + 0)) + 0))), (0, vR 71), (3, vI l3), (4, vI l4)]) rfl (by decide) rfl dX11_leads_130 rfl ?_
      refine x_iinc (q := 134) (ls' := [(4, vI (l4 + 1)), (2, vI (ior l2 0)), (6, vI 0), (5, vI (mem 72 (5 + 3 * (mem 72 (185 + 4 * l4 + 0)) + 0))), (0, vR 71), (3, vI l3)]) 5 rfl (by decide) rfl dX11_leads_131 rfl ?_
      refine x_goto (tgt := 32) dX11_leads_134 (by decide) ?_
      refine x_sub [4, 1, 5, 0] rfl ?_
      exact H
    · have H := H2 (Classical.byContradiction (fun z => hB (bz_0.mpr z)))
      refine x_aloadn (q := 67) 1 rfl rfl rfl dX11_leads_66 rfl ?_
      refine x_iload (q := 69) 4 rfl dX11_leads_67 rfl ?_
      refine x_iconst (q := 70) dX11_leads_69 rfl ?_
      obtain ⟨⟨s22, s23⟩, H⟩ := H
      refine x_callV (q := 73) (d := d - 1) (as := [vI l4, vI 2]) (st := []) dX11_leads_70 rfl mv_X11_97 sh_71 rfl rfl rfl (by exact Nat.le_of_ble_eq_true rfl) ⟨by show _ ≤ d; omega, by show _ ≤ 40 * d; omega⟩ ⟨Nat.le_refl _, Nat.le_refl _⟩ (ct_saying s22 s23 ?_)
      show E_X11_leads G d 73 [(5, vI (mem 72 (5 + 3 * (mem 72 (185 + 4 * l4 + 0)) + 0))), (0, vR 71), (2, vI l2), (3, vI l3), (4, vI l4)] [vI (mem 72 (185 + 4 * l4 + 2))] mem Q
      refine x_iconst (q := 74) dX11_leads_73 rfl ?_
      refine x_ok (fun hm24 => ?_)
      obtain ⟨H1, H2⟩ := H
      refine x_icmp_ne (tgt := 107) (q := 77) dX11_leads_74 (by decide) rfl (ok_ai hm24 sh_72 (by decide) _) (by decide) (fun hB => ?_) (fun hB => ?_)
      · have H := H1 (hB)
        refine x_iconst (q := 108) dX11_leads_107 rfl ?_
        refine x_istore (q := 110) (ls' := [(6, vI 0), (5, vI (mem 72 (5 + 3 * (mem 72 (185 + 4 * l4 + 0)) + 0))), (0, vR 71), (2, vI l2), (3, vI l3), (4, vI l4)]) (by decide) rfl dX11_leads_108 rfl ?_
        refine x_iloadn (q := 111) 3 rfl rfl dX11_leads_110 rfl ?_
        refine x_iload (q := 113) 0 rfl dX11_leads_111 rfl ?_
        refine x_if_eq (tgt := 128) (q := 116) dX11_leads_113 (by decide) rfl (by decide) (fun _ => ?_) (fun h => absurd (by decide) h)
        refine x_iconst (q := 129) dX11_leads_128 rfl ?_
        refine x_ior (q := 130) dX11_leads_129 rfl ?_
        refine x_istoren (q := 131) (ls' := [(2, vI (ior l2 0)), (6, vI 0), (5, vI (mem 72 (5 + 3 * (mem 72 (185 + 4 * l4 + 0)) + 0))), (0, vR 71), (3, vI l3), (4, vI l4)]) rfl (by decide) rfl dX11_leads_130 rfl ?_
        refine x_iinc (q := 134) (ls' := [(4, vI (l4 + 1)), (2, vI (ior l2 0)), (6, vI 0), (5, vI (mem 72 (5 + 3 * (mem 72 (185 + 4 * l4 + 0)) + 0))), (0, vR 71), (3, vI l3)]) 5 rfl (by decide) rfl dX11_leads_131 rfl ?_
        refine x_goto (tgt := 32) dX11_leads_134 (by decide) ?_
        refine x_sub [4, 1, 5, 0] rfl ?_
        exact H
      · have H := H2 (hB)
        refine x_iload (q := 79) 0 rfl dX11_leads_77 rfl ?_
        refine x_iconst (q := 80) dX11_leads_79 rfl ?_
        refine x_ok (fun hm27 => ?_)
        obtain ⟨H1, H2⟩ := H
        refine x_icmp_eq (tgt := 107) (q := 83) dX11_leads_80 (by decide) rfl (ok_ai hm27 sh_72 (by decide) _) (by decide) (fun hB => ?_) (fun hB => ?_)
        · have H := H1 (hB)
          refine x_iconst (q := 108) dX11_leads_107 rfl ?_
          refine x_istore (q := 110) (ls' := [(6, vI 0), (5, vI (mem 72 (5 + 3 * (mem 72 (185 + 4 * l4 + 0)) + 0))), (0, vR 71), (2, vI l2), (3, vI l3), (4, vI l4)]) (by decide) rfl dX11_leads_108 rfl ?_
          refine x_iloadn (q := 111) 3 rfl rfl dX11_leads_110 rfl ?_
          refine x_iload (q := 113) 0 rfl dX11_leads_111 rfl ?_
          refine x_if_eq (tgt := 128) (q := 116) dX11_leads_113 (by decide) rfl (by decide) (fun _ => ?_) (fun h => absurd (by decide) h)
          refine x_iconst (q := 129) dX11_leads_128 rfl ?_
          refine x_ior (q := 130) dX11_leads_129 rfl ?_
          refine x_istoren (q := 131) (ls' := [(2, vI (ior l2 0)), (6, vI 0), (5, vI (mem 72 (5 + 3 * (mem 72 (185 + 4 * l4 + 0)) + 0))), (0, vR 71), (3, vI l3), (4, vI l4)]) rfl (by decide) rfl dX11_leads_130 rfl ?_
          refine x_iinc (q := 134) (ls' := [(4, vI (l4 + 1)), (2, vI (ior l2 0)), (6, vI 0), (5, vI (mem 72 (5 + 3 * (mem 72 (185 + 4 * l4 + 0)) + 0))), (0, vR 71), (3, vI l3)]) 5 rfl (by decide) rfl dX11_leads_131 rfl ?_
          refine x_goto (tgt := 32) dX11_leads_134 (by decide) ?_
          refine x_sub [4, 1, 5, 0] rfl ?_
          exact H
        · have H := H2 (hB)
          refine x_iload (q := 85) 0 rfl dX11_leads_83 rfl ?_
          refine x_iconst (q := 86) dX11_leads_85 rfl ?_
          obtain ⟨H1, H2⟩ := H
          refine x_icmp_eq (tgt := 107) (q := 89) dX11_leads_86 (by decide) rfl (ok_ai hm27 sh_72 (by decide) _) (by decide) (fun hB => ?_) (fun hB => ?_)
          · have H := H1 (hB)
            refine x_iconst (q := 108) dX11_leads_107 rfl ?_
            refine x_istore (q := 110) (ls' := [(6, vI 0), (5, vI (mem 72 (5 + 3 * (mem 72 (185 + 4 * l4 + 0)) + 0))), (0, vR 71), (2, vI l2), (3, vI l3), (4, vI l4)]) (by decide) rfl dX11_leads_108 rfl ?_
            refine x_iloadn (q := 111) 3 rfl rfl dX11_leads_110 rfl ?_
            refine x_iload (q := 113) 0 rfl dX11_leads_111 rfl ?_
            refine x_if_eq (tgt := 128) (q := 116) dX11_leads_113 (by decide) rfl (by decide) (fun _ => ?_) (fun h => absurd (by decide) h)
            refine x_iconst (q := 129) dX11_leads_128 rfl ?_
            refine x_ior (q := 130) dX11_leads_129 rfl ?_
            refine x_istoren (q := 131) (ls' := [(2, vI (ior l2 0)), (6, vI 0), (5, vI (mem 72 (5 + 3 * (mem 72 (185 + 4 * l4 + 0)) + 0))), (0, vR 71), (3, vI l3), (4, vI l4)]) rfl (by decide) rfl dX11_leads_130 rfl ?_
            refine x_iinc (q := 134) (ls' := [(4, vI (l4 + 1)), (2, vI (ior l2 0)), (6, vI 0), (5, vI (mem 72 (5 + 3 * (mem 72 (185 + 4 * l4 + 0)) + 0))), (0, vR 71), (3, vI l3)]) 5 rfl (by decide) rfl dX11_leads_131 rfl ?_
            refine x_goto (tgt := 32) dX11_leads_134 (by decide) ?_
            refine x_sub [4, 1, 5, 0] rfl ?_
            exact H
          · have H := H2 (hB)
            refine x_iloadn (q := 90) 2 rfl rfl dX11_leads_89 rfl ?_
            refine x_aloadn (q := 91) 1 rfl rfl rfl dX11_leads_90 rfl ?_
            refine x_iload (q := 93) 4 rfl dX11_leads_91 rfl ?_
            refine x_iconst (q := 94) dX11_leads_93 rfl ?_
            obtain ⟨⟨s32, s33⟩, H⟩ := H
            refine x_callV (q := 97) (d := d - 1) (as := [vI l4, vI 0]) (st := [vI l2]) dX11_leads_94 rfl mv_X11_97 sh_71 rfl rfl rfl (by exact Nat.le_of_ble_eq_true rfl) ⟨by show _ ≤ d; omega, by show _ ≤ 40 * d; omega⟩ ⟨Nat.le_refl _, Nat.le_refl _⟩ (ct_saying s32 s33 ?_)
            show E_X11_leads G d 97 [(5, vI (mem 72 (5 + 3 * (mem 72 (185 + 4 * l4 + 0)) + 0))), (0, vR 71), (2, vI l2), (3, vI l3), (4, vI l4)] [vI (mem 72 (185 + 4 * l4 + 0)), vI l2] mem Q
            refine x_callS (q := 100) (d := d - 1) (as := [vI l2, vI (mem 72 (185 + 4 * l4 + 0))]) (st := []) dX11_leads_97 rfl ms_X11_195 rfl rfl (by exact Nat.le_of_ble_eq_true rfl) ⟨by show _ ≤ d; omega, by show _ ≤ 40 * d; omega⟩ ⟨Nat.le_refl _, Nat.le_refl _⟩ (ct_hasb ?_)
            show E_X11_leads G d 100 [(5, vI (mem 72 (5 + 3 * (mem 72 (185 + 4 * l4 + 0)) + 0))), (0, vR 71), (2, vI l2), (3, vI l3), (4, vI l4)] [vI (bz (iand (ishr l2 (mem 72 (185 + 4 * l4 + 0))) 1 = 1))] mem Q
            obtain ⟨H1, H2⟩ := H
            refine x_if_eq (tgt := 107) (q := 103) dX11_leads_100 (by decide) rfl (bz_inr _) (fun hB => ?_) (fun hB => ?_)
            · have H := H1 (bz_0.mp hB)
              refine x_iconst (q := 108) dX11_leads_107 rfl ?_
              refine x_istore (q := 110) (ls' := [(6, vI 0), (5, vI (mem 72 (5 + 3 * (mem 72 (185 + 4 * l4 + 0)) + 0))), (0, vR 71), (2, vI l2), (3, vI l3), (4, vI l4)]) (by decide) rfl dX11_leads_108 rfl ?_
              refine x_iloadn (q := 111) 3 rfl rfl dX11_leads_110 rfl ?_
              refine x_iload (q := 113) 0 rfl dX11_leads_111 rfl ?_
              refine x_if_eq (tgt := 128) (q := 116) dX11_leads_113 (by decide) rfl (by decide) (fun _ => ?_) (fun h => absurd (by decide) h)
              refine x_iconst (q := 129) dX11_leads_128 rfl ?_
              refine x_ior (q := 130) dX11_leads_129 rfl ?_
              refine x_istoren (q := 131) (ls' := [(2, vI (ior l2 0)), (6, vI 0), (5, vI (mem 72 (5 + 3 * (mem 72 (185 + 4 * l4 + 0)) + 0))), (0, vR 71), (3, vI l3), (4, vI l4)]) rfl (by decide) rfl dX11_leads_130 rfl ?_
              refine x_iinc (q := 134) (ls' := [(4, vI (l4 + 1)), (2, vI (ior l2 0)), (6, vI 0), (5, vI (mem 72 (5 + 3 * (mem 72 (185 + 4 * l4 + 0)) + 0))), (0, vR 71), (3, vI l3)]) 5 rfl (by decide) rfl dX11_leads_131 rfl ?_
              refine x_goto (tgt := 32) dX11_leads_134 (by decide) ?_
              refine x_sub [4, 1, 5, 0] rfl ?_
              exact H
            · have H := H2 (Classical.byContradiction (fun z => hB (bz_0.mpr z)))
              refine x_iconst (q := 104) dX11_leads_103 rfl ?_
              refine x_goto (tgt := 108) dX11_leads_104 (by decide) ?_
              refine x_istore (q := 110) (ls' := [(6, vI 1), (5, vI (mem 72 (5 + 3 * (mem 72 (185 + 4 * l4 + 0)) + 0))), (0, vR 71), (2, vI l2), (3, vI l3), (4, vI l4)]) (by decide) rfl dX11_leads_108 rfl ?_
              refine x_iloadn (q := 111) 3 rfl rfl dX11_leads_110 rfl ?_
              refine x_iload (q := 113) 0 rfl dX11_leads_111 rfl ?_
              refine x_if_eq (tgt := 128) (q := 116) dX11_leads_113 (by decide) rfl (by decide) (fun h => absurd h (by decide)) (fun _ => ?_)
              refine x_iconst (q := 117) dX11_leads_116 rfl ?_
              refine x_aloadn (q := 118) 2 rfl rfl rfl dX11_leads_117 rfl ?_
              refine x_iload (q := 120) 5 rfl dX11_leads_118 rfl ?_
              refine x_iconst (q := 121) dX11_leads_120 rfl ?_
              obtain ⟨⟨s36, s37⟩, H⟩ := H
              refine x_callV (q := 124) (d := d - 1) (as := [vI l4, vI 1]) (st := [vI 1, vI l2]) dX11_leads_121 rfl mv_X11_97 sh_71 rfl rfl rfl (by exact Nat.le_of_ble_eq_true rfl) ⟨by show _ ≤ d; omega, by show _ ≤ 40 * d; omega⟩ ⟨Nat.le_refl _, Nat.le_refl _⟩ (ct_saying s36 s37 ?_)
              show E_X11_leads G d 124 [(6, vI 1), (5, vI (mem 72 (5 + 3 * (mem 72 (185 + 4 * l4 + 0)) + 0))), (0, vR 71), (2, vI l2), (3, vI l3), (4, vI l4)] [vI (mem 72 (185 + 4 * l4 + 1)), vI 1, vI l2] mem Q
              refine x_ishl (q := 125) dX11_leads_124 rfl ?_
              refine x_goto (tgt := 129) dX11_leads_125 (by decide) ?_
              refine x_ior (q := 130) dX11_leads_129 rfl ?_
              refine x_istoren (q := 131) (ls' := [(2, vI (ior l2 (ishl 1 (mem 72 (185 + 4 * l4 + 1))))), (6, vI 1), (5, vI (mem 72 (5 + 3 * (mem 72 (185 + 4 * l4 + 0)) + 0))), (0, vR 71), (3, vI l3), (4, vI l4)]) rfl (by decide) rfl dX11_leads_130 rfl ?_
              refine x_iinc (q := 134) (ls' := [(4, vI (l4 + 1)), (2, vI (ior l2 (ishl 1 (mem 72 (185 + 4 * l4 + 1))))), (6, vI 1), (5, vI (mem 72 (5 + 3 * (mem 72 (185 + 4 * l4 + 0)) + 0))), (0, vR 71), (3, vI l3)]) 5 rfl (by decide) rfl dX11_leads_131 rfl ?_
              refine x_goto (tgt := 32) dX11_leads_134 (by decide) ?_
              refine x_sub [4, 1, 5, 0] rfl ?_
              exact H
set_option maxRecDepth 20000 in
set_option maxHeartbeats 4000000 in
theorem B_X11_likely {G : GT} {d : Nat}  {mem : Mem} {Q : Option AV → Mem → Prop} (hd : 1 ≤ d) (H : C_X11_findFitting G (d - 1) [vR 71] mem (fun r9 m1 => r9 = none ∧ (E_X11_likely G d 11 [(0, vR 71), (1, vI (-1)), (2, vL 0), (4, vI 0)] [] m1 Q))) : C_X11_likely G d [vR 71] mem Q := by
  refine Ct_of_Ex (by decide +kernel) (by exact Nat.le_of_ble_eq_true rfl) (ls := [(0, vR 71)]) rfl ?_
  show E_X11_likely G d 0 [(0, vR 71)] [] mem Q
  refine x_aloadn (q := 1) 0 rfl rfl rfl dX11_likely_0 rfl ?_
  refine x_callV (q := 4) (d := d - 1) (as := []) (st := []) dX11_likely_1 rfl mv_X11_216 sh_71 rfl rfl rfl (by exact Nat.le_of_ble_eq_true rfl) ⟨by show _ ≤ d; omega, by show _ ≤ 40 * d; omega⟩ ⟨Nat.le_refl _, Nat.le_refl _⟩ (Ct.mono H (fun r9 m1 H => ?_))
  obtain ⟨rfl, H⟩ := H
  show E_X11_likely G d 4 [(0, vR 71)] [] m1 Q
  refine x_iconst (q := 5) dX11_likely_4 rfl ?_
  refine x_istoren (q := 6) (ls' := [(1, vI (-1)), (0, vR 71)]) rfl (by decide) rfl dX11_likely_5 rfl ?_
  refine x_lconst (q := 7) (v := 0) rfl dX11_likely_6 rfl ?_
  refine x_lstoren (q := 8) (ls' := [(2, vL 0), (1, vI (-1)), (0, vR 71)]) rfl (by decide) rfl dX11_likely_7 rfl ?_
  refine x_iconst (q := 9) dX11_likely_8 rfl ?_
  refine x_istore (q := 11) (ls' := [(4, vI 0), (2, vL 0), (1, vI (-1)), (0, vR 71)]) (by decide) rfl dX11_likely_9 rfl ?_
  refine x_sub [3, 2, 1, 0] rfl ?_
  exact H
set_option maxRecDepth 20000 in
set_option maxHeartbeats 4000000 in
theorem B_X11_likely_11 {G : GT} {d : Nat} {l1 : Int} {l2 : Int} {l4 : Int} {mem : Mem} {Q : Option AV → Mem → Prop} (hd : 1 ≤ d) (H : (inr l4) ∧ (((mem 71 12 ≤ l4) → ((inr l1) ∧ (((0 ≤ l1) → (Q (some (vI l1)) mem)) ∧ (¬ (0 ≤ l1) → (∀ m9 : Mem, m9 = fndM mem (-1000002) → (Q (some (vI (-1000002))) m9)))))) ∧ (¬ (mem 71 12 ≤ l4) → ((0 ≤ l4 ∧ l4 < 4096) ∧ (C_X11_weightOf G (d - 1) [vR 71, vI (mem 77 l4)] mem (fun r9 m13 => ∃ z14 : Int, r9 = some (vL z14) ∧ ((inl z14 ∧ inl l2) ∧ (((lcmp z14 l2 ≤ 0) → (E_X11_likely G d 11 [(0, vR 71), (1, vI l1), (2, vL l2), (4, vI (l4 + 1))] [] m13 Q)) ∧ (¬ (lcmp z14 l2 ≤ 0) → (E_X11_likely G d 11 [(0, vR 71), (1, vI (m13 77 l4)), (2, vL z14), (4, vI (l4 + 1))] [] m13 Q)))))))))) : E_X11_likely G d 11 [(0, vR 71), (1, vI l1), (2, vL l2), (4, vI l4)] [] mem Q := by
  refine x_iload (q := 13) 3 rfl dX11_likely_11 rfl ?_
  refine x_aloadn (q := 14) 0 rfl rfl rfl dX11_likely_13 rfl ?_
  refine x_geti (q := 17) (ji := 12) dX11_likely_14 rfl fa_X11_213 sh_71 rfl rfl (fun r2 => ?_)
  obtain ⟨s3, H⟩ := H
  obtain ⟨H1, H2⟩ := H
  refine x_icmp_ge (tgt := 57) (q := 20) dX11_likely_17 (by decide) rfl s3 r2 (fun hB => ?_) (fun hB => ?_)
  · have H := H1 (hB)
    refine x_iloadn (q := 58) 1 rfl rfl dX11_likely_57 rfl ?_
    obtain ⟨s6, H⟩ := H
    obtain ⟨H1, H2⟩ := H
    refine x_if_ge (tgt := 70) (q := 61) dX11_likely_58 (by decide) rfl s6 (fun hB => ?_) (fun hB => ?_)
    · have H := H1 (hB)
      refine x_iloadn (q := 71) 1 rfl rfl dX11_likely_70 rfl ?_
      exact x_iret rfl dX11_likely_71 H
    · have H := H2 (hB)
      refine x_aloadn (q := 62) 0 rfl rfl rfl dX11_likely_61 rfl ?_
      refine x_ldc (q := 64) (z := (-1000002)) cn_X11_219 (by decide) dX11_likely_62 rfl ?_
      obtain ⟨m9, em9⟩ : ∃ m9 : Mem, m9 = fndM mem (-1000002) := ⟨_, rfl⟩
      have H := H m9 em9
      refine x_callV (q := 67) (d := d - 1) (as := [vI (-1000002)]) (st := []) dX11_likely_64 rfl mv_X11_88 sh_71 rfl rfl rfl (by exact Nat.le_of_ble_eq_true rfl) ⟨by show _ ≤ d; omega, by show _ ≤ 40 * d; omega⟩ ⟨Nat.le_refl _, Nat.le_refl _⟩ (ct_finding (by decide) (by decide) ?_)
      rw [← em9]
      show E_X11_likely G d 67 [(0, vR 71), (1, vI l1), (2, vL l2), (4, vI l4)] [vI (-1000002)] m9 Q
      refine x_goto (tgt := 71) dX11_likely_67 (by decide) ?_
      exact x_iret rfl dX11_likely_71 H
  · have H := H2 (hB)
    refine x_aloadn (q := 21) 0 rfl rfl rfl dX11_likely_20 rfl ?_
    refine x_aloadn (q := 22) 0 rfl rfl rfl dX11_likely_21 rfl ?_
    refine x_getr (q := 25) dX11_likely_22 rfl fa_X11_40 sh_71 rfl ?_
    refine x_iload (q := 27) 3 rfl dX11_likely_25 rfl ?_
    obtain ⟨⟨s10, s11⟩, H⟩ := H
    refine x_iald (q := 28) dX11_likely_27 rfl sh_77 s10 s11 (fun r12 => ?_)
    refine x_callV (q := 31) (d := d - 1) (as := [vI (mem 77 l4)]) (st := []) dX11_likely_28 rfl mv_X11_251 sh_71 rfl rfl rfl (by exact Nat.le_of_ble_eq_true rfl) ⟨by show _ ≤ d; omega, by show _ ≤ 40 * d; omega⟩ ⟨Nat.le_refl _, Nat.le_refl _⟩ (Ct.mono H (fun r9 m13 H => ?_))
    obtain ⟨z14, rfl, H⟩ := H
    show E_X11_likely G d 31 [(0, vR 71), (1, vI l1), (2, vL l2), (4, vI l4)] [vL z14] m13 Q
    refine x_lstore (q := 33) (ls' := [(5, vL z14), (0, vR 71), (1, vI l1), (2, vL l2), (4, vI l4)]) (by decide) rfl dX11_likely_31 rfl ?_
    refine x_lload (q := 35) 0 rfl dX11_likely_33 rfl ?_
    refine x_lloadn (q := 36) 3 rfl rfl dX11_likely_35 rfl ?_
    obtain ⟨⟨s15, s16⟩, H⟩ := H
    refine x_lcmp (q := 37) s15 s16 dX11_likely_36 rfl ?_
    obtain ⟨H1, H2⟩ := H
    refine x_if_le (tgt := 51) (q := 40) dX11_likely_37 (by decide) rfl (lcmp_inr _ _) (fun hB => ?_) (fun hB => ?_)
    · have H := H1 (hB)
      refine x_iinc (q := 54) (ls' := [(4, vI (l4 + 1)), (5, vL z14), (0, vR 71), (1, vI l1), (2, vL l2)]) 4 rfl (by decide) rfl dX11_likely_51 rfl ?_
      refine x_goto (tgt := 11) dX11_likely_54 (by decide) ?_
      refine x_sub [2, 3, 4, 0] rfl ?_
      exact H
    · have H := H2 (hB)
      refine x_aloadn (q := 41) 1 rfl rfl rfl dX11_likely_40 rfl ?_
      refine x_getr (q := 44) dX11_likely_41 rfl fa_X11_40 sh_71 rfl ?_
      refine x_iload (q := 46) 4 rfl dX11_likely_44 rfl ?_
      refine x_iald (q := 47) dX11_likely_46 rfl sh_77 s10 s11 (fun r19 => ?_)
      refine x_istoren (q := 48) (ls' := [(1, vI (m13 77 l4)), (5, vL z14), (0, vR 71), (2, vL l2), (4, vI l4)]) rfl (by decide) rfl dX11_likely_47 rfl ?_
      refine x_lload (q := 50) 1 rfl dX11_likely_48 rfl ?_
      refine x_lstoren (q := 51) (ls' := [(2, vL z14), (1, vI (m13 77 l4)), (5, vL z14), (0, vR 71), (4, vI l4)]) rfl (by decide) rfl dX11_likely_50 rfl ?_
      refine x_iinc (q := 54) (ls' := [(4, vI (l4 + 1)), (2, vL z14), (1, vI (m13 77 l4)), (5, vL z14), (0, vR 71)]) 4 rfl (by decide) rfl dX11_likely_51 rfl ?_
      refine x_goto (tgt := 11) dX11_likely_54 (by decide) ?_
      refine x_sub [4, 2, 1, 0] rfl ?_
      exact H
set_option maxRecDepth 20000 in
set_option maxHeartbeats 4000000 in
theorem B_X11_check {G : GT} {d : Nat}  {mem : Mem} {Q : Option AV → Mem → Prop} (hd : 1 ≤ d) (H : ∀ m2 : Mem, m2 = upM mem 72 4 0 → (C_X11_findFitting G (d - 1) [vR 71] m2 (fun r9 m3 => r9 = none ∧ (E_X11_check G d 20 [(0, vR 71), (1, vI (mem 72 4)), (2, vI 0)] [] m3 Q)))) : C_X11_check G d [vR 71] mem Q := by
  refine Ct_of_Ex (by decide +kernel) (by exact Nat.le_of_ble_eq_true rfl) (ls := [(0, vR 71)]) rfl ?_
  show E_X11_check G d 0 [(0, vR 71)] [] mem Q
  refine x_aloadn (q := 1) 0 rfl rfl rfl dX11_check_0 rfl ?_
  refine x_getr (q := 4) dX11_check_1 rfl fa_X11_9 sh_71 rfl ?_
  refine x_iconst (q := 5) dX11_check_4 rfl ?_
  refine x_iald (q := 6) dX11_check_5 rfl sh_72 (by decide) (by decide) (fun r1 => ?_)
  refine x_istoren (q := 7) (ls' := [(1, vI (mem 72 4)), (0, vR 71)]) rfl (by decide) rfl dX11_check_6 rfl ?_
  refine x_aloadn (q := 8) 1 rfl rfl rfl dX11_check_7 rfl ?_
  refine x_getr (q := 11) dX11_check_8 rfl fa_X11_9 sh_71 rfl ?_
  refine x_iconst (q := 12) dX11_check_11 rfl ?_
  refine x_iconst (q := 13) dX11_check_12 rfl ?_
  refine x_iast (q := 14) dX11_check_13 rfl sh_72 (by decide) (by decide) (by decide) (fun m2 em2 => ?_)
  have H := H m2 em2
  refine x_aloadn (q := 15) 1 rfl rfl rfl dX11_check_14 rfl ?_
  refine x_callV (q := 18) (d := d - 1) (as := []) (st := []) dX11_check_15 rfl mv_X11_216 sh_71 rfl rfl rfl (by exact Nat.le_of_ble_eq_true rfl) ⟨by show _ ≤ d; omega, by show _ ≤ 40 * d; omega⟩ ⟨Nat.le_refl _, Nat.le_refl _⟩ (Ct.mono H (fun r9 m3 H => ?_))
  obtain ⟨rfl, H⟩ := H
  show E_X11_check G d 18 [(1, vI (mem 72 4)), (0, vR 71)] [] m3 Q
  refine x_iconst (q := 19) dX11_check_18 rfl ?_
  refine x_istoren (q := 20) (ls' := [(2, vI 0), (1, vI (mem 72 4)), (0, vR 71)]) rfl (by decide) rfl dX11_check_19 rfl ?_
  refine x_sub [2, 1, 0] rfl ?_
  exact H
set_option maxRecDepth 20000 in
set_option maxHeartbeats 4000000 in
theorem B_X11_check_20 {G : GT} {d : Nat} {l1 : Int} {l2 : Int} {mem : Mem} {Q : Option AV → Mem → Prop} (hd : 1 ≤ d) (H : (inr l2 ∧ inr l1) ∧ (((l1 ≤ l2) → (Q (some (vI 0)) mem)) ∧ (¬ (l1 ≤ l2) → (((mem 71 12 ≤ l2) → (Q (some (vI (1 + l2))) mem)) ∧ (¬ (mem 71 12 ≤ l2) → ((0 ≤ 505 + l2 ∧ 505 + l2 < 553) ∧ ((0 ≤ l2 ∧ l2 < 4096) ∧ (((mem 72 (505 + l2) = mem 77 l2) → (E_X11_check G d 20 [(0, vR 71), (1, vI l1), (2, vI (l2 + 1))] [] mem Q)) ∧ (¬ (mem 72 (505 + l2) = mem 77 l2) → (Q (some (vI (1 + l2))) mem)))))))))) : E_X11_check G d 20 [(0, vR 71), (1, vI l1), (2, vI l2)] [] mem Q := by
  refine x_iloadn (q := 21) 2 rfl rfl dX11_check_20 rfl ?_
  refine x_iloadn (q := 22) 1 rfl rfl dX11_check_21 rfl ?_
  obtain ⟨⟨s4, s5⟩, H⟩ := H
  obtain ⟨H1, H2⟩ := H
  refine x_icmp_ge (tgt := 62) (q := 25) dX11_check_22 (by decide) rfl s4 s5 (fun hB => ?_) (fun hB => ?_)
  · have H := H1 (hB)
    refine x_iconst (q := 63) dX11_check_62 rfl ?_
    exact x_iret rfl dX11_check_63 H
  · have H := H2 (hB)
    refine x_iloadn (q := 26) 2 rfl rfl dX11_check_25 rfl ?_
    refine x_aloadn (q := 27) 0 rfl rfl rfl dX11_check_26 rfl ?_
    refine x_geti (q := 30) (ji := 12) dX11_check_27 rfl fa_X11_213 sh_71 rfl rfl (fun r8 => ?_)
    obtain ⟨H1, H2⟩ := H
    refine x_icmp_ge (tgt := 52) (q := 33) dX11_check_30 (by decide) rfl s4 r8 (fun hB => ?_) (fun hB => ?_)
    · have H := H1 (hB)
      refine x_iconst (q := 53) dX11_check_52 rfl ?_
      refine x_iloadn (q := 54) 2 rfl rfl dX11_check_53 rfl ?_
      refine x_iadd (q := 55) dX11_check_54 rfl ?_
      exact x_iret rfl dX11_check_55 H
    · have H := H2 (hB)
      refine x_aloadn (q := 34) 0 rfl rfl rfl dX11_check_33 rfl ?_
      refine x_getr (q := 37) dX11_check_34 rfl fa_X11_9 sh_71 rfl ?_
      refine x_sipush (q := 40) rfl dX11_check_37 rfl ?_
      refine x_iloadn (q := 41) 2 rfl rfl dX11_check_40 rfl ?_
      refine x_iadd (q := 42) dX11_check_41 rfl ?_
      obtain ⟨⟨s11, s12⟩, H⟩ := H
      refine x_iald (q := 43) dX11_check_42 rfl sh_72 s11 s12 (fun r13 => ?_)
      refine x_aloadn (q := 44) 0 rfl rfl rfl dX11_check_43 rfl ?_
      refine x_getr (q := 47) dX11_check_44 rfl fa_X11_40 sh_71 rfl ?_
      refine x_iloadn (q := 48) 2 rfl rfl dX11_check_47 rfl ?_
      obtain ⟨⟨s14, s15⟩, H⟩ := H
      refine x_iald (q := 49) dX11_check_48 rfl sh_77 s14 s15 (fun r16 => ?_)
      obtain ⟨H1, H2⟩ := H
      refine x_icmp_eq (tgt := 56) (q := 52) dX11_check_49 (by decide) rfl r13 r16 (fun hB => ?_) (fun hB => ?_)
      · have H := H1 (hB)
        refine x_iinc (q := 59) (ls' := [(2, vI (l2 + 1)), (0, vR 71), (1, vI l1)]) 2 rfl (by decide) rfl dX11_check_56 rfl ?_
        refine x_goto (tgt := 20) dX11_check_59 (by decide) ?_
        refine x_sub [1, 2, 0] rfl ?_
        exact H
      · have H := H2 (hB)
        refine x_iconst (q := 53) dX11_check_52 rfl ?_
        refine x_iloadn (q := 54) 2 rfl rfl dX11_check_53 rfl ?_
        refine x_iadd (q := 55) dX11_check_54 rfl ?_
        exact x_iret rfl dX11_check_55 H
set_option maxRecDepth 20000 in
set_option maxHeartbeats 4000000 in
theorem B_X11_known {G : GT} {d : Nat}  {mem : Mem} {Q : Option AV → Mem → Prop} (hd : 1 ≤ d) (H : C_X11_findFree G (d - 1) [vR 71] mem (fun r9 m1 => r9 = none ∧ (C_X11_knownWith G (d - 1) [vR 71, vI 0, vI 0] m1 (fun r9 m2 => ∃ z3 : Int, r9 = some (vI z3) ∧ (Q (some (vI z3)) m2))))) : C_X11_known G d [vR 71] mem Q := by
  refine Ct_of_Ex (by decide +kernel) (by exact Nat.le_of_ble_eq_true rfl) (ls := [(0, vR 71)]) rfl ?_
  show E_X11_known G d 0 [(0, vR 71)] [] mem Q
  refine x_aloadn (q := 1) 0 rfl rfl rfl dX11_known_0 rfl ?_
  refine x_callV (q := 4) (d := d - 1) (as := []) (st := []) dX11_known_1 rfl mv_X11_226 sh_71 rfl rfl rfl (by exact Nat.le_of_ble_eq_true rfl) ⟨by show _ ≤ d; omega, by show _ ≤ 40 * d; omega⟩ ⟨Nat.le_refl _, Nat.le_refl _⟩ (Ct.mono H (fun r9 m1 H => ?_))
  obtain ⟨rfl, H⟩ := H
  show E_X11_known G d 4 [(0, vR 71)] [] m1 Q
  refine x_aloadn (q := 5) 0 rfl rfl rfl dX11_known_4 rfl ?_
  refine x_iconst (q := 6) dX11_known_5 rfl ?_
  refine x_iconst (q := 7) dX11_known_6 rfl ?_
  refine x_callV (q := 10) (d := d - 1) (as := [vI 0, vI 0]) (st := []) dX11_known_7 rfl mv_X11_229 sh_71 rfl rfl rfl (by exact Nat.le_of_ble_eq_true rfl) ⟨by show _ ≤ d; omega, by show _ ≤ 40 * d; omega⟩ ⟨Nat.le_refl _, Nat.le_refl _⟩ (Ct.mono H (fun r9 m2 H => ?_))
  obtain ⟨z3, rfl, H⟩ := H
  show E_X11_known G d 10 [(0, vR 71)] [vI z3] m2 Q
  exact x_iret rfl dX11_known_10 H
set_option maxRecDepth 20000 in
set_option maxHeartbeats 4000000 in
theorem B_X11_pair {G : GT} {d : Nat} {l1 : Int} {mem : Mem} {Q : Option AV → Mem → Prop} (hd : 1 ≤ d) (H : (inr l1) ∧ (((0 ≤ l1 ∧ l1 ≤ 1) → (C_X11_findFree G (d - 1) [vR 71] mem (fun r9 m4 => r9 = none ∧ (C_X11_unionWith G (d - 1) [vR 71, vI 0, vI 0] m4 (fun r9 m5 => ∃ z6 : Int, r9 = some (vI z6) ∧ ((inr z6) ∧ (((0 ≤ z6) → ((0 ≤ z6 ∧ z6 < 4096) ∧ ((inr ((sm 12 (fun k => iand (ishr (m5 80 z6) k) 1)) + 1)) ∧ (E_X11_pair G d 71 [(0, vR 71), (1, vI l1), (2, vI z6), (3, vI (Int.tdiv ((sm 12 (fun k => iand (ishr (m5 80 z6) k) 1)) + 1) 2)), (4, vI (iand z6 (ixor (m5 80 z6) (-1)))), (5, vI (iand z6 (ixor (m5 80 z6) (-1)))), (6, vI 0)] [] m5 Q)))) ∧ (¬ (0 ≤ z6) → (∀ m15 : Mem, m15 = fndM m5 (-1000002) → (Q (some (vI (-1000002))) m15)))))))))) ∧ (¬ (0 ≤ l1 ∧ l1 ≤ 1) → (∀ m16 : Mem, m16 = fndM mem (-1000001) → (Q (some (vI (-1000001))) m16))))) : C_X11_pair G d [vR 71, vI l1] mem Q := by
  refine Ct_of_Ex (by decide +kernel) (by exact Nat.le_of_ble_eq_true rfl) (ls := [(0, vR 71), (1, vI l1)]) rfl ?_
  show E_X11_pair G d 0 [(0, vR 71), (1, vI l1)] [] mem Q
  refine x_iloadn (q := 1) 1 rfl rfl dX11_pair_0 rfl ?_
  refine x_iconst (q := 2) dX11_pair_1 rfl ?_
  refine x_iconst (q := 3) dX11_pair_2 rfl ?_
  obtain ⟨s1, H⟩ := H
  refine x_callS (q := 6) (d := d - 1) (as := [vI l1, vI 0, vI 1]) (st := []) dX11_pair_3 rfl ms_X11_83 rfl rfl (by exact Nat.le_of_ble_eq_true rfl) ⟨by show _ ≤ d; omega, by show _ ≤ 40 * d; omega⟩ ⟨Nat.le_refl _, Nat.le_refl _⟩ (ct_within s1 (by decide) (by decide) ?_)
  show E_X11_pair G d 6 [(0, vR 71), (1, vI l1)] [vI (bz (0 ≤ l1 ∧ l1 ≤ 1))] mem Q
  obtain ⟨H1, H2⟩ := H
  refine x_if_ne (tgt := 16) (q := 9) dX11_pair_6 (by decide) rfl (bz_inr _) (fun hB => ?_) (fun hB => ?_)
  · have H := H1 (bz_n0.mp hB)
    refine x_aloadn (q := 17) 0 rfl rfl rfl dX11_pair_16 rfl ?_
    refine x_callV (q := 20) (d := d - 1) (as := []) (st := []) dX11_pair_17 rfl mv_X11_226 sh_71 rfl rfl rfl (by exact Nat.le_of_ble_eq_true rfl) ⟨by show _ ≤ d; omega, by show _ ≤ 40 * d; omega⟩ ⟨Nat.le_refl _, Nat.le_refl _⟩ (Ct.mono H (fun r9 m4 H => ?_))
    obtain ⟨rfl, H⟩ := H
    show E_X11_pair G d 20 [(0, vR 71), (1, vI l1)] [] m4 Q
    refine x_aloadn (q := 21) 0 rfl rfl rfl dX11_pair_20 rfl ?_
    refine x_iconst (q := 22) dX11_pair_21 rfl ?_
    refine x_iconst (q := 23) dX11_pair_22 rfl ?_
    refine x_callV (q := 26) (d := d - 1) (as := [vI 0, vI 0]) (st := []) dX11_pair_23 rfl mv_X11_223 sh_71 rfl rfl rfl (by exact Nat.le_of_ble_eq_true rfl) ⟨by show _ ≤ d; omega, by show _ ≤ 40 * d; omega⟩ ⟨Nat.le_refl _, Nat.le_refl _⟩ (Ct.mono H (fun r9 m5 H => ?_))
    obtain ⟨z6, rfl, H⟩ := H
    show E_X11_pair G d 26 [(0, vR 71), (1, vI l1)] [vI z6] m5 Q
    refine x_istoren (q := 27) (ls' := [(2, vI z6), (0, vR 71), (1, vI l1)]) rfl (by decide) rfl dX11_pair_26 rfl ?_
    refine x_iloadn (q := 28) 0 rfl rfl dX11_pair_27 rfl ?_
    obtain ⟨s7, H⟩ := H
    obtain ⟨H1, H2⟩ := H
    refine x_if_ge (tgt := 38) (q := 31) dX11_pair_28 (by decide) rfl s7 (fun hB => ?_) (fun hB => ?_)
    · have H := H1 (hB)
      refine x_aloadn (q := 39) 1 rfl rfl rfl dX11_pair_38 rfl ?_
      refine x_getr (q := 42) dX11_pair_39 rfl fa_X11_49 sh_71 rfl ?_
      refine x_iloadn (q := 43) 0 rfl rfl dX11_pair_42 rfl ?_
      obtain ⟨⟨s10, s11⟩, H⟩ := H
      refine x_iald (q := 44) dX11_pair_43 rfl sh_80 s10 s11 (fun r12 => ?_)
      refine x_callS (q := 47) (d := d - 1) (as := [vI (m5 80 z6)]) (st := []) dX11_pair_44 rfl ms_X11_202 rfl rfl (by exact Nat.le_of_ble_eq_true rfl) ⟨by show _ ≤ d; omega, by show _ ≤ 40 * d; omega⟩ ⟨Nat.le_refl _, Nat.le_refl _⟩ (ct_bits ?_)
      show E_X11_pair G d 47 [(2, vI z6), (0, vR 71), (1, vI l1)] [vI (sm 12 (fun k => iand (ishr (m5 80 z6) k) 1))] m5 Q
      refine x_iconst (q := 48) dX11_pair_47 rfl ?_
      refine x_iadd (q := 49) dX11_pair_48 rfl ?_
      refine x_iconst (q := 50) dX11_pair_49 rfl ?_
      obtain ⟨s13, H⟩ := H
      refine x_idiv (q := 51) s13 (by decide) (by decide) dX11_pair_50 rfl ?_
      refine x_istoren (q := 52) (ls' := [(3, vI (Int.tdiv ((sm 12 (fun k => iand (ishr (m5 80 z6) k) 1)) + 1) 2)), (2, vI z6), (0, vR 71), (1, vI l1)]) rfl (by decide) rfl dX11_pair_51 rfl ?_
      refine x_iloadn (q := 53) 1 rfl rfl dX11_pair_52 rfl ?_
      refine x_aloadn (q := 54) 2 rfl rfl rfl dX11_pair_53 rfl ?_
      refine x_getr (q := 57) dX11_pair_54 rfl fa_X11_49 sh_71 rfl ?_
      refine x_iloadn (q := 58) 1 rfl rfl dX11_pair_57 rfl ?_
      refine x_iald (q := 59) dX11_pair_58 rfl sh_80 s10 s11 (fun r14 => ?_)
      refine x_iconst (q := 60) dX11_pair_59 rfl ?_
      refine x_ixor (q := 61) dX11_pair_60 rfl ?_
      refine x_iand (q := 62) dX11_pair_61 rfl ?_
      refine x_istore (q := 64) (ls' := [(4, vI (iand z6 (ixor (m5 80 z6) (-1)))), (3, vI (Int.tdiv ((sm 12 (fun k => iand (ishr (m5 80 z6) k) 1)) + 1) 2)), (2, vI z6), (0, vR 71), (1, vI l1)]) (by decide) rfl dX11_pair_62 rfl ?_
      refine x_iload (q := 66) 0 rfl dX11_pair_64 rfl ?_
      refine x_istore (q := 68) (ls' := [(5, vI (iand z6 (ixor (m5 80 z6) (-1)))), (4, vI (iand z6 (ixor (m5 80 z6) (-1)))), (3, vI (Int.tdiv ((sm 12 (fun k => iand (ishr (m5 80 z6) k) 1)) + 1) 2)), (2, vI z6), (0, vR 71), (1, vI l1)]) (by decide) rfl dX11_pair_66 rfl ?_
      refine x_iconst (q := 69) dX11_pair_68 rfl ?_
      refine x_istore (q := 71) (ls' := [(6, vI 0), (5, vI (iand z6 (ixor (m5 80 z6) (-1)))), (4, vI (iand z6 (ixor (m5 80 z6) (-1)))), (3, vI (Int.tdiv ((sm 12 (fun k => iand (ishr (m5 80 z6) k) 1)) + 1) 2)), (2, vI z6), (0, vR 71), (1, vI l1)]) (by decide) rfl dX11_pair_69 rfl ?_
      refine x_sub [5, 6, 4, 3, 2, 1, 0] rfl ?_
      exact H
    · have H := H2 (hB)
      refine x_aloadn (q := 32) 1 rfl rfl rfl dX11_pair_31 rfl ?_
      refine x_ldc (q := 34) (z := (-1000002)) cn_X11_219 (by decide) dX11_pair_32 rfl ?_
      obtain ⟨m15, em15⟩ : ∃ m9 : Mem, m9 = fndM m5 (-1000002) := ⟨_, rfl⟩
      have H := H m15 em15
      refine x_callV (q := 37) (d := d - 1) (as := [vI (-1000002)]) (st := []) dX11_pair_34 rfl mv_X11_88 sh_71 rfl rfl rfl (by exact Nat.le_of_ble_eq_true rfl) ⟨by show _ ≤ d; omega, by show _ ≤ 40 * d; omega⟩ ⟨Nat.le_refl _, Nat.le_refl _⟩ (ct_finding (by decide) (by decide) ?_)
      rw [← em15]
      show E_X11_pair G d 37 [(2, vI z6), (0, vR 71), (1, vI l1)] [vI (-1000002)] m15 Q
      exact x_iret rfl dX11_pair_37 H
  · have H := H2 (fun z => hB (bz_n0.mpr z))
    refine x_aloadn (q := 10) 0 rfl rfl rfl dX11_pair_9 rfl ?_
    refine x_ldc (q := 12) (z := (-1000001)) cn_X11_87 (by decide) dX11_pair_10 rfl ?_
    obtain ⟨m16, em16⟩ : ∃ m9 : Mem, m9 = fndM mem (-1000001) := ⟨_, rfl⟩
    have H := H m16 em16
    refine x_callV (q := 15) (d := d - 1) (as := [vI (-1000001)]) (st := []) dX11_pair_12 rfl mv_X11_88 sh_71 rfl rfl rfl (by exact Nat.le_of_ble_eq_true rfl) ⟨by show _ ≤ d; omega, by show _ ≤ 40 * d; omega⟩ ⟨Nat.le_refl _, Nat.le_refl _⟩ (ct_finding (by decide) (by decide) ?_)
    rw [← em16]
    show E_X11_pair G d 15 [(0, vR 71), (1, vI l1)] [vI (-1000001)] m16 Q
    exact x_iret rfl dX11_pair_15 H
set_option maxRecDepth 20000 in
set_option maxHeartbeats 4000000 in
theorem B_X11_pair_71 {G : GT} {d : Nat} {l1 : Int} {l2 : Int} {l3 : Int} {l4 : Int} {l5 : Int} {l6 : Int} {mem : Mem} {Q : Option AV → Mem → Prop} (hd : 1 ≤ d) (H : (inr l6) ∧ (((mem 72 0 ≤ l6) → ((inr l1) ∧ (((l1 ≠ 0) → (Q (some (vI l5)) mem)) ∧ (¬ (l1 ≠ 0) → (Q (some (vI l4)) mem))))) ∧ (¬ (mem 72 0 ≤ l6) → ((0 ≤ l2 ∧ l2 < 4096) ∧ ((¬ (iand (ishr (mem 80 l2) l6) 1 = 1) → (E_X11_pair G d 71 [(0, vR 71), (1, vI l1), (2, vI l2), (3, vI l3), (4, vI l4), (5, vI l5), (6, vI (l6 + 1))] [] mem Q)) ∧ ((iand (ishr (mem 80 l2) l6) 1 = 1) → ((inr l3) ∧ (((l3 ≤ 0) → (((l3 ≤ 0) → (E_X11_pair G d 71 [(0, vR 71), (1, vI l1), (2, vI l2), (3, vI (l3 + (-1))), (4, vI (ior l4 0)), (5, vI (ior l5 (ishl 1 l6))), (6, vI (l6 + 1))] [] mem Q)) ∧ (¬ (l3 ≤ 0) → (E_X11_pair G d 71 [(0, vR 71), (1, vI l1), (2, vI l2), (3, vI (l3 + (-1))), (4, vI (ior l4 0)), (5, vI (ior l5 0)), (6, vI (l6 + 1))] [] mem Q)))) ∧ (¬ (l3 ≤ 0) → (((l3 ≤ 0) → (E_X11_pair G d 71 [(0, vR 71), (1, vI l1), (2, vI l2), (3, vI (l3 + (-1))), (4, vI (ior l4 (ishl 1 l6))), (5, vI (ior l5 (ishl 1 l6))), (6, vI (l6 + 1))] [] mem Q)) ∧ (¬ (l3 ≤ 0) → (E_X11_pair G d 71 [(0, vR 71), (1, vI l1), (2, vI l2), (3, vI (l3 + (-1))), (4, vI (ior l4 (ishl 1 l6))), (5, vI (ior l5 0)), (6, vI (l6 + 1))] [] mem Q)))))))))))) : E_X11_pair G d 71 [(0, vR 71), (1, vI l1), (2, vI l2), (3, vI l3), (4, vI l4), (5, vI l5), (6, vI l6)] [] mem Q := by
  refine x_iload (q := 73) 6 rfl dX11_pair_71 rfl ?_
  refine x_aloadn (q := 74) 0 rfl rfl rfl dX11_pair_73 rfl ?_
  refine x_getr (q := 77) dX11_pair_74 rfl fa_X11_9 sh_71 rfl ?_
  refine x_iconst (q := 78) dX11_pair_77 rfl ?_
  refine x_iald (q := 79) dX11_pair_78 rfl sh_72 (by decide) (by decide) (fun r17 => ?_)
  obtain ⟨s18, H⟩ := H
  obtain ⟨H1, H2⟩ := H
  refine x_icmp_ge (tgt := 139) (q := 82) dX11_pair_79 (by decide) rfl s18 r17 (fun hB => ?_) (fun hB => ?_)
  · have H := H1 (hB)
    refine x_iloadn (q := 140) 1 rfl rfl dX11_pair_139 rfl ?_
    obtain ⟨s21, H⟩ := H
    obtain ⟨H1, H2⟩ := H
    refine x_if_ne (tgt := 148) (q := 143) dX11_pair_140 (by decide) rfl s21 (fun hB => ?_) (fun hB => ?_)
    · have H := H1 (hB)
      refine x_iload (q := 150) 5 rfl dX11_pair_148 rfl ?_
      exact x_iret rfl dX11_pair_150 H
    · have H := H2 (hB)
      refine x_iload (q := 145) 4 rfl dX11_pair_143 rfl ?_
      refine x_goto (tgt := 150) dX11_pair_145 (by decide) ?_
      exact x_iret rfl dX11_pair_150 H
  · have H := H2 (hB)
    refine x_aloadn (q := 83) 0 rfl rfl rfl dX11_pair_82 rfl ?_
    refine x_getr (q := 86) dX11_pair_83 rfl fa_X11_49 sh_71 rfl ?_
    refine x_iloadn (q := 87) 2 rfl rfl dX11_pair_86 rfl ?_
    obtain ⟨⟨s24, s25⟩, H⟩ := H
    refine x_iald (q := 88) dX11_pair_87 rfl sh_80 s24 s25 (fun r26 => ?_)
    refine x_iload (q := 90) 6 rfl dX11_pair_88 rfl ?_
    refine x_callS (q := 93) (d := d - 1) (as := [vI (mem 80 l2), vI l6]) (st := []) dX11_pair_90 rfl ms_X11_195 rfl rfl (by exact Nat.le_of_ble_eq_true rfl) ⟨by show _ ≤ d; omega, by show _ ≤ 40 * d; omega⟩ ⟨Nat.le_refl _, Nat.le_refl _⟩ (ct_hasb ?_)
    show E_X11_pair G d 93 [(0, vR 71), (1, vI l1), (2, vI l2), (3, vI l3), (4, vI l4), (5, vI l5), (6, vI l6)] [vI (bz (iand (ishr (mem 80 l2) l6) 1 = 1))] mem Q
    obtain ⟨H1, H2⟩ := H
    refine x_if_eq (tgt := 133) (q := 96) dX11_pair_93 (by decide) rfl (bz_inr _) (fun hB => ?_) (fun hB => ?_)
    · have H := H1 (bz_0.mp hB)
      refine x_iinc (q := 136) (ls' := [(6, vI (l6 + 1)), (0, vR 71), (1, vI l1), (2, vI l2), (3, vI l3), (4, vI l4), (5, vI l5)]) 6 rfl (by decide) rfl dX11_pair_133 rfl ?_
      refine x_goto (tgt := 71) dX11_pair_136 (by decide) ?_
      refine x_sub [1, 2, 3, 4, 5, 6, 0] rfl ?_
      exact H
    · have H := H2 (Classical.byContradiction (fun z => hB (bz_0.mpr z)))
      refine x_iload (q := 98) 4 rfl dX11_pair_96 rfl ?_
      refine x_iloadn (q := 99) 3 rfl rfl dX11_pair_98 rfl ?_
      obtain ⟨s29, H⟩ := H
      obtain ⟨H1, H2⟩ := H
      refine x_if_le (tgt := 109) (q := 102) dX11_pair_99 (by decide) rfl s29 (fun hB => ?_) (fun hB => ?_)
      · have H := H1 (hB)
        refine x_iconst (q := 110) dX11_pair_109 rfl ?_
        refine x_ior (q := 111) dX11_pair_110 rfl ?_
        refine x_istore (q := 113) (ls' := [(4, vI (ior l4 0)), (0, vR 71), (1, vI l1), (2, vI l2), (3, vI l3), (5, vI l5), (6, vI l6)]) (by decide) rfl dX11_pair_111 rfl ?_
        refine x_iload (q := 115) 5 rfl dX11_pair_113 rfl ?_
        refine x_iloadn (q := 116) 4 rfl rfl dX11_pair_115 rfl ?_
        obtain ⟨H1, H2⟩ := H
        refine x_if_le (tgt := 123) (q := 119) dX11_pair_116 (by decide) rfl s29 (fun hB => ?_) (fun hB => ?_)
        · have H := H1 (hB)
          refine x_iconst (q := 124) dX11_pair_123 rfl ?_
          refine x_iload (q := 126) 6 rfl dX11_pair_124 rfl ?_
          refine x_ishl (q := 127) dX11_pair_126 rfl ?_
          refine x_ior (q := 128) dX11_pair_127 rfl ?_
          refine x_istore (q := 130) (ls' := [(5, vI (ior l5 (ishl 1 l6))), (4, vI (ior l4 0)), (0, vR 71), (1, vI l1), (2, vI l2), (3, vI l3), (6, vI l6)]) (by decide) rfl dX11_pair_128 rfl ?_
          refine x_iinc (q := 133) (ls' := [(3, vI (l3 + (-1))), (5, vI (ior l5 (ishl 1 l6))), (4, vI (ior l4 0)), (0, vR 71), (1, vI l1), (2, vI l2), (6, vI l6)]) 5 rfl (by decide) rfl dX11_pair_130 rfl ?_
          refine x_iinc (q := 136) (ls' := [(6, vI (l6 + 1)), (3, vI (l3 + (-1))), (5, vI (ior l5 (ishl 1 l6))), (4, vI (ior l4 0)), (0, vR 71), (1, vI l1), (2, vI l2)]) 6 rfl (by decide) rfl dX11_pair_133 rfl ?_
          refine x_goto (tgt := 71) dX11_pair_136 (by decide) ?_
          refine x_sub [4, 5, 6, 1, 3, 2, 0] rfl ?_
          exact H
        · have H := H2 (hB)
          refine x_iconst (q := 120) dX11_pair_119 rfl ?_
          refine x_goto (tgt := 127) dX11_pair_120 (by decide) ?_
          refine x_ior (q := 128) dX11_pair_127 rfl ?_
          refine x_istore (q := 130) (ls' := [(5, vI (ior l5 0)), (4, vI (ior l4 0)), (0, vR 71), (1, vI l1), (2, vI l2), (3, vI l3), (6, vI l6)]) (by decide) rfl dX11_pair_128 rfl ?_
          refine x_iinc (q := 133) (ls' := [(3, vI (l3 + (-1))), (5, vI (ior l5 0)), (4, vI (ior l4 0)), (0, vR 71), (1, vI l1), (2, vI l2), (6, vI l6)]) 5 rfl (by decide) rfl dX11_pair_130 rfl ?_
          refine x_iinc (q := 136) (ls' := [(6, vI (l6 + 1)), (3, vI (l3 + (-1))), (5, vI (ior l5 0)), (4, vI (ior l4 0)), (0, vR 71), (1, vI l1), (2, vI l2)]) 6 rfl (by decide) rfl dX11_pair_133 rfl ?_
          refine x_goto (tgt := 71) dX11_pair_136 (by decide) ?_
          refine x_sub [4, 5, 6, 1, 3, 2, 0] rfl ?_
          exact H
      · have H := H2 (hB)
        refine x_iconst (q := 103) dX11_pair_102 rfl ?_
        refine x_iload (q := 105) 6 rfl dX11_pair_103 rfl ?_
        refine x_ishl (q := 106) dX11_pair_105 rfl ?_
        refine x_goto (tgt := 110) dX11_pair_106 (by decide) ?_
        refine x_ior (q := 111) dX11_pair_110 rfl ?_
        refine x_istore (q := 113) (ls' := [(4, vI (ior l4 (ishl 1 l6))), (0, vR 71), (1, vI l1), (2, vI l2), (3, vI l3), (5, vI l5), (6, vI l6)]) (by decide) rfl dX11_pair_111 rfl ?_
        refine x_iload (q := 115) 5 rfl dX11_pair_113 rfl ?_
        refine x_iloadn (q := 116) 4 rfl rfl dX11_pair_115 rfl ?_
        obtain ⟨H1, H2⟩ := H
        refine x_if_le (tgt := 123) (q := 119) dX11_pair_116 (by decide) rfl s29 (fun hB => ?_) (fun hB => ?_)
        · have H := H1 (hB)
          refine x_iconst (q := 124) dX11_pair_123 rfl ?_
          refine x_iload (q := 126) 6 rfl dX11_pair_124 rfl ?_
          refine x_ishl (q := 127) dX11_pair_126 rfl ?_
          refine x_ior (q := 128) dX11_pair_127 rfl ?_
          refine x_istore (q := 130) (ls' := [(5, vI (ior l5 (ishl 1 l6))), (4, vI (ior l4 (ishl 1 l6))), (0, vR 71), (1, vI l1), (2, vI l2), (3, vI l3), (6, vI l6)]) (by decide) rfl dX11_pair_128 rfl ?_
          refine x_iinc (q := 133) (ls' := [(3, vI (l3 + (-1))), (5, vI (ior l5 (ishl 1 l6))), (4, vI (ior l4 (ishl 1 l6))), (0, vR 71), (1, vI l1), (2, vI l2), (6, vI l6)]) 5 rfl (by decide) rfl dX11_pair_130 rfl ?_
          refine x_iinc (q := 136) (ls' := [(6, vI (l6 + 1)), (3, vI (l3 + (-1))), (5, vI (ior l5 (ishl 1 l6))), (4, vI (ior l4 (ishl 1 l6))), (0, vR 71), (1, vI l1), (2, vI l2)]) 6 rfl (by decide) rfl dX11_pair_133 rfl ?_
          refine x_goto (tgt := 71) dX11_pair_136 (by decide) ?_
          refine x_sub [4, 5, 6, 1, 3, 2, 0] rfl ?_
          exact H
        · have H := H2 (hB)
          refine x_iconst (q := 120) dX11_pair_119 rfl ?_
          refine x_goto (tgt := 127) dX11_pair_120 (by decide) ?_
          refine x_ior (q := 128) dX11_pair_127 rfl ?_
          refine x_istore (q := 130) (ls' := [(5, vI (ior l5 0)), (4, vI (ior l4 (ishl 1 l6))), (0, vR 71), (1, vI l1), (2, vI l2), (3, vI l3), (6, vI l6)]) (by decide) rfl dX11_pair_128 rfl ?_
          refine x_iinc (q := 133) (ls' := [(3, vI (l3 + (-1))), (5, vI (ior l5 0)), (4, vI (ior l4 (ishl 1 l6))), (0, vR 71), (1, vI l1), (2, vI l2), (6, vI l6)]) 5 rfl (by decide) rfl dX11_pair_130 rfl ?_
          refine x_iinc (q := 136) (ls' := [(6, vI (l6 + 1)), (3, vI (l3 + (-1))), (5, vI (ior l5 0)), (4, vI (ior l4 (ishl 1 l6))), (0, vR 71), (1, vI l1), (2, vI l2)]) 6 rfl (by decide) rfl dX11_pair_133 rfl ?_
          refine x_goto (tgt := 71) dX11_pair_136 (by decide) ?_
          refine x_sub [4, 5, 6, 1, 3, 2, 0] rfl ?_
          exact H
set_option maxRecDepth 20000 in
set_option maxHeartbeats 4000000 in
theorem B_X11_more {G : GT} {d : Nat}  {mem : Mem} {Q : Option AV → Mem → Prop} (hd : 1 ≤ d) (H : C_X11_findFree G (d - 1) [vR 71] mem (fun r9 m1 => r9 = none ∧ (E_X11_more G d 10 [(0, vR 71), (1, vI (-1)), (2, vI 0), (3, vI 0)] [] m1 Q))) : C_X11_more G d [vR 71] mem Q := by
  refine Ct_of_Ex (by decide +kernel) (by exact Nat.le_of_ble_eq_true rfl) (ls := [(0, vR 71)]) rfl ?_
  show E_X11_more G d 0 [(0, vR 71)] [] mem Q
  refine x_aloadn (q := 1) 0 rfl rfl rfl dX11_more_0 rfl ?_
  refine x_callV (q := 4) (d := d - 1) (as := []) (st := []) dX11_more_1 rfl mv_X11_226 sh_71 rfl rfl rfl (by exact Nat.le_of_ble_eq_true rfl) ⟨by show _ ≤ d; omega, by show _ ≤ 40 * d; omega⟩ ⟨Nat.le_refl _, Nat.le_refl _⟩ (Ct.mono H (fun r9 m1 H => ?_))
  obtain ⟨rfl, H⟩ := H
  show E_X11_more G d 4 [(0, vR 71)] [] m1 Q
  refine x_iconst (q := 5) dX11_more_4 rfl ?_
  refine x_istoren (q := 6) (ls' := [(1, vI (-1)), (0, vR 71)]) rfl (by decide) rfl dX11_more_5 rfl ?_
  refine x_iconst (q := 7) dX11_more_6 rfl ?_
  refine x_istoren (q := 8) (ls' := [(2, vI 0), (1, vI (-1)), (0, vR 71)]) rfl (by decide) rfl dX11_more_7 rfl ?_
  refine x_iconst (q := 9) dX11_more_8 rfl ?_
  refine x_istoren (q := 10) (ls' := [(3, vI 0), (2, vI 0), (1, vI (-1)), (0, vR 71)]) rfl (by decide) rfl dX11_more_9 rfl ?_
  refine x_sub [3, 2, 1, 0] rfl ?_
  exact H
set_option maxRecDepth 20000 in
set_option maxHeartbeats 4000000 in
theorem B_X11_more_10 {G : GT} {d : Nat} {l1 : Int} {l2 : Int} {l3 : Int} {mem : Mem} {Q : Option AV → Mem → Prop} (hd : 1 ≤ d) (H : (inr l3) ∧ (((mem 72 0 ≤ l3) → ((inr l1) ∧ (((0 ≤ l1) → (Q (some (vI l1)) mem)) ∧ (¬ (0 ≤ l1) → (∀ m9 : Mem, m9 = fndM mem (-1000002) → (Q (some (vI (-1000002))) m9)))))) ∧ (¬ (mem 72 0 ≤ l3) → (E_X11_more G d 23 [(0, vR 71), (1, vI l1), (2, vI l2), (3, vI l3), (4, vI 0)] [] mem Q)))) : E_X11_more G d 10 [(0, vR 71), (1, vI l1), (2, vI l2), (3, vI l3)] [] mem Q := by
  refine x_iloadn (q := 11) 3 rfl rfl dX11_more_10 rfl ?_
  refine x_aloadn (q := 12) 0 rfl rfl rfl dX11_more_11 rfl ?_
  refine x_getr (q := 15) dX11_more_12 rfl fa_X11_9 sh_71 rfl ?_
  refine x_iconst (q := 16) dX11_more_15 rfl ?_
  refine x_iald (q := 17) dX11_more_16 rfl sh_72 (by decide) (by decide) (fun r2 => ?_)
  obtain ⟨s3, H⟩ := H
  obtain ⟨H1, H2⟩ := H
  refine x_icmp_ge (tgt := 101) (q := 20) dX11_more_17 (by decide) rfl s3 r2 (fun hB => ?_) (fun hB => ?_)
  · have H := H1 (hB)
    refine x_iloadn (q := 102) 1 rfl rfl dX11_more_101 rfl ?_
    obtain ⟨s6, H⟩ := H
    obtain ⟨H1, H2⟩ := H
    refine x_if_ge (tgt := 114) (q := 105) dX11_more_102 (by decide) rfl s6 (fun hB => ?_) (fun hB => ?_)
    · have H := H1 (hB)
      refine x_iloadn (q := 115) 1 rfl rfl dX11_more_114 rfl ?_
      exact x_iret rfl dX11_more_115 H
    · have H := H2 (hB)
      refine x_aloadn (q := 106) 0 rfl rfl rfl dX11_more_105 rfl ?_
      refine x_ldc (q := 108) (z := (-1000002)) cn_X11_219 (by decide) dX11_more_106 rfl ?_
      obtain ⟨m9, em9⟩ : ∃ m9 : Mem, m9 = fndM mem (-1000002) := ⟨_, rfl⟩
      have H := H m9 em9
      refine x_callV (q := 111) (d := d - 1) (as := [vI (-1000002)]) (st := []) dX11_more_108 rfl mv_X11_88 sh_71 rfl rfl rfl (by exact Nat.le_of_ble_eq_true rfl) ⟨by show _ ≤ d; omega, by show _ ≤ 40 * d; omega⟩ ⟨Nat.le_refl _, Nat.le_refl _⟩ (ct_finding (by decide) (by decide) ?_)
      rw [← em9]
      show E_X11_more G d 111 [(0, vR 71), (1, vI l1), (2, vI l2), (3, vI l3)] [vI (-1000002)] m9 Q
      refine x_goto (tgt := 115) dX11_more_111 (by decide) ?_
      exact x_iret rfl dX11_more_115 H
  · have H := H2 (hB)
    refine x_iconst (q := 21) dX11_more_20 rfl ?_
    refine x_istore (q := 23) (ls' := [(4, vI 0), (0, vR 71), (1, vI l1), (2, vI l2), (3, vI l3)]) (by decide) rfl dX11_more_21 rfl ?_
    refine x_sub [1, 2, 3, 4, 0] rfl ?_
    exact H
set_option maxRecDepth 20000 in
set_option maxHeartbeats 4000000 in
theorem B_X11_more_23 {G : GT} {d : Nat} {l1 : Int} {l2 : Int} {l3 : Int} {l4 : Int} {mem : Mem} {Q : Option AV → Mem → Prop} (hd : 1 ≤ d) (H : (inr l4) ∧ (((mem 72 0 ≤ l4) → (E_X11_more G d 10 [(0, vR 71), (1, vI l1), (2, vI l2), (3, vI (l3 + 1))] [] mem Q)) ∧ (¬ (mem 72 0 ≤ l4) → ((inr l3) ∧ (((l3 = l4) → (E_X11_more G d 23 [(0, vR 71), (1, vI l1), (2, vI l2), (3, vI l3), (4, vI (l4 + 1))] [] mem Q)) ∧ (¬ (l3 = l4) → ((0 ≤ 41 + 12 * l3 + l4 ∧ 41 + 12 * l3 + l4 < 553) ∧ (((mem 72 (41 + 12 * l3 + l4) ≤ 0) → (C_X11_knownWith G (d - 1) [vR 71, vI l3, vI l4] mem (fun r9 m22 => ∃ z23 : Int, r9 = some (vI z23) ∧ ((inr z23) ∧ (((z23 < 0) → (E_X11_more G d 23 [(0, vR 71), (1, vI l1), (2, vI l2), (3, vI l3), (4, vI (l4 + 1))] [] m22 Q)) ∧ (¬ (z23 < 0) → ((inr l1) ∧ (((l1 < 0) → (E_X11_more G d 23 [(0, vR 71), (1, vI ((100 * l3) + l4)), (2, vI z23), (3, vI l3), (4, vI (l4 + 1))] [] m22 Q)) ∧ (¬ (l1 < 0) → ((inr l2) ∧ (((z23 ≤ l2) → (E_X11_more G d 23 [(0, vR 71), (1, vI l1), (2, vI l2), (3, vI l3), (4, vI (l4 + 1))] [] m22 Q)) ∧ (¬ (z23 ≤ l2) → (E_X11_more G d 23 [(0, vR 71), (1, vI ((100 * l3) + l4)), (2, vI z23), (3, vI l3), (4, vI (l4 + 1))] [] m22 Q))))))))))))) ∧ (¬ (mem 72 (41 + 12 * l3 + l4) ≤ 0) → (E_X11_more G d 23 [(0, vR 71), (1, vI l1), (2, vI l2), (3, vI l3), (4, vI (l4 + 1))] [] mem Q)))))))))) : E_X11_more G d 23 [(0, vR 71), (1, vI l1), (2, vI l2), (3, vI l3), (4, vI l4)] [] mem Q := by
  refine x_iload (q := 25) 4 rfl dX11_more_23 rfl ?_
  refine x_aloadn (q := 26) 0 rfl rfl rfl dX11_more_25 rfl ?_
  refine x_getr (q := 29) dX11_more_26 rfl fa_X11_9 sh_71 rfl ?_
  refine x_iconst (q := 30) dX11_more_29 rfl ?_
  refine x_iald (q := 31) dX11_more_30 rfl sh_72 (by decide) (by decide) (fun r10 => ?_)
  obtain ⟨s11, H⟩ := H
  obtain ⟨H1, H2⟩ := H
  refine x_icmp_ge (tgt := 95) (q := 34) dX11_more_31 (by decide) rfl s11 r10 (fun hB => ?_) (fun hB => ?_)
  · have H := H1 (hB)
    refine x_iinc (q := 98) (ls' := [(3, vI (l3 + 1)), (0, vR 71), (1, vI l1), (2, vI l2), (4, vI l4)]) 3 rfl (by decide) rfl dX11_more_95 rfl ?_
    refine x_goto (tgt := 10) dX11_more_98 (by decide) ?_
    refine x_sub [1, 2, 3, 0] rfl ?_
    exact H
  · have H := H2 (hB)
    refine x_iloadn (q := 35) 3 rfl rfl dX11_more_34 rfl ?_
    refine x_iload (q := 37) 4 rfl dX11_more_35 rfl ?_
    obtain ⟨s14, H⟩ := H
    obtain ⟨H1, H2⟩ := H
    refine x_icmp_eq (tgt := 50) (q := 40) dX11_more_37 (by decide) rfl s14 s11 (fun hB => ?_) (fun hB => ?_)
    · have H := H1 (hB)
      refine x_iconst (q := 51) dX11_more_50 rfl ?_
      refine x_goto (tgt := 61) dX11_more_51 (by decide) ?_
      refine x_istore (q := 63) (ls' := [(5, vI (-1)), (0, vR 71), (1, vI l1), (2, vI l2), (3, vI l3), (4, vI l4)]) (by decide) rfl dX11_more_61 rfl ?_
      refine x_iload (q := 65) 0 rfl dX11_more_63 rfl ?_
      refine x_if_lt (tgt := 89) (q := 68) dX11_more_65 (by decide) rfl (by decide) (fun _ => ?_) (fun h => absurd (by decide) h)
      refine x_iinc (q := 92) (ls' := [(4, vI (l4 + 1)), (5, vI (-1)), (0, vR 71), (1, vI l1), (2, vI l2), (3, vI l3)]) 5 rfl (by decide) rfl dX11_more_89 rfl ?_
      refine x_goto (tgt := 23) dX11_more_92 (by decide) ?_
      refine x_sub [2, 3, 4, 5, 0] rfl ?_
      exact H
    · have H := H2 (hB)
      refine x_aloadn (q := 41) 0 rfl rfl rfl dX11_more_40 rfl ?_
      refine x_iloadn (q := 42) 3 rfl rfl dX11_more_41 rfl ?_
      refine x_iload (q := 44) 4 rfl dX11_more_42 rfl ?_
      obtain ⟨⟨s17, s18⟩, H⟩ := H
      refine x_callV (q := 47) (d := d - 1) (as := [vI l3, vI l4]) (st := []) dX11_more_44 rfl mv_X11_108 sh_71 rfl rfl rfl (by exact Nat.le_of_ble_eq_true rfl) ⟨by show _ ≤ d; omega, by show _ ≤ 40 * d; omega⟩ ⟨Nat.le_refl _, Nat.le_refl _⟩ (ct_tieOf s17 s18 ?_)
      show E_X11_more G d 47 [(0, vR 71), (1, vI l1), (2, vI l2), (3, vI l3), (4, vI l4)] [vI (mem 72 (41 + 12 * l3 + l4))] mem Q
      refine x_ok (fun hm19 => ?_)
      obtain ⟨H1, H2⟩ := H
      refine x_if_le (tgt := 54) (q := 50) dX11_more_47 (by decide) rfl (ok_ai hm19 sh_72 (by decide) _) (fun hB => ?_) (fun hB => ?_)
      · have H := H1 (hB)
        refine x_aloadn (q := 55) 0 rfl rfl rfl dX11_more_54 rfl ?_
        refine x_iloadn (q := 56) 3 rfl rfl dX11_more_55 rfl ?_
        refine x_iload (q := 58) 4 rfl dX11_more_56 rfl ?_
        refine x_callV (q := 61) (d := d - 1) (as := [vI l3, vI l4]) (st := []) dX11_more_58 rfl mv_X11_229 sh_71 rfl rfl rfl (by exact Nat.le_of_ble_eq_true rfl) ⟨by show _ ≤ d; omega, by show _ ≤ 40 * d; omega⟩ ⟨Nat.le_refl _, Nat.le_refl _⟩ (Ct.mono H (fun r9 m22 H => ?_))
        obtain ⟨z23, rfl, H⟩ := H
        show E_X11_more G d 61 [(0, vR 71), (1, vI l1), (2, vI l2), (3, vI l3), (4, vI l4)] [vI z23] m22 Q
        refine x_istore (q := 63) (ls' := [(5, vI z23), (0, vR 71), (1, vI l1), (2, vI l2), (3, vI l3), (4, vI l4)]) (by decide) rfl dX11_more_61 rfl ?_
        refine x_iload (q := 65) 0 rfl dX11_more_63 rfl ?_
        obtain ⟨s24, H⟩ := H
        obtain ⟨H1, H2⟩ := H
        refine x_if_lt (tgt := 89) (q := 68) dX11_more_65 (by decide) rfl s24 (fun hB => ?_) (fun hB => ?_)
        · have H := H1 (hB)
          refine x_iinc (q := 92) (ls' := [(4, vI (l4 + 1)), (5, vI z23), (0, vR 71), (1, vI l1), (2, vI l2), (3, vI l3)]) 5 rfl (by decide) rfl dX11_more_89 rfl ?_
          refine x_goto (tgt := 23) dX11_more_92 (by decide) ?_
          refine x_sub [2, 3, 4, 5, 0] rfl ?_
          exact H
        · have H := H2 (hB)
          refine x_iloadn (q := 69) 2 rfl rfl dX11_more_68 rfl ?_
          obtain ⟨s27, H⟩ := H
          obtain ⟨H1, H2⟩ := H
          refine x_if_lt (tgt := 78) (q := 72) dX11_more_69 (by decide) rfl s27 (fun hB => ?_) (fun hB => ?_)
          · have H := H1 (hB)
            refine x_bipush (q := 80) rfl dX11_more_78 rfl ?_
            refine x_iloadn (q := 81) 4 rfl rfl dX11_more_80 rfl ?_
            refine x_imul (q := 82) dX11_more_81 rfl ?_
            refine x_iload (q := 84) 5 rfl dX11_more_82 rfl ?_
            refine x_iadd (q := 85) dX11_more_84 rfl ?_
            refine x_istoren (q := 86) (ls' := [(1, vI ((100 * l3) + l4)), (5, vI z23), (0, vR 71), (2, vI l2), (3, vI l3), (4, vI l4)]) rfl (by decide) rfl dX11_more_85 rfl ?_
            refine x_iload (q := 88) 1 rfl dX11_more_86 rfl ?_
            refine x_istoren (q := 89) (ls' := [(2, vI z23), (1, vI ((100 * l3) + l4)), (5, vI z23), (0, vR 71), (3, vI l3), (4, vI l4)]) rfl (by decide) rfl dX11_more_88 rfl ?_
            refine x_iinc (q := 92) (ls' := [(4, vI (l4 + 1)), (2, vI z23), (1, vI ((100 * l3) + l4)), (5, vI z23), (0, vR 71), (3, vI l3)]) 5 rfl (by decide) rfl dX11_more_89 rfl ?_
            refine x_goto (tgt := 23) dX11_more_92 (by decide) ?_
            refine x_sub [4, 2, 1, 5, 0] rfl ?_
            exact H
          · have H := H2 (hB)
            refine x_iload (q := 74) 0 rfl dX11_more_72 rfl ?_
            refine x_iloadn (q := 75) 3 rfl rfl dX11_more_74 rfl ?_
            obtain ⟨s30, H⟩ := H
            obtain ⟨H1, H2⟩ := H
            refine x_icmp_le (tgt := 89) (q := 78) dX11_more_75 (by decide) rfl s24 s30 (fun hB => ?_) (fun hB => ?_)
            · have H := H1 (hB)
              refine x_iinc (q := 92) (ls' := [(4, vI (l4 + 1)), (5, vI z23), (0, vR 71), (1, vI l1), (2, vI l2), (3, vI l3)]) 5 rfl (by decide) rfl dX11_more_89 rfl ?_
              refine x_goto (tgt := 23) dX11_more_92 (by decide) ?_
              refine x_sub [2, 3, 4, 5, 0] rfl ?_
              exact H
            · have H := H2 (hB)
              refine x_bipush (q := 80) rfl dX11_more_78 rfl ?_
              refine x_iloadn (q := 81) 4 rfl rfl dX11_more_80 rfl ?_
              refine x_imul (q := 82) dX11_more_81 rfl ?_
              refine x_iload (q := 84) 5 rfl dX11_more_82 rfl ?_
              refine x_iadd (q := 85) dX11_more_84 rfl ?_
              refine x_istoren (q := 86) (ls' := [(1, vI ((100 * l3) + l4)), (5, vI z23), (0, vR 71), (2, vI l2), (3, vI l3), (4, vI l4)]) rfl (by decide) rfl dX11_more_85 rfl ?_
              refine x_iload (q := 88) 1 rfl dX11_more_86 rfl ?_
              refine x_istoren (q := 89) (ls' := [(2, vI z23), (1, vI ((100 * l3) + l4)), (5, vI z23), (0, vR 71), (3, vI l3), (4, vI l4)]) rfl (by decide) rfl dX11_more_88 rfl ?_
              refine x_iinc (q := 92) (ls' := [(4, vI (l4 + 1)), (2, vI z23), (1, vI ((100 * l3) + l4)), (5, vI z23), (0, vR 71), (3, vI l3)]) 5 rfl (by decide) rfl dX11_more_89 rfl ?_
              refine x_goto (tgt := 23) dX11_more_92 (by decide) ?_
              refine x_sub [4, 2, 1, 5, 0] rfl ?_
              exact H
      · have H := H2 (hB)
        refine x_iconst (q := 51) dX11_more_50 rfl ?_
        refine x_goto (tgt := 61) dX11_more_51 (by decide) ?_
        refine x_istore (q := 63) (ls' := [(5, vI (-1)), (0, vR 71), (1, vI l1), (2, vI l2), (3, vI l3), (4, vI l4)]) (by decide) rfl dX11_more_61 rfl ?_
        refine x_iload (q := 65) 0 rfl dX11_more_63 rfl ?_
        refine x_if_lt (tgt := 89) (q := 68) dX11_more_65 (by decide) rfl (by decide) (fun _ => ?_) (fun h => absurd (by decide) h)
        refine x_iinc (q := 92) (ls' := [(4, vI (l4 + 1)), (5, vI (-1)), (0, vR 71), (1, vI l1), (2, vI l2), (3, vI l3)]) 5 rfl (by decide) rfl dX11_more_89 rfl ?_
        refine x_goto (tgt := 23) dX11_more_92 (by decide) ?_
        refine x_sub [2, 3, 4, 5, 0] rfl ?_
        exact H
set_option maxRecDepth 20000 in
set_option maxHeartbeats 4000000 in
theorem B_X11_without {G : GT} {d : Nat} {l1 : Int} {l2 : Int} {mem : Mem} {Q : Option AV → Mem → Prop} (hd : 3 ≤ d) (H : (inr l1 ∧ inr l2) ∧ ((0 ≤ mem 72 0) ∧ ((((0 ≤ l1 ∧ l1 < mem 72 0) ∧ (0 ≤ l2 ∧ l2 < mem 72 0)) → ((0 ≤ 41 + 12 * l1 + l2 ∧ 41 + 12 * l1 + l2 < 553) ∧ (((mem 72 (41 + 12 * l1 + l2) ≠ 0) → ((0 ≤ (41 + (12 * l1)) + l2 ∧ (41 + (12 * l1)) + l2 < 553) ∧ (∀ m13 : Mem, m13 = upM mem 72 ((41 + (12 * l1)) + l2) 0 → (C_X11_findFree G (d - 1) [vR 71] m13 (fun r9 m14 => r9 = none ∧ (∀ m15 : Mem, m15 = upM m14 72 ((41 + (12 * l1)) + l2) (mem 72 (41 + 12 * l1 + l2)) → (C_X11_knownWith G (d - 1) [vR 71, vI 0, vI 0] m15 (fun r9 m16 => ∃ z17 : Int, r9 = some (vI z17) ∧ (Q (some (vI z17)) m16))))))))) ∧ (¬ (mem 72 (41 + 12 * l1 + l2) ≠ 0) → (∀ m18 : Mem, m18 = fndM mem (-1000003) → (Q (some (vI (-1000003))) m18)))))) ∧ (¬ ((0 ≤ l1 ∧ l1 < mem 72 0) ∧ (0 ≤ l2 ∧ l2 < mem 72 0)) → (∀ m19 : Mem, m19 = fndM mem (-1000001) → (Q (some (vI (-1000001))) m19)))))) : C_X11_without G d [vR 71, vI l1, vI l2] mem Q := by
  refine Ct_of_Ex (by decide +kernel) (by exact Nat.le_of_ble_eq_true rfl) (ls := [(0, vR 71), (1, vI l1), (2, vI l2)]) rfl ?_
  show E_X11_without G d 0 [(0, vR 71), (1, vI l1), (2, vI l2)] [] mem Q
  refine x_aloadn (q := 1) 0 rfl rfl rfl dX11_without_0 rfl ?_
  refine x_iloadn (q := 2) 1 rfl rfl dX11_without_1 rfl ?_
  refine x_iloadn (q := 3) 2 rfl rfl dX11_without_2 rfl ?_
  obtain ⟨⟨s1, s2⟩, H⟩ := H
  obtain ⟨s3, H⟩ := H
  refine x_callV (q := 6) (d := d - 1) (as := [vI l1, vI l2]) (st := []) dX11_without_3 rfl mv_X11_119 sh_71 rfl rfl rfl (by exact Nat.le_of_ble_eq_true rfl) ⟨by show _ ≤ d; omega, by show _ ≤ 40 * d; omega⟩ ⟨Nat.le_refl _, Nat.le_refl _⟩ (ct_areMachines (by omega) s3 s1 s2 ?_)
  show E_X11_without G d 6 [(0, vR 71), (1, vI l1), (2, vI l2)] [vI (bz ((0 ≤ l1 ∧ l1 < mem 72 0) ∧ (0 ≤ l2 ∧ l2 < mem 72 0)))] mem Q
  obtain ⟨H1, H2⟩ := H
  refine x_if_ne (tgt := 16) (q := 9) dX11_without_6 (by decide) rfl (bz_inr _) (fun hB => ?_) (fun hB => ?_)
  · have H := H1 (bz_n0.mp hB)
    refine x_aloadn (q := 17) 0 rfl rfl rfl dX11_without_16 rfl ?_
    refine x_iloadn (q := 18) 1 rfl rfl dX11_without_17 rfl ?_
    refine x_iloadn (q := 19) 2 rfl rfl dX11_without_18 rfl ?_
    obtain ⟨⟨s6, s7⟩, H⟩ := H
    refine x_callV (q := 22) (d := d - 1) (as := [vI l1, vI l2]) (st := []) dX11_without_19 rfl mv_X11_108 sh_71 rfl rfl rfl (by exact Nat.le_of_ble_eq_true rfl) ⟨by show _ ≤ d; omega, by show _ ≤ 40 * d; omega⟩ ⟨Nat.le_refl _, Nat.le_refl _⟩ (ct_tieOf s6 s7 ?_)
    show E_X11_without G d 22 [(0, vR 71), (1, vI l1), (2, vI l2)] [vI (mem 72 (41 + 12 * l1 + l2))] mem Q
    refine x_istoren (q := 23) (ls' := [(3, vI (mem 72 (41 + 12 * l1 + l2))), (0, vR 71), (1, vI l1), (2, vI l2)]) rfl (by decide) rfl dX11_without_22 rfl ?_
    refine x_iloadn (q := 24) 0 rfl rfl dX11_without_23 rfl ?_
    refine x_ok (fun hm8 => ?_)
    obtain ⟨H1, H2⟩ := H
    refine x_if_ne (tgt := 34) (q := 27) dX11_without_24 (by decide) rfl (ok_ai hm8 sh_72 (by decide) _) (fun hB => ?_) (fun hB => ?_)
    · have H := H1 (hB)
      refine x_aloadn (q := 35) 1 rfl rfl rfl dX11_without_34 rfl ?_
      refine x_getr (q := 38) dX11_without_35 rfl fa_X11_9 sh_71 rfl ?_
      refine x_bipush (q := 40) rfl dX11_without_38 rfl ?_
      refine x_bipush (q := 42) rfl dX11_without_40 rfl ?_
      refine x_iloadn (q := 43) 2 rfl rfl dX11_without_42 rfl ?_
      refine x_imul (q := 44) dX11_without_43 rfl ?_
      refine x_iadd (q := 45) dX11_without_44 rfl ?_
      refine x_iloadn (q := 46) 3 rfl rfl dX11_without_45 rfl ?_
      refine x_iadd (q := 47) dX11_without_46 rfl ?_
      refine x_iconst (q := 48) dX11_without_47 rfl ?_
      obtain ⟨⟨s11, s12⟩, H⟩ := H
      refine x_iast (q := 49) dX11_without_48 rfl sh_72 s11 s12 (by decide) (fun m13 em13 => ?_)
      have H := H m13 em13
      refine x_aloadn (q := 50) 1 rfl rfl rfl dX11_without_49 rfl ?_
      refine x_callV (q := 53) (d := d - 1) (as := []) (st := []) dX11_without_50 rfl mv_X11_226 sh_71 rfl rfl rfl (by exact Nat.le_of_ble_eq_true rfl) ⟨by show _ ≤ d; omega, by show _ ≤ 40 * d; omega⟩ ⟨Nat.le_refl _, Nat.le_refl _⟩ (Ct.mono H (fun r9 m14 H => ?_))
      obtain ⟨rfl, H⟩ := H
      show E_X11_without G d 53 [(3, vI (mem 72 (41 + 12 * l1 + l2))), (0, vR 71), (1, vI l1), (2, vI l2)] [] m14 Q
      refine x_aloadn (q := 54) 1 rfl rfl rfl dX11_without_53 rfl ?_
      refine x_getr (q := 57) dX11_without_54 rfl fa_X11_9 sh_71 rfl ?_
      refine x_bipush (q := 59) rfl dX11_without_57 rfl ?_
      refine x_bipush (q := 61) rfl dX11_without_59 rfl ?_
      refine x_iloadn (q := 62) 2 rfl rfl dX11_without_61 rfl ?_
      refine x_imul (q := 63) dX11_without_62 rfl ?_
      refine x_iadd (q := 64) dX11_without_63 rfl ?_
      refine x_iloadn (q := 65) 3 rfl rfl dX11_without_64 rfl ?_
      refine x_iadd (q := 66) dX11_without_65 rfl ?_
      refine x_iloadn (q := 67) 0 rfl rfl dX11_without_66 rfl ?_
      refine x_iast (q := 68) dX11_without_67 rfl sh_72 s11 s12 (ok_ai hm8 sh_72 (by decide) _) (fun m15 em15 => ?_)
      have H := H m15 em15
      refine x_aloadn (q := 69) 1 rfl rfl rfl dX11_without_68 rfl ?_
      refine x_iconst (q := 70) dX11_without_69 rfl ?_
      refine x_iconst (q := 71) dX11_without_70 rfl ?_
      refine x_callV (q := 74) (d := d - 1) (as := [vI 0, vI 0]) (st := []) dX11_without_71 rfl mv_X11_229 sh_71 rfl rfl rfl (by exact Nat.le_of_ble_eq_true rfl) ⟨by show _ ≤ d; omega, by show _ ≤ 40 * d; omega⟩ ⟨Nat.le_refl _, Nat.le_refl _⟩ (Ct.mono H (fun r9 m16 H => ?_))
      obtain ⟨z17, rfl, H⟩ := H
      show E_X11_without G d 74 [(3, vI (mem 72 (41 + 12 * l1 + l2))), (0, vR 71), (1, vI l1), (2, vI l2)] [vI z17] m16 Q
      exact x_iret rfl dX11_without_74 H
    · have H := H2 (hB)
      refine x_aloadn (q := 28) 1 rfl rfl rfl dX11_without_27 rfl ?_
      refine x_ldc (q := 30) (z := (-1000003)) cn_X11_122 (by decide) dX11_without_28 rfl ?_
      obtain ⟨m18, em18⟩ : ∃ m9 : Mem, m9 = fndM mem (-1000003) := ⟨_, rfl⟩
      have H := H m18 em18
      refine x_callV (q := 33) (d := d - 1) (as := [vI (-1000003)]) (st := []) dX11_without_30 rfl mv_X11_88 sh_71 rfl rfl rfl (by exact Nat.le_of_ble_eq_true rfl) ⟨by show _ ≤ d; omega, by show _ ≤ 40 * d; omega⟩ ⟨Nat.le_refl _, Nat.le_refl _⟩ (ct_finding (by decide) (by decide) ?_)
      rw [← em18]
      show E_X11_without G d 33 [(3, vI (mem 72 (41 + 12 * l1 + l2))), (0, vR 71), (1, vI l1), (2, vI l2)] [vI (-1000003)] m18 Q
      exact x_iret rfl dX11_without_33 H
  · have H := H2 (fun z => hB (bz_n0.mpr z))
    refine x_aloadn (q := 10) 0 rfl rfl rfl dX11_without_9 rfl ?_
    refine x_ldc (q := 12) (z := (-1000001)) cn_X11_87 (by decide) dX11_without_10 rfl ?_
    obtain ⟨m19, em19⟩ : ∃ m9 : Mem, m9 = fndM mem (-1000001) := ⟨_, rfl⟩
    have H := H m19 em19
    refine x_callV (q := 15) (d := d - 1) (as := [vI (-1000001)]) (st := []) dX11_without_12 rfl mv_X11_88 sh_71 rfl rfl rfl (by exact Nat.le_of_ble_eq_true rfl) ⟨by show _ ≤ d; omega, by show _ ≤ 40 * d; omega⟩ ⟨Nat.le_refl _, Nat.le_refl _⟩ (ct_finding (by decide) (by decide) ?_)
    rw [← em19]
    show E_X11_without G d 15 [(0, vR 71), (1, vI l1), (2, vI l2)] [vI (-1000001)] m19 Q
    exact x_iret rfl dX11_without_15 H
