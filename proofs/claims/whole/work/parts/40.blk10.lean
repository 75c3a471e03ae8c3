abbrev E_X5_tiesOfLiars (G : GT) (d pc : Nat) (ls : List (Nat × AV)) (st : List AV) (mem : Mem) (Q : Option AV → Mem → Prop) : Prop := Ex G RX5 cX5_tiesOfLiars 4 (some .int) d pc ls st mem Q
abbrev C_X5_tiesOfLiars (G : GT) (d : Nat) (as : List AV) (mem : Mem) (Q : Option AV → Mem → Prop) : Prop := Ct G yX5_tiesOfLiars cX5_tiesOfLiars 4 (some .int) d as mem Q
abbrev E_X5_listTies (G : GT) (d pc : Nat) (ls : List (Nat × AV)) (st : List AV) (mem : Mem) (Q : Option AV → Mem → Prop) : Prop := Ex G RX5 cX5_listTies 4 none d pc ls st mem Q
abbrev C_X5_listTies (G : GT) (d : Nat) (as : List AV) (mem : Mem) (Q : Option AV → Mem → Prop) : Prop := Ct G yX5_listTies cX5_listTies 4 none d as mem Q
abbrev E_X5_hearWhole (G : GT) (d pc : Nat) (ls : List (Nat × AV)) (st : List AV) (mem : Mem) (Q : Option AV → Mem → Prop) : Prop := Ex G RX5 cX5_hearWhole 5 none d pc ls st mem Q
abbrev C_X5_hearWhole (G : GT) (d : Nat) (as : List AV) (mem : Mem) (Q : Option AV → Mem → Prop) : Prop := Ct G yX5_hearWhole cX5_hearWhole 5 none d as mem Q
abbrev E_X5_stanceOf (G : GT) (d pc : Nat) (ls : List (Nat × AV)) (st : List AV) (mem : Mem) (Q : Option AV → Mem → Prop) : Prop := Ex G RX5 cX5_stanceOf 3 (some .int) d pc ls st mem Q
abbrev C_X5_stanceOf (G : GT) (d : Nat) (as : List AV) (mem : Mem) (Q : Option AV → Mem → Prop) : Prop := Ct G yX5_stanceOf cX5_stanceOf 3 (some .int) d as mem Q
abbrev E_X5_stancesOf (G : GT) (d pc : Nat) (ls : List (Nat × AV)) (st : List AV) (mem : Mem) (Q : Option AV → Mem → Prop) : Prop := Ex G RX5 cX5_stancesOf 4 (some .int) d pc ls st mem Q
abbrev C_X5_stancesOf (G : GT) (d : Nat) (as : List AV) (mem : Mem) (Q : Option AV → Mem → Prop) : Prop := Ct G yX5_stancesOf cX5_stancesOf 4 (some .int) d as mem Q
abbrev E_X5_countStances (G : GT) (d pc : Nat) (ls : List (Nat × AV)) (st : List AV) (mem : Mem) (Q : Option AV → Mem → Prop) : Prop := Ex G RX5 cX5_countStances 4 none d pc ls st mem Q
abbrev C_X5_countStances (G : GT) (d : Nat) (as : List AV) (mem : Mem) (Q : Option AV → Mem → Prop) : Prop := Ct G yX5_countStances cX5_countStances 4 none d as mem Q
abbrev E_X5_shareEither (G : GT) (d pc : Nat) (ls : List (Nat × AV)) (st : List AV) (mem : Mem) (Q : Option AV → Mem → Prop) : Prop := Ex G RX5 cX5_shareEither 6 none d pc ls st mem Q
abbrev C_X5_shareEither (G : GT) (d : Nat) (as : List AV) (mem : Mem) (Q : Option AV → Mem → Prop) : Prop := Ct G yX5_shareEither cX5_shareEither 6 none d as mem Q
abbrev E_X5_maySay (G : GT) (d pc : Nat) (ls : List (Nat × AV)) (st : List AV) (mem : Mem) (Q : Option AV → Mem → Prop) : Prop := Ex G RX5 cX5_maySay 5 (some .boolean) d pc ls st mem Q
abbrev C_X5_maySay (G : GT) (d : Nat) (as : List AV) (mem : Mem) (Q : Option AV → Mem → Prop) : Prop := Ct G yX5_maySay cX5_maySay 5 (some .boolean) d as mem Q
abbrev E_X5_placeOf (G : GT) (d pc : Nat) (ls : List (Nat × AV)) (st : List AV) (mem : Mem) (Q : Option AV → Mem → Prop) : Prop := Ex G RX5 cX5_placeOf 4 (some .int) d pc ls st mem Q
abbrev C_X5_placeOf (G : GT) (d : Nat) (as : List AV) (mem : Mem) (Q : Option AV → Mem → Prop) : Prop := Ct G yX5_placeOf cX5_placeOf 4 (some .int) d as mem Q
abbrev E_X5_choose (G : GT) (d pc : Nat) (ls : List (Nat × AV)) (st : List AV) (mem : Mem) (Q : Option AV → Mem → Prop) : Prop := Ex G RX5 cX5_choose 3 none d pc ls st mem Q
abbrev C_X5_choose (G : GT) (d : Nat) (as : List AV) (mem : Mem) (Q : Option AV → Mem → Prop) : Prop := Ct G yX5_choose cX5_choose 3 none d as mem Q
abbrev E_X5_spread (G : GT) (d pc : Nat) (ls : List (Nat × AV)) (st : List AV) (mem : Mem) (Q : Option AV → Mem → Prop) : Prop := Ex G RX5 cX5_spread 4 none d pc ls st mem Q
abbrev C_X5_spread (G : GT) (d : Nat) (as : List AV) (mem : Mem) (Q : Option AV → Mem → Prop) : Prop := Ct G yX5_spread cX5_spread 4 none d as mem Q
abbrev E_X11_lets (G : GT) (d pc : Nat) (ls : List (Nat × AV)) (st : List AV) (mem : Mem) (Q : Option AV → Mem → Prop) : Prop := Ex G RX11 cX11_lets 5 (some .int) d pc ls st mem Q
abbrev C_X11_lets (G : GT) (d : Nat) (as : List AV) (mem : Mem) (Q : Option AV → Mem → Prop) : Prop := Ct G yX11_lets cX11_lets 5 (some .int) d as mem Q
abbrev E_X11_letsAll (G : GT) (d pc : Nat) (ls : List (Nat × AV)) (st : List AV) (mem : Mem) (Q : Option AV → Mem → Prop) : Prop := Ex G RX11 cX11_letsAll 6 (some .boolean) d pc ls st mem Q
abbrev C_X11_letsAll (G : GT) (d : Nat) (as : List AV) (mem : Mem) (Q : Option AV → Mem → Prop) : Prop := Ct G yX11_letsAll cX11_letsAll 6 (some .boolean) d as mem Q
abbrev E_X11_letsWhole (G : GT) (d pc : Nat) (ls : List (Nat × AV)) (st : List AV) (mem : Mem) (Q : Option AV → Mem → Prop) : Prop := Ex G RX11 cX11_letsWhole 5 (some .boolean) d pc ls st mem Q
abbrev C_X11_letsWhole (G : GT) (d : Nat) (as : List AV) (mem : Mem) (Q : Option AV → Mem → Prop) : Prop := Ct G yX11_letsWhole cX11_letsWhole 5 (some .boolean) d as mem Q
set_option maxRecDepth 20000 in
set_option maxHeartbeats 4000000 in
theorem B_X5_tiesOfLiars {G : GT} {d : Nat} {l1 : Int} {mem : Mem} {Q : Option AV → Mem → Prop} (hd : 1 ≤ d) (H : E_X5_tiesOfLiars G d 4 [(0, vR 49), (1, vI l1), (2, vI 0), (3, vI 0)] [] mem Q) : C_X5_tiesOfLiars G d [vR 49, vI l1] mem Q := by
  refine Ct_of_Ex (by decide +kernel) (by exact Nat.le_of_ble_eq_true rfl) (ls := [(0, vR 49), (1, vI l1)]) rfl ?_
  show E_X5_tiesOfLiars G d 0 [(0, vR 49), (1, vI l1)] [] mem Q
  refine x_iconst (q := 1) dX5_tiesOfLiars_0 rfl ?_
  refine x_istoren (q := 2) (ls' := [(2, vI 0), (0, vR 49), (1, vI l1)]) rfl (by decide) rfl dX5_tiesOfLiars_1 rfl ?_
  refine x_iconst (q := 3) dX5_tiesOfLiars_2 rfl ?_
  refine x_istoren (q := 4) (ls' := [(3, vI 0), (2, vI 0), (0, vR 49), (1, vI l1)]) rfl (by decide) rfl dX5_tiesOfLiars_3 rfl ?_
  refine x_sub [2, 3, 1, 0] rfl ?_
  exact H
set_option maxRecDepth 20000 in
set_option maxHeartbeats 4000000 in
theorem B_X5_tiesOfLiars_4 {G : GT} {d : Nat} {l1 : Int} {l2 : Int} {l3 : Int} {mem : Mem} {Q : Option AV → Mem → Prop} (hd : 1 ≤ d) (H : (inr l3) ∧ (((mem 1 0 ≤ l3) → (Q (some (vI l2)) mem)) ∧ (¬ (mem 1 0 ≤ l3) → ((0 ≤ l3 ∧ l3 < 12) ∧ ((¬ (iand (ishr l1 l3) 1 ≠ 0 ∧ mem 2 l3 ≠ 5) → (E_X5_tiesOfLiars G d 4 [(0, vR 49), (1, vI l1), (2, vI l2), (3, vI (l3 + 1))] [] mem Q)) ∧ ((iand (ishr l1 l3) 1 ≠ 0 ∧ mem 2 l3 ≠ 5) → ((0 ≤ l3 ∧ l3 < 12) ∧ (E_X5_tiesOfLiars G d 4 [(0, vR 49), (1, vI l1), (2, vI (l2 + (bitc (mem 5 l3)))), (3, vI (l3 + 1))] [] mem Q)))))))) : E_X5_tiesOfLiars G d 4 [(0, vR 49), (1, vI l1), (2, vI l2), (3, vI l3)] [] mem Q := by
  refine x_iloadn (q := 5) 3 rfl rfl dX5_tiesOfLiars_4 rfl ?_
  refine x_aloadn (q := 6) 0 rfl rfl rfl dX5_tiesOfLiars_5 rfl ?_
  refine x_getr (q := 9) dX5_tiesOfLiars_6 rfl fa_X5_34 sh_49 rfl ?_
  refine x_geti (q := 12) (ji := 0) dX5_tiesOfLiars_9 rfl fa_X5_43 sh_1 rfl rfl (fun r1 => ?_)
  obtain ⟨s2, H⟩ := H
  obtain ⟨H1, H2⟩ := H
  refine x_icmp_ge (tgt := 45) (q := 15) dX5_tiesOfLiars_12 (by decide) rfl s2 r1 (fun hB => ?_) (fun hB => ?_)
  · have H := H1 (hB)
    refine x_iloadn (q := 46) 2 rfl rfl dX5_tiesOfLiars_45 rfl ?_
    exact x_iret rfl dX5_tiesOfLiars_46 H
  · have H := H2 (hB)
    refine x_aloadn (q := 16) 0 rfl rfl rfl dX5_tiesOfLiars_15 rfl ?_
    refine x_iloadn (q := 17) 3 rfl rfl dX5_tiesOfLiars_16 rfl ?_
    refine x_iloadn (q := 18) 1 rfl rfl dX5_tiesOfLiars_17 rfl ?_
    obtain ⟨⟨s5, s6⟩, H⟩ := H
    refine x_callV (q := 21) (d := d - 1) (as := [vI l3, vI l1]) (st := []) dX5_tiesOfLiars_18 rfl mv_X5_47 sh_49 rfl rfl rfl (by exact Nat.le_of_ble_eq_true rfl) ⟨by show _ ≤ d; omega, by show _ ≤ 40 * d; omega⟩ ⟨Nat.le_refl _, Nat.le_refl _⟩ (ct_lies s5 s6 ?_)
    show E_X5_tiesOfLiars G d 21 [(0, vR 49), (1, vI l1), (2, vI l2), (3, vI l3)] [vI (bz (iand (ishr l1 l3) 1 ≠ 0 ∧ mem 2 l3 ≠ 5))] mem Q
    obtain ⟨H1, H2⟩ := H
    refine x_if_eq (tgt := 39) (q := 24) dX5_tiesOfLiars_21 (by decide) rfl (bz_inr _) (fun hB => ?_) (fun hB => ?_)
    · have H := H1 (bz_0.mp hB)
      refine x_iinc (q := 42) (ls' := [(3, vI (l3 + 1)), (0, vR 49), (1, vI l1), (2, vI l2)]) 3 rfl (by decide) rfl dX5_tiesOfLiars_39 rfl ?_
      refine x_goto (tgt := 4) dX5_tiesOfLiars_42 (by decide) ?_
      refine x_sub [1, 2, 3, 0] rfl ?_
      exact H
    · have H := H2 (Classical.byContradiction (fun z => hB (bz_0.mpr z)))
      refine x_iloadn (q := 25) 2 rfl rfl dX5_tiesOfLiars_24 rfl ?_
      refine x_aloadn (q := 26) 0 rfl rfl rfl dX5_tiesOfLiars_25 rfl ?_
      refine x_getr (q := 29) dX5_tiesOfLiars_26 rfl fa_X5_34 sh_49 rfl ?_
      refine x_getr (q := 32) dX5_tiesOfLiars_29 rfl fa_X5_51 sh_1 rfl ?_
      refine x_iloadn (q := 33) 3 rfl rfl dX5_tiesOfLiars_32 rfl ?_
      obtain ⟨⟨s9, s10⟩, H⟩ := H
      refine x_iald (q := 34) dX5_tiesOfLiars_33 rfl sh_5 s9 s10 (fun r11 => ?_)
      refine x_callS (q := 37) (d := d - 1) (as := [vI (mem 5 l3)]) (st := [vI l2]) dX5_tiesOfLiars_34 rfl ms_X5_54 rfl rfl (by exact Nat.le_of_ble_eq_true rfl) ⟨by show _ ≤ d; omega, by show _ ≤ 40 * d; omega⟩ ⟨Nat.le_refl _, Nat.le_refl _⟩ (ct_bitc ?_)
      show E_X5_tiesOfLiars G d 37 [(0, vR 49), (1, vI l1), (2, vI l2), (3, vI l3)] [vI (bitc (mem 5 l3)), vI l2] mem Q
      refine x_iadd (q := 38) dX5_tiesOfLiars_37 rfl ?_
      refine x_istoren (q := 39) (ls' := [(2, vI (l2 + (bitc (mem 5 l3)))), (0, vR 49), (1, vI l1), (3, vI l3)]) rfl (by decide) rfl dX5_tiesOfLiars_38 rfl ?_
      refine x_iinc (q := 42) (ls' := [(3, vI (l3 + 1)), (2, vI (l2 + (bitc (mem 5 l3)))), (0, vR 49), (1, vI l1)]) 3 rfl (by decide) rfl dX5_tiesOfLiars_39 rfl ?_
      refine x_goto (tgt := 4) dX5_tiesOfLiars_42 (by decide) ?_
      refine x_sub [2, 3, 1, 0] rfl ?_
      exact H
set_option maxRecDepth 20000 in
set_option maxHeartbeats 4000000 in
theorem B_X5_listTies {G : GT} {d : Nat} {l1 : Int} {mem : Mem} {Q : Option AV → Mem → Prop} (hd : 1 ≤ d) (H : ∀ m1 : Mem, m1 = upM mem 49 7 0 → (E_X5_listTies G d 7 [(0, vR 49), (1, vI l1), (2, vI 0)] [] m1 Q)) : C_X5_listTies G d [vR 49, vI l1] mem Q := by
  refine Ct_of_Ex (by decide +kernel) (by exact Nat.le_of_ble_eq_true rfl) (ls := [(0, vR 49), (1, vI l1)]) rfl ?_
  show E_X5_listTies G d 0 [(0, vR 49), (1, vI l1)] [] mem Q
  refine x_aloadn (q := 1) 0 rfl rfl rfl dX5_listTies_0 rfl ?_
  refine x_iconst (q := 2) dX5_listTies_1 rfl ?_
  refine x_puti (q := 5) (ji := 7) dX5_listTies_2 rfl fp_X5_67 sh_49 rfl rfl (by decide) (fun m1 em1 => ?_)
  have H := H m1 em1
  refine x_iconst (q := 6) dX5_listTies_5 rfl ?_
  refine x_istoren (q := 7) (ls' := [(2, vI 0), (0, vR 49), (1, vI l1)]) rfl (by decide) rfl dX5_listTies_6 rfl ?_
  refine x_sub [1, 2, 0] rfl ?_
  exact H
set_option maxRecDepth 20000 in
set_option maxHeartbeats 4000000 in
theorem B_X5_listTies_7 {G : GT} {d : Nat} {l1 : Int} {l2 : Int} {mem : Mem} {Q : Option AV → Mem → Prop} (hd : 1 ≤ d) (H : (inr l2) ∧ (((mem 1 0 ≤ l2) → (Q none mem)) ∧ (¬ (mem 1 0 ≤ l2) → (E_X5_listTies G d 20 [(0, vR 49), (1, vI l1), (2, vI l2), (3, vI 0)] [] mem Q)))) : E_X5_listTies G d 7 [(0, vR 49), (1, vI l1), (2, vI l2)] [] mem Q := by
  refine x_iloadn (q := 8) 2 rfl rfl dX5_listTies_7 rfl ?_
  refine x_aloadn (q := 9) 0 rfl rfl rfl dX5_listTies_8 rfl ?_
  refine x_getr (q := 12) dX5_listTies_9 rfl fa_X5_34 sh_49 rfl ?_
  refine x_geti (q := 15) (ji := 0) dX5_listTies_12 rfl fa_X5_43 sh_1 rfl rfl (fun r2 => ?_)
  obtain ⟨s3, H⟩ := H
  obtain ⟨H1, H2⟩ := H
  refine x_icmp_ge (tgt := 147) (q := 18) dX5_listTies_15 (by decide) rfl s3 r2 (fun hB => ?_) (fun hB => ?_)
  · have H := H1 (hB)
    exact x_vret rfl dX5_listTies_147 H
  · have H := H2 (hB)
    refine x_iconst (q := 19) dX5_listTies_18 rfl ?_
    refine x_istoren (q := 20) (ls' := [(3, vI 0), (0, vR 49), (1, vI l1), (2, vI l2)]) rfl (by decide) rfl dX5_listTies_19 rfl ?_
    refine x_sub [1, 2, 3, 0] rfl ?_
    exact H
set_option maxRecDepth 20000 in
set_option maxHeartbeats 4000000 in
theorem B_X5_listTies_20 {G : GT} {d : Nat} {l1 : Int} {l2 : Int} {l3 : Int} {mem : Mem} {Q : Option AV → Mem → Prop} (hd : 4 ≤ d) (H : (inr l3) ∧ (((mem 1 0 ≤ l3) → (E_X5_listTies G d 7 [(0, vR 49), (1, vI l1), (2, vI (l2 + 1))] [] mem Q)) ∧ (¬ (mem 1 0 ≤ l3) → ((0 ≤ l2 ∧ l2 < 12) ∧ ((¬ (iand (ishr l1 l2) 1 ≠ 0 ∧ mem 2 l2 ≠ 5) → (E_X5_listTies G d 20 [(0, vR 49), (1, vI l1), (2, vI l2), (3, vI (l3 + 1))] [] mem Q)) ∧ ((iand (ishr l1 l2) 1 ≠ 0 ∧ mem 2 l2 ≠ 5) → ((0 ≤ l2 ∧ l2 < 12) ∧ ((¬ (iand (ishr (mem 5 l2) l3) 1 ≠ 0) → (E_X5_listTies G d 20 [(0, vR 49), (1, vI l1), (2, vI l2), (3, vI (l3 + 1))] [] mem Q)) ∧ ((iand (ishr (mem 5 l2) l3) 1 ≠ 0) → (((8 ≤ mem 49 7) → (E_X5_listTies G d 20 [(0, vR 49), (1, vI l1), (2, vI l2), (3, vI (l3 + 1))] [] mem Q)) ∧ (¬ (8 ≤ mem 49 7) → ((0 ≤ mem 49 7 ∧ mem 49 7 < 8) ∧ ((inr l2) ∧ (∀ m24 : Mem, m24 = upM mem 54 (mem 49 7) l2 → ((0 ≤ m24 49 7 ∧ m24 49 7 < 8) ∧ (∀ m29 : Mem, m29 = upM m24 55 (m24 49 7) l3 → ((0 ≤ l2 ∧ l2 < 12) ∧ ((0 ≤ m29 2 l2 ∧ m29 2 l2 < 6) ∧ ((0 ≤ m29 49 7 ∧ m29 49 7 < 8) ∧ (∀ m38 : Mem, m38 = upM m29 56 (m29 49 7) (lcs (m29 2 l2) (nz 1)) → ((0 ≤ m38 2 l2 ∧ m38 2 l2 < 6) ∧ ((0 ≤ m38 49 7 ∧ m38 49 7 < 8) ∧ (∀ m45 : Mem, m45 = upM m38 57 (m38 49 7) (lcs (m38 2 l2) (nz 0)) → ((inr ((m45 49 7) + 1)) ∧ (∀ m47 : Mem, m47 = upM m45 49 7 ((m45 49 7) + 1) → (E_X5_listTies G d 20 [(0, vR 49), (1, vI l1), (2, vI l2), (3, vI (l3 + 1))] [] m47 Q)))))))))))))))))))))))))) : E_X5_listTies G d 20 [(0, vR 49), (1, vI l1), (2, vI l2), (3, vI l3)] [] mem Q := by
  refine x_iloadn (q := 21) 3 rfl rfl dX5_listTies_20 rfl ?_
  refine x_aloadn (q := 22) 0 rfl rfl rfl dX5_listTies_21 rfl ?_
  refine x_getr (q := 25) dX5_listTies_22 rfl fa_X5_34 sh_49 rfl ?_
  refine x_geti (q := 28) (ji := 0) dX5_listTies_25 rfl fa_X5_43 sh_1 rfl rfl (fun r6 => ?_)
  obtain ⟨s7, H⟩ := H
  obtain ⟨H1, H2⟩ := H
  refine x_icmp_ge (tgt := 141) (q := 31) dX5_listTies_28 (by decide) rfl s7 r6 (fun hB => ?_) (fun hB => ?_)
  · have H := H1 (hB)
    refine x_iinc (q := 144) (ls' := [(2, vI (l2 + 1)), (0, vR 49), (1, vI l1), (3, vI l3)]) 2 rfl (by decide) rfl dX5_listTies_141 rfl ?_
    refine x_goto (tgt := 7) dX5_listTies_144 (by decide) ?_
    refine x_sub [1, 2, 0] rfl ?_
    exact H
  · have H := H2 (hB)
    refine x_aloadn (q := 32) 0 rfl rfl rfl dX5_listTies_31 rfl ?_
    refine x_iloadn (q := 33) 2 rfl rfl dX5_listTies_32 rfl ?_
    refine x_iloadn (q := 34) 1 rfl rfl dX5_listTies_33 rfl ?_
    obtain ⟨⟨s10, s11⟩, H⟩ := H
    refine x_callV (q := 37) (d := d - 1) (as := [vI l2, vI l1]) (st := []) dX5_listTies_34 rfl mv_X5_47 sh_49 rfl rfl rfl (by exact Nat.le_of_ble_eq_true rfl) ⟨by show _ ≤ d; omega, by show _ ≤ 40 * d; omega⟩ ⟨Nat.le_refl _, Nat.le_refl _⟩ (ct_lies s10 s11 ?_)
    show E_X5_listTies G d 37 [(0, vR 49), (1, vI l1), (2, vI l2), (3, vI l3)] [vI (bz (iand (ishr l1 l2) 1 ≠ 0 ∧ mem 2 l2 ≠ 5))] mem Q
    obtain ⟨H1, H2⟩ := H
    refine x_if_eq (tgt := 135) (q := 40) dX5_listTies_37 (by decide) rfl (bz_inr _) (fun hB => ?_) (fun hB => ?_)
    · have H := H1 (bz_0.mp hB)
      refine x_iinc (q := 138) (ls' := [(3, vI (l3 + 1)), (0, vR 49), (1, vI l1), (2, vI l2)]) 3 rfl (by decide) rfl dX5_listTies_135 rfl ?_
      refine x_goto (tgt := 20) dX5_listTies_138 (by decide) ?_
      refine x_sub [1, 2, 3, 0] rfl ?_
      exact H
    · have H := H2 (Classical.byContradiction (fun z => hB (bz_0.mpr z)))
      refine x_aloadn (q := 41) 0 rfl rfl rfl dX5_listTies_40 rfl ?_
      refine x_getr (q := 44) dX5_listTies_41 rfl fa_X5_34 sh_49 rfl ?_
      refine x_iloadn (q := 45) 2 rfl rfl dX5_listTies_44 rfl ?_
      refine x_iloadn (q := 46) 3 rfl rfl dX5_listTies_45 rfl ?_
      obtain ⟨⟨s14, s15⟩, H⟩ := H
      refine x_callV (q := 49) (d := d - 1) (as := [vI l2, vI l3]) (st := []) dX5_listTies_46 rfl mv_X5_79 sh_1 rfl rfl rfl (by exact Nat.le_of_ble_eq_true rfl) ⟨by show _ ≤ d; omega, by show _ ≤ 40 * d; omega⟩ ⟨Nat.le_refl _, Nat.le_refl _⟩ (ct_tied (by decide) s14 s15 ?_)
      show E_X5_listTies G d 49 [(0, vR 49), (1, vI l1), (2, vI l2), (3, vI l3)] [vI (bz (iand (ishr (mem 5 l2) l3) 1 ≠ 0))] mem Q
      obtain ⟨H1, H2⟩ := H
      refine x_if_eq (tgt := 135) (q := 52) dX5_listTies_49 (by decide) rfl (bz_inr _) (fun hB => ?_) (fun hB => ?_)
      · have H := H1 (bz_0.mp hB)
        refine x_iinc (q := 138) (ls' := [(3, vI (l3 + 1)), (0, vR 49), (1, vI l1), (2, vI l2)]) 3 rfl (by decide) rfl dX5_listTies_135 rfl ?_
        refine x_goto (tgt := 20) dX5_listTies_138 (by decide) ?_
        refine x_sub [1, 2, 3, 0] rfl ?_
        exact H
      · have H := H2 (Classical.byContradiction (fun z => hB (bz_0.mpr z)))
        refine x_aloadn (q := 53) 0 rfl rfl rfl dX5_listTies_52 rfl ?_
        refine x_geti (q := 56) (ji := 7) dX5_listTies_53 rfl fa_X5_67 sh_49 rfl rfl (fun r18 => ?_)
        refine x_bipush (q := 58) rfl dX5_listTies_56 rfl ?_
        obtain ⟨H1, H2⟩ := H
        refine x_icmp_ge (tgt := 135) (q := 61) dX5_listTies_58 (by decide) rfl r18 (by decide) (fun hB => ?_) (fun hB => ?_)
        · have H := H1 (hB)
          refine x_iinc (q := 138) (ls' := [(3, vI (l3 + 1)), (0, vR 49), (1, vI l1), (2, vI l2)]) 3 rfl (by decide) rfl dX5_listTies_135 rfl ?_
          refine x_goto (tgt := 20) dX5_listTies_138 (by decide) ?_
          refine x_sub [1, 2, 3, 0] rfl ?_
          exact H
        · have H := H2 (hB)
          refine x_aloadn (q := 62) 0 rfl rfl rfl dX5_listTies_61 rfl ?_
          refine x_getr (q := 65) dX5_listTies_62 rfl fa_X5_18 sh_49 rfl ?_
          refine x_aloadn (q := 66) 0 rfl rfl rfl dX5_listTies_65 rfl ?_
          refine x_geti (q := 69) (ji := 7) dX5_listTies_66 rfl fa_X5_67 sh_49 rfl rfl (fun r21 => ?_)
          refine x_iloadn (q := 70) 2 rfl rfl dX5_listTies_69 rfl ?_
          obtain ⟨⟨s22, s23⟩, H⟩ := H
          obtain ⟨s25, H⟩ := H
          refine x_iast (q := 71) dX5_listTies_70 rfl sh_54 s22 s23 s25 (fun m24 em24 => ?_)
          have H := H m24 em24
          refine x_aloadn (q := 72) 0 rfl rfl rfl dX5_listTies_71 rfl ?_
          refine x_getr (q := 75) dX5_listTies_72 rfl fa_X5_22 sh_49 rfl ?_
          refine x_aloadn (q := 76) 0 rfl rfl rfl dX5_listTies_75 rfl ?_
          refine x_geti (q := 79) (ji := 7) dX5_listTies_76 rfl fa_X5_67 sh_49 rfl rfl (fun r26 => ?_)
          refine x_iloadn (q := 80) 3 rfl rfl dX5_listTies_79 rfl ?_
          obtain ⟨⟨s27, s28⟩, H⟩ := H
          refine x_iast (q := 81) dX5_listTies_80 rfl sh_55 s27 s28 s7 (fun m29 em29 => ?_)
          have H := H m29 em29
          refine x_aloadn (q := 82) 0 rfl rfl rfl dX5_listTies_81 rfl ?_
          refine x_getr (q := 85) dX5_listTies_82 rfl fa_X5_25 sh_49 rfl ?_
          refine x_aloadn (q := 86) 0 rfl rfl rfl dX5_listTies_85 rfl ?_
          refine x_geti (q := 89) (ji := 7) dX5_listTies_86 rfl fa_X5_67 sh_49 rfl rfl (fun r30 => ?_)
          refine x_aloadn (q := 90) 0 rfl rfl rfl dX5_listTies_89 rfl ?_
          refine x_getr (q := 93) dX5_listTies_90 rfl fa_X5_34 sh_49 rfl ?_
          refine x_getr (q := 96) dX5_listTies_93 rfl fa_X5_38 sh_1 rfl ?_
          refine x_iloadn (q := 97) 2 rfl rfl dX5_listTies_96 rfl ?_
          obtain ⟨⟨s31, s32⟩, H⟩ := H
          refine x_iald (q := 98) dX5_listTies_97 rfl sh_2 s31 s32 (fun r33 => ?_)
          refine x_iconst (q := 99) dX5_listTies_98 rfl ?_
          obtain ⟨⟨s34, s35⟩, H⟩ := H
          refine x_callS (q := 102) (d := d - 1) (as := [vI (m29 2 l2), vI 1]) (st := [vI (m29 49 7), vR 56]) dX5_listTies_99 rfl ms_X5_82 rfl rfl (by exact Nat.le_of_ble_eq_true rfl) ⟨by show _ ≤ d; omega, by show _ ≤ 40 * d; omega⟩ ⟨Nat.le_refl _, Nat.le_refl _⟩ (ct_letCases (by omega) s34 s35 (by decide) ?_)
          show E_X5_listTies G d 102 [(0, vR 49), (1, vI l1), (2, vI l2), (3, vI l3)] [vI (lcs (m29 2 l2) (nz 1)), vI (m29 49 7), vR 56] m29 Q
          obtain ⟨⟨s36, s37⟩, H⟩ := H
          refine x_iast (q := 103) dX5_listTies_102 rfl sh_56 s36 s37 (by have := lcs_r (m29 2 l2) (nz 1); omega) (fun m38 em38 => ?_)
          have H := H m38 em38
          refine x_aloadn (q := 104) 0 rfl rfl rfl dX5_listTies_103 rfl ?_
          refine x_getr (q := 107) dX5_listTies_104 rfl fa_X5_28 sh_49 rfl ?_
          refine x_aloadn (q := 108) 0 rfl rfl rfl dX5_listTies_107 rfl ?_
          refine x_geti (q := 111) (ji := 7) dX5_listTies_108 rfl fa_X5_67 sh_49 rfl rfl (fun r39 => ?_)
          refine x_aloadn (q := 112) 0 rfl rfl rfl dX5_listTies_111 rfl ?_
          refine x_getr (q := 115) dX5_listTies_112 rfl fa_X5_34 sh_49 rfl ?_
          refine x_getr (q := 118) dX5_listTies_115 rfl fa_X5_38 sh_1 rfl ?_
          refine x_iloadn (q := 119) 2 rfl rfl dX5_listTies_118 rfl ?_
          refine x_iald (q := 120) dX5_listTies_119 rfl sh_2 s31 s32 (fun r40 => ?_)
          refine x_iconst (q := 121) dX5_listTies_120 rfl ?_
          obtain ⟨⟨s41, s42⟩, H⟩ := H
          refine x_callS (q := 124) (d := d - 1) (as := [vI (m38 2 l2), vI 0]) (st := [vI (m38 49 7), vR 57]) dX5_listTies_121 rfl ms_X5_82 rfl rfl (by exact Nat.le_of_ble_eq_true rfl) ⟨by show _ ≤ d; omega, by show _ ≤ 40 * d; omega⟩ ⟨Nat.le_refl _, Nat.le_refl _⟩ (ct_letCases (by omega) s41 s42 (by decide) ?_)
          show E_X5_listTies G d 124 [(0, vR 49), (1, vI l1), (2, vI l2), (3, vI l3)] [vI (lcs (m38 2 l2) (nz 0)), vI (m38 49 7), vR 57] m38 Q
          obtain ⟨⟨s43, s44⟩, H⟩ := H
          refine x_iast (q := 125) dX5_listTies_124 rfl sh_57 s43 s44 (by have := lcs_r (m38 2 l2) (nz 0); omega) (fun m45 em45 => ?_)
          have H := H m45 em45
          refine x_aloadn (q := 126) 0 rfl rfl rfl dX5_listTies_125 rfl ?_
          refine x_dup (q := 127) (by exact Nat.ne_of_beq_eq_false rfl) dX5_listTies_126 rfl ?_
          refine x_geti (q := 130) (ji := 7) dX5_listTies_127 rfl fa_X5_67 sh_49 rfl rfl (fun r46 => ?_)
          refine x_iconst (q := 131) dX5_listTies_130 rfl ?_
          refine x_iadd (q := 132) dX5_listTies_131 rfl ?_
          obtain ⟨s48, H⟩ := H
          refine x_puti (q := 135) (ji := 7) dX5_listTies_132 rfl fp_X5_67 sh_49 rfl rfl s48 (fun m47 em47 => ?_)
          have H := H m47 em47
          refine x_iinc (q := 138) (ls' := [(3, vI (l3 + 1)), (0, vR 49), (1, vI l1), (2, vI l2)]) 3 rfl (by decide) rfl dX5_listTies_135 rfl ?_
          refine x_goto (tgt := 20) dX5_listTies_138 (by decide) ?_
          refine x_sub [1, 2, 3, 0] rfl ?_
          exact H
set_option maxRecDepth 20000 in
set_option maxHeartbeats 4000000 in
theorem B_X5_hearWhole {G : GT} {d : Nat} {l1 : Int} {mem : Mem} {Q : Option AV → Mem → Prop} (hd : 1 ≤ d) (H : C_X7_clear G (d - 1) [vR 50] mem (fun r9 m1 => r9 = none ∧ (E_X5_hearWhole G d 9 [(0, vR 49), (1, vI l1), (2, vI 0)] [] m1 Q))) : C_X5_hearWhole G d [vR 49, vI l1] mem Q := by
  refine Ct_of_Ex (by decide +kernel) (by exact Nat.le_of_ble_eq_true rfl) (ls := [(0, vR 49), (1, vI l1)]) rfl ?_
  show E_X5_hearWhole G d 0 [(0, vR 49), (1, vI l1)] [] mem Q
  refine x_aloadn (q := 1) 0 rfl rfl rfl dX5_hearWhole_0 rfl ?_
  refine x_getr (q := 4) dX5_hearWhole_1 rfl fa_X5_12 sh_49 rfl ?_
  refine x_callV (q := 7) (d := d - 1) (as := []) (st := []) dX5_hearWhole_4 rfl mv_X5_88 sh_50 rfl rfl rfl (by exact Nat.le_of_ble_eq_true rfl) ⟨by show _ ≤ d; omega, by show _ ≤ 40 * d; omega⟩ ⟨Nat.le_refl _, Nat.le_refl _⟩ (Ct.mono H (fun r9 m1 H => ?_))
  obtain ⟨rfl, H⟩ := H
  show E_X5_hearWhole G d 7 [(0, vR 49), (1, vI l1)] [] m1 Q
  refine x_iconst (q := 8) dX5_hearWhole_7 rfl ?_
  refine x_istoren (q := 9) (ls' := [(2, vI 0), (0, vR 49), (1, vI l1)]) rfl (by decide) rfl dX5_hearWhole_8 rfl ?_
  refine x_sub [1, 2, 0] rfl ?_
  exact H
set_option maxRecDepth 20000 in
set_option maxHeartbeats 4000000 in
theorem B_X5_hearWhole_9 {G : GT} {d : Nat} {l1 : Int} {l2 : Int} {mem : Mem} {Q : Option AV → Mem → Prop} (hd : 1 ≤ d) (H : (inr l2) ∧ (((mem 1 0 ≤ l2) → (C_X7_fill G (d - 1) [vR 50, vI (mem 1 0)] mem (fun r9 m7 => r9 = none ∧ (Q none m7)))) ∧ (¬ (mem 1 0 ≤ l2) → (E_X5_hearWhole G d 22 [(0, vR 49), (1, vI l1), (2, vI l2), (3, vI 0)] [] mem Q)))) : E_X5_hearWhole G d 9 [(0, vR 49), (1, vI l1), (2, vI l2)] [] mem Q := by
  refine x_iloadn (q := 10) 2 rfl rfl dX5_hearWhole_9 rfl ?_
  refine x_aloadn (q := 11) 0 rfl rfl rfl dX5_hearWhole_10 rfl ?_
  refine x_getr (q := 14) dX5_hearWhole_11 rfl fa_X5_34 sh_49 rfl ?_
  refine x_geti (q := 17) (ji := 0) dX5_hearWhole_14 rfl fa_X5_43 sh_1 rfl rfl (fun r2 => ?_)
  obtain ⟨s3, H⟩ := H
  obtain ⟨H1, H2⟩ := H
  refine x_icmp_ge (tgt := 103) (q := 20) dX5_hearWhole_17 (by decide) rfl s3 r2 (fun hB => ?_) (fun hB => ?_)
  · have H := H1 (hB)
    refine x_aloadn (q := 104) 0 rfl rfl rfl dX5_hearWhole_103 rfl ?_
    refine x_getr (q := 107) dX5_hearWhole_104 rfl fa_X5_12 sh_49 rfl ?_
    refine x_aloadn (q := 108) 0 rfl rfl rfl dX5_hearWhole_107 rfl ?_
    refine x_getr (q := 111) dX5_hearWhole_108 rfl fa_X5_34 sh_49 rfl ?_
    refine x_geti (q := 114) (ji := 0) dX5_hearWhole_111 rfl fa_X5_43 sh_1 rfl rfl (fun r6 => ?_)
    refine x_callV (q := 117) (d := d - 1) (as := [vI (mem 1 0)]) (st := []) dX5_hearWhole_114 rfl mv_X5_95 sh_50 rfl rfl rfl (by exact Nat.le_of_ble_eq_true rfl) ⟨by show _ ≤ d; omega, by show _ ≤ 40 * d; omega⟩ ⟨Nat.le_refl _, Nat.le_refl _⟩ (Ct.mono H (fun r9 m7 H => ?_))
    obtain ⟨rfl, H⟩ := H
    show E_X5_hearWhole G d 117 [(0, vR 49), (1, vI l1), (2, vI l2)] [] m7 Q
    exact x_vret rfl dX5_hearWhole_117 H
  · have H := H2 (hB)
    refine x_iconst (q := 21) dX5_hearWhole_20 rfl ?_
    refine x_istoren (q := 22) (ls' := [(3, vI 0), (0, vR 49), (1, vI l1), (2, vI l2)]) rfl (by decide) rfl dX5_hearWhole_21 rfl ?_
    refine x_sub [1, 2, 3, 0] rfl ?_
    exact H
set_option maxRecDepth 20000 in
set_option maxHeartbeats 4000000 in
theorem B_X5_hearWhole_22 {G : GT} {d : Nat} {l1 : Int} {l2 : Int} {l3 : Int} {mem : Mem} {Q : Option AV → Mem → Prop} (hd : 4 ≤ d) (H : (inr l3) ∧ (((mem 1 0 ≤ l3) → (E_X5_hearWhole G d 9 [(0, vR 49), (1, vI l1), (2, vI (l2 + 1))] [] mem Q)) ∧ (¬ (mem 1 0 ≤ l3) → (((iand (ishr l1 l2) 1 ≠ 0) → (E_X5_hearWhole G d 22 [(0, vR 49), (1, vI l1), (2, vI l2), (3, vI (l3 + 1))] [] mem Q)) ∧ (¬ (iand (ishr l1 l2) 1 ≠ 0) → ((0 ≤ l2 ∧ l2 < 12) ∧ ((¬ (iand (ishr (mem 5 l2) l3) 1 ≠ 0) → (E_X5_hearWhole G d 22 [(0, vR 49), (1, vI l1), (2, vI l2), (3, vI (l3 + 1))] [] mem Q)) ∧ ((iand (ishr (mem 5 l2) l3) 1 ≠ 0) → (((iand (ishr l1 l3) 1 ≠ 0) → ((0 ≤ l2 ∧ l2 < 12) ∧ ((0 ≤ mem 2 l2 ∧ mem 2 l2 < 6) ∧ (C_X7_add G (d - 1) [vR 50, vI (lcs (mem 2 l2) (nz 0)), vI l2, vI l3] mem (fun r9 m25 => r9 = none ∧ (E_X5_hearWhole G d 22 [(0, vR 49), (1, vI l1), (2, vI l2), (3, vI (l3 + 1))] [] m25 Q)))))) ∧ (¬ (iand (ishr l1 l3) 1 ≠ 0) → ((0 ≤ l2 ∧ l2 < 12) ∧ ((0 ≤ mem 2 l2 ∧ mem 2 l2 < 6) ∧ (C_X7_add G (d - 1) [vR 50, vI (lcs (mem 2 l2) (nz 1)), vI l2, vI l3] mem (fun r9 m31 => r9 = none ∧ (E_X5_hearWhole G d 22 [(0, vR 49), (1, vI l1), (2, vI l2), (3, vI (l3 + 1))] [] m31 Q))))))))))))))) : E_X5_hearWhole G d 22 [(0, vR 49), (1, vI l1), (2, vI l2), (3, vI l3)] [] mem Q := by
  refine x_iloadn (q := 23) 3 rfl rfl dX5_hearWhole_22 rfl ?_
  refine x_aloadn (q := 24) 0 rfl rfl rfl dX5_hearWhole_23 rfl ?_
  refine x_getr (q := 27) dX5_hearWhole_24 rfl fa_X5_34 sh_49 rfl ?_
  refine x_geti (q := 30) (ji := 0) dX5_hearWhole_27 rfl fa_X5_43 sh_1 rfl rfl (fun r8 => ?_)
  obtain ⟨s9, H⟩ := H
  obtain ⟨H1, H2⟩ := H
  refine x_icmp_ge (tgt := 97) (q := 33) dX5_hearWhole_30 (by decide) rfl s9 r8 (fun hB => ?_) (fun hB => ?_)
  · have H := H1 (hB)
    refine x_iinc (q := 100) (ls' := [(2, vI (l2 + 1)), (0, vR 49), (1, vI l1), (3, vI l3)]) 2 rfl (by decide) rfl dX5_hearWhole_97 rfl ?_
    refine x_goto (tgt := 9) dX5_hearWhole_100 (by decide) ?_
    refine x_sub [1, 2, 0] rfl ?_
    exact H
  · have H := H2 (hB)
    refine x_iloadn (q := 34) 1 rfl rfl dX5_hearWhole_33 rfl ?_
    refine x_iloadn (q := 35) 2 rfl rfl dX5_hearWhole_34 rfl ?_
    refine x_ishr (q := 36) dX5_hearWhole_35 rfl ?_
    refine x_iconst (q := 37) dX5_hearWhole_36 rfl ?_
    refine x_iand (q := 38) dX5_hearWhole_37 rfl ?_
    obtain ⟨H1, H2⟩ := H
    refine x_if_ne (tgt := 91) (q := 41) dX5_hearWhole_38 (by decide) rfl (iand_inr _ _) (fun hB => ?_) (fun hB => ?_)
    · have H := H1 (hB)
      refine x_iinc (q := 94) (ls' := [(3, vI (l3 + 1)), (0, vR 49), (1, vI l1), (2, vI l2)]) 3 rfl (by decide) rfl dX5_hearWhole_91 rfl ?_
      refine x_goto (tgt := 22) dX5_hearWhole_94 (by decide) ?_
      refine x_sub [1, 2, 3, 0] rfl ?_
      exact H
    · have H := H2 (hB)
      refine x_aloadn (q := 42) 0 rfl rfl rfl dX5_hearWhole_41 rfl ?_
      refine x_getr (q := 45) dX5_hearWhole_42 rfl fa_X5_34 sh_49 rfl ?_
      refine x_iloadn (q := 46) 2 rfl rfl dX5_hearWhole_45 rfl ?_
      refine x_iloadn (q := 47) 3 rfl rfl dX5_hearWhole_46 rfl ?_
      obtain ⟨⟨s14, s15⟩, H⟩ := H
      refine x_callV (q := 50) (d := d - 1) (as := [vI l2, vI l3]) (st := []) dX5_hearWhole_47 rfl mv_X5_79 sh_1 rfl rfl rfl (by exact Nat.le_of_ble_eq_true rfl) ⟨by show _ ≤ d; omega, by show _ ≤ 40 * d; omega⟩ ⟨Nat.le_refl _, Nat.le_refl _⟩ (ct_tied (by decide) s14 s15 ?_)
      show E_X5_hearWhole G d 50 [(0, vR 49), (1, vI l1), (2, vI l2), (3, vI l3)] [vI (bz (iand (ishr (mem 5 l2) l3) 1 ≠ 0))] mem Q
      obtain ⟨H1, H2⟩ := H
      refine x_if_eq (tgt := 91) (q := 53) dX5_hearWhole_50 (by decide) rfl (bz_inr _) (fun hB => ?_) (fun hB => ?_)
      · have H := H1 (bz_0.mp hB)
        refine x_iinc (q := 94) (ls' := [(3, vI (l3 + 1)), (0, vR 49), (1, vI l1), (2, vI l2)]) 3 rfl (by decide) rfl dX5_hearWhole_91 rfl ?_
        refine x_goto (tgt := 22) dX5_hearWhole_94 (by decide) ?_
        refine x_sub [1, 2, 3, 0] rfl ?_
        exact H
      · have H := H2 (Classical.byContradiction (fun z => hB (bz_0.mpr z)))
        refine x_iloadn (q := 54) 1 rfl rfl dX5_hearWhole_53 rfl ?_
        refine x_iloadn (q := 55) 3 rfl rfl dX5_hearWhole_54 rfl ?_
        refine x_ishr (q := 56) dX5_hearWhole_55 rfl ?_
        refine x_iconst (q := 57) dX5_hearWhole_56 rfl ?_
        refine x_iand (q := 58) dX5_hearWhole_57 rfl ?_
        obtain ⟨H1, H2⟩ := H
        refine x_if_ne (tgt := 65) (q := 61) dX5_hearWhole_58 (by decide) rfl (iand_inr _ _) (fun hB => ?_) (fun hB => ?_)
        · have H := H1 (hB)
          refine x_iconst (q := 66) dX5_hearWhole_65 rfl ?_
          refine x_istore (q := 68) (ls' := [(4, vI 0), (0, vR 49), (1, vI l1), (2, vI l2), (3, vI l3)]) (by decide) rfl dX5_hearWhole_66 rfl ?_
          refine x_aloadn (q := 69) 1 rfl rfl rfl dX5_hearWhole_68 rfl ?_
          refine x_getr (q := 72) dX5_hearWhole_69 rfl fa_X5_12 sh_49 rfl ?_
          refine x_aloadn (q := 73) 1 rfl rfl rfl dX5_hearWhole_72 rfl ?_
          refine x_getr (q := 76) dX5_hearWhole_73 rfl fa_X5_34 sh_49 rfl ?_
          refine x_getr (q := 79) dX5_hearWhole_76 rfl fa_X5_38 sh_1 rfl ?_
          refine x_iloadn (q := 80) 3 rfl rfl dX5_hearWhole_79 rfl ?_
          obtain ⟨⟨s20, s21⟩, H⟩ := H
          refine x_iald (q := 81) dX5_hearWhole_80 rfl sh_2 s20 s21 (fun r22 => ?_)
          refine x_iload (q := 83) 0 rfl dX5_hearWhole_81 rfl ?_
          obtain ⟨⟨s23, s24⟩, H⟩ := H
          refine x_callS (q := 86) (d := d - 1) (as := [vI (mem 2 l2), vI 0]) (st := [vR 50]) dX5_hearWhole_83 rfl ms_X5_82 rfl rfl (by exact Nat.le_of_ble_eq_true rfl) ⟨by show _ ≤ d; omega, by show _ ≤ 40 * d; omega⟩ ⟨Nat.le_refl _, Nat.le_refl _⟩ (ct_letCases (by omega) s23 s24 (by decide) ?_)
          show E_X5_hearWhole G d 86 [(4, vI 0), (0, vR 49), (1, vI l1), (2, vI l2), (3, vI l3)] [vI (lcs (mem 2 l2) (nz 0)), vR 50] mem Q
          refine x_iloadn (q := 87) 3 rfl rfl dX5_hearWhole_86 rfl ?_
          refine x_iloadn (q := 88) 4 rfl rfl dX5_hearWhole_87 rfl ?_
          refine x_callV (q := 91) (d := d - 1) (as := [vI (lcs (mem 2 l2) (nz 0)), vI l2, vI l3]) (st := []) dX5_hearWhole_88 rfl mv_X5_91 sh_50 rfl rfl rfl (by exact Nat.le_of_ble_eq_true rfl) ⟨by show _ ≤ d; omega, by show _ ≤ 40 * d; omega⟩ ⟨Nat.le_refl _, Nat.le_refl _⟩ (Ct.mono H (fun r9 m25 H => ?_))
          obtain ⟨rfl, H⟩ := H
          show E_X5_hearWhole G d 91 [(4, vI 0), (0, vR 49), (1, vI l1), (2, vI l2), (3, vI l3)] [] m25 Q
          refine x_iinc (q := 94) (ls' := [(3, vI (l3 + 1)), (4, vI 0), (0, vR 49), (1, vI l1), (2, vI l2)]) 4 rfl (by decide) rfl dX5_hearWhole_91 rfl ?_
          refine x_goto (tgt := 22) dX5_hearWhole_94 (by decide) ?_
          refine x_sub [2, 3, 4, 0] rfl ?_
          exact H
        · have H := H2 (hB)
          refine x_iconst (q := 62) dX5_hearWhole_61 rfl ?_
          refine x_goto (tgt := 66) dX5_hearWhole_62 (by decide) ?_
          refine x_istore (q := 68) (ls' := [(4, vI 1), (0, vR 49), (1, vI l1), (2, vI l2), (3, vI l3)]) (by decide) rfl dX5_hearWhole_66 rfl ?_
          refine x_aloadn (q := 69) 1 rfl rfl rfl dX5_hearWhole_68 rfl ?_
          refine x_getr (q := 72) dX5_hearWhole_69 rfl fa_X5_12 sh_49 rfl ?_
          refine x_aloadn (q := 73) 1 rfl rfl rfl dX5_hearWhole_72 rfl ?_
          refine x_getr (q := 76) dX5_hearWhole_73 rfl fa_X5_34 sh_49 rfl ?_
          refine x_getr (q := 79) dX5_hearWhole_76 rfl fa_X5_38 sh_1 rfl ?_
          refine x_iloadn (q := 80) 3 rfl rfl dX5_hearWhole_79 rfl ?_
          obtain ⟨⟨s26, s27⟩, H⟩ := H
          refine x_iald (q := 81) dX5_hearWhole_80 rfl sh_2 s26 s27 (fun r28 => ?_)
          refine x_iload (q := 83) 0 rfl dX5_hearWhole_81 rfl ?_
          obtain ⟨⟨s29, s30⟩, H⟩ := H
          refine x_callS (q := 86) (d := d - 1) (as := [vI (mem 2 l2), vI 1]) (st := [vR 50]) dX5_hearWhole_83 rfl ms_X5_82 rfl rfl (by exact Nat.le_of_ble_eq_true rfl) ⟨by show _ ≤ d; omega, by show _ ≤ 40 * d; omega⟩ ⟨Nat.le_refl _, Nat.le_refl _⟩ (ct_letCases (by omega) s29 s30 (by decide) ?_)
          show E_X5_hearWhole G d 86 [(4, vI 1), (0, vR 49), (1, vI l1), (2, vI l2), (3, vI l3)] [vI (lcs (mem 2 l2) (nz 1)), vR 50] mem Q
          refine x_iloadn (q := 87) 3 rfl rfl dX5_hearWhole_86 rfl ?_
          refine x_iloadn (q := 88) 4 rfl rfl dX5_hearWhole_87 rfl ?_
          refine x_callV (q := 91) (d := d - 1) (as := [vI (lcs (mem 2 l2) (nz 1)), vI l2, vI l3]) (st := []) dX5_hearWhole_88 rfl mv_X5_91 sh_50 rfl rfl rfl (by exact Nat.le_of_ble_eq_true rfl) ⟨by show _ ≤ d; omega, by show _ ≤ 40 * d; omega⟩ ⟨Nat.le_refl _, Nat.le_refl _⟩ (Ct.mono H (fun r9 m31 H => ?_))
          obtain ⟨rfl, H⟩ := H
          show E_X5_hearWhole G d 91 [(4, vI 1), (0, vR 49), (1, vI l1), (2, vI l2), (3, vI l3)] [] m31 Q
          refine x_iinc (q := 94) (ls' := [(3, vI (l3 + 1)), (4, vI 1), (0, vR 49), (1, vI l1), (2, vI l2)]) 4 rfl (by decide) rfl dX5_hearWhole_91 rfl ?_
          refine x_goto (tgt := 22) dX5_hearWhole_94 (by decide) ?_
          refine x_sub [2, 3, 4, 0] rfl ?_
          exact H
set_option maxRecDepth 20000 in
set_option maxHeartbeats 4000000 in
theorem B_X5_stanceOf {G : GT} {d : Nat} {l1 : Int} {l2 : Int} {mem : Mem} {Q : Option AV → Mem → Prop} (hd : 1 ≤ d) (H : (0 ≤ l2 ∧ l2 < 8) ∧ (((iand (ishr (mem 56 l2) (2 * iand (ishr l1 (mem 54 l2)) 1 + iand (ishr l1 (mem 55 l2)) 1)) 1 ≠ 0) → ((¬ (iand (ishr (mem 57 l2) (2 * iand (ishr l1 (mem 54 l2)) 1 + iand (ishr l1 (mem 55 l2)) 1)) 1 ≠ 0) → (Q (some (vI 1)) mem)) ∧ ((iand (ishr (mem 57 l2) (2 * iand (ishr l1 (mem 54 l2)) 1 + iand (ishr l1 (mem 55 l2)) 1)) 1 ≠ 0) → (Q (some (vI 2)) mem)))) ∧ (¬ (iand (ishr (mem 56 l2) (2 * iand (ishr l1 (mem 54 l2)) 1 + iand (ishr l1 (mem 55 l2)) 1)) 1 ≠ 0) → (Q (some (vI 0)) mem)))) : C_X5_stanceOf G d [vR 49, vI l1, vI l2] mem Q := by
  refine Ct_of_Ex (by decide +kernel) (by exact Nat.le_of_ble_eq_true rfl) (ls := [(0, vR 49), (1, vI l1), (2, vI l2)]) rfl ?_
  show E_X5_stanceOf G d 0 [(0, vR 49), (1, vI l1), (2, vI l2)] [] mem Q
  refine x_aloadn (q := 1) 0 rfl rfl rfl dX5_stanceOf_0 rfl ?_
  refine x_getr (q := 4) dX5_stanceOf_1 rfl fa_X5_25 sh_49 rfl ?_
  refine x_iloadn (q := 5) 2 rfl rfl dX5_stanceOf_4 rfl ?_
  obtain ⟨⟨s1, s2⟩, H⟩ := H
  refine x_iald (q := 6) dX5_stanceOf_5 rfl sh_56 s1 s2 (fun r3 => ?_)
  refine x_iloadn (q := 7) 1 rfl rfl dX5_stanceOf_6 rfl ?_
  refine x_aloadn (q := 8) 0 rfl rfl rfl dX5_stanceOf_7 rfl ?_
  refine x_getr (q := 11) dX5_stanceOf_8 rfl fa_X5_18 sh_49 rfl ?_
  refine x_iloadn (q := 12) 2 rfl rfl dX5_stanceOf_11 rfl ?_
  refine x_iald (q := 13) dX5_stanceOf_12 rfl sh_54 s1 s2 (fun r4 => ?_)
  refine x_aloadn (q := 14) 0 rfl rfl rfl dX5_stanceOf_13 rfl ?_
  refine x_getr (q := 17) dX5_stanceOf_14 rfl fa_X5_22 sh_49 rfl ?_
  refine x_iloadn (q := 18) 2 rfl rfl dX5_stanceOf_17 rfl ?_
  refine x_iald (q := 19) dX5_stanceOf_18 rfl sh_55 s1 s2 (fun r5 => ?_)
  refine x_callS (q := 22) (d := d - 1) (as := [vI (mem 56 l2), vI l1, vI (mem 54 l2), vI (mem 55 l2)]) (st := []) dX5_stanceOf_19 rfl ms_X5_115 rfl rfl (by exact Nat.le_of_ble_eq_true rfl) ⟨by show _ ≤ d; omega, by show _ ≤ 40 * d; omega⟩ ⟨Nat.le_refl _, Nat.le_refl _⟩ (ct_areLet ?_)
  show E_X5_stanceOf G d 22 [(0, vR 49), (1, vI l1), (2, vI l2)] [vI (bz (iand (ishr (mem 56 l2) (2 * iand (ishr l1 (mem 54 l2)) 1 + iand (ishr l1 (mem 55 l2)) 1)) 1 ≠ 0))] mem Q
  obtain ⟨H1, H2⟩ := H
  refine x_if_ne (tgt := 27) (q := 25) dX5_stanceOf_22 (by decide) rfl (bz_inr _) (fun hB => ?_) (fun hB => ?_)
  · have H := H1 (bz_n0.mp hB)
    refine x_aloadn (q := 28) 0 rfl rfl rfl dX5_stanceOf_27 rfl ?_
    refine x_getr (q := 31) dX5_stanceOf_28 rfl fa_X5_28 sh_49 rfl ?_
    refine x_iloadn (q := 32) 2 rfl rfl dX5_stanceOf_31 rfl ?_
    refine x_iald (q := 33) dX5_stanceOf_32 rfl sh_57 s1 s2 (fun r8 => ?_)
    refine x_iloadn (q := 34) 1 rfl rfl dX5_stanceOf_33 rfl ?_
    refine x_aloadn (q := 35) 0 rfl rfl rfl dX5_stanceOf_34 rfl ?_
    refine x_getr (q := 38) dX5_stanceOf_35 rfl fa_X5_18 sh_49 rfl ?_
    refine x_iloadn (q := 39) 2 rfl rfl dX5_stanceOf_38 rfl ?_
    refine x_iald (q := 40) dX5_stanceOf_39 rfl sh_54 s1 s2 (fun r9 => ?_)
    refine x_aloadn (q := 41) 0 rfl rfl rfl dX5_stanceOf_40 rfl ?_
    refine x_getr (q := 44) dX5_stanceOf_41 rfl fa_X5_22 sh_49 rfl ?_
    refine x_iloadn (q := 45) 2 rfl rfl dX5_stanceOf_44 rfl ?_
    refine x_iald (q := 46) dX5_stanceOf_45 rfl sh_55 s1 s2 (fun r10 => ?_)
    refine x_callS (q := 49) (d := d - 1) (as := [vI (mem 57 l2), vI l1, vI (mem 54 l2), vI (mem 55 l2)]) (st := []) dX5_stanceOf_46 rfl ms_X5_115 rfl rfl (by exact Nat.le_of_ble_eq_true rfl) ⟨by show _ ≤ d; omega, by show _ ≤ 40 * d; omega⟩ ⟨Nat.le_refl _, Nat.le_refl _⟩ (ct_areLet ?_)
    show E_X5_stanceOf G d 49 [(0, vR 49), (1, vI l1), (2, vI l2)] [vI (bz (iand (ishr (mem 57 l2) (2 * iand (ishr l1 (mem 54 l2)) 1 + iand (ishr l1 (mem 55 l2)) 1)) 1 ≠ 0))] mem Q
    obtain ⟨H1, H2⟩ := H
    refine x_if_eq (tgt := 56) (q := 52) dX5_stanceOf_49 (by decide) rfl (bz_inr _) (fun hB => ?_) (fun hB => ?_)
    · have H := H1 (bz_0.mp hB)
      refine x_iconst (q := 57) dX5_stanceOf_56 rfl ?_
      exact x_iret rfl dX5_stanceOf_57 H
    · have H := H2 (Classical.byContradiction (fun z => hB (bz_0.mpr z)))
      refine x_iconst (q := 53) dX5_stanceOf_52 rfl ?_
      refine x_goto (tgt := 57) dX5_stanceOf_53 (by decide) ?_
      exact x_iret rfl dX5_stanceOf_57 H
  · have H := H2 (fun z => hB (bz_n0.mpr z))
    refine x_iconst (q := 26) dX5_stanceOf_25 rfl ?_
    exact x_iret rfl dX5_stanceOf_26 H
set_option maxRecDepth 20000 in
set_option maxHeartbeats 4000000 in
theorem B_X5_stancesOf {G : GT} {d : Nat} {l1 : Int} {mem : Mem} {Q : Option AV → Mem → Prop} (hd : 1 ≤ d) (H : E_X5_stancesOf G d 9 [(0, vR 49), (1, vI l1), (2, vI 0), (3, vI ((mem 49 7) - 1))] [] mem Q) : C_X5_stancesOf G d [vR 49, vI l1] mem Q := by
  refine Ct_of_Ex (by decide +kernel) (by exact Nat.le_of_ble_eq_true rfl) (ls := [(0, vR 49), (1, vI l1)]) rfl ?_
  show E_X5_stancesOf G d 0 [(0, vR 49), (1, vI l1)] [] mem Q
  refine x_iconst (q := 1) dX5_stancesOf_0 rfl ?_
  refine x_istoren (q := 2) (ls' := [(2, vI 0), (0, vR 49), (1, vI l1)]) rfl (by decide) rfl dX5_stancesOf_1 rfl ?_
  refine x_aloadn (q := 3) 1 rfl rfl rfl dX5_stancesOf_2 rfl ?_
  refine x_geti (q := 6) (ji := 7) dX5_stancesOf_3 rfl fa_X5_67 sh_49 rfl rfl (fun r1 => ?_)
  refine x_iconst (q := 7) dX5_stancesOf_6 rfl ?_
  refine x_isub (q := 8) dX5_stancesOf_7 rfl ?_
  refine x_istoren (q := 9) (ls' := [(3, vI ((mem 49 7) - 1)), (2, vI 0), (0, vR 49), (1, vI l1)]) rfl (by decide) rfl dX5_stancesOf_8 rfl ?_
  refine x_sub [2, 3, 1, 0] rfl ?_
  exact H
set_option maxRecDepth 20000 in
set_option maxHeartbeats 4000000 in
theorem B_X5_stancesOf_9 {G : GT} {d : Nat} {l1 : Int} {l2 : Int} {l3 : Int} {mem : Mem} {Q : Option AV → Mem → Prop} (hd : 1 ≤ d) (H : (inr l3) ∧ (((l3 < 0) → (Q (some (vI l2)) mem)) ∧ (¬ (l3 < 0) → (C_X5_stanceOf G (d - 1) [vR 49, vI l1, vI l3] mem (fun r9 m5 => ∃ z6 : Int, r9 = some (vI z6) ∧ (E_X5_stancesOf G d 9 [(0, vR 49), (1, vI l1), (2, vI ((l2 * 3) + z6)), (3, vI (l3 + (-1)))] [] m5 Q)))))) : E_X5_stancesOf G d 9 [(0, vR 49), (1, vI l1), (2, vI l2), (3, vI l3)] [] mem Q := by
  refine x_iloadn (q := 10) 3 rfl rfl dX5_stancesOf_9 rfl ?_
  obtain ⟨s2, H⟩ := H
  obtain ⟨H1, H2⟩ := H
  refine x_if_lt (tgt := 30) (q := 13) dX5_stancesOf_10 (by decide) rfl s2 (fun hB => ?_) (fun hB => ?_)
  · have H := H1 (hB)
    refine x_iloadn (q := 31) 2 rfl rfl dX5_stancesOf_30 rfl ?_
    exact x_iret rfl dX5_stancesOf_31 H
  · have H := H2 (hB)
    refine x_iloadn (q := 14) 2 rfl rfl dX5_stancesOf_13 rfl ?_
    refine x_iconst (q := 15) dX5_stancesOf_14 rfl ?_
    refine x_imul (q := 16) dX5_stancesOf_15 rfl ?_
    refine x_aloadn (q := 17) 0 rfl rfl rfl dX5_stancesOf_16 rfl ?_
    refine x_iloadn (q := 18) 1 rfl rfl dX5_stancesOf_17 rfl ?_
    refine x_iloadn (q := 19) 3 rfl rfl dX5_stancesOf_18 rfl ?_
    refine x_callV (q := 22) (d := d - 1) (as := [vI l1, vI l3]) (st := [vI (l2 * 3)]) dX5_stancesOf_19 rfl mv_X5_111 sh_49 rfl rfl rfl (by exact Nat.le_of_ble_eq_true rfl) ⟨by show _ ≤ d; omega, by show _ ≤ 40 * d; omega⟩ ⟨Nat.le_refl _, Nat.le_refl _⟩ (Ct.mono H (fun r9 m5 H => ?_))
    obtain ⟨z6, rfl, H⟩ := H
    show E_X5_stancesOf G d 22 [(0, vR 49), (1, vI l1), (2, vI l2), (3, vI l3)] [vI z6, vI (l2 * 3)] m5 Q
    refine x_iadd (q := 23) dX5_stancesOf_22 rfl ?_
    refine x_istoren (q := 24) (ls' := [(2, vI ((l2 * 3) + z6)), (0, vR 49), (1, vI l1), (3, vI l3)]) rfl (by decide) rfl dX5_stancesOf_23 rfl ?_
    refine x_iinc (q := 27) (ls' := [(3, vI (l3 + (-1))), (2, vI ((l2 * 3) + z6)), (0, vR 49), (1, vI l1)]) 3 rfl (by decide) rfl dX5_stancesOf_24 rfl ?_
    refine x_goto (tgt := 9) dX5_stancesOf_27 (by decide) ?_
    refine x_sub [2, 3, 1, 0] rfl ?_
    exact H
set_option maxRecDepth 20000 in
set_option maxHeartbeats 4000000 in
theorem B_X5_countStances {G : GT} {d : Nat} {l1 : Int} {mem : Mem} {Q : Option AV → Mem → Prop} (hd : 1 ≤ d) (H : E_X5_countStances G d 2 [(0, vR 49), (1, vI l1), (2, vI 0)] [] mem Q) : C_X5_countStances G d [vR 49, vI l1] mem Q := by
  refine Ct_of_Ex (by decide +kernel) (by exact Nat.le_of_ble_eq_true rfl) (ls := [(0, vR 49), (1, vI l1)]) rfl ?_
  show E_X5_countStances G d 0 [(0, vR 49), (1, vI l1)] [] mem Q
  refine x_iconst (q := 1) dX5_countStances_0 rfl ?_
  refine x_istoren (q := 2) (ls' := [(2, vI 0), (0, vR 49), (1, vI l1)]) rfl (by decide) rfl dX5_countStances_1 rfl ?_
  refine x_sub [1, 2, 0] rfl ?_
  exact H
set_option maxRecDepth 20000 in
set_option maxHeartbeats 4000000 in
theorem B_X5_countStances_2 {G : GT} {d : Nat} {l1 : Int} {l2 : Int} {mem : Mem} {Q : Option AV → Mem → Prop} (hd : 1 ≤ d) (H : (inr l2 ∧ inr l1) ∧ (((l1 ≤ l2) → (E_X5_countStances G d 30 [(0, vR 49), (2, vI (ishl 1 (mem 1 0) - 1)), (3, vI 0)] [] mem Q)) ∧ (¬ (l1 ≤ l2) → ((0 ≤ l2 ∧ l2 < 6561) ∧ (∀ m7 : Mem, m7 = upM mem 58 l2 0 → (E_X5_countStances G d 2 [(0, vR 49), (1, vI l1), (2, vI (l2 + 1))] [] m7 Q)))))) : E_X5_countStances G d 2 [(0, vR 49), (1, vI l1), (2, vI l2)] [] mem Q := by
  refine x_iloadn (q := 3) 2 rfl rfl dX5_countStances_2 rfl ?_
  refine x_iloadn (q := 4) 1 rfl rfl dX5_countStances_3 rfl ?_
  obtain ⟨⟨s1, s2⟩, H⟩ := H
  obtain ⟨H1, H2⟩ := H
  refine x_icmp_ge (tgt := 20) (q := 7) dX5_countStances_4 (by decide) rfl s1 s2 (fun hB => ?_) (fun hB => ?_)
  · have H := H1 (hB)
    refine x_aloadn (q := 21) 0 rfl rfl rfl dX5_countStances_20 rfl ?_
    refine x_getr (q := 24) dX5_countStances_21 rfl fa_X5_34 sh_49 rfl ?_
    refine x_callV (q := 27) (d := d - 1) (as := []) (st := []) dX5_countStances_24 rfl mv_X5_98 sh_1 rfl rfl rfl (by exact Nat.le_of_ble_eq_true rfl) ⟨by show _ ≤ d; omega, by show _ ≤ 40 * d; omega⟩ ⟨Nat.le_refl _, Nat.le_refl _⟩ (ct_everyone (by decide) ?_)
    show E_X5_countStances G d 27 [(0, vR 49), (1, vI l1), (2, vI l2)] [vI (ishl 1 (mem 1 0) - 1)] mem Q
    refine x_istoren (q := 28) (ls' := [(2, vI (ishl 1 (mem 1 0) - 1)), (0, vR 49), (1, vI l1)]) rfl (by decide) rfl dX5_countStances_27 rfl ?_
    refine x_iconst (q := 29) dX5_countStances_28 rfl ?_
    refine x_istoren (q := 30) (ls' := [(3, vI 0), (2, vI (ishl 1 (mem 1 0) - 1)), (0, vR 49), (1, vI l1)]) rfl (by decide) rfl dX5_countStances_29 rfl ?_
    refine x_sub [2, 1, 0] rfl ?_
    exact H
  · have H := H2 (hB)
    refine x_aloadn (q := 8) 0 rfl rfl rfl dX5_countStances_7 rfl ?_
    refine x_getr (q := 11) dX5_countStances_8 rfl fa_X5_31 sh_49 rfl ?_
    refine x_iloadn (q := 12) 2 rfl rfl dX5_countStances_11 rfl ?_
    refine x_iconst (q := 13) dX5_countStances_12 rfl ?_
    obtain ⟨⟨s5, s6⟩, H⟩ := H
    refine x_iast (q := 14) dX5_countStances_13 rfl sh_58 s5 s6 (by decide) (fun m7 em7 => ?_)
    have H := H m7 em7
    refine x_iinc (q := 17) (ls' := [(2, vI (l2 + 1)), (0, vR 49), (1, vI l1)]) 2 rfl (by decide) rfl dX5_countStances_14 rfl ?_
    refine x_goto (tgt := 2) dX5_countStances_17 (by decide) ?_
    refine x_sub [1, 2, 0] rfl ?_
    exact H
set_option maxRecDepth 20000 in
set_option maxHeartbeats 4000000 in
theorem B_X5_countStances_30 {G : GT} {d : Nat} {l2 : Int} {l3 : Int} {mem : Mem} {Q : Option AV → Mem → Prop} (hd : 1 ≤ d) (H : (inr l3 ∧ inr l2) ∧ (((l2 < l3) → (Q none mem)) ∧ (¬ (l2 < l3) → ((0 ≤ l3 ∧ l3 < 4096) ∧ (((mem 51 l3 ≠ 0) → (E_X5_countStances G d 30 [(0, vR 49), (2, vI l2), (3, vI (l3 + 1))] [] mem Q)) ∧ (¬ (mem 51 l3 ≠ 0) → (((mem 1 11 < bitc l3) → (E_X5_countStances G d 30 [(0, vR 49), (2, vI l2), (3, vI (l3 + 1))] [] mem Q)) ∧ (¬ (mem 1 11 < bitc l3) → (C_X5_stancesOf G (d - 1) [vR 49, vI l3] mem (fun r9 m20 => ∃ z21 : Int, r9 = some (vI z21) ∧ ((0 ≤ z21 ∧ z21 < 6561) ∧ ((inr ((m20 58 z21) + 1)) ∧ (∀ m25 : Mem, m25 = upM m20 58 z21 ((m20 58 z21) + 1) → (E_X5_countStances G d 30 [(0, vR 49), (2, vI l2), (3, vI (l3 + 1))] [] m25 Q)))))))))))))) : E_X5_countStances G d 30 [(0, vR 49), (2, vI l2), (3, vI l3)] [] mem Q := by
  refine x_iloadn (q := 31) 2 rfl rfl dX5_countStances_30 rfl ?_
  refine x_iloadn (q := 32) 1 rfl rfl dX5_countStances_31 rfl ?_
  obtain ⟨⟨s8, s9⟩, H⟩ := H
  obtain ⟨H1, H2⟩ := H
  refine x_icmp_gt (tgt := 81) (q := 35) dX5_countStances_32 (by decide) rfl s8 s9 (fun hB => ?_) (fun hB => ?_)
  · have H := H1 (hB)
    exact x_vret rfl dX5_countStances_81 H
  · have H := H2 (hB)
    refine x_aloadn (q := 36) 0 rfl rfl rfl dX5_countStances_35 rfl ?_
    refine x_getr (q := 39) dX5_countStances_36 rfl fa_X5_12 sh_49 rfl ?_
    refine x_getr (q := 42) dX5_countStances_39 rfl fa_X5_102 sh_50 rfl ?_
    refine x_iloadn (q := 43) 2 rfl rfl dX5_countStances_42 rfl ?_
    obtain ⟨⟨s12, s13⟩, H⟩ := H
    refine x_iald (q := 44) dX5_countStances_43 rfl sh_51 s12 s13 (fun r14 => ?_)
    obtain ⟨H1, H2⟩ := H
    refine x_if_ne (tgt := 75) (q := 47) dX5_countStances_44 (by decide) rfl r14 (fun hB => ?_) (fun hB => ?_)
    · have H := H1 (hB)
      refine x_iinc (q := 78) (ls' := [(3, vI (l3 + 1)), (0, vR 49), (2, vI l2)]) 2 rfl (by decide) rfl dX5_countStances_75 rfl ?_
      refine x_goto (tgt := 30) dX5_countStances_78 (by decide) ?_
      refine x_sub [1, 2, 0] rfl ?_
      exact H
    · have H := H2 (hB)
      refine x_iloadn (q := 48) 2 rfl rfl dX5_countStances_47 rfl ?_
      refine x_callS (q := 51) (d := d - 1) (as := [vI l3]) (st := []) dX5_countStances_48 rfl ms_X5_54 rfl rfl (by exact Nat.le_of_ble_eq_true rfl) ⟨by show _ ≤ d; omega, by show _ ≤ 40 * d; omega⟩ ⟨Nat.le_refl _, Nat.le_refl _⟩ (ct_bitc ?_)
      show E_X5_countStances G d 51 [(0, vR 49), (2, vI l2), (3, vI l3)] [vI (bitc l3)] mem Q
      refine x_aloadn (q := 52) 0 rfl rfl rfl dX5_countStances_51 rfl ?_
      refine x_getr (q := 55) dX5_countStances_52 rfl fa_X5_34 sh_49 rfl ?_
      refine x_geti (q := 58) (ji := 11) dX5_countStances_55 rfl fa_X5_105 sh_1 rfl rfl (fun r17 => ?_)
      obtain ⟨H1, H2⟩ := H
      refine x_icmp_gt (tgt := 75) (q := 61) dX5_countStances_58 (by decide) rfl (bitc_inr _) r17 (fun hB => ?_) (fun hB => ?_)
      · have H := H1 (hB)
        refine x_iinc (q := 78) (ls' := [(3, vI (l3 + 1)), (0, vR 49), (2, vI l2)]) 2 rfl (by decide) rfl dX5_countStances_75 rfl ?_
        refine x_goto (tgt := 30) dX5_countStances_78 (by decide) ?_
        refine x_sub [1, 2, 0] rfl ?_
        exact H
      · have H := H2 (hB)
        refine x_aloadn (q := 62) 0 rfl rfl rfl dX5_countStances_61 rfl ?_
        refine x_getr (q := 65) dX5_countStances_62 rfl fa_X5_31 sh_49 rfl ?_
        refine x_aloadn (q := 66) 0 rfl rfl rfl dX5_countStances_65 rfl ?_
        refine x_iloadn (q := 67) 2 rfl rfl dX5_countStances_66 rfl ?_
        refine x_callV (q := 70) (d := d - 1) (as := [vI l3]) (st := [vR 58]) dX5_countStances_67 rfl mv_X5_108 sh_49 rfl rfl rfl (by exact Nat.le_of_ble_eq_true rfl) ⟨by show _ ≤ d; omega, by show _ ≤ 40 * d; omega⟩ ⟨Nat.le_refl _, Nat.le_refl _⟩ (Ct.mono H (fun r9 m20 H => ?_))
        obtain ⟨z21, rfl, H⟩ := H
        show E_X5_countStances G d 70 [(0, vR 49), (2, vI l2), (3, vI l3)] [vI z21, vR 58] m20 Q
        refine x_dup2 (q := 71) (by exact Nat.ne_of_beq_eq_false rfl) (by exact Nat.ne_of_beq_eq_false rfl) dX5_countStances_70 rfl ?_
        obtain ⟨⟨s22, s23⟩, H⟩ := H
        refine x_iald (q := 72) dX5_countStances_71 rfl sh_58 s22 s23 (fun r24 => ?_)
        refine x_iconst (q := 73) dX5_countStances_72 rfl ?_
        refine x_iadd (q := 74) dX5_countStances_73 rfl ?_
        obtain ⟨s26, H⟩ := H
        refine x_iast (q := 75) dX5_countStances_74 rfl sh_58 s22 s23 s26 (fun m25 em25 => ?_)
        have H := H m25 em25
        refine x_iinc (q := 78) (ls' := [(3, vI (l3 + 1)), (0, vR 49), (2, vI l2)]) 2 rfl (by decide) rfl dX5_countStances_75 rfl ?_
        refine x_goto (tgt := 30) dX5_countStances_78 (by decide) ?_
        refine x_sub [1, 2, 0] rfl ?_
        exact H
set_option maxRecDepth 20000 in
set_option maxHeartbeats 4000000 in
theorem B_X5_shareEither {G : GT} {d : Nat} {l1 : Int} {mem : Mem} {Q : Option AV → Mem → Prop} (H : E_X5_shareEither G d 2 [(0, vR 49), (1, vI l1), (2, vI 1)] [] mem Q) : C_X5_shareEither G d [vR 49, vI l1] mem Q := by
  refine Ct_of_Ex (by decide +kernel) (by exact Nat.le_of_ble_eq_true rfl) (ls := [(0, vR 49), (1, vI l1)]) rfl ?_
  show E_X5_shareEither G d 0 [(0, vR 49), (1, vI l1)] [] mem Q
  refine x_iconst (q := 1) dX5_shareEither_0 rfl ?_
  refine x_istoren (q := 2) (ls' := [(2, vI 1), (0, vR 49), (1, vI l1)]) rfl (by decide) rfl dX5_shareEither_1 rfl ?_
  refine x_sub [1, 2, 0] rfl ?_
  exact H
set_option maxRecDepth 20000 in
set_option maxHeartbeats 4000000 in
theorem B_X5_shareEither_2 {G : GT} {d : Nat} {l1 : Int} {l2 : Int} {mem : Mem} {Q : Option AV → Mem → Prop} (H : (inr l2 ∧ inr l1) ∧ (((l1 ≤ l2) → (Q none mem)) ∧ (¬ (l1 ≤ l2) → (E_X5_shareEither G d 9 [(0, vR 49), (1, vI l1), (2, vI l2), (3, vI 0)] [] mem Q)))) : E_X5_shareEither G d 2 [(0, vR 49), (1, vI l1), (2, vI l2)] [] mem Q := by
  refine x_iloadn (q := 3) 2 rfl rfl dX5_shareEither_2 rfl ?_
  refine x_iloadn (q := 4) 1 rfl rfl dX5_shareEither_3 rfl ?_
  obtain ⟨⟨s1, s2⟩, H⟩ := H
  obtain ⟨H1, H2⟩ := H
  refine x_icmp_ge (tgt := 92) (q := 7) dX5_shareEither_4 (by decide) rfl s1 s2 (fun hB => ?_) (fun hB => ?_)
  · have H := H1 (hB)
    exact x_vret rfl dX5_shareEither_92 H
  · have H := H2 (hB)
    refine x_iconst (q := 8) dX5_shareEither_7 rfl ?_
    refine x_istoren (q := 9) (ls' := [(3, vI 0), (0, vR 49), (1, vI l1), (2, vI l2)]) rfl (by decide) rfl dX5_shareEither_8 rfl ?_
    refine x_sub [1, 2, 3, 0] rfl ?_
    exact H
set_option maxRecDepth 20000 in
set_option maxHeartbeats 4000000 in
theorem B_X5_shareEither_9 {G : GT} {d : Nat} {l1 : Int} {l2 : Int} {l3 : Int} {mem : Mem} {Q : Option AV → Mem → Prop} (H : (inr l3 ∧ inr l1) ∧ (((l1 ≤ l3) → (E_X5_shareEither G d 2 [(0, vR 49), (1, vI l1), (2, vI (l2 * 3))] [] mem Q)) ∧ (¬ (l1 ≤ l3) → (E_X5_shareEither G d 17 [(0, vR 49), (1, vI l1), (2, vI l2), (3, vI l3), (4, vI l3)] [] mem Q)))) : E_X5_shareEither G d 9 [(0, vR 49), (1, vI l1), (2, vI l2), (3, vI l3)] [] mem Q := by
  refine x_iloadn (q := 10) 3 rfl rfl dX5_shareEither_9 rfl ?_
  refine x_iloadn (q := 11) 1 rfl rfl dX5_shareEither_10 rfl ?_
  obtain ⟨⟨s5, s6⟩, H⟩ := H
  obtain ⟨H1, H2⟩ := H
  refine x_icmp_ge (tgt := 85) (q := 14) dX5_shareEither_11 (by decide) rfl s5 s6 (fun hB => ?_) (fun hB => ?_)
  · have H := H1 (hB)
    refine x_iloadn (q := 86) 2 rfl rfl dX5_shareEither_85 rfl ?_
    refine x_iconst (q := 87) dX5_shareEither_86 rfl ?_
    refine x_imul (q := 88) dX5_shareEither_87 rfl ?_
    refine x_istoren (q := 89) (ls' := [(2, vI (l2 * 3)), (0, vR 49), (1, vI l1), (3, vI l3)]) rfl (by decide) rfl dX5_shareEither_88 rfl ?_
    refine x_goto (tgt := 2) dX5_shareEither_89 (by decide) ?_
    refine x_sub [1, 2, 0] rfl ?_
    exact H
  · have H := H2 (hB)
    refine x_iloadn (q := 15) 3 rfl rfl dX5_shareEither_14 rfl ?_
    refine x_istore (q := 17) (ls' := [(4, vI l3), (0, vR 49), (1, vI l1), (2, vI l2), (3, vI l3)]) (by decide) rfl dX5_shareEither_15 rfl ?_
    refine x_sub [1, 2, 3, 4, 0] rfl ?_
    exact H
set_option maxRecDepth 20000 in
set_option maxHeartbeats 4000000 in
theorem B_X5_shareEither_17 {G : GT} {d : Nat} {l1 : Int} {l2 : Int} {l3 : Int} {l4 : Int} {mem : Mem} {Q : Option AV → Mem → Prop} (H : (inr l4 ∧ inr (l3 + l2)) ∧ (((l3 + l2 ≤ l4) → (E_X5_shareEither G d 9 [(0, vR 49), (1, vI l1), (2, vI l2), (3, vI (l3 + (3 * l2)))] [] mem Q)) ∧ (¬ (l3 + l2 ≤ l4) → ((0 ≤ l4 + (2 * l2) ∧ l4 + (2 * l2) < 6561) ∧ ((0 ≤ l4 + (0 * l2) ∧ l4 + (0 * l2) < 6561) ∧ ((inr ((mem 58 (l4 + (0 * l2))) + (mem 58 (l4 + (2 * l2))))) ∧ (∀ m19 : Mem, m19 = upM mem 58 (l4 + (0 * l2)) ((mem 58 (l4 + (0 * l2))) + (mem 58 (l4 + (2 * l2)))) → ((0 ≤ l4 + (1 * l2) ∧ l4 + (1 * l2) < 6561) ∧ ((inr ((m19 58 (l4 + (1 * l2))) + (mem 58 (l4 + (2 * l2))))) ∧ (∀ m24 : Mem, m24 = upM m19 58 (l4 + (1 * l2)) ((m19 58 (l4 + (1 * l2))) + (mem 58 (l4 + (2 * l2)))) → (E_X5_shareEither G d 17 [(0, vR 49), (1, vI l1), (2, vI l2), (3, vI l3), (4, vI (l4 + 1))] [] m24 Q))))))))))) : E_X5_shareEither G d 17 [(0, vR 49), (1, vI l1), (2, vI l2), (3, vI l3), (4, vI l4)] [] mem Q := by
  refine x_iload (q := 19) 4 rfl dX5_shareEither_17 rfl ?_
  refine x_iloadn (q := 20) 3 rfl rfl dX5_shareEither_19 rfl ?_
  refine x_iloadn (q := 21) 2 rfl rfl dX5_shareEither_20 rfl ?_
  refine x_iadd (q := 22) dX5_shareEither_21 rfl ?_
  obtain ⟨⟨s9, s10⟩, H⟩ := H
  obtain ⟨H1, H2⟩ := H
  refine x_icmp_ge (tgt := 76) (q := 25) dX5_shareEither_22 (by decide) rfl s9 s10 (fun hB => ?_) (fun hB => ?_)
  · have H := H1 (hB)
    refine x_iloadn (q := 77) 3 rfl rfl dX5_shareEither_76 rfl ?_
    refine x_iconst (q := 78) dX5_shareEither_77 rfl ?_
    refine x_iloadn (q := 79) 2 rfl rfl dX5_shareEither_78 rfl ?_
    refine x_imul (q := 80) dX5_shareEither_79 rfl ?_
    refine x_iadd (q := 81) dX5_shareEither_80 rfl ?_
    refine x_istoren (q := 82) (ls' := [(3, vI (l3 + (3 * l2))), (0, vR 49), (1, vI l1), (2, vI l2), (4, vI l4)]) rfl (by decide) rfl dX5_shareEither_81 rfl ?_
    refine x_goto (tgt := 9) dX5_shareEither_82 (by decide) ?_
    refine x_sub [1, 2, 3, 0] rfl ?_
    exact H
  · have H := H2 (hB)
    refine x_aloadn (q := 26) 0 rfl rfl rfl dX5_shareEither_25 rfl ?_
    refine x_getr (q := 29) dX5_shareEither_26 rfl fa_X5_31 sh_49 rfl ?_
    refine x_iload (q := 31) 4 rfl dX5_shareEither_29 rfl ?_
    refine x_iconst (q := 32) dX5_shareEither_31 rfl ?_
    refine x_iloadn (q := 33) 2 rfl rfl dX5_shareEither_32 rfl ?_
    refine x_imul (q := 34) dX5_shareEither_33 rfl ?_
    refine x_iadd (q := 35) dX5_shareEither_34 rfl ?_
    obtain ⟨⟨s13, s14⟩, H⟩ := H
    refine x_iald (q := 36) dX5_shareEither_35 rfl sh_58 s13 s14 (fun r15 => ?_)
    refine x_istore (q := 38) (ls' := [(5, vI (mem 58 (l4 + (2 * l2)))), (0, vR 49), (1, vI l1), (2, vI l2), (3, vI l3), (4, vI l4)]) (by decide) rfl dX5_shareEither_36 rfl ?_
    refine x_aloadn (q := 39) 1 rfl rfl rfl dX5_shareEither_38 rfl ?_
    refine x_getr (q := 42) dX5_shareEither_39 rfl fa_X5_31 sh_49 rfl ?_
    refine x_iload (q := 44) 5 rfl dX5_shareEither_42 rfl ?_
    refine x_iconst (q := 45) dX5_shareEither_44 rfl ?_
    refine x_iloadn (q := 46) 3 rfl rfl dX5_shareEither_45 rfl ?_
    refine x_imul (q := 47) dX5_shareEither_46 rfl ?_
    refine x_iadd (q := 48) dX5_shareEither_47 rfl ?_
    refine x_dup2 (q := 49) (by exact Nat.ne_of_beq_eq_false rfl) (by exact Nat.ne_of_beq_eq_false rfl) dX5_shareEither_48 rfl ?_
    obtain ⟨⟨s16, s17⟩, H⟩ := H
    refine x_iald (q := 50) dX5_shareEither_49 rfl sh_58 s16 s17 (fun r18 => ?_)
    refine x_iload (q := 52) 0 rfl dX5_shareEither_50 rfl ?_
    refine x_iadd (q := 53) dX5_shareEither_52 rfl ?_
    obtain ⟨s20, H⟩ := H
    refine x_iast (q := 54) dX5_shareEither_53 rfl sh_58 s16 s17 s20 (fun m19 em19 => ?_)
    have H := H m19 em19
    refine x_aloadn (q := 55) 1 rfl rfl rfl dX5_shareEither_54 rfl ?_
    refine x_getr (q := 58) dX5_shareEither_55 rfl fa_X5_31 sh_49 rfl ?_
    refine x_iload (q := 60) 5 rfl dX5_shareEither_58 rfl ?_
    refine x_iconst (q := 61) dX5_shareEither_60 rfl ?_
    refine x_iloadn (q := 62) 3 rfl rfl dX5_shareEither_61 rfl ?_
    refine x_imul (q := 63) dX5_shareEither_62 rfl ?_
    refine x_iadd (q := 64) dX5_shareEither_63 rfl ?_
    refine x_dup2 (q := 65) (by exact Nat.ne_of_beq_eq_false rfl) (by exact Nat.ne_of_beq_eq_false rfl) dX5_shareEither_64 rfl ?_
    obtain ⟨⟨s21, s22⟩, H⟩ := H
    refine x_iald (q := 66) dX5_shareEither_65 rfl sh_58 s21 s22 (fun r23 => ?_)
    refine x_iload (q := 68) 0 rfl dX5_shareEither_66 rfl ?_
    refine x_iadd (q := 69) dX5_shareEither_68 rfl ?_
    obtain ⟨s25, H⟩ := H
    refine x_iast (q := 70) dX5_shareEither_69 rfl sh_58 s21 s22 s25 (fun m24 em24 => ?_)
    have H := H m24 em24
    refine x_iinc (q := 73) (ls' := [(4, vI (l4 + 1)), (5, vI (mem 58 (l4 + (2 * l2)))), (0, vR 49), (1, vI l1), (2, vI l2), (3, vI l3)]) 5 rfl (by decide) rfl dX5_shareEither_70 rfl ?_
    refine x_goto (tgt := 17) dX5_shareEither_73 (by decide) ?_
    refine x_sub [2, 3, 4, 5, 0] rfl ?_
    exact H
set_option maxRecDepth 20000 in
set_option maxHeartbeats 4000000 in
theorem B_X5_maySay {G : GT} {d : Nat} {l1 : Int} {l2 : Int} {mem : Mem} {Q : Option AV → Mem → Prop} (hd : 1 ≤ d) (H : E_X5_maySay G d 2 [(0, vR 49), (1, vI l1), (2, vI l2), (3, vI 0)] [] mem Q) : C_X5_maySay G d [vR 49, vI l1, vI l2] mem Q := by
  refine Ct_of_Ex (by decide +kernel) (by exact Nat.le_of_ble_eq_true rfl) (ls := [(0, vR 49), (1, vI l1), (2, vI l2)]) rfl ?_
  show E_X5_maySay G d 0 [(0, vR 49), (1, vI l1), (2, vI l2)] [] mem Q
  refine x_iconst (q := 1) dX5_maySay_0 rfl ?_
  refine x_istoren (q := 2) (ls' := [(3, vI 0), (0, vR 49), (1, vI l1), (2, vI l2)]) rfl (by decide) rfl dX5_maySay_1 rfl ?_
  refine x_sub [1, 2, 3, 0] rfl ?_
  exact H
set_option maxRecDepth 20000 in
set_option maxHeartbeats 4000000 in
theorem B_X5_maySay_2 {G : GT} {d : Nat} {l1 : Int} {l2 : Int} {l3 : Int} {mem : Mem} {Q : Option AV → Mem → Prop} (hd : 1 ≤ d) (H : (inr l3) ∧ (((mem 49 7 ≤ l3) → (Q (some (vI 1)) mem)) ∧ (¬ (mem 49 7 ≤ l3) → (((iand (ishr l2 l3) 1 = 0) → ((0 ≤ l3 ∧ l3 < 8) ∧ (((iand (ishr (mem 57 l3) (2 * iand (ishr l1 (mem 54 l3)) 1 + iand (ishr l1 (mem 55 l3)) 1)) 1 ≠ 0) → (E_X5_maySay G d 2 [(0, vR 49), (1, vI l1), (2, vI l2), (3, vI (l3 + 1))] [] mem Q)) ∧ (¬ (iand (ishr (mem 57 l3) (2 * iand (ishr l1 (mem 54 l3)) 1 + iand (ishr l1 (mem 55 l3)) 1)) 1 ≠ 0) → (Q (some (vI 0)) mem))))) ∧ (¬ (iand (ishr l2 l3) 1 = 0) → ((0 ≤ l3 ∧ l3 < 8) ∧ (((iand (ishr (mem 56 l3) (2 * iand (ishr l1 (mem 54 l3)) 1 + iand (ishr l1 (mem 55 l3)) 1)) 1 ≠ 0) → (E_X5_maySay G d 2 [(0, vR 49), (1, vI l1), (2, vI l2), (3, vI (l3 + 1))] [] mem Q)) ∧ (¬ (iand (ishr (mem 56 l3) (2 * iand (ishr l1 (mem 54 l3)) 1 + iand (ishr l1 (mem 55 l3)) 1)) 1 ≠ 0) → (Q (some (vI 0)) mem))))))))) : E_X5_maySay G d 2 [(0, vR 49), (1, vI l1), (2, vI l2), (3, vI l3)] [] mem Q := by
  refine x_iloadn (q := 3) 3 rfl rfl dX5_maySay_2 rfl ?_
  refine x_aloadn (q := 4) 0 rfl rfl rfl dX5_maySay_3 rfl ?_
  refine x_geti (q := 7) (ji := 7) dX5_maySay_4 rfl fa_X5_67 sh_49 rfl rfl (fun r1 => ?_)
  obtain ⟨s2, H⟩ := H
  obtain ⟨H1, H2⟩ := H
  refine x_icmp_ge (tgt := 64) (q := 10) dX5_maySay_7 (by decide) rfl s2 r1 (fun hB => ?_) (fun hB => ?_)
  · have H := H1 (hB)
    refine x_iconst (q := 65) dX5_maySay_64 rfl ?_
    exact x_zret rfl dX5_maySay_65 (by decide) H
  · have H := H2 (hB)
    refine x_iloadn (q := 11) 2 rfl rfl dX5_maySay_10 rfl ?_
    refine x_iloadn (q := 12) 3 rfl rfl dX5_maySay_11 rfl ?_
    refine x_ishr (q := 13) dX5_maySay_12 rfl ?_
    refine x_iconst (q := 14) dX5_maySay_13 rfl ?_
    refine x_iand (q := 15) dX5_maySay_14 rfl ?_
    obtain ⟨H1, H2⟩ := H
    refine x_if_eq (tgt := 27) (q := 18) dX5_maySay_15 (by decide) rfl (iand_inr _ _) (fun hB => ?_) (fun hB => ?_)
    · have H := H1 (hB)
      refine x_aloadn (q := 28) 0 rfl rfl rfl dX5_maySay_27 rfl ?_
      refine x_getr (q := 31) dX5_maySay_28 rfl fa_X5_28 sh_49 rfl ?_
      refine x_iloadn (q := 32) 3 rfl rfl dX5_maySay_31 rfl ?_
      obtain ⟨⟨s7, s8⟩, H⟩ := H
      refine x_iald (q := 33) dX5_maySay_32 rfl sh_57 s7 s8 (fun r9 => ?_)
      refine x_istore (q := 35) (ls' := [(4, vI (mem 57 l3)), (0, vR 49), (1, vI l1), (2, vI l2), (3, vI l3)]) (by decide) rfl dX5_maySay_33 rfl ?_
      refine x_iload (q := 37) 0 rfl dX5_maySay_35 rfl ?_
      refine x_iloadn (q := 38) 2 rfl rfl dX5_maySay_37 rfl ?_
      refine x_aloadn (q := 39) 1 rfl rfl rfl dX5_maySay_38 rfl ?_
      refine x_getr (q := 42) dX5_maySay_39 rfl fa_X5_18 sh_49 rfl ?_
      refine x_iloadn (q := 43) 4 rfl rfl dX5_maySay_42 rfl ?_
      refine x_iald (q := 44) dX5_maySay_43 rfl sh_54 s7 s8 (fun r10 => ?_)
      refine x_aloadn (q := 45) 1 rfl rfl rfl dX5_maySay_44 rfl ?_
      refine x_getr (q := 48) dX5_maySay_45 rfl fa_X5_22 sh_49 rfl ?_
      refine x_iloadn (q := 49) 4 rfl rfl dX5_maySay_48 rfl ?_
      refine x_iald (q := 50) dX5_maySay_49 rfl sh_55 s7 s8 (fun r11 => ?_)
      refine x_callS (q := 53) (d := d - 1) (as := [vI (mem 57 l3), vI l1, vI (mem 54 l3), vI (mem 55 l3)]) (st := []) dX5_maySay_50 rfl ms_X5_115 rfl rfl (by exact Nat.le_of_ble_eq_true rfl) ⟨by show _ ≤ d; omega, by show _ ≤ 40 * d; omega⟩ ⟨Nat.le_refl _, Nat.le_refl _⟩ (ct_areLet ?_)
      show E_X5_maySay G d 53 [(4, vI (mem 57 l3)), (0, vR 49), (1, vI l1), (2, vI l2), (3, vI l3)] [vI (bz (iand (ishr (mem 57 l3) (2 * iand (ishr l1 (mem 54 l3)) 1 + iand (ishr l1 (mem 55 l3)) 1)) 1 ≠ 0))] mem Q
      obtain ⟨H1, H2⟩ := H
      refine x_if_ne (tgt := 58) (q := 56) dX5_maySay_53 (by decide) rfl (bz_inr _) (fun hB => ?_) (fun hB => ?_)
      · have H := H1 (bz_n0.mp hB)
        refine x_iinc (q := 61) (ls' := [(3, vI (l3 + 1)), (4, vI (mem 57 l3)), (0, vR 49), (1, vI l1), (2, vI l2)]) 4 rfl (by decide) rfl dX5_maySay_58 rfl ?_
        refine x_goto (tgt := 2) dX5_maySay_61 (by decide) ?_
        refine x_sub [2, 3, 4, 0] rfl ?_
        exact H
      · have H := H2 (fun z => hB (bz_n0.mpr z))
        refine x_iconst (q := 57) dX5_maySay_56 rfl ?_
        exact x_zret rfl dX5_maySay_57 (by decide) H
    · have H := H2 (hB)
      refine x_aloadn (q := 19) 0 rfl rfl rfl dX5_maySay_18 rfl ?_
      refine x_getr (q := 22) dX5_maySay_19 rfl fa_X5_25 sh_49 rfl ?_
      refine x_iloadn (q := 23) 3 rfl rfl dX5_maySay_22 rfl ?_
      obtain ⟨⟨s14, s15⟩, H⟩ := H
      refine x_iald (q := 24) dX5_maySay_23 rfl sh_56 s14 s15 (fun r16 => ?_)
      refine x_goto (tgt := 33) dX5_maySay_24 (by decide) ?_
      refine x_istore (q := 35) (ls' := [(4, vI (mem 56 l3)), (0, vR 49), (1, vI l1), (2, vI l2), (3, vI l3)]) (by decide) rfl dX5_maySay_33 rfl ?_
      refine x_iload (q := 37) 0 rfl dX5_maySay_35 rfl ?_
      refine x_iloadn (q := 38) 2 rfl rfl dX5_maySay_37 rfl ?_
      refine x_aloadn (q := 39) 1 rfl rfl rfl dX5_maySay_38 rfl ?_
      refine x_getr (q := 42) dX5_maySay_39 rfl fa_X5_18 sh_49 rfl ?_
      refine x_iloadn (q := 43) 4 rfl rfl dX5_maySay_42 rfl ?_
      refine x_iald (q := 44) dX5_maySay_43 rfl sh_54 s14 s15 (fun r17 => ?_)
      refine x_aloadn (q := 45) 1 rfl rfl rfl dX5_maySay_44 rfl ?_
      refine x_getr (q := 48) dX5_maySay_45 rfl fa_X5_22 sh_49 rfl ?_
      refine x_iloadn (q := 49) 4 rfl rfl dX5_maySay_48 rfl ?_
      refine x_iald (q := 50) dX5_maySay_49 rfl sh_55 s14 s15 (fun r18 => ?_)
      refine x_callS (q := 53) (d := d - 1) (as := [vI (mem 56 l3), vI l1, vI (mem 54 l3), vI (mem 55 l3)]) (st := []) dX5_maySay_50 rfl ms_X5_115 rfl rfl (by exact Nat.le_of_ble_eq_true rfl) ⟨by show _ ≤ d; omega, by show _ ≤ 40 * d; omega⟩ ⟨Nat.le_refl _, Nat.le_refl _⟩ (ct_areLet ?_)
      show E_X5_maySay G d 53 [(4, vI (mem 56 l3)), (0, vR 49), (1, vI l1), (2, vI l2), (3, vI l3)] [vI (bz (iand (ishr (mem 56 l3) (2 * iand (ishr l1 (mem 54 l3)) 1 + iand (ishr l1 (mem 55 l3)) 1)) 1 ≠ 0))] mem Q
      obtain ⟨H1, H2⟩ := H
      refine x_if_ne (tgt := 58) (q := 56) dX5_maySay_53 (by decide) rfl (bz_inr _) (fun hB => ?_) (fun hB => ?_)
      · have H := H1 (bz_n0.mp hB)
        refine x_iinc (q := 61) (ls' := [(3, vI (l3 + 1)), (4, vI (mem 56 l3)), (0, vR 49), (1, vI l1), (2, vI l2)]) 4 rfl (by decide) rfl dX5_maySay_58 rfl ?_
        refine x_goto (tgt := 2) dX5_maySay_61 (by decide) ?_
        refine x_sub [2, 3, 4, 0] rfl ?_
        exact H
      · have H := H2 (fun z => hB (bz_n0.mpr z))
        refine x_iconst (q := 57) dX5_maySay_56 rfl ?_
        exact x_zret rfl dX5_maySay_57 (by decide) H
set_option maxRecDepth 20000 in
set_option maxHeartbeats 4000000 in
theorem B_X5_placeOf {G : GT} {d : Nat} {l1 : Int} {mem : Mem} {Q : Option AV → Mem → Prop} (H : E_X5_placeOf G d 9 [(1, vI l1), (2, vI 0), (3, vI ((mem 49 7) - 1))] [] mem Q) : C_X5_placeOf G d [vR 49, vI l1] mem Q := by
  refine Ct_of_Ex (by decide +kernel) (by exact Nat.le_of_ble_eq_true rfl) (ls := [(0, vR 49), (1, vI l1)]) rfl ?_
  show E_X5_placeOf G d 0 [(0, vR 49), (1, vI l1)] [] mem Q
  refine x_iconst (q := 1) dX5_placeOf_0 rfl ?_
  refine x_istoren (q := 2) (ls' := [(2, vI 0), (0, vR 49), (1, vI l1)]) rfl (by decide) rfl dX5_placeOf_1 rfl ?_
  refine x_aloadn (q := 3) 1 rfl rfl rfl dX5_placeOf_2 rfl ?_
  refine x_geti (q := 6) (ji := 7) dX5_placeOf_3 rfl fa_X5_67 sh_49 rfl rfl (fun r1 => ?_)
  refine x_iconst (q := 7) dX5_placeOf_6 rfl ?_
  refine x_isub (q := 8) dX5_placeOf_7 rfl ?_
  refine x_istoren (q := 9) (ls' := [(3, vI ((mem 49 7) - 1)), (2, vI 0), (0, vR 49), (1, vI l1)]) rfl (by decide) rfl dX5_placeOf_8 rfl ?_
  refine x_sub [3, 1, 0] rfl ?_
  exact H
set_option maxRecDepth 20000 in
set_option maxHeartbeats 4000000 in
theorem B_X5_placeOf_9 {G : GT} {d : Nat} {l1 : Int} {l2 : Int} {l3 : Int} {mem : Mem} {Q : Option AV → Mem → Prop} (H : (inr l3) ∧ (((l3 < 0) → (Q (some (vI l2)) mem)) ∧ (¬ (l3 < 0) → (E_X5_placeOf G d 9 [(1, vI l1), (2, vI ((l2 * 3) + (iand (ishr l1 l3) 1))), (3, vI (l3 + (-1)))] [] mem Q)))) : E_X5_placeOf G d 9 [(1, vI l1), (2, vI l2), (3, vI l3)] [] mem Q := by
  refine x_iloadn (q := 10) 2 rfl rfl dX5_placeOf_9 rfl ?_
  obtain ⟨s2, H⟩ := H
  obtain ⟨H1, H2⟩ := H
  refine x_if_lt (tgt := 29) (q := 13) dX5_placeOf_10 (by decide) rfl s2 (fun hB => ?_) (fun hB => ?_)
  · have H := H1 (hB)
    refine x_iloadn (q := 30) 1 rfl rfl dX5_placeOf_29 rfl ?_
    exact x_iret rfl dX5_placeOf_30 H
  · have H := H2 (hB)
    refine x_iloadn (q := 14) 1 rfl rfl dX5_placeOf_13 rfl ?_
    refine x_iconst (q := 15) dX5_placeOf_14 rfl ?_
    refine x_imul (q := 16) dX5_placeOf_15 rfl ?_
    refine x_iloadn (q := 17) 0 rfl rfl dX5_placeOf_16 rfl ?_
    refine x_iloadn (q := 18) 2 rfl rfl dX5_placeOf_17 rfl ?_
    refine x_ishr (q := 19) dX5_placeOf_18 rfl ?_
    refine x_iconst (q := 20) dX5_placeOf_19 rfl ?_
    refine x_iand (q := 21) dX5_placeOf_20 rfl ?_
    refine x_iadd (q := 22) dX5_placeOf_21 rfl ?_
    refine x_istoren (q := 23) (ls' := [(2, vI ((l2 * 3) + (iand (ishr l1 l3) 1))), (1, vI l1), (3, vI l3)]) rfl (by decide) rfl dX5_placeOf_22 rfl ?_
    refine x_iinc (q := 26) (ls' := [(3, vI (l3 + (-1))), (2, vI ((l2 * 3) + (iand (ishr l1 l3) 1))), (1, vI l1)]) 2 rfl (by decide) rfl dX5_placeOf_23 rfl ?_
    refine x_goto (tgt := 9) dX5_placeOf_26 (by decide) ?_
    refine x_sub [2, 1, 0] rfl ?_
    exact H
set_option maxRecDepth 20000 in
set_option maxHeartbeats 4000000 in
theorem B_X5_choose {G : GT} {d : Nat} {l1 : Int} {mem : Mem} {Q : Option AV → Mem → Prop} (hd : 1 ≤ d) (H : ∀ m1 : Mem, m1 = upM mem 49 8 (-1) → (∀ m2 : Mem, m2 = upM m1 49 9 0 → (E_X5_choose G d 12 [(0, vR 49), (1, vI l1), (2, vI 0)] [] m2 Q))) : C_X5_choose G d [vR 49, vI l1] mem Q := by
  refine Ct_of_Ex (by decide +kernel) (by exact Nat.le_of_ble_eq_true rfl) (ls := [(0, vR 49), (1, vI l1)]) rfl ?_
  show E_X5_choose G d 0 [(0, vR 49), (1, vI l1)] [] mem Q
  refine x_aloadn (q := 1) 0 rfl rfl rfl dX5_choose_0 rfl ?_
  refine x_iconst (q := 2) dX5_choose_1 rfl ?_
  refine x_puti (q := 5) (ji := 8) dX5_choose_2 rfl fp_X5_119 sh_49 rfl rfl (by decide) (fun m1 em1 => ?_)
  have H := H m1 em1
  refine x_aloadn (q := 6) 0 rfl rfl rfl dX5_choose_5 rfl ?_
  refine x_iconst (q := 7) dX5_choose_6 rfl ?_
  refine x_puti (q := 10) (ji := 9) dX5_choose_7 rfl fp_X5_122 sh_49 rfl rfl (by decide) (fun m2 em2 => ?_)
  have H := H m2 em2
  refine x_iconst (q := 11) dX5_choose_10 rfl ?_
  refine x_istoren (q := 12) (ls' := [(2, vI 0), (0, vR 49), (1, vI l1)]) rfl (by decide) rfl dX5_choose_11 rfl ?_
  refine x_sub [1, 2, 0] rfl ?_
  exact H
set_option maxRecDepth 20000 in
set_option maxHeartbeats 4000000 in
theorem B_X5_choose_12 {G : GT} {d : Nat} {l1 : Int} {l2 : Int} {mem : Mem} {Q : Option AV → Mem → Prop} (hd : 1 ≤ d) (H : (inr l2) ∧ (((ishl 1 (mem 49 7) ≤ l2) → (Q none mem)) ∧ (¬ (ishl 1 (mem 49 7) ≤ l2) → (C_X5_maySay G (d - 1) [vR 49, vI l1, vI l2] mem (fun r9 m7 => ∃ z8 : Int, r9 = some (vI z8) ∧ ((inr z8) ∧ (((z8 = 0) → (E_X5_choose G d 12 [(0, vR 49), (1, vI l1), (2, vI (l2 + 1))] [] m7 Q)) ∧ (¬ (z8 = 0) → (C_X5_placeOf G (d - 1) [vR 49, vI l2] m7 (fun r9 m12 => ∃ z13 : Int, r9 = some (vI z13) ∧ ((0 ≤ z13 ∧ z13 < 6561) ∧ (((m12 58 z13 ≤ m12 49 8) → (E_X5_choose G d 12 [(0, vR 49), (1, vI l1), (2, vI (l2 + 1))] [] m12 Q)) ∧ (¬ (m12 58 z13 ≤ m12 49 8) → (C_X5_placeOf G (d - 1) [vR 49, vI l2] m12 (fun r9 m20 => ∃ z21 : Int, r9 = some (vI z21) ∧ ((0 ≤ z21 ∧ z21 < 6561) ∧ (∀ m25 : Mem, m25 = upM m20 49 8 (m20 58 z21) → (∀ m26 : Mem, m26 = upM m25 49 9 l2 → (E_X5_choose G d 12 [(0, vR 49), (1, vI l1), (2, vI (l2 + 1))] [] m26 Q))))))))))))))))))) : E_X5_choose G d 12 [(0, vR 49), (1, vI l1), (2, vI l2)] [] mem Q := by
  refine x_iloadn (q := 13) 2 rfl rfl dX5_choose_12 rfl ?_
  refine x_iconst (q := 14) dX5_choose_13 rfl ?_
  refine x_aloadn (q := 15) 0 rfl rfl rfl dX5_choose_14 rfl ?_
  refine x_geti (q := 18) (ji := 7) dX5_choose_15 rfl fa_X5_67 sh_49 rfl rfl (fun r3 => ?_)
  refine x_ishl (q := 19) dX5_choose_18 rfl ?_
  obtain ⟨s4, H⟩ := H
  obtain ⟨H1, H2⟩ := H
  refine x_icmp_ge (tgt := 73) (q := 22) dX5_choose_19 (by decide) rfl s4 (ishl_inr _ _) (fun hB => ?_) (fun hB => ?_)
  · have H := H1 (hB)
    exact x_vret rfl dX5_choose_73 H
  · have H := H2 (hB)
    refine x_aloadn (q := 23) 0 rfl rfl rfl dX5_choose_22 rfl ?_
    refine x_iloadn (q := 24) 1 rfl rfl dX5_choose_23 rfl ?_
    refine x_iloadn (q := 25) 2 rfl rfl dX5_choose_24 rfl ?_
    refine x_callV (q := 28) (d := d - 1) (as := [vI l1, vI l2]) (st := []) dX5_choose_25 rfl mv_X5_125 sh_49 rfl rfl rfl (by exact Nat.le_of_ble_eq_true rfl) ⟨by show _ ≤ d; omega, by show _ ≤ 40 * d; omega⟩ ⟨Nat.le_refl _, Nat.le_refl _⟩ (Ct.mono H (fun r9 m7 H => ?_))
    obtain ⟨z8, rfl, H⟩ := H
    show E_X5_choose G d 28 [(0, vR 49), (1, vI l1), (2, vI l2)] [vI z8] m7 Q
    obtain ⟨s9, H⟩ := H
    obtain ⟨H1, H2⟩ := H
    refine x_if_eq (tgt := 67) (q := 31) dX5_choose_28 (by decide) rfl s9 (fun hB => ?_) (fun hB => ?_)
    · have H := H1 (hB)
      refine x_iinc (q := 70) (ls' := [(2, vI (l2 + 1)), (0, vR 49), (1, vI l1)]) 2 rfl (by decide) rfl dX5_choose_67 rfl ?_
      refine x_goto (tgt := 12) dX5_choose_70 (by decide) ?_
      refine x_sub [1, 2, 0] rfl ?_
      exact H
    · have H := H2 (hB)
      refine x_aloadn (q := 32) 0 rfl rfl rfl dX5_choose_31 rfl ?_
      refine x_getr (q := 35) dX5_choose_32 rfl fa_X5_31 sh_49 rfl ?_
      refine x_aloadn (q := 36) 0 rfl rfl rfl dX5_choose_35 rfl ?_
      refine x_iloadn (q := 37) 2 rfl rfl dX5_choose_36 rfl ?_
      refine x_callV (q := 40) (d := d - 1) (as := [vI l2]) (st := [vR 58]) dX5_choose_37 rfl mv_X5_128 sh_49 rfl rfl rfl (by exact Nat.le_of_ble_eq_true rfl) ⟨by show _ ≤ d; omega, by show _ ≤ 40 * d; omega⟩ ⟨Nat.le_refl _, Nat.le_refl _⟩ (Ct.mono H (fun r9 m12 H => ?_))
      obtain ⟨z13, rfl, H⟩ := H
      show E_X5_choose G d 40 [(0, vR 49), (1, vI l1), (2, vI l2)] [vI z13, vR 58] m12 Q
      obtain ⟨⟨s14, s15⟩, H⟩ := H
      refine x_iald (q := 41) dX5_choose_40 rfl sh_58 s14 s15 (fun r16 => ?_)
      refine x_aloadn (q := 42) 0 rfl rfl rfl dX5_choose_41 rfl ?_
      refine x_geti (q := 45) (ji := 8) dX5_choose_42 rfl fa_X5_119 sh_49 rfl rfl (fun r17 => ?_)
      obtain ⟨H1, H2⟩ := H
      refine x_icmp_le (tgt := 67) (q := 48) dX5_choose_45 (by decide) rfl r16 r17 (fun hB => ?_) (fun hB => ?_)
      · have H := H1 (hB)
        refine x_iinc (q := 70) (ls' := [(2, vI (l2 + 1)), (0, vR 49), (1, vI l1)]) 2 rfl (by decide) rfl dX5_choose_67 rfl ?_
        refine x_goto (tgt := 12) dX5_choose_70 (by decide) ?_
        refine x_sub [1, 2, 0] rfl ?_
        exact H
      · have H := H2 (hB)
        refine x_aloadn (q := 49) 0 rfl rfl rfl dX5_choose_48 rfl ?_
        refine x_aloadn (q := 50) 0 rfl rfl rfl dX5_choose_49 rfl ?_
        refine x_getr (q := 53) dX5_choose_50 rfl fa_X5_31 sh_49 rfl ?_
        refine x_aloadn (q := 54) 0 rfl rfl rfl dX5_choose_53 rfl ?_
        refine x_iloadn (q := 55) 2 rfl rfl dX5_choose_54 rfl ?_
        refine x_callV (q := 58) (d := d - 1) (as := [vI l2]) (st := [vR 58, vR 49]) dX5_choose_55 rfl mv_X5_128 sh_49 rfl rfl rfl (by exact Nat.le_of_ble_eq_true rfl) ⟨by show _ ≤ d; omega, by show _ ≤ 40 * d; omega⟩ ⟨Nat.le_refl _, Nat.le_refl _⟩ (Ct.mono H (fun r9 m20 H => ?_))
        obtain ⟨z21, rfl, H⟩ := H
        show E_X5_choose G d 58 [(0, vR 49), (1, vI l1), (2, vI l2)] [vI z21, vR 58, vR 49] m20 Q
        obtain ⟨⟨s22, s23⟩, H⟩ := H
        refine x_iald (q := 59) dX5_choose_58 rfl sh_58 s22 s23 (fun r24 => ?_)
        refine x_puti (q := 62) (ji := 8) dX5_choose_59 rfl fp_X5_119 sh_49 rfl rfl r24 (fun m25 em25 => ?_)
        have H := H m25 em25
        refine x_aloadn (q := 63) 0 rfl rfl rfl dX5_choose_62 rfl ?_
        refine x_iloadn (q := 64) 2 rfl rfl dX5_choose_63 rfl ?_
        refine x_puti (q := 67) (ji := 9) dX5_choose_64 rfl fp_X5_122 sh_49 rfl rfl s4 (fun m26 em26 => ?_)
        have H := H m26 em26
        refine x_iinc (q := 70) (ls' := [(2, vI (l2 + 1)), (0, vR 49), (1, vI l1)]) 2 rfl (by decide) rfl dX5_choose_67 rfl ?_
        refine x_goto (tgt := 12) dX5_choose_70 (by decide) ?_
        refine x_sub [1, 2, 0] rfl ?_
        exact H
set_option maxRecDepth 20000 in
set_option maxHeartbeats 4000000 in
theorem B_X5_spread {G : GT} {d : Nat} {l1 : Int} {mem : Mem} {Q : Option AV → Mem → Prop} (hd : 1 ≤ d) (H : C_X5_listTies G (d - 1) [vR 49, vI l1] mem (fun r9 m1 => r9 = none ∧ (C_X5_hearWhole G (d - 1) [vR 49, vI l1] m1 (fun r9 m2 => r9 = none ∧ (E_X5_spread G d 14 [(0, vR 49), (1, vI l1), (2, vI 1), (3, vI 0)] [] m2 Q))))) : C_X5_spread G d [vR 49, vI l1] mem Q := by
  refine Ct_of_Ex (by decide +kernel) (by exact Nat.le_of_ble_eq_true rfl) (ls := [(0, vR 49), (1, vI l1)]) rfl ?_
  show E_X5_spread G d 0 [(0, vR 49), (1, vI l1)] [] mem Q
  refine x_aloadn (q := 1) 0 rfl rfl rfl dX5_spread_0 rfl ?_
  refine x_iloadn (q := 2) 1 rfl rfl dX5_spread_1 rfl ?_
  refine x_callV (q := 5) (d := d - 1) (as := [vI l1]) (st := []) dX5_spread_2 rfl mv_X5_60 sh_49 rfl rfl rfl (by exact Nat.le_of_ble_eq_true rfl) ⟨by show _ ≤ d; omega, by show _ ≤ 40 * d; omega⟩ ⟨Nat.le_refl _, Nat.le_refl _⟩ (Ct.mono H (fun r9 m1 H => ?_))
  obtain ⟨rfl, H⟩ := H
  show E_X5_spread G d 5 [(0, vR 49), (1, vI l1)] [] m1 Q
  refine x_aloadn (q := 6) 0 rfl rfl rfl dX5_spread_5 rfl ?_
  refine x_iloadn (q := 7) 1 rfl rfl dX5_spread_6 rfl ?_
  refine x_callV (q := 10) (d := d - 1) (as := [vI l1]) (st := []) dX5_spread_7 rfl mv_X5_64 sh_49 rfl rfl rfl (by exact Nat.le_of_ble_eq_true rfl) ⟨by show _ ≤ d; omega, by show _ ≤ 40 * d; omega⟩ ⟨Nat.le_refl _, Nat.le_refl _⟩ (Ct.mono H (fun r9 m2 H => ?_))
  obtain ⟨rfl, H⟩ := H
  show E_X5_spread G d 10 [(0, vR 49), (1, vI l1)] [] m2 Q
  refine x_iconst (q := 11) dX5_spread_10 rfl ?_
  refine x_istoren (q := 12) (ls' := [(2, vI 1), (0, vR 49), (1, vI l1)]) rfl (by decide) rfl dX5_spread_11 rfl ?_
  refine x_iconst (q := 13) dX5_spread_12 rfl ?_
  refine x_istoren (q := 14) (ls' := [(3, vI 0), (2, vI 1), (0, vR 49), (1, vI l1)]) rfl (by decide) rfl dX5_spread_13 rfl ?_
  refine x_sub [2, 3, 1, 0] rfl ?_
  exact H
set_option maxRecDepth 20000 in
set_option maxHeartbeats 4000000 in
theorem B_X5_spread_14 {G : GT} {d : Nat} {l1 : Int} {l2 : Int} {l3 : Int} {mem : Mem} {Q : Option AV → Mem → Prop} (hd : 1 ≤ d) (H : (inr l3) ∧ (((mem 49 7 ≤ l3) → (C_X5_countStances G (d - 1) [vR 49, vI l2] mem (fun r9 m7 => r9 = none ∧ (C_X5_shareEither G (d - 1) [vR 49, vI l2] m7 (fun r9 m8 => r9 = none ∧ (C_X5_choose G (d - 1) [vR 49, vI l1] m8 (fun r9 m9 => r9 = none ∧ (Q none m9)))))))) ∧ (¬ (mem 49 7 ≤ l3) → (E_X5_spread G d 14 [(0, vR 49), (1, vI l1), (2, vI (l2 * 3)), (3, vI (l3 + 1))] [] mem Q)))) : E_X5_spread G d 14 [(0, vR 49), (1, vI l1), (2, vI l2), (3, vI l3)] [] mem Q := by
  refine x_iloadn (q := 15) 3 rfl rfl dX5_spread_14 rfl ?_
  refine x_aloadn (q := 16) 0 rfl rfl rfl dX5_spread_15 rfl ?_
  refine x_geti (q := 19) (ji := 7) dX5_spread_16 rfl fa_X5_67 sh_49 rfl rfl (fun r3 => ?_)
  obtain ⟨s4, H⟩ := H
  obtain ⟨H1, H2⟩ := H
  refine x_icmp_ge (tgt := 32) (q := 22) dX5_spread_19 (by decide) rfl s4 r3 (fun hB => ?_) (fun hB => ?_)
  · have H := H1 (hB)
    refine x_aloadn (q := 33) 0 rfl rfl rfl dX5_spread_32 rfl ?_
    refine x_iloadn (q := 34) 2 rfl rfl dX5_spread_33 rfl ?_
    refine x_callV (q := 37) (d := d - 1) (as := [vI l2]) (st := []) dX5_spread_34 rfl mv_X5_70 sh_49 rfl rfl rfl (by exact Nat.le_of_ble_eq_true rfl) ⟨by show _ ≤ d; omega, by show _ ≤ 40 * d; omega⟩ ⟨Nat.le_refl _, Nat.le_refl _⟩ (Ct.mono H (fun r9 m7 H => ?_))
    obtain ⟨rfl, H⟩ := H
    show E_X5_spread G d 37 [(0, vR 49), (1, vI l1), (2, vI l2), (3, vI l3)] [] m7 Q
    refine x_aloadn (q := 38) 0 rfl rfl rfl dX5_spread_37 rfl ?_
    refine x_iloadn (q := 39) 2 rfl rfl dX5_spread_38 rfl ?_
    refine x_callV (q := 42) (d := d - 1) (as := [vI l2]) (st := []) dX5_spread_39 rfl mv_X5_73 sh_49 rfl rfl rfl (by exact Nat.le_of_ble_eq_true rfl) ⟨by show _ ≤ d; omega, by show _ ≤ 40 * d; omega⟩ ⟨Nat.le_refl _, Nat.le_refl _⟩ (Ct.mono H (fun r9 m8 H => ?_))
    obtain ⟨rfl, H⟩ := H
    show E_X5_spread G d 42 [(0, vR 49), (1, vI l1), (2, vI l2), (3, vI l3)] [] m8 Q
    refine x_aloadn (q := 43) 0 rfl rfl rfl dX5_spread_42 rfl ?_
    refine x_iloadn (q := 44) 1 rfl rfl dX5_spread_43 rfl ?_
    refine x_callV (q := 47) (d := d - 1) (as := [vI l1]) (st := []) dX5_spread_44 rfl mv_X5_76 sh_49 rfl rfl rfl (by exact Nat.le_of_ble_eq_true rfl) ⟨by show _ ≤ d; omega, by show _ ≤ 40 * d; omega⟩ ⟨Nat.le_refl _, Nat.le_refl _⟩ (Ct.mono H (fun r9 m9 H => ?_))
    obtain ⟨rfl, H⟩ := H
    show E_X5_spread G d 47 [(0, vR 49), (1, vI l1), (2, vI l2), (3, vI l3)] [] m9 Q
    exact x_vret rfl dX5_spread_47 H
  · have H := H2 (hB)
    refine x_iloadn (q := 23) 2 rfl rfl dX5_spread_22 rfl ?_
    refine x_iconst (q := 24) dX5_spread_23 rfl ?_
    refine x_imul (q := 25) dX5_spread_24 rfl ?_
    refine x_istoren (q := 26) (ls' := [(2, vI (l2 * 3)), (0, vR 49), (1, vI l1), (3, vI l3)]) rfl (by decide) rfl dX5_spread_25 rfl ?_
    refine x_iinc (q := 29) (ls' := [(3, vI (l3 + 1)), (2, vI (l2 * 3)), (0, vR 49), (1, vI l1)]) 3 rfl (by decide) rfl dX5_spread_26 rfl ?_
    refine x_goto (tgt := 14) dX5_spread_29 (by decide) ?_
    refine x_sub [2, 3, 1, 0] rfl ?_
    exact H
set_option maxRecDepth 20000 in
set_option maxHeartbeats 4000000 in
theorem B_X11_lets {G : GT} {d : Nat} {l1 : Int} {l2 : Int} {mem : Mem} {Q : Option AV → Mem → Prop} (hd : 2 ≤ d) (H : (inr l2) ∧ ((0 ≤ Int.tdiv l2 12 ∧ Int.tdiv l2 12 < 12) ∧ ((¬ (letB (mem 72 (5 + 3 * (Int.tdiv l2 12))) (hb l1 (Int.tdiv l2 12)) (hb l1 (Int.tmod l2 12)) (nz 1) = true) → ((0 ≤ Int.tdiv l2 12 ∧ Int.tdiv l2 12 < 12) ∧ ((¬ (letB (mem 72 (5 + 3 * (Int.tdiv l2 12))) (hb l1 (Int.tdiv l2 12)) (hb l1 (Int.tmod l2 12)) (nz 0) = true) → (Q (some (vI (0 + 0))) mem)) ∧ ((letB (mem 72 (5 + 3 * (Int.tdiv l2 12))) (hb l1 (Int.tdiv l2 12)) (hb l1 (Int.tmod l2 12)) (nz 0) = true) → (Q (some (vI (0 + 2))) mem))))) ∧ ((letB (mem 72 (5 + 3 * (Int.tdiv l2 12))) (hb l1 (Int.tdiv l2 12)) (hb l1 (Int.tmod l2 12)) (nz 1) = true) → ((0 ≤ Int.tdiv l2 12 ∧ Int.tdiv l2 12 < 12) ∧ ((¬ (letB (mem 72 (5 + 3 * (Int.tdiv l2 12))) (hb l1 (Int.tdiv l2 12)) (hb l1 (Int.tmod l2 12)) (nz 0) = true) → (Q (some (vI (1 + 0))) mem)) ∧ ((letB (mem 72 (5 + 3 * (Int.tdiv l2 12))) (hb l1 (Int.tdiv l2 12)) (hb l1 (Int.tmod l2 12)) (nz 0) = true) → (Q (some (vI (1 + 2))) mem)))))))) : C_X11_lets G d [vR 71, vI l1, vI l2] mem Q := by
  refine Ct_of_Ex (by decide +kernel) (by exact Nat.le_of_ble_eq_true rfl) (ls := [(0, vR 71), (1, vI l1), (2, vI l2)]) rfl ?_
  show E_X11_lets G d 0 [(0, vR 71), (1, vI l1), (2, vI l2)] [] mem Q
  refine x_iloadn (q := 1) 2 rfl rfl dX11_lets_0 rfl ?_
  refine x_bipush (q := 3) rfl dX11_lets_1 rfl ?_
  obtain ⟨s1, H⟩ := H
  refine x_idiv (q := 4) s1 (by decide) (by decide) dX11_lets_3 rfl ?_
  refine x_istoren (q := 5) (ls' := [(3, vI (Int.tdiv l2 12)), (0, vR 71), (1, vI l1), (2, vI l2)]) rfl (by decide) rfl dX11_lets_4 rfl ?_
  refine x_iloadn (q := 6) 3 rfl rfl dX11_lets_5 rfl ?_
  refine x_bipush (q := 8) rfl dX11_lets_6 rfl ?_
  refine x_irem (q := 9) s1 (by decide) (by decide) dX11_lets_8 rfl ?_
  refine x_istore (q := 11) (ls' := [(4, vI (Int.tmod l2 12)), (3, vI (Int.tdiv l2 12)), (0, vR 71), (1, vI l1), (2, vI l2)]) (by decide) rfl dX11_lets_9 rfl ?_
  refine x_aloadn (q := 12) 2 rfl rfl rfl dX11_lets_11 rfl ?_
  refine x_iloadn (q := 13) 3 rfl rfl dX11_lets_12 rfl ?_
  refine x_iloadn (q := 14) 1 rfl rfl dX11_lets_13 rfl ?_
  refine x_iload (q := 16) 0 rfl dX11_lets_14 rfl ?_
  refine x_iconst (q := 17) dX11_lets_16 rfl ?_
  obtain ⟨⟨s2, s3⟩, H⟩ := H
  refine x_callV (q := 20) (d := d - 1) (as := [vI l1, vI (Int.tdiv l2 12), vI (Int.tmod l2 12), vI 1]) (st := []) dX11_lets_17 rfl mv_X11_198 sh_71 rfl rfl rfl (by exact Nat.le_of_ble_eq_true rfl) ⟨by show _ ≤ d; omega, by show _ ≤ 40 * d; omega⟩ ⟨Nat.le_refl _, Nat.le_refl _⟩ (ct_isLet (by omega) s2 s3 (by decide) ?_)
  show E_X11_lets G d 20 [(4, vI (Int.tmod l2 12)), (3, vI (Int.tdiv l2 12)), (0, vR 71), (1, vI l1), (2, vI l2)] [vI (bz (letB (mem 72 (5 + 3 * (Int.tdiv l2 12))) (hb l1 (Int.tdiv l2 12)) (hb l1 (Int.tmod l2 12)) (nz 1) = true))] mem Q
  obtain ⟨H1, H2⟩ := H
  refine x_if_eq (tgt := 27) (q := 23) dX11_lets_20 (by decide) rfl (bz_inr _) (fun hB => ?_) (fun hB => ?_)
  · have H := H1 (bz_0.mp hB)
    refine x_iconst (q := 28) dX11_lets_27 rfl ?_
    refine x_aloadn (q := 29) 2 rfl rfl rfl dX11_lets_28 rfl ?_
    refine x_iloadn (q := 30) 3 rfl rfl dX11_lets_29 rfl ?_
    refine x_iloadn (q := 31) 1 rfl rfl dX11_lets_30 rfl ?_
    refine x_iload (q := 33) 0 rfl dX11_lets_31 rfl ?_
    refine x_iconst (q := 34) dX11_lets_33 rfl ?_
    obtain ⟨⟨s6, s7⟩, H⟩ := H
    refine x_callV (q := 37) (d := d - 1) (as := [vI l1, vI (Int.tdiv l2 12), vI (Int.tmod l2 12), vI 0]) (st := [vI 0]) dX11_lets_34 rfl mv_X11_198 sh_71 rfl rfl rfl (by exact Nat.le_of_ble_eq_true rfl) ⟨by show _ ≤ d; omega, by show _ ≤ 40 * d; omega⟩ ⟨Nat.le_refl _, Nat.le_refl _⟩ (ct_isLet (by omega) s6 s7 (by decide) ?_)
    show E_X11_lets G d 37 [(4, vI (Int.tmod l2 12)), (3, vI (Int.tdiv l2 12)), (0, vR 71), (1, vI l1), (2, vI l2)] [vI (bz (letB (mem 72 (5 + 3 * (Int.tdiv l2 12))) (hb l1 (Int.tdiv l2 12)) (hb l1 (Int.tmod l2 12)) (nz 0) = true)), vI 0] mem Q
    obtain ⟨H1, H2⟩ := H
    refine x_if_eq (tgt := 44) (q := 40) dX11_lets_37 (by decide) rfl (bz_inr _) (fun hB => ?_) (fun hB => ?_)
    · have H := H1 (bz_0.mp hB)
      refine x_iconst (q := 45) dX11_lets_44 rfl ?_
      refine x_iadd (q := 46) dX11_lets_45 rfl ?_
      exact x_iret rfl dX11_lets_46 H
    · have H := H2 (Classical.byContradiction (fun z => hB (bz_0.mpr z)))
      refine x_iconst (q := 41) dX11_lets_40 rfl ?_
      refine x_goto (tgt := 45) dX11_lets_41 (by decide) ?_
      refine x_iadd (q := 46) dX11_lets_45 rfl ?_
      exact x_iret rfl dX11_lets_46 H
  · have H := H2 (Classical.byContradiction (fun z => hB (bz_0.mpr z)))
    refine x_iconst (q := 24) dX11_lets_23 rfl ?_
    refine x_goto (tgt := 28) dX11_lets_24 (by decide) ?_
    refine x_aloadn (q := 29) 2 rfl rfl rfl dX11_lets_28 rfl ?_
    refine x_iloadn (q := 30) 3 rfl rfl dX11_lets_29 rfl ?_
    refine x_iloadn (q := 31) 1 rfl rfl dX11_lets_30 rfl ?_
    refine x_iload (q := 33) 0 rfl dX11_lets_31 rfl ?_
    refine x_iconst (q := 34) dX11_lets_33 rfl ?_
    obtain ⟨⟨s10, s11⟩, H⟩ := H
    refine x_callV (q := 37) (d := d - 1) (as := [vI l1, vI (Int.tdiv l2 12), vI (Int.tmod l2 12), vI 0]) (st := [vI 1]) dX11_lets_34 rfl mv_X11_198 sh_71 rfl rfl rfl (by exact Nat.le_of_ble_eq_true rfl) ⟨by show _ ≤ d; omega, by show _ ≤ 40 * d; omega⟩ ⟨Nat.le_refl _, Nat.le_refl _⟩ (ct_isLet (by omega) s10 s11 (by decide) ?_)
    show E_X11_lets G d 37 [(4, vI (Int.tmod l2 12)), (3, vI (Int.tdiv l2 12)), (0, vR 71), (1, vI l1), (2, vI l2)] [vI (bz (letB (mem 72 (5 + 3 * (Int.tdiv l2 12))) (hb l1 (Int.tdiv l2 12)) (hb l1 (Int.tmod l2 12)) (nz 0) = true)), vI 1] mem Q
    obtain ⟨H1, H2⟩ := H
    refine x_if_eq (tgt := 44) (q := 40) dX11_lets_37 (by decide) rfl (bz_inr _) (fun hB => ?_) (fun hB => ?_)
    · have H := H1 (bz_0.mp hB)
      refine x_iconst (q := 45) dX11_lets_44 rfl ?_
      refine x_iadd (q := 46) dX11_lets_45 rfl ?_
      exact x_iret rfl dX11_lets_46 H
    · have H := H2 (Classical.byContradiction (fun z => hB (bz_0.mpr z)))
      refine x_iconst (q := 41) dX11_lets_40 rfl ?_
      refine x_goto (tgt := 45) dX11_lets_41 (by decide) ?_
      refine x_iadd (q := 46) dX11_lets_45 rfl ?_
      exact x_iret rfl dX11_lets_46 H
set_option maxRecDepth 20000 in
set_option maxHeartbeats 4000000 in
theorem B_X11_letsAll {G : GT} {d : Nat} {l1 : Int} {l2 : Int} {l3 : Int} {mem : Mem} {Q : Option AV → Mem → Prop} (hd : 1 ≤ d) (H : E_X11_letsAll G d 6 [(0, vR 71), (1, vI l1), (2, vI l2), (3, vI l3), (4, vI 1), (5, vI 0)] [] mem Q) : C_X11_letsAll G d [vR 71, vI l1, vI l2, vI l3] mem Q := by
  refine Ct_of_Ex (by decide +kernel) (by exact Nat.le_of_ble_eq_true rfl) (ls := [(0, vR 71), (1, vI l1), (2, vI l2), (3, vI l3)]) rfl ?_
  show E_X11_letsAll G d 0 [(0, vR 71), (1, vI l1), (2, vI l2), (3, vI l3)] [] mem Q
  refine x_iconst (q := 1) dX11_letsAll_0 rfl ?_
  refine x_istore (q := 3) (ls' := [(4, vI 1), (0, vR 71), (1, vI l1), (2, vI l2), (3, vI l3)]) (by decide) rfl dX11_letsAll_1 rfl ?_
  refine x_iconst (q := 4) dX11_letsAll_3 rfl ?_
  refine x_istore (q := 6) (ls' := [(5, vI 0), (4, vI 1), (0, vR 71), (1, vI l1), (2, vI l2), (3, vI l3)]) (by decide) rfl dX11_letsAll_4 rfl ?_
  refine x_sub [2, 3, 4, 5, 1, 0] rfl ?_
  exact H
set_option maxRecDepth 20000 in
set_option maxHeartbeats 4000000 in
theorem B_X11_letsAll_6 {G : GT} {d : Nat} {l1 : Int} {l2 : Int} {l3 : Int} {l4 : Int} {l5 : Int} {mem : Mem} {Q : Option AV → Mem → Prop} (hd : 1 ≤ d) (H : (inr l5 ∧ inr l2) ∧ (((l2 ≤ l5) → ((l4 = 0 ∨ l4 = 1) ∧ (Q (some (vI l4)) mem))) ∧ (¬ (l2 ≤ l5) → ((inr l4) ∧ (((l4 = 0) → (E_X11_letsAll G d 6 [(0, vR 71), (1, vI l1), (2, vI l2), (3, vI l3), (4, vI 0), (5, vI (l5 + 1))] [] mem Q)) ∧ (¬ (l4 = 0) → ((0 ≤ l5 ∧ l5 < 8) ∧ (C_X11_lets G (d - 1) [vR 71, vI l1, vI (mem 83 l5)] mem (fun r9 m12 => ∃ z13 : Int, r9 = some (vI z13) ∧ ((¬ (iand (ishr l3 l5) 1 = 1) → ((¬ (iand (ishr z13 1) 1 = 1) → (E_X11_letsAll G d 6 [(0, vR 71), (1, vI l1), (2, vI l2), (3, vI l3), (4, vI 0), (5, vI (l5 + 1))] [] m12 Q)) ∧ ((iand (ishr z13 1) 1 = 1) → (E_X11_letsAll G d 6 [(0, vR 71), (1, vI l1), (2, vI l2), (3, vI l3), (4, vI 1), (5, vI (l5 + 1))] [] m12 Q)))) ∧ ((iand (ishr l3 l5) 1 = 1) → ((¬ (iand (ishr z13 0) 1 = 1) → (E_X11_letsAll G d 6 [(0, vR 71), (1, vI l1), (2, vI l2), (3, vI l3), (4, vI 0), (5, vI (l5 + 1))] [] m12 Q)) ∧ ((iand (ishr z13 0) 1 = 1) → (E_X11_letsAll G d 6 [(0, vR 71), (1, vI l1), (2, vI l2), (3, vI l3), (4, vI 1), (5, vI (l5 + 1))] [] m12 Q)))))))))))))) : E_X11_letsAll G d 6 [(0, vR 71), (1, vI l1), (2, vI l2), (3, vI l3), (4, vI l4), (5, vI l5)] [] mem Q := by
  refine x_iload (q := 8) 5 rfl dX11_letsAll_6 rfl ?_
  refine x_iloadn (q := 9) 2 rfl rfl dX11_letsAll_8 rfl ?_
  obtain ⟨⟨s1, s2⟩, H⟩ := H
  obtain ⟨H1, H2⟩ := H
  refine x_icmp_ge (tgt := 62) (q := 12) dX11_letsAll_9 (by decide) rfl s1 s2 (fun hB => ?_) (fun hB => ?_)
  · have H := H1 (hB)
    refine x_iload (q := 64) 4 rfl dX11_letsAll_62 rfl ?_
    obtain ⟨s5, H⟩ := H
    exact x_zret rfl dX11_letsAll_64 s5 H
  · have H := H2 (hB)
    refine x_iload (q := 14) 4 rfl dX11_letsAll_12 rfl ?_
    obtain ⟨s6, H⟩ := H
    obtain ⟨H1, H2⟩ := H
    refine x_if_eq (tgt := 53) (q := 17) dX11_letsAll_14 (by decide) rfl s6 (fun hB => ?_) (fun hB => ?_)
    · have H := H1 (hB)
      refine x_iconst (q := 54) dX11_letsAll_53 rfl ?_
      refine x_istore (q := 56) (ls' := [(4, vI 0), (0, vR 71), (1, vI l1), (2, vI l2), (3, vI l3), (5, vI l5)]) (by decide) rfl dX11_letsAll_54 rfl ?_
      refine x_iinc (q := 59) (ls' := [(5, vI (l5 + 1)), (4, vI 0), (0, vR 71), (1, vI l1), (2, vI l2), (3, vI l3)]) 5 rfl (by decide) rfl dX11_letsAll_56 rfl ?_
      refine x_goto (tgt := 6) dX11_letsAll_59 (by decide) ?_
      refine x_sub [2, 3, 4, 5, 1, 0] rfl ?_
      exact H
    · have H := H2 (hB)
      refine x_aloadn (q := 18) 0 rfl rfl rfl dX11_letsAll_17 rfl ?_
      refine x_iloadn (q := 19) 1 rfl rfl dX11_letsAll_18 rfl ?_
      refine x_aloadn (q := 20) 0 rfl rfl rfl dX11_letsAll_19 rfl ?_
      refine x_getr (q := 23) dX11_letsAll_20 rfl fa_X11_58 sh_71 rfl ?_
      refine x_iload (q := 25) 5 rfl dX11_letsAll_23 rfl ?_
      obtain ⟨⟨s9, s10⟩, H⟩ := H
      refine x_iald (q := 26) dX11_letsAll_25 rfl sh_83 s9 s10 (fun r11 => ?_)
      refine x_callV (q := 29) (d := d - 1) (as := [vI l1, vI (mem 83 l5)]) (st := []) dX11_letsAll_26 rfl mv_X11_259 sh_71 rfl rfl rfl (by exact Nat.le_of_ble_eq_true rfl) ⟨by show _ ≤ d; omega, by show _ ≤ 40 * d; omega⟩ ⟨Nat.le_refl _, Nat.le_refl _⟩ (Ct.mono H (fun r9 m12 H => ?_))
      obtain ⟨z13, rfl, H⟩ := H
      show E_X11_letsAll G d 29 [(0, vR 71), (1, vI l1), (2, vI l2), (3, vI l3), (4, vI l4), (5, vI l5)] [vI z13] m12 Q
      refine x_iloadn (q := 30) 3 rfl rfl dX11_letsAll_29 rfl ?_
      refine x_iload (q := 32) 5 rfl dX11_letsAll_30 rfl ?_
      refine x_callS (q := 35) (d := d - 1) (as := [vI l3, vI l5]) (st := [vI z13]) dX11_letsAll_32 rfl ms_X11_195 rfl rfl (by exact Nat.le_of_ble_eq_true rfl) ⟨by show _ ≤ d; omega, by show _ ≤ 40 * d; omega⟩ ⟨Nat.le_refl _, Nat.le_refl _⟩ (ct_hasb ?_)
      show E_X11_letsAll G d 35 [(0, vR 71), (1, vI l1), (2, vI l2), (3, vI l3), (4, vI l4), (5, vI l5)] [vI (bz (iand (ishr l3 l5) 1 = 1)), vI z13] m12 Q
      obtain ⟨H1, H2⟩ := H
      refine x_if_eq (tgt := 42) (q := 38) dX11_letsAll_35 (by decide) rfl (bz_inr _) (fun hB => ?_) (fun hB => ?_)
      · have H := H1 (bz_0.mp hB)
        refine x_iconst (q := 43) dX11_letsAll_42 rfl ?_
        refine x_callS (q := 46) (d := d - 1) (as := [vI z13, vI 1]) (st := []) dX11_letsAll_43 rfl ms_X11_195 rfl rfl (by exact Nat.le_of_ble_eq_true rfl) ⟨by show _ ≤ d; omega, by show _ ≤ 40 * d; omega⟩ ⟨Nat.le_refl _, Nat.le_refl _⟩ (ct_hasb ?_)
        show E_X11_letsAll G d 46 [(0, vR 71), (1, vI l1), (2, vI l2), (3, vI l3), (4, vI l4), (5, vI l5)] [vI (bz (iand (ishr z13 1) 1 = 1))] m12 Q
        obtain ⟨H1, H2⟩ := H
        refine x_if_eq (tgt := 53) (q := 49) dX11_letsAll_46 (by decide) rfl (bz_inr _) (fun hB => ?_) (fun hB => ?_)
        · have H := H1 (bz_0.mp hB)
          refine x_iconst (q := 54) dX11_letsAll_53 rfl ?_
          refine x_istore (q := 56) (ls' := [(4, vI 0), (0, vR 71), (1, vI l1), (2, vI l2), (3, vI l3), (5, vI l5)]) (by decide) rfl dX11_letsAll_54 rfl ?_
          refine x_iinc (q := 59) (ls' := [(5, vI (l5 + 1)), (4, vI 0), (0, vR 71), (1, vI l1), (2, vI l2), (3, vI l3)]) 5 rfl (by decide) rfl dX11_letsAll_56 rfl ?_
          refine x_goto (tgt := 6) dX11_letsAll_59 (by decide) ?_
          refine x_sub [2, 3, 4, 5, 1, 0] rfl ?_
          exact H
        · have H := H2 (Classical.byContradiction (fun z => hB (bz_0.mpr z)))
          refine x_iconst (q := 50) dX11_letsAll_49 rfl ?_
          refine x_goto (tgt := 54) dX11_letsAll_50 (by decide) ?_
          refine x_istore (q := 56) (ls' := [(4, vI 1), (0, vR 71), (1, vI l1), (2, vI l2), (3, vI l3), (5, vI l5)]) (by decide) rfl dX11_letsAll_54 rfl ?_
          refine x_iinc (q := 59) (ls' := [(5, vI (l5 + 1)), (4, vI 1), (0, vR 71), (1, vI l1), (2, vI l2), (3, vI l3)]) 5 rfl (by decide) rfl dX11_letsAll_56 rfl ?_
          refine x_goto (tgt := 6) dX11_letsAll_59 (by decide) ?_
          refine x_sub [2, 3, 4, 5, 1, 0] rfl ?_
          exact H
      · have H := H2 (Classical.byContradiction (fun z => hB (bz_0.mpr z)))
        refine x_iconst (q := 39) dX11_letsAll_38 rfl ?_
        refine x_goto (tgt := 43) dX11_letsAll_39 (by decide) ?_
        refine x_callS (q := 46) (d := d - 1) (as := [vI z13, vI 0]) (st := []) dX11_letsAll_43 rfl ms_X11_195 rfl rfl (by exact Nat.le_of_ble_eq_true rfl) ⟨by show _ ≤ d; omega, by show _ ≤ 40 * d; omega⟩ ⟨Nat.le_refl _, Nat.le_refl _⟩ (ct_hasb ?_)
        show E_X11_letsAll G d 46 [(0, vR 71), (1, vI l1), (2, vI l2), (3, vI l3), (4, vI l4), (5, vI l5)] [vI (bz (iand (ishr z13 0) 1 = 1))] m12 Q
        obtain ⟨H1, H2⟩ := H
        refine x_if_eq (tgt := 53) (q := 49) dX11_letsAll_46 (by decide) rfl (bz_inr _) (fun hB => ?_) (fun hB => ?_)
        · have H := H1 (bz_0.mp hB)
          refine x_iconst (q := 54) dX11_letsAll_53 rfl ?_
          refine x_istore (q := 56) (ls' := [(4, vI 0), (0, vR 71), (1, vI l1), (2, vI l2), (3, vI l3), (5, vI l5)]) (by decide) rfl dX11_letsAll_54 rfl ?_
          refine x_iinc (q := 59) (ls' := [(5, vI (l5 + 1)), (4, vI 0), (0, vR 71), (1, vI l1), (2, vI l2), (3, vI l3)]) 5 rfl (by decide) rfl dX11_letsAll_56 rfl ?_
          refine x_goto (tgt := 6) dX11_letsAll_59 (by decide) ?_
          refine x_sub [2, 3, 4, 5, 1, 0] rfl ?_
          exact H
        · have H := H2 (Classical.byContradiction (fun z => hB (bz_0.mpr z)))
          refine x_iconst (q := 50) dX11_letsAll_49 rfl ?_
          refine x_goto (tgt := 54) dX11_letsAll_50 (by decide) ?_
          refine x_istore (q := 56) (ls' := [(4, vI 1), (0, vR 71), (1, vI l1), (2, vI l2), (3, vI l3), (5, vI l5)]) (by decide) rfl dX11_letsAll_54 rfl ?_
          refine x_iinc (q := 59) (ls' := [(5, vI (l5 + 1)), (4, vI 1), (0, vR 71), (1, vI l1), (2, vI l2), (3, vI l3)]) 5 rfl (by decide) rfl dX11_letsAll_56 rfl ?_
          refine x_goto (tgt := 6) dX11_letsAll_59 (by decide) ?_
          refine x_sub [2, 3, 4, 5, 1, 0] rfl ?_
          exact H
set_option maxRecDepth 20000 in
set_option maxHeartbeats 4000000 in
theorem B_X11_letsWhole {G : GT} {d : Nat} {l1 : Int} {l2 : Int} {mem : Mem} {Q : Option AV → Mem → Prop} (hd : 1 ≤ d) (H : E_X11_letsWhole G d 2 [(0, vR 71), (1, vI l1), (2, vI l2), (3, vI 0)] [] mem Q) : C_X11_letsWhole G d [vR 71, vI l1, vI l2] mem Q := by
  refine Ct_of_Ex (by decide +kernel) (by exact Nat.le_of_ble_eq_true rfl) (ls := [(0, vR 71), (1, vI l1), (2, vI l2)]) rfl ?_
  show E_X11_letsWhole G d 0 [(0, vR 71), (1, vI l1), (2, vI l2)] [] mem Q
  refine x_iconst (q := 1) dX11_letsWhole_0 rfl ?_
  refine x_istoren (q := 2) (ls' := [(3, vI 0), (0, vR 71), (1, vI l1), (2, vI l2)]) rfl (by decide) rfl dX11_letsWhole_1 rfl ?_
  refine x_sub [1, 2, 3, 0] rfl ?_
  exact H
set_option maxRecDepth 20000 in
set_option maxHeartbeats 4000000 in
theorem B_X11_letsWhole_2 {G : GT} {d : Nat} {l1 : Int} {l2 : Int} {l3 : Int} {mem : Mem} {Q : Option AV → Mem → Prop} (hd : 2 ≤ d) (H : (inr l3) ∧ (((144 ≤ l3) → (Q (some (vI 1)) mem)) ∧ (¬ (144 ≤ l3) → ((0 ≤ 41 + l3 ∧ 41 + l3 < 553) ∧ (((mem 72 (41 + l3) ≤ 0) → (E_X11_letsWhole G d 2 [(0, vR 71), (1, vI l1), (2, vI l2), (3, vI (l3 + 1))] [] mem Q)) ∧ (¬ (mem 72 (41 + l3) ≤ 0) → (((iand (ishr l2 (Int.tdiv l3 12)) 1 = 1) → (E_X11_letsWhole G d 2 [(0, vR 71), (1, vI l1), (2, vI l2), (3, vI (l3 + 1))] [] mem Q)) ∧ (¬ (iand (ishr l2 (Int.tdiv l3 12)) 1 = 1) → (((iand (ishr l2 (Int.tmod l3 12)) 1 = 1) → ((0 ≤ Int.tdiv l3 12 ∧ Int.tdiv l3 12 < 12) ∧ (((letB (mem 72 (5 + 3 * (Int.tdiv l3 12))) (hb l1 (Int.tdiv l3 12)) (hb l1 (Int.tmod l3 12)) (nz 0) = true) → (E_X11_letsWhole G d 2 [(0, vR 71), (1, vI l1), (2, vI l2), (3, vI (l3 + 1))] [] mem Q)) ∧ (¬ (letB (mem 72 (5 + 3 * (Int.tdiv l3 12))) (hb l1 (Int.tdiv l3 12)) (hb l1 (Int.tmod l3 12)) (nz 0) = true) → (Q (some (vI 0)) mem))))) ∧ (¬ (iand (ishr l2 (Int.tmod l3 12)) 1 = 1) → ((0 ≤ Int.tdiv l3 12 ∧ Int.tdiv l3 12 < 12) ∧ (((letB (mem 72 (5 + 3 * (Int.tdiv l3 12))) (hb l1 (Int.tdiv l3 12)) (hb l1 (Int.tmod l3 12)) (nz 1) = true) → (E_X11_letsWhole G d 2 [(0, vR 71), (1, vI l1), (2, vI l2), (3, vI (l3 + 1))] [] mem Q)) ∧ (¬ (letB (mem 72 (5 + 3 * (Int.tdiv l3 12))) (hb l1 (Int.tdiv l3 12)) (hb l1 (Int.tmod l3 12)) (nz 1) = true) → (Q (some (vI 0)) mem)))))))))))))) : E_X11_letsWhole G d 2 [(0, vR 71), (1, vI l1), (2, vI l2), (3, vI l3)] [] mem Q := by
  refine x_iloadn (q := 3) 3 rfl rfl dX11_letsWhole_2 rfl ?_
  refine x_sipush (q := 6) rfl dX11_letsWhole_3 rfl ?_
  obtain ⟨s1, H⟩ := H
  obtain ⟨H1, H2⟩ := H
  refine x_icmp_ge (tgt := 74) (q := 9) dX11_letsWhole_6 (by decide) rfl s1 (by decide) (fun hB => ?_) (fun hB => ?_)
  · have H := H1 (hB)
    refine x_iconst (q := 75) dX11_letsWhole_74 rfl ?_
    exact x_zret rfl dX11_letsWhole_75 (by decide) H
  · have H := H2 (hB)
    refine x_iloadn (q := 10) 3 rfl rfl dX11_letsWhole_9 rfl ?_
    refine x_bipush (q := 12) rfl dX11_letsWhole_10 rfl ?_
    refine x_idiv (q := 13) s1 (by decide) (by decide) dX11_letsWhole_12 rfl ?_
    refine x_istore (q := 15) (ls' := [(4, vI (Int.tdiv l3 12)), (0, vR 71), (1, vI l1), (2, vI l2), (3, vI l3)]) (by decide) rfl dX11_letsWhole_13 rfl ?_
    refine x_aloadn (q := 16) 1 rfl rfl rfl dX11_letsWhole_15 rfl ?_
    refine x_getr (q := 19) dX11_letsWhole_16 rfl fa_X11_9 sh_71 rfl ?_
    refine x_bipush (q := 21) rfl dX11_letsWhole_19 rfl ?_
    refine x_iloadn (q := 22) 4 rfl rfl dX11_letsWhole_21 rfl ?_
    refine x_iadd (q := 23) dX11_letsWhole_22 rfl ?_
    obtain ⟨⟨s4, s5⟩, H⟩ := H
    refine x_iald (q := 24) dX11_letsWhole_23 rfl sh_72 s4 s5 (fun r6 => ?_)
    obtain ⟨H1, H2⟩ := H
    refine x_if_le (tgt := 68) (q := 27) dX11_letsWhole_24 (by decide) rfl r6 (fun hB => ?_) (fun hB => ?_)
    · have H := H1 (hB)
      refine x_iinc (q := 71) (ls' := [(3, vI (l3 + 1)), (4, vI (Int.tdiv l3 12)), (0, vR 71), (1, vI l1), (2, vI l2)]) 4 rfl (by decide) rfl dX11_letsWhole_68 rfl ?_
      refine x_goto (tgt := 2) dX11_letsWhole_71 (by decide) ?_
      refine x_sub [2, 3, 4, 0] rfl ?_
      exact H
    · have H := H2 (hB)
      refine x_iloadn (q := 28) 3 rfl rfl dX11_letsWhole_27 rfl ?_
      refine x_iload (q := 30) 0 rfl dX11_letsWhole_28 rfl ?_
      refine x_callS (q := 33) (d := d - 1) (as := [vI l2, vI (Int.tdiv l3 12)]) (st := []) dX11_letsWhole_30 rfl ms_X11_195 rfl rfl (by exact Nat.le_of_ble_eq_true rfl) ⟨by show _ ≤ d; omega, by show _ ≤ 40 * d; omega⟩ ⟨Nat.le_refl _, Nat.le_refl _⟩ (ct_hasb ?_)
      show E_X11_letsWhole G d 33 [(4, vI (Int.tdiv l3 12)), (0, vR 71), (1, vI l1), (2, vI l2), (3, vI l3)] [vI (bz (iand (ishr l2 (Int.tdiv l3 12)) 1 = 1))] mem Q
      obtain ⟨H1, H2⟩ := H
      refine x_if_ne (tgt := 68) (q := 36) dX11_letsWhole_33 (by decide) rfl (bz_inr _) (fun hB => ?_) (fun hB => ?_)
      · have H := H1 (bz_n0.mp hB)
        refine x_iinc (q := 71) (ls' := [(3, vI (l3 + 1)), (4, vI (Int.tdiv l3 12)), (0, vR 71), (1, vI l1), (2, vI l2)]) 4 rfl (by decide) rfl dX11_letsWhole_68 rfl ?_
        refine x_goto (tgt := 2) dX11_letsWhole_71 (by decide) ?_
        refine x_sub [2, 3, 4, 0] rfl ?_
        exact H
      · have H := H2 (fun z => hB (bz_n0.mpr z))
        refine x_aloadn (q := 37) 1 rfl rfl rfl dX11_letsWhole_36 rfl ?_
        refine x_iloadn (q := 38) 2 rfl rfl dX11_letsWhole_37 rfl ?_
        refine x_iload (q := 40) 0 rfl dX11_letsWhole_38 rfl ?_
        refine x_iloadn (q := 41) 4 rfl rfl dX11_letsWhole_40 rfl ?_
        refine x_bipush (q := 43) rfl dX11_letsWhole_41 rfl ?_
        refine x_irem (q := 44) s1 (by decide) (by decide) dX11_letsWhole_43 rfl ?_
        refine x_iloadn (q := 45) 3 rfl rfl dX11_letsWhole_44 rfl ?_
        refine x_iloadn (q := 46) 4 rfl rfl dX11_letsWhole_45 rfl ?_
        refine x_bipush (q := 48) rfl dX11_letsWhole_46 rfl ?_
        refine x_irem (q := 49) s1 (by decide) (by decide) dX11_letsWhole_48 rfl ?_
        refine x_callS (q := 52) (d := d - 1) (as := [vI l2, vI (Int.tmod l3 12)]) (st := [vI (Int.tmod l3 12), vI (Int.tdiv l3 12), vI l1, vR 71]) dX11_letsWhole_49 rfl ms_X11_195 rfl rfl (by exact Nat.le_of_ble_eq_true rfl) ⟨by show _ ≤ d; omega, by show _ ≤ 40 * d; omega⟩ ⟨Nat.le_refl _, Nat.le_refl _⟩ (ct_hasb ?_)
        show E_X11_letsWhole G d 52 [(4, vI (Int.tdiv l3 12)), (0, vR 71), (1, vI l1), (2, vI l2), (3, vI l3)] [vI (bz (iand (ishr l2 (Int.tmod l3 12)) 1 = 1)), vI (Int.tmod l3 12), vI (Int.tdiv l3 12), vI l1, vR 71] mem Q
        obtain ⟨H1, H2⟩ := H
        refine x_if_ne (tgt := 59) (q := 55) dX11_letsWhole_52 (by decide) rfl (bz_inr _) (fun hB => ?_) (fun hB => ?_)
        · have H := H1 (bz_n0.mp hB)
          refine x_iconst (q := 60) dX11_letsWhole_59 rfl ?_
          obtain ⟨⟨s13, s14⟩, H⟩ := H
          refine x_callV (q := 63) (d := d - 1) (as := [vI l1, vI (Int.tdiv l3 12), vI (Int.tmod l3 12), vI 0]) (st := []) dX11_letsWhole_60 rfl mv_X11_198 sh_71 rfl rfl rfl (by exact Nat.le_of_ble_eq_true rfl) ⟨by show _ ≤ d; omega, by show _ ≤ 40 * d; omega⟩ ⟨Nat.le_refl _, Nat.le_refl _⟩ (ct_isLet (by omega) s13 s14 (by decide) ?_)
          show E_X11_letsWhole G d 63 [(4, vI (Int.tdiv l3 12)), (0, vR 71), (1, vI l1), (2, vI l2), (3, vI l3)] [vI (bz (letB (mem 72 (5 + 3 * (Int.tdiv l3 12))) (hb l1 (Int.tdiv l3 12)) (hb l1 (Int.tmod l3 12)) (nz 0) = true))] mem Q
          obtain ⟨H1, H2⟩ := H
          refine x_if_ne (tgt := 68) (q := 66) dX11_letsWhole_63 (by decide) rfl (bz_inr _) (fun hB => ?_) (fun hB => ?_)
          · have H := H1 (bz_n0.mp hB)
            refine x_iinc (q := 71) (ls' := [(3, vI (l3 + 1)), (4, vI (Int.tdiv l3 12)), (0, vR 71), (1, vI l1), (2, vI l2)]) 4 rfl (by decide) rfl dX11_letsWhole_68 rfl ?_
            refine x_goto (tgt := 2) dX11_letsWhole_71 (by decide) ?_
            refine x_sub [2, 3, 4, 0] rfl ?_
            exact H
          · have H := H2 (fun z => hB (bz_n0.mpr z))
            refine x_iconst (q := 67) dX11_letsWhole_66 rfl ?_
            exact x_zret rfl dX11_letsWhole_67 (by decide) H
        · have H := H2 (fun z => hB (bz_n0.mpr z))
          refine x_iconst (q := 56) dX11_letsWhole_55 rfl ?_
          refine x_goto (tgt := 60) dX11_letsWhole_56 (by decide) ?_
          obtain ⟨⟨s17, s18⟩, H⟩ := H
          refine x_callV (q := 63) (d := d - 1) (as := [vI l1, vI (Int.tdiv l3 12), vI (Int.tmod l3 12), vI 1]) (st := []) dX11_letsWhole_60 rfl mv_X11_198 sh_71 rfl rfl rfl (by exact Nat.le_of_ble_eq_true rfl) ⟨by show _ ≤ d; omega, by show _ ≤ 40 * d; omega⟩ ⟨Nat.le_refl _, Nat.le_refl _⟩ (ct_isLet (by omega) s17 s18 (by decide) ?_)
          show E_X11_letsWhole G d 63 [(4, vI (Int.tdiv l3 12)), (0, vR 71), (1, vI l1), (2, vI l2), (3, vI l3)] [vI (bz (letB (mem 72 (5 + 3 * (Int.tdiv l3 12))) (hb l1 (Int.tdiv l3 12)) (hb l1 (Int.tmod l3 12)) (nz 1) = true))] mem Q
          obtain ⟨H1, H2⟩ := H
          refine x_if_ne (tgt := 68) (q := 66) dX11_letsWhole_63 (by decide) rfl (bz_inr _) (fun hB => ?_) (fun hB => ?_)
          · have H := H1 (bz_n0.mp hB)
            refine x_iinc (q := 71) (ls' := [(3, vI (l3 + 1)), (4, vI (Int.tdiv l3 12)), (0, vR 71), (1, vI l1), (2, vI l2)]) 4 rfl (by decide) rfl dX11_letsWhole_68 rfl ?_
            refine x_goto (tgt := 2) dX11_letsWhole_71 (by decide) ?_
            refine x_sub [2, 3, 4, 0] rfl ?_
            exact H
          · have H := H2 (fun z => hB (bz_n0.mpr z))
            refine x_iconst (q := 67) dX11_letsWhole_66 rfl ?_
            exact x_zret rfl dX11_letsWhole_67 (by decide) H
