abbrev E_X11_goOn (G : GT) (d pc : Nat) (ls : List (Nat × AV)) (st : List AV) (mem : Mem) (Q : Option AV → Mem → Prop) : Prop := Ex G RX11 cX11_goOn 3 none d pc ls st mem Q
abbrev C_X11_goOn (G : GT) (d : Nat) (as : List AV) (mem : Mem) (Q : Option AV → Mem → Prop) : Prop := Ct G yX11_goOn cX11_goOn 3 none d as mem Q
abbrev E_X11_isAt (G : GT) (d pc : Nat) (ls : List (Nat × AV)) (st : List AV) (mem : Mem) (Q : Option AV → Mem → Prop) : Prop := Ex G RX11 cX11_isAt 4 (some .boolean) d pc ls st mem Q
abbrev C_X11_isAt (G : GT) (d : Nat) (as : List AV) (mem : Mem) (Q : Option AV → Mem → Prop) : Prop := Ct G yX11_isAt cX11_isAt 4 (some .boolean) d as mem Q
abbrev E_X11_takes (G : GT) (d pc : Nat) (ls : List (Nat × AV)) (st : List AV) (mem : Mem) (Q : Option AV → Mem → Prop) : Prop := Ex G RX11 cX11_takes 3 (some .boolean) d pc ls st mem Q
abbrev C_X11_takes (G : GT) (d : Nat) (as : List AV) (mem : Mem) (Q : Option AV → Mem → Prop) : Prop := Ct G yX11_takes cX11_takes 3 (some .boolean) d as mem Q
abbrev E_X11_number (G : GT) (d pc : Nat) (ls : List (Nat × AV)) (st : List AV) (mem : Mem) (Q : Option AV → Mem → Prop) : Prop := Ex G RX11 cX11_number 5 (some .int) d pc ls st mem Q
abbrev C_X11_number (G : GT) (d : Nat) (as : List AV) (mem : Mem) (Q : Option AV → Mem → Prop) : Prop := Ct G yX11_number cX11_number 5 (some .int) d as mem Q
abbrev E_X11_other (G : GT) (d pc : Nat) (ls : List (Nat × AV)) (st : List AV) (mem : Mem) (Q : Option AV → Mem → Prop) : Prop := Ex G RX11 cX11_other 6 (some .int) d pc ls st mem Q
abbrev C_X11_other (G : GT) (d : Nat) (as : List AV) (mem : Mem) (Q : Option AV → Mem → Prop) : Prop := Ct G yX11_other cX11_other 6 (some .int) d as mem Q
abbrev E_X11_item (G : GT) (d pc : Nat) (ls : List (Nat × AV)) (st : List AV) (mem : Mem) (Q : Option AV → Mem → Prop) : Prop := Ex G RX11 cX11_item 5 none d pc ls st mem Q
abbrev C_X11_item (G : GT) (d : Nat) (as : List AV) (mem : Mem) (Q : Option AV → Mem → Prop) : Prop := Ct G yX11_item cX11_item 5 none d as mem Q
abbrev E_X11_text (G : GT) (d pc : Nat) (ls : List (Nat × AV)) (st : List AV) (mem : Mem) (Q : Option AV → Mem → Prop) : Prop := Ex G RX11 cX11_text 2 (some .int) d pc ls st mem Q
abbrev C_X11_text (G : GT) (d : Nat) (as : List AV) (mem : Mem) (Q : Option AV → Mem → Prop) : Prop := Ct G yX11_text cX11_text 2 (some .int) d as mem Q
set_option maxRecDepth 20000 in
set_option maxHeartbeats 4000000 in
theorem B_X11_goOn {G : GT} {d : Nat}  {mem : Mem} {Q : Option AV → Mem → Prop} (hd : 1 ≤ d) (H : ∀ m2 : Mem, m2 = upM mem 71 6 (mem 71 7) → (E_X11_goOn G d 8 [(0, vR 71)] [] m2 Q)) : C_X11_goOn G d [vR 71] mem Q := by
  refine Ct_of_Ex (by decide +kernel) (by exact Nat.le_of_ble_eq_true rfl) (ls := [(0, vR 71)]) rfl ?_
  show E_X11_goOn G d 0 [(0, vR 71)] [] mem Q
  refine x_aloadn (q := 1) 0 rfl rfl rfl dX11_goOn_0 rfl ?_
  refine x_aloadn (q := 2) 0 rfl rfl rfl dX11_goOn_1 rfl ?_
  refine x_geti (q := 5) (ji := 7) dX11_goOn_2 rfl fa_X11_132 sh_71 rfl rfl (fun r1 => ?_)
  refine x_puti (q := 8) (ji := 6) dX11_goOn_5 rfl fp_X11_136 sh_71 rfl rfl r1 (fun m2 em2 => ?_)
  have H := H m2 em2
  exact H
set_option maxRecDepth 20000 in
set_option maxHeartbeats 4000000 in
theorem B_X11_goOn_8 {G : GT} {d : Nat}  {mem : Mem} {Q : Option AV → Mem → Prop} (hd : 2 ≤ d) (H : (0 ≤ mem 71 6 ∧ mem 72 3 ≤ 80) ∧ ((¬ (mem 71 6 < mem 72 3 ∧ 32 ≤ mem 72 (425 + (mem 71 6)) ∧ mem 72 (425 + (mem 71 6)) ≤ 32) → (∀ m9 : Mem, m9 = upM mem 71 7 (mem 71 6) → ((0 ≤ m9 71 6 ∧ m9 72 3 ≤ 80) ∧ ((0 ≤ m9 71 6 ∧ m9 72 3 ≤ 80) ∧ (((m9 72 3 ≤ m9 71 6) → ((inr ((m9 71 7) + 0)) ∧ (∀ m21 : Mem, m21 = upM m9 71 7 ((m9 71 7) + 0) → (E_X11_goOn G d 97 [(0, vR 71), (1, vI (bz (m9 71 6 < m9 72 3 ∧ 97 ≤ m9 72 (425 + (m9 71 6)) ∧ m9 72 (425 + (m9 71 6)) ≤ 122))), (2, vI (bz (m9 71 6 < m9 72 3 ∧ 48 ≤ m9 72 (425 + (m9 71 6)) ∧ m9 72 (425 + (m9 71 6)) ≤ 57)))] [] m21 Q)))) ∧ (¬ (m9 72 3 ≤ m9 71 6) → ((inr ((m9 71 7) + 1)) ∧ (∀ m23 : Mem, m23 = upM m9 71 7 ((m9 71 7) + 1) → (E_X11_goOn G d 97 [(0, vR 71), (1, vI (bz (m9 71 6 < m9 72 3 ∧ 97 ≤ m9 72 (425 + (m9 71 6)) ∧ m9 72 (425 + (m9 71 6)) ≤ 122))), (2, vI (bz (m9 71 6 < m9 72 3 ∧ 48 ≤ m9 72 (425 + (m9 71 6)) ∧ m9 72 (425 + (m9 71 6)) ≤ 57)))] [] m23 Q))))))))) ∧ ((mem 71 6 < mem 72 3 ∧ 32 ≤ mem 72 (425 + (mem 71 6)) ∧ mem 72 (425 + (mem 71 6)) ≤ 32) → ((inr ((mem 71 6) + 1)) ∧ (∀ m26 : Mem, m26 = upM mem 71 6 ((mem 71 6) + 1) → (E_X11_goOn G d 8 [(0, vR 71)] [] m26 Q)))))) : E_X11_goOn G d 8 [(0, vR 71)] [] mem Q := by
  refine x_aloadn (q := 9) 0 rfl rfl rfl dX11_goOn_8 rfl ?_
  refine x_aloadn (q := 10) 0 rfl rfl rfl dX11_goOn_9 rfl ?_
  refine x_geti (q := 13) (ji := 6) dX11_goOn_10 rfl fa_X11_136 sh_71 rfl rfl (fun r3 => ?_)
  refine x_bipush (q := 15) rfl dX11_goOn_13 rfl ?_
  refine x_bipush (q := 17) rfl dX11_goOn_15 rfl ?_
  obtain ⟨⟨s4, s5⟩, H⟩ := H
  refine x_callV (q := 20) (d := d - 1) (as := [vI (mem 71 6), vI 32, vI 32]) (st := []) dX11_goOn_17 rfl mv_X11_139 sh_71 rfl rfl rfl (by exact Nat.le_of_ble_eq_true rfl) ⟨by show _ ≤ d; omega, by show _ ≤ 40 * d; omega⟩ ⟨Nat.le_refl _, Nat.le_refl _⟩ (ct_isByte (by omega) r3 s4 s5 (by decide) (by decide) ?_)
  show E_X11_goOn G d 20 [(0, vR 71)] [vI (bz (mem 71 6 < mem 72 3 ∧ 32 ≤ mem 72 (425 + (mem 71 6)) ∧ mem 72 (425 + (mem 71 6)) ≤ 32))] mem Q
  obtain ⟨H1, H2⟩ := H
  refine x_if_eq (tgt := 36) (q := 23) dX11_goOn_20 (by decide) rfl (bz_inr _) (fun hB => ?_) (fun hB => ?_)
  · have H := H1 (bz_0.mp hB)
    refine x_aloadn (q := 37) 0 rfl rfl rfl dX11_goOn_36 rfl ?_
    refine x_aloadn (q := 38) 0 rfl rfl rfl dX11_goOn_37 rfl ?_
    refine x_geti (q := 41) (ji := 6) dX11_goOn_38 rfl fa_X11_136 sh_71 rfl rfl (fun r8 => ?_)
    refine x_puti (q := 44) (ji := 7) dX11_goOn_41 rfl fp_X11_132 sh_71 rfl rfl r8 (fun m9 em9 => ?_)
    have H := H m9 em9
    refine x_aloadn (q := 45) 0 rfl rfl rfl dX11_goOn_44 rfl ?_
    refine x_aloadn (q := 46) 0 rfl rfl rfl dX11_goOn_45 rfl ?_
    refine x_geti (q := 49) (ji := 6) dX11_goOn_46 rfl fa_X11_136 sh_71 rfl rfl (fun r10 => ?_)
    refine x_bipush (q := 51) rfl dX11_goOn_49 rfl ?_
    refine x_bipush (q := 53) rfl dX11_goOn_51 rfl ?_
    obtain ⟨⟨s11, s12⟩, H⟩ := H
    refine x_callV (q := 56) (d := d - 1) (as := [vI (m9 71 6), vI 97, vI 122]) (st := []) dX11_goOn_53 rfl mv_X11_139 sh_71 rfl rfl rfl (by exact Nat.le_of_ble_eq_true rfl) ⟨by show _ ≤ d; omega, by show _ ≤ 40 * d; omega⟩ ⟨Nat.le_refl _, Nat.le_refl _⟩ (ct_isByte (by omega) r10 s11 s12 (by decide) (by decide) ?_)
    show E_X11_goOn G d 56 [(0, vR 71)] [vI (bz (m9 71 6 < m9 72 3 ∧ 97 ≤ m9 72 (425 + (m9 71 6)) ∧ m9 72 (425 + (m9 71 6)) ≤ 122))] m9 Q
    refine x_istoren (q := 57) (ls' := [(1, vI (bz (m9 71 6 < m9 72 3 ∧ 97 ≤ m9 72 (425 + (m9 71 6)) ∧ m9 72 (425 + (m9 71 6)) ≤ 122))), (0, vR 71)]) rfl (by decide) rfl dX11_goOn_56 rfl ?_
    refine x_aloadn (q := 58) 1 rfl rfl rfl dX11_goOn_57 rfl ?_
    refine x_aloadn (q := 59) 1 rfl rfl rfl dX11_goOn_58 rfl ?_
    refine x_geti (q := 62) (ji := 6) dX11_goOn_59 rfl fa_X11_136 sh_71 rfl rfl (fun r13 => ?_)
    refine x_bipush (q := 64) rfl dX11_goOn_62 rfl ?_
    refine x_bipush (q := 66) rfl dX11_goOn_64 rfl ?_
    obtain ⟨⟨s14, s15⟩, H⟩ := H
    refine x_callV (q := 69) (d := d - 1) (as := [vI (m9 71 6), vI 48, vI 57]) (st := []) dX11_goOn_66 rfl mv_X11_139 sh_71 rfl rfl rfl (by exact Nat.le_of_ble_eq_true rfl) ⟨by show _ ≤ d; omega, by show _ ≤ 40 * d; omega⟩ ⟨Nat.le_refl _, Nat.le_refl _⟩ (ct_isByte (by omega) r13 s14 s15 (by decide) (by decide) ?_)
    show E_X11_goOn G d 69 [(1, vI (bz (m9 71 6 < m9 72 3 ∧ 97 ≤ m9 72 (425 + (m9 71 6)) ∧ m9 72 (425 + (m9 71 6)) ≤ 122))), (0, vR 71)] [vI (bz (m9 71 6 < m9 72 3 ∧ 48 ≤ m9 72 (425 + (m9 71 6)) ∧ m9 72 (425 + (m9 71 6)) ≤ 57))] m9 Q
    refine x_istoren (q := 70) (ls' := [(2, vI (bz (m9 71 6 < m9 72 3 ∧ 48 ≤ m9 72 (425 + (m9 71 6)) ∧ m9 72 (425 + (m9 71 6)) ≤ 57))), (1, vI (bz (m9 71 6 < m9 72 3 ∧ 97 ≤ m9 72 (425 + (m9 71 6)) ∧ m9 72 (425 + (m9 71 6)) ≤ 122))), (0, vR 71)]) rfl (by decide) rfl dX11_goOn_69 rfl ?_
    refine x_aloadn (q := 71) 2 rfl rfl rfl dX11_goOn_70 rfl ?_
    refine x_dup (q := 72) (by exact Nat.ne_of_beq_eq_false rfl) dX11_goOn_71 rfl ?_
    refine x_geti (q := 75) (ji := 7) dX11_goOn_72 rfl fa_X11_132 sh_71 rfl rfl (fun r16 => ?_)
    refine x_aloadn (q := 76) 2 rfl rfl rfl dX11_goOn_75 rfl ?_
    refine x_geti (q := 79) (ji := 6) dX11_goOn_76 rfl fa_X11_136 sh_71 rfl rfl (fun r17 => ?_)
    refine x_aloadn (q := 80) 2 rfl rfl rfl dX11_goOn_79 rfl ?_
    refine x_getr (q := 83) dX11_goOn_80 rfl fa_X11_9 sh_71 rfl ?_
    refine x_iconst (q := 84) dX11_goOn_83 rfl ?_
    refine x_iald (q := 85) dX11_goOn_84 rfl sh_72 (by decide) (by decide) (fun r18 => ?_)
    obtain ⟨H1, H2⟩ := H
    refine x_icmp_ge (tgt := 92) (q := 88) dX11_goOn_85 (by decide) rfl r17 r18 (fun hB => ?_) (fun hB => ?_)
    · have H := H1 (hB)
      refine x_iconst (q := 93) dX11_goOn_92 rfl ?_
      refine x_iadd (q := 94) dX11_goOn_93 rfl ?_
      obtain ⟨s22, H⟩ := H
      refine x_puti (q := 97) (ji := 7) dX11_goOn_94 rfl fp_X11_132 sh_71 rfl rfl s22 (fun m21 em21 => ?_)
      have H := H m21 em21
      refine x_sub [2, 1, 0] rfl ?_
      exact H
    · have H := H2 (hB)
      refine x_iconst (q := 89) dX11_goOn_88 rfl ?_
      refine x_goto (tgt := 93) dX11_goOn_89 (by decide) ?_
      refine x_iadd (q := 94) dX11_goOn_93 rfl ?_
      obtain ⟨s24, H⟩ := H
      refine x_puti (q := 97) (ji := 7) dX11_goOn_94 rfl fp_X11_132 sh_71 rfl rfl s24 (fun m23 em23 => ?_)
      have H := H m23 em23
      refine x_sub [2, 1, 0] rfl ?_
      exact H
  · have H := H2 (Classical.byContradiction (fun z => hB (bz_0.mpr z)))
    refine x_aloadn (q := 24) 0 rfl rfl rfl dX11_goOn_23 rfl ?_
    refine x_dup (q := 25) (by exact Nat.ne_of_beq_eq_false rfl) dX11_goOn_24 rfl ?_
    refine x_geti (q := 28) (ji := 6) dX11_goOn_25 rfl fa_X11_136 sh_71 rfl rfl (fun r25 => ?_)
    refine x_iconst (q := 29) dX11_goOn_28 rfl ?_
    refine x_iadd (q := 30) dX11_goOn_29 rfl ?_
    obtain ⟨s27, H⟩ := H
    refine x_puti (q := 33) (ji := 6) dX11_goOn_30 rfl fp_X11_136 sh_71 rfl rfl s27 (fun m26 em26 => ?_)
    have H := H m26 em26
    refine x_goto (tgt := 8) dX11_goOn_33 (by decide) ?_
    exact H
set_option maxRecDepth 20000 in
set_option maxHeartbeats 4000000 in
theorem B_X11_goOn_97 {G : GT} {d : Nat} {l1 : Int} {l2 : Int} {mem : Mem} {Q : Option AV → Mem → Prop} (hd : 2 ≤ d) (H : (inr l1) ∧ (((l1 = 0) → ((inr l2) ∧ (((l2 = 0) → (Q none mem)) ∧ (¬ (l2 = 0) → ((0 ≤ mem 71 7 ∧ mem 72 3 ≤ 80) ∧ ((¬ (mem 71 7 < mem 72 3 ∧ 48 ≤ mem 72 (425 + (mem 71 7)) ∧ mem 72 (425 + (mem 71 7)) ≤ 57) → (Q none mem)) ∧ ((mem 71 7 < mem 72 3 ∧ 48 ≤ mem 72 (425 + (mem 71 7)) ∧ mem 72 (425 + (mem 71 7)) ≤ 57) → ((inr ((mem 71 7) + 1)) ∧ (∀ m40 : Mem, m40 = upM mem 71 7 ((mem 71 7) + 1) → (E_X11_goOn G d 97 [(0, vR 71), (1, vI l1), (2, vI l2)] [] m40 Q)))))))))) ∧ (¬ (l1 = 0) → ((0 ≤ mem 71 7 ∧ mem 72 3 ≤ 80) ∧ (((mem 71 7 < mem 72 3 ∧ 97 ≤ mem 72 (425 + (mem 71 7)) ∧ mem 72 (425 + (mem 71 7)) ≤ 122) → ((inr ((mem 71 7) + 1)) ∧ (∀ m48 : Mem, m48 = upM mem 71 7 ((mem 71 7) + 1) → (E_X11_goOn G d 97 [(0, vR 71), (1, vI l1), (2, vI l2)] [] m48 Q)))) ∧ (¬ (mem 71 7 < mem 72 3 ∧ 97 ≤ mem 72 (425 + (mem 71 7)) ∧ mem 72 (425 + (mem 71 7)) ≤ 122) → ((inr l2) ∧ (((l2 = 0) → (Q none mem)) ∧ (¬ (l2 = 0) → ((0 ≤ mem 71 7 ∧ mem 72 3 ≤ 80) ∧ ((¬ (mem 71 7 < mem 72 3 ∧ 48 ≤ mem 72 (425 + (mem 71 7)) ∧ mem 72 (425 + (mem 71 7)) ≤ 57) → (Q none mem)) ∧ ((mem 71 7 < mem 72 3 ∧ 48 ≤ mem 72 (425 + (mem 71 7)) ∧ mem 72 (425 + (mem 71 7)) ≤ 57) → ((inr ((mem 71 7) + 1)) ∧ (∀ m59 : Mem, m59 = upM mem 71 7 ((mem 71 7) + 1) → (E_X11_goOn G d 97 [(0, vR 71), (1, vI l1), (2, vI l2)] [] m59 Q))))))))))))))) : E_X11_goOn G d 97 [(0, vR 71), (1, vI l1), (2, vI l2)] [] mem Q := by
  refine x_iloadn (q := 98) 1 rfl rfl dX11_goOn_97 rfl ?_
  obtain ⟨s28, H⟩ := H
  obtain ⟨H1, H2⟩ := H
  refine x_if_eq (tgt := 116) (q := 101) dX11_goOn_98 (by decide) rfl s28 (fun hB => ?_) (fun hB => ?_)
  · have H := H1 (hB)
    refine x_iloadn (q := 117) 2 rfl rfl dX11_goOn_116 rfl ?_
    obtain ⟨s31, H⟩ := H
    obtain ⟨H1, H2⟩ := H
    refine x_if_eq (tgt := 148) (q := 120) dX11_goOn_117 (by decide) rfl s31 (fun hB => ?_) (fun hB => ?_)
    · have H := H1 (hB)
      exact x_vret rfl dX11_goOn_148 H
    · have H := H2 (hB)
      refine x_aloadn (q := 121) 0 rfl rfl rfl dX11_goOn_120 rfl ?_
      refine x_aloadn (q := 122) 0 rfl rfl rfl dX11_goOn_121 rfl ?_
      refine x_geti (q := 125) (ji := 7) dX11_goOn_122 rfl fa_X11_132 sh_71 rfl rfl (fun r34 => ?_)
      refine x_bipush (q := 127) rfl dX11_goOn_125 rfl ?_
      refine x_bipush (q := 129) rfl dX11_goOn_127 rfl ?_
      obtain ⟨⟨s35, s36⟩, H⟩ := H
      refine x_callV (q := 132) (d := d - 1) (as := [vI (mem 71 7), vI 48, vI 57]) (st := []) dX11_goOn_129 rfl mv_X11_139 sh_71 rfl rfl rfl (by exact Nat.le_of_ble_eq_true rfl) ⟨by show _ ≤ d; omega, by show _ ≤ 40 * d; omega⟩ ⟨Nat.le_refl _, Nat.le_refl _⟩ (ct_isByte (by omega) r34 s35 s36 (by decide) (by decide) ?_)
      show E_X11_goOn G d 132 [(0, vR 71), (1, vI l1), (2, vI l2)] [vI (bz (mem 71 7 < mem 72 3 ∧ 48 ≤ mem 72 (425 + (mem 71 7)) ∧ mem 72 (425 + (mem 71 7)) ≤ 57))] mem Q
      obtain ⟨H1, H2⟩ := H
      refine x_if_eq (tgt := 148) (q := 135) dX11_goOn_132 (by decide) rfl (bz_inr _) (fun hB => ?_) (fun hB => ?_)
      · have H := H1 (bz_0.mp hB)
        exact x_vret rfl dX11_goOn_148 H
      · have H := H2 (Classical.byContradiction (fun z => hB (bz_0.mpr z)))
        refine x_aloadn (q := 136) 0 rfl rfl rfl dX11_goOn_135 rfl ?_
        refine x_dup (q := 137) (by exact Nat.ne_of_beq_eq_false rfl) dX11_goOn_136 rfl ?_
        refine x_geti (q := 140) (ji := 7) dX11_goOn_137 rfl fa_X11_132 sh_71 rfl rfl (fun r39 => ?_)
        refine x_iconst (q := 141) dX11_goOn_140 rfl ?_
        refine x_iadd (q := 142) dX11_goOn_141 rfl ?_
        obtain ⟨s41, H⟩ := H
        refine x_puti (q := 145) (ji := 7) dX11_goOn_142 rfl fp_X11_132 sh_71 rfl rfl s41 (fun m40 em40 => ?_)
        have H := H m40 em40
        refine x_goto (tgt := 97) dX11_goOn_145 (by decide) ?_
        exact H
  · have H := H2 (hB)
    refine x_aloadn (q := 102) 0 rfl rfl rfl dX11_goOn_101 rfl ?_
    refine x_aloadn (q := 103) 0 rfl rfl rfl dX11_goOn_102 rfl ?_
    refine x_geti (q := 106) (ji := 7) dX11_goOn_103 rfl fa_X11_132 sh_71 rfl rfl (fun r42 => ?_)
    refine x_bipush (q := 108) rfl dX11_goOn_106 rfl ?_
    refine x_bipush (q := 110) rfl dX11_goOn_108 rfl ?_
    obtain ⟨⟨s43, s44⟩, H⟩ := H
    refine x_callV (q := 113) (d := d - 1) (as := [vI (mem 71 7), vI 97, vI 122]) (st := []) dX11_goOn_110 rfl mv_X11_139 sh_71 rfl rfl rfl (by exact Nat.le_of_ble_eq_true rfl) ⟨by show _ ≤ d; omega, by show _ ≤ 40 * d; omega⟩ ⟨Nat.le_refl _, Nat.le_refl _⟩ (ct_isByte (by omega) r42 s43 s44 (by decide) (by decide) ?_)
    show E_X11_goOn G d 113 [(0, vR 71), (1, vI l1), (2, vI l2)] [vI (bz (mem 71 7 < mem 72 3 ∧ 97 ≤ mem 72 (425 + (mem 71 7)) ∧ mem 72 (425 + (mem 71 7)) ≤ 122))] mem Q
    obtain ⟨H1, H2⟩ := H
    refine x_if_ne (tgt := 135) (q := 116) dX11_goOn_113 (by decide) rfl (bz_inr _) (fun hB => ?_) (fun hB => ?_)
    · have H := H1 (bz_n0.mp hB)
      refine x_aloadn (q := 136) 0 rfl rfl rfl dX11_goOn_135 rfl ?_
      refine x_dup (q := 137) (by exact Nat.ne_of_beq_eq_false rfl) dX11_goOn_136 rfl ?_
      refine x_geti (q := 140) (ji := 7) dX11_goOn_137 rfl fa_X11_132 sh_71 rfl rfl (fun r47 => ?_)
      refine x_iconst (q := 141) dX11_goOn_140 rfl ?_
      refine x_iadd (q := 142) dX11_goOn_141 rfl ?_
      obtain ⟨s49, H⟩ := H
      refine x_puti (q := 145) (ji := 7) dX11_goOn_142 rfl fp_X11_132 sh_71 rfl rfl s49 (fun m48 em48 => ?_)
      have H := H m48 em48
      refine x_goto (tgt := 97) dX11_goOn_145 (by decide) ?_
      exact H
    · have H := H2 (fun z => hB (bz_n0.mpr z))
      refine x_iloadn (q := 117) 2 rfl rfl dX11_goOn_116 rfl ?_
      obtain ⟨s50, H⟩ := H
      obtain ⟨H1, H2⟩ := H
      refine x_if_eq (tgt := 148) (q := 120) dX11_goOn_117 (by decide) rfl s50 (fun hB => ?_) (fun hB => ?_)
      · have H := H1 (hB)
        exact x_vret rfl dX11_goOn_148 H
      · have H := H2 (hB)
        refine x_aloadn (q := 121) 0 rfl rfl rfl dX11_goOn_120 rfl ?_
        refine x_aloadn (q := 122) 0 rfl rfl rfl dX11_goOn_121 rfl ?_
        refine x_geti (q := 125) (ji := 7) dX11_goOn_122 rfl fa_X11_132 sh_71 rfl rfl (fun r53 => ?_)
        refine x_bipush (q := 127) rfl dX11_goOn_125 rfl ?_
        refine x_bipush (q := 129) rfl dX11_goOn_127 rfl ?_
        obtain ⟨⟨s54, s55⟩, H⟩ := H
        refine x_callV (q := 132) (d := d - 1) (as := [vI (mem 71 7), vI 48, vI 57]) (st := []) dX11_goOn_129 rfl mv_X11_139 sh_71 rfl rfl rfl (by exact Nat.le_of_ble_eq_true rfl) ⟨by show _ ≤ d; omega, by show _ ≤ 40 * d; omega⟩ ⟨Nat.le_refl _, Nat.le_refl _⟩ (ct_isByte (by omega) r53 s54 s55 (by decide) (by decide) ?_)
        show E_X11_goOn G d 132 [(0, vR 71), (1, vI l1), (2, vI l2)] [vI (bz (mem 71 7 < mem 72 3 ∧ 48 ≤ mem 72 (425 + (mem 71 7)) ∧ mem 72 (425 + (mem 71 7)) ≤ 57))] mem Q
        obtain ⟨H1, H2⟩ := H
        refine x_if_eq (tgt := 148) (q := 135) dX11_goOn_132 (by decide) rfl (bz_inr _) (fun hB => ?_) (fun hB => ?_)
        · have H := H1 (bz_0.mp hB)
          exact x_vret rfl dX11_goOn_148 H
        · have H := H2 (Classical.byContradiction (fun z => hB (bz_0.mpr z)))
          refine x_aloadn (q := 136) 0 rfl rfl rfl dX11_goOn_135 rfl ?_
          refine x_dup (q := 137) (by exact Nat.ne_of_beq_eq_false rfl) dX11_goOn_136 rfl ?_
          refine x_geti (q := 140) (ji := 7) dX11_goOn_137 rfl fa_X11_132 sh_71 rfl rfl (fun r58 => ?_)
          refine x_iconst (q := 141) dX11_goOn_140 rfl ?_
          refine x_iadd (q := 142) dX11_goOn_141 rfl ?_
          obtain ⟨s60, H⟩ := H
          refine x_puti (q := 145) (ji := 7) dX11_goOn_142 rfl fp_X11_132 sh_71 rfl rfl s60 (fun m59 em59 => ?_)
          have H := H m59 em59
          refine x_goto (tgt := 97) dX11_goOn_145 (by decide) ?_
          exact H
set_option maxRecDepth 20000 in
set_option maxHeartbeats 4000000 in
theorem B_X11_isAt {G : GT} {d : Nat} {t : Nat} (ht : t < 25) {mem : Mem} {Q : Option AV → Mem → Prop} (hd : 2 ≤ d) (H : ((mem 71 8 ≠ 0) → (E_X11_isAt G d 31 [(0, vR 71), (1, vS t), (2, vI 0), (3, vI 0)] [] mem Q)) ∧ (¬ (mem 71 8 ≠ 0) → ((inr ((mem 71 7) - (mem 71 6))) ∧ ((((mem 71 7) - (mem 71 6) ≠ ((litB t).length : Int)) → (E_X11_isAt G d 31 [(0, vR 71), (1, vS t), (2, vI 0), (3, vI 0)] [] mem Q)) ∧ (¬ ((mem 71 7) - (mem 71 6) ≠ ((litB t).length : Int)) → (E_X11_isAt G d 31 [(0, vR 71), (1, vS t), (2, vI 1), (3, vI 0)] [] mem Q)))))) : C_X11_isAt G d [vR 71, vS t] mem Q := by
  refine Ct_of_Ex (by decide +kernel) (by exact Nat.le_of_ble_eq_true rfl) (ls := [(0, vR 71), (1, vS t)]) rfl ?_
  show E_X11_isAt G d 0 [(0, vR 71), (1, vS t)] [] mem Q
  refine x_aloadn (q := 1) 0 rfl rfl rfl dX11_isAt_0 rfl ?_
  refine x_geti (q := 4) (ji := 8) dX11_isAt_1 rfl fa_X11_142 sh_71 rfl rfl (fun r1 => ?_)
  obtain ⟨H1, H2⟩ := H
  refine x_if_ne (tgt := 27) (q := 7) dX11_isAt_4 (by decide) rfl r1 (fun hB => ?_) (fun hB => ?_)
  · have H := H1 (hB)
    refine x_iconst (q := 28) dX11_isAt_27 rfl ?_
    refine x_istoren (q := 29) (ls' := [(2, vI 0), (0, vR 71), (1, vS t)]) rfl (by decide) rfl dX11_isAt_28 rfl ?_
    refine x_iconst (q := 30) dX11_isAt_29 rfl ?_
    refine x_istoren (q := 31) (ls' := [(3, vI 0), (2, vI 0), (0, vR 71), (1, vS t)]) rfl (by decide) rfl dX11_isAt_30 rfl ?_
    refine x_sub [2, 3, 1, 0] rfl ?_
    exact H
  · have H := H2 (hB)
    refine x_aloadn (q := 8) 0 rfl rfl rfl dX11_isAt_7 rfl ?_
    refine x_geti (q := 11) (ji := 7) dX11_isAt_8 rfl fa_X11_132 sh_71 rfl rfl (fun r4 => ?_)
    refine x_aloadn (q := 12) 0 rfl rfl rfl dX11_isAt_11 rfl ?_
    refine x_geti (q := 15) (ji := 6) dX11_isAt_12 rfl fa_X11_136 sh_71 rfl rfl (fun r5 => ?_)
    refine x_isub (q := 16) dX11_isAt_15 rfl ?_
    refine x_aloadn (q := 17) 1 rfl rfl rfl dX11_isAt_16 rfl ?_
    refine x_callT (q := 20) (d := d - 1) (as := []) (st := [vI ((mem 71 7) - (mem 71 6))]) dX11_isAt_17 rfl mv_X11_146 ht rfl rfl rfl (by exact Nat.le_of_ble_eq_true rfl) ⟨by show _ ≤ d; omega, by show _ ≤ 40 * d; omega⟩ ⟨Nat.le_refl _, Nat.le_refl _⟩ (ct_len ht (by omega) ?_)
    show E_X11_isAt G d 20 [(0, vR 71), (1, vS t)] [vI ((litB t).length : Int), vI ((mem 71 7) - (mem 71 6))] mem Q
    obtain ⟨s6, H⟩ := H
    obtain ⟨H1, H2⟩ := H
    refine x_icmp_ne (tgt := 27) (q := 23) dX11_isAt_20 (by decide) rfl s6 (lit_lr ht) (fun hB => ?_) (fun hB => ?_)
    · have H := H1 (hB)
      refine x_iconst (q := 28) dX11_isAt_27 rfl ?_
      refine x_istoren (q := 29) (ls' := [(2, vI 0), (0, vR 71), (1, vS t)]) rfl (by decide) rfl dX11_isAt_28 rfl ?_
      refine x_iconst (q := 30) dX11_isAt_29 rfl ?_
      refine x_istoren (q := 31) (ls' := [(3, vI 0), (2, vI 0), (0, vR 71), (1, vS t)]) rfl (by decide) rfl dX11_isAt_30 rfl ?_
      refine x_sub [2, 3, 1, 0] rfl ?_
      exact H
    · have H := H2 (hB)
      refine x_iconst (q := 24) dX11_isAt_23 rfl ?_
      refine x_goto (tgt := 28) dX11_isAt_24 (by decide) ?_
      refine x_istoren (q := 29) (ls' := [(2, vI 1), (0, vR 71), (1, vS t)]) rfl (by decide) rfl dX11_isAt_28 rfl ?_
      refine x_iconst (q := 30) dX11_isAt_29 rfl ?_
      refine x_istoren (q := 31) (ls' := [(3, vI 0), (2, vI 1), (0, vR 71), (1, vS t)]) rfl (by decide) rfl dX11_isAt_30 rfl ?_
      refine x_sub [2, 3, 1, 0] rfl ?_
      exact H
set_option maxRecDepth 20000 in
set_option maxHeartbeats 4000000 in
theorem B_X11_isAt_31 {G : GT} {d : Nat} {t : Nat} (ht : t < 25) {l2 : Int} {l3 : Int} {mem : Mem} {Q : Option AV → Mem → Prop} (hd : 5 ≤ d) (H : (inr l2) ∧ (((l2 = 0) → ((l2 = 0 ∨ l2 = 1) ∧ (Q (some (vI l2)) mem))) ∧ (¬ (l2 = 0) → ((inr l3) ∧ (((((litB t).length : Int) ≤ l3) → ((l2 = 0 ∨ l2 = 1) ∧ (Q (some (vI l2)) mem))) ∧ (¬ (((litB t).length : Int) ≤ l3) → ((0 ≤ (425 + (mem 71 6)) + l3 ∧ (425 + (mem 71 6)) + l3 < 553) ∧ ((0 ≤ l3 ∧ l3 < ((litB t).length : Int)) ∧ (((mem 72 ((425 + (mem 71 6)) + l3) ≠ (litB t).getD (Int.toNat l3) 0) → (E_X11_isAt G d 31 [(0, vR 71), (1, vS t), (2, vI 0), (3, vI (l3 + 1))] [] mem Q)) ∧ (¬ (mem 72 ((425 + (mem 71 6)) + l3) ≠ (litB t).getD (Int.toNat l3) 0) → (E_X11_isAt G d 31 [(0, vR 71), (1, vS t), (2, vI 1), (3, vI (l3 + 1))] [] mem Q))))))))))) : E_X11_isAt G d 31 [(0, vR 71), (1, vS t), (2, vI l2), (3, vI l3)] [] mem Q := by
  refine x_iloadn (q := 32) 2 rfl rfl dX11_isAt_31 rfl ?_
  obtain ⟨s9, H⟩ := H
  obtain ⟨H1, H2⟩ := H
  refine x_if_eq (tgt := 78) (q := 35) dX11_isAt_32 (by decide) rfl s9 (fun hB => ?_) (fun hB => ?_)
  · have H := H1 (hB)
    refine x_iloadn (q := 79) 2 rfl rfl dX11_isAt_78 rfl ?_
    obtain ⟨s12, H⟩ := H
    exact x_zret rfl dX11_isAt_79 s12 H
  · have H := H2 (hB)
    refine x_iloadn (q := 36) 3 rfl rfl dX11_isAt_35 rfl ?_
    refine x_aloadn (q := 37) 1 rfl rfl rfl dX11_isAt_36 rfl ?_
    refine x_callT (q := 40) (d := d - 1) (as := []) (st := [vI l3]) dX11_isAt_37 rfl mv_X11_146 ht rfl rfl rfl (by exact Nat.le_of_ble_eq_true rfl) ⟨by show _ ≤ d; omega, by show _ ≤ 40 * d; omega⟩ ⟨Nat.le_refl _, Nat.le_refl _⟩ (ct_len ht (by omega) ?_)
    show E_X11_isAt G d 40 [(0, vR 71), (1, vS t), (2, vI l2), (3, vI l3)] [vI ((litB t).length : Int), vI l3] mem Q
    obtain ⟨s13, H⟩ := H
    obtain ⟨H1, H2⟩ := H
    refine x_icmp_ge (tgt := 78) (q := 43) dX11_isAt_40 (by decide) rfl s13 (lit_lr ht) (fun hB => ?_) (fun hB => ?_)
    · have H := H1 (hB)
      refine x_iloadn (q := 79) 2 rfl rfl dX11_isAt_78 rfl ?_
      obtain ⟨s16, H⟩ := H
      exact x_zret rfl dX11_isAt_79 s16 H
    · have H := H2 (hB)
      refine x_aloadn (q := 44) 0 rfl rfl rfl dX11_isAt_43 rfl ?_
      refine x_getr (q := 47) dX11_isAt_44 rfl fa_X11_9 sh_71 rfl ?_
      refine x_sipush (q := 50) rfl dX11_isAt_47 rfl ?_
      refine x_aloadn (q := 51) 0 rfl rfl rfl dX11_isAt_50 rfl ?_
      refine x_geti (q := 54) (ji := 6) dX11_isAt_51 rfl fa_X11_136 sh_71 rfl rfl (fun r17 => ?_)
      refine x_iadd (q := 55) dX11_isAt_54 rfl ?_
      refine x_iloadn (q := 56) 3 rfl rfl dX11_isAt_55 rfl ?_
      refine x_iadd (q := 57) dX11_isAt_56 rfl ?_
      obtain ⟨⟨s18, s19⟩, H⟩ := H
      refine x_iald (q := 58) dX11_isAt_57 rfl sh_72 s18 s19 (fun r20 => ?_)
      refine x_aloadn (q := 59) 1 rfl rfl rfl dX11_isAt_58 rfl ?_
      refine x_iloadn (q := 60) 3 rfl rfl dX11_isAt_59 rfl ?_
      obtain ⟨⟨s21, s22⟩, H⟩ := H
      refine x_callT (q := 63) (d := d - 1) (as := [vI l3]) (st := [vI (mem 72 ((425 + (mem 71 6)) + l3))]) dX11_isAt_60 rfl mv_X11_150 ht rfl rfl rfl (by exact Nat.le_of_ble_eq_true rfl) ⟨by show _ ≤ d; omega, by show _ ≤ 40 * d; omega⟩ ⟨Nat.le_refl _, Nat.le_refl _⟩ (ct_charAt ht (by omega) s21 s22 ?_)
      show E_X11_isAt G d 63 [(0, vR 71), (1, vS t), (2, vI l2), (3, vI l3)] [vI ((litB t).getD (Int.toNat l3) 0), vI (mem 72 ((425 + (mem 71 6)) + l3))] mem Q
      obtain ⟨H1, H2⟩ := H
      refine x_icmp_ne (tgt := 70) (q := 66) dX11_isAt_63 (by decide) rfl r20 (lit_chr ht _) (fun hB => ?_) (fun hB => ?_)
      · have H := H1 (hB)
        refine x_iconst (q := 71) dX11_isAt_70 rfl ?_
        refine x_istoren (q := 72) (ls' := [(2, vI 0), (0, vR 71), (1, vS t), (3, vI l3)]) rfl (by decide) rfl dX11_isAt_71 rfl ?_
        refine x_iinc (q := 75) (ls' := [(3, vI (l3 + 1)), (2, vI 0), (0, vR 71), (1, vS t)]) 3 rfl (by decide) rfl dX11_isAt_72 rfl ?_
        refine x_goto (tgt := 31) dX11_isAt_75 (by decide) ?_
        refine x_sub [2, 3, 1, 0] rfl ?_
        exact H
      · have H := H2 (hB)
        refine x_iconst (q := 67) dX11_isAt_66 rfl ?_
        refine x_goto (tgt := 71) dX11_isAt_67 (by decide) ?_
        refine x_istoren (q := 72) (ls' := [(2, vI 1), (0, vR 71), (1, vS t), (3, vI l3)]) rfl (by decide) rfl dX11_isAt_71 rfl ?_
        refine x_iinc (q := 75) (ls' := [(3, vI (l3 + 1)), (2, vI 1), (0, vR 71), (1, vS t)]) 3 rfl (by decide) rfl dX11_isAt_72 rfl ?_
        refine x_goto (tgt := 31) dX11_isAt_75 (by decide) ?_
        refine x_sub [2, 3, 1, 0] rfl ?_
        exact H
set_option maxRecDepth 20000 in
set_option maxHeartbeats 4000000 in
theorem B_X11_takes {G : GT} {d : Nat} {t : Nat} (ht : t < 25) {mem : Mem} {Q : Option AV → Mem → Prop} (hd : 1 ≤ d) (H : C_X11_isAt G (d - 1) [vR 71, vS t] mem (fun r9 m1 => ∃ z2 : Int, r9 = some (vI z2) ∧ ((inr z2) ∧ (((z2 = 0) → ((z2 = 0 ∨ z2 = 1) ∧ (Q (some (vI z2)) m1))) ∧ (¬ (z2 = 0) → (C_X11_goOn G (d - 1) [vR 71] m1 (fun r9 m7 => r9 = none ∧ ((z2 = 0 ∨ z2 = 1) ∧ (Q (some (vI z2)) m7))))))))) : C_X11_takes G d [vR 71, vS t] mem Q := by
  refine Ct_of_Ex (by decide +kernel) (by exact Nat.le_of_ble_eq_true rfl) (ls := [(0, vR 71), (1, vS t)]) rfl ?_
  show E_X11_takes G d 0 [(0, vR 71), (1, vS t)] [] mem Q
  refine x_aloadn (q := 1) 0 rfl rfl rfl dX11_takes_0 rfl ?_
  refine x_aloadn (q := 2) 1 rfl rfl rfl dX11_takes_1 rfl ?_
  refine x_callV (q := 5) (d := d - 1) (as := [vS t]) (st := []) dX11_takes_2 rfl mv_X11_154 sh_71 rfl rfl rfl (by exact Nat.le_of_ble_eq_true rfl) ⟨by show _ ≤ d; omega, by show _ ≤ 40 * d; omega⟩ ⟨Nat.le_refl _, Nat.le_refl _⟩ (Ct.mono H (fun r9 m1 H => ?_))
  obtain ⟨z2, rfl, H⟩ := H
  show E_X11_takes G d 5 [(0, vR 71), (1, vS t)] [vI z2] m1 Q
  refine x_istoren (q := 6) (ls' := [(2, vI z2), (0, vR 71), (1, vS t)]) rfl (by decide) rfl dX11_takes_5 rfl ?_
  refine x_iloadn (q := 7) 0 rfl rfl dX11_takes_6 rfl ?_
  obtain ⟨s3, H⟩ := H
  obtain ⟨H1, H2⟩ := H
  refine x_if_eq (tgt := 14) (q := 10) dX11_takes_7 (by decide) rfl s3 (fun hB => ?_) (fun hB => ?_)
  · have H := H1 (hB)
    refine x_iloadn (q := 15) 0 rfl rfl dX11_takes_14 rfl ?_
    obtain ⟨s6, H⟩ := H
    exact x_zret rfl dX11_takes_15 s6 H
  · have H := H2 (hB)
    refine x_aloadn (q := 11) 1 rfl rfl rfl dX11_takes_10 rfl ?_
    refine x_callV (q := 14) (d := d - 1) (as := []) (st := []) dX11_takes_11 rfl mv_X11_158 sh_71 rfl rfl rfl (by exact Nat.le_of_ble_eq_true rfl) ⟨by show _ ≤ d; omega, by show _ ≤ 40 * d; omega⟩ ⟨Nat.le_refl _, Nat.le_refl _⟩ (Ct.mono H (fun r9 m7 H => ?_))
    obtain ⟨rfl, H⟩ := H
    show E_X11_takes G d 14 [(2, vI z2), (0, vR 71), (1, vS t)] [] m7 Q
    refine x_iloadn (q := 15) 0 rfl rfl dX11_takes_14 rfl ?_
    obtain ⟨s8, H⟩ := H
    exact x_zret rfl dX11_takes_15 s8 H
set_option maxRecDepth 20000 in
set_option maxHeartbeats 4000000 in
theorem B_X11_number {G : GT} {d : Nat} {l1 : Int} {l2 : Int} {mem : Mem} {Q : Option AV → Mem → Prop} (hd : 2 ≤ d) (H : ((mem 71 8 ≠ 0) → (∀ m4 : Mem, m4 = upM mem 71 8 1 → (E_X11_number G d 46 [(0, vR 71), (1, vI l1), (2, vI l2), (3, vI 0)] [] m4 Q))) ∧ (¬ (mem 71 8 ≠ 0) → ((0 ≤ mem 71 6 ∧ mem 72 3 ≤ 80) ∧ ((¬ (mem 71 6 < mem 72 3 ∧ 48 ≤ mem 72 (425 + (mem 71 6)) ∧ mem 72 (425 + (mem 71 6)) ≤ 57) → (∀ m10 : Mem, m10 = upM mem 71 8 1 → (E_X11_number G d 46 [(0, vR 71), (1, vI l1), (2, vI l2), (3, vI 0)] [] m10 Q))) ∧ ((mem 71 6 < mem 72 3 ∧ 48 ≤ mem 72 (425 + (mem 71 6)) ∧ mem 72 (425 + (mem 71 6)) ≤ 57) → ((inr ((mem 71 7) - (mem 71 6))) ∧ ((((mem 71 7) - (mem 71 6) ≤ 3) → (∀ m16 : Mem, m16 = upM mem 71 8 0 → (E_X11_number G d 46 [(0, vR 71), (1, vI l1), (2, vI l2), (3, vI 0)] [] m16 Q))) ∧ (¬ ((mem 71 7) - (mem 71 6) ≤ 3) → (∀ m17 : Mem, m17 = upM mem 71 8 1 → (E_X11_number G d 46 [(0, vR 71), (1, vI l1), (2, vI l2), (3, vI 0)] [] m17 Q)))))))))) : C_X11_number G d [vR 71, vI l1, vI l2] mem Q := by
  refine Ct_of_Ex (by decide +kernel) (by exact Nat.le_of_ble_eq_true rfl) (ls := [(0, vR 71), (1, vI l1), (2, vI l2)]) rfl ?_
  show E_X11_number G d 0 [(0, vR 71), (1, vI l1), (2, vI l2)] [] mem Q
  refine x_iconst (q := 1) dX11_number_0 rfl ?_
  refine x_istoren (q := 2) (ls' := [(3, vI 0), (0, vR 71), (1, vI l1), (2, vI l2)]) rfl (by decide) rfl dX11_number_1 rfl ?_
  refine x_aloadn (q := 3) 1 rfl rfl rfl dX11_number_2 rfl ?_
  refine x_aloadn (q := 4) 1 rfl rfl rfl dX11_number_3 rfl ?_
  refine x_geti (q := 7) (ji := 8) dX11_number_4 rfl fa_X11_142 sh_71 rfl rfl (fun r1 => ?_)
  obtain ⟨H1, H2⟩ := H
  refine x_if_ne (tgt := 38) (q := 10) dX11_number_7 (by decide) rfl r1 (fun hB => ?_) (fun hB => ?_)
  · have H := H1 (hB)
    refine x_iconst (q := 39) dX11_number_38 rfl ?_
    refine x_goto (tgt := 43) dX11_number_39 (by decide) ?_
    refine x_putz (q := 46) (ji := 8) dX11_number_43 rfl fp_X11_142 sh_71 rfl rfl (by decide) (fun m4 em4 => ?_)
    have H := H m4 em4
    refine x_sub [1, 2, 3, 0] rfl ?_
    exact H
  · have H := H2 (hB)
    refine x_aloadn (q := 11) 1 rfl rfl rfl dX11_number_10 rfl ?_
    refine x_aloadn (q := 12) 1 rfl rfl rfl dX11_number_11 rfl ?_
    refine x_geti (q := 15) (ji := 6) dX11_number_12 rfl fa_X11_136 sh_71 rfl rfl (fun r5 => ?_)
    refine x_bipush (q := 17) rfl dX11_number_15 rfl ?_
    refine x_bipush (q := 19) rfl dX11_number_17 rfl ?_
    obtain ⟨⟨s6, s7⟩, H⟩ := H
    refine x_callV (q := 22) (d := d - 1) (as := [vI (mem 71 6), vI 48, vI 57]) (st := [vR 71]) dX11_number_19 rfl mv_X11_139 sh_71 rfl rfl rfl (by exact Nat.le_of_ble_eq_true rfl) ⟨by show _ ≤ d; omega, by show _ ≤ 40 * d; omega⟩ ⟨Nat.le_refl _, Nat.le_refl _⟩ (ct_isByte (by omega) r5 s6 s7 (by decide) (by decide) ?_)
    show E_X11_number G d 22 [(3, vI 0), (0, vR 71), (1, vI l1), (2, vI l2)] [vI (bz (mem 71 6 < mem 72 3 ∧ 48 ≤ mem 72 (425 + (mem 71 6)) ∧ mem 72 (425 + (mem 71 6)) ≤ 57)), vR 71] mem Q
    obtain ⟨H1, H2⟩ := H
    refine x_if_eq (tgt := 38) (q := 25) dX11_number_22 (by decide) rfl (bz_inr _) (fun hB => ?_) (fun hB => ?_)
    · have H := H1 (bz_0.mp hB)
      refine x_iconst (q := 39) dX11_number_38 rfl ?_
      refine x_goto (tgt := 43) dX11_number_39 (by decide) ?_
      refine x_putz (q := 46) (ji := 8) dX11_number_43 rfl fp_X11_142 sh_71 rfl rfl (by decide) (fun m10 em10 => ?_)
      have H := H m10 em10
      refine x_sub [1, 2, 3, 0] rfl ?_
      exact H
    · have H := H2 (Classical.byContradiction (fun z => hB (bz_0.mpr z)))
      refine x_aloadn (q := 26) 1 rfl rfl rfl dX11_number_25 rfl ?_
      refine x_geti (q := 29) (ji := 7) dX11_number_26 rfl fa_X11_132 sh_71 rfl rfl (fun r11 => ?_)
      refine x_aloadn (q := 30) 1 rfl rfl rfl dX11_number_29 rfl ?_
      refine x_geti (q := 33) (ji := 6) dX11_number_30 rfl fa_X11_136 sh_71 rfl rfl (fun r12 => ?_)
      refine x_isub (q := 34) dX11_number_33 rfl ?_
      refine x_iconst (q := 35) dX11_number_34 rfl ?_
      obtain ⟨s13, H⟩ := H
      obtain ⟨H1, H2⟩ := H
      refine x_icmp_le (tgt := 42) (q := 38) dX11_number_35 (by decide) rfl s13 (by decide) (fun hB => ?_) (fun hB => ?_)
      · have H := H1 (hB)
        refine x_iconst (q := 43) dX11_number_42 rfl ?_
        refine x_putz (q := 46) (ji := 8) dX11_number_43 rfl fp_X11_142 sh_71 rfl rfl (by decide) (fun m16 em16 => ?_)
        have H := H m16 em16
        refine x_sub [1, 2, 3, 0] rfl ?_
        exact H
      · have H := H2 (hB)
        refine x_iconst (q := 39) dX11_number_38 rfl ?_
        refine x_goto (tgt := 43) dX11_number_39 (by decide) ?_
        refine x_putz (q := 46) (ji := 8) dX11_number_43 rfl fp_X11_142 sh_71 rfl rfl (by decide) (fun m17 em17 => ?_)
        have H := H m17 em17
        refine x_sub [1, 2, 3, 0] rfl ?_
        exact H
set_option maxRecDepth 20000 in
set_option maxHeartbeats 4000000 in
theorem B_X11_number_46 {G : GT} {d : Nat} {l1 : Int} {l2 : Int} {l3 : Int} {mem : Mem} {Q : Option AV → Mem → Prop} (hd : 2 ≤ d) (H : E_X11_number G d 52 [(0, vR 71), (1, vI l1), (2, vI l2), (3, vI l3), (4, vI (mem 71 6))] [] mem Q) : E_X11_number G d 46 [(0, vR 71), (1, vI l1), (2, vI l2), (3, vI l3)] [] mem Q := by
  refine x_aloadn (q := 47) 0 rfl rfl rfl dX11_number_46 rfl ?_
  refine x_geti (q := 50) (ji := 6) dX11_number_47 rfl fa_X11_136 sh_71 rfl rfl (fun r18 => ?_)
  refine x_istore (q := 52) (ls' := [(4, vI (mem 71 6)), (0, vR 71), (1, vI l1), (2, vI l2), (3, vI l3)]) (by decide) rfl dX11_number_50 rfl ?_
  refine x_sub [1, 2, 3, 4, 0] rfl ?_
  exact H
set_option maxRecDepth 20000 in
set_option maxHeartbeats 4000000 in
theorem B_X11_number_52 {G : GT} {d : Nat} {l1 : Int} {l2 : Int} {l3 : Int} {l4 : Int} {mem : Mem} {Q : Option AV → Mem → Prop} (hd : 2 ≤ d) (H : (inr l4) ∧ (((mem 71 7 ≤ l4) → (E_X11_number G d 94 [(0, vR 71), (1, vI l1), (2, vI l2), (3, vI l3)] [] mem Q)) ∧ (¬ (mem 71 7 ≤ l4) → (((mem 71 8 ≠ 0) → (E_X11_number G d 94 [(0, vR 71), (1, vI l1), (2, vI l2), (3, vI l3)] [] mem Q)) ∧ (¬ (mem 71 8 ≠ 0) → ((0 ≤ 425 + l4 ∧ 425 + l4 < 553) ∧ (E_X11_number G d 52 [(0, vR 71), (1, vI l1), (2, vI l2), (3, vI (((10 * l3) + (mem 72 (425 + l4))) - 48)), (4, vI (l4 + 1))] [] mem Q))))))) : E_X11_number G d 52 [(0, vR 71), (1, vI l1), (2, vI l2), (3, vI l3), (4, vI l4)] [] mem Q := by
  refine x_iload (q := 54) 4 rfl dX11_number_52 rfl ?_
  refine x_aloadn (q := 55) 0 rfl rfl rfl dX11_number_54 rfl ?_
  refine x_geti (q := 58) (ji := 7) dX11_number_55 rfl fa_X11_132 sh_71 rfl rfl (fun r19 => ?_)
  obtain ⟨s20, H⟩ := H
  obtain ⟨H1, H2⟩ := H
  refine x_icmp_ge (tgt := 94) (q := 61) dX11_number_58 (by decide) rfl s20 r19 (fun hB => ?_) (fun hB => ?_)
  · have H := H1 (hB)
    refine x_sub [0, 1, 2, 3] rfl ?_
    exact H
  · have H := H2 (hB)
    refine x_aloadn (q := 62) 0 rfl rfl rfl dX11_number_61 rfl ?_
    refine x_geti (q := 65) (ji := 8) dX11_number_62 rfl fa_X11_142 sh_71 rfl rfl (fun r23 => ?_)
    obtain ⟨H1, H2⟩ := H
    refine x_if_ne (tgt := 94) (q := 68) dX11_number_65 (by decide) rfl r23 (fun hB => ?_) (fun hB => ?_)
    · have H := H1 (hB)
      refine x_sub [0, 1, 2, 3] rfl ?_
      exact H
    · have H := H2 (hB)
      refine x_bipush (q := 70) rfl dX11_number_68 rfl ?_
      refine x_iloadn (q := 71) 3 rfl rfl dX11_number_70 rfl ?_
      refine x_imul (q := 72) dX11_number_71 rfl ?_
      refine x_aloadn (q := 73) 0 rfl rfl rfl dX11_number_72 rfl ?_
      refine x_getr (q := 76) dX11_number_73 rfl fa_X11_9 sh_71 rfl ?_
      refine x_sipush (q := 79) rfl dX11_number_76 rfl ?_
      refine x_iload (q := 81) 4 rfl dX11_number_79 rfl ?_
      refine x_iadd (q := 82) dX11_number_81 rfl ?_
      obtain ⟨⟨s26, s27⟩, H⟩ := H
      refine x_iald (q := 83) dX11_number_82 rfl sh_72 s26 s27 (fun r28 => ?_)
      refine x_iadd (q := 84) dX11_number_83 rfl ?_
      refine x_bipush (q := 86) rfl dX11_number_84 rfl ?_
      refine x_isub (q := 87) dX11_number_86 rfl ?_
      refine x_istoren (q := 88) (ls' := [(3, vI (((10 * l3) + (mem 72 (425 + l4))) - 48)), (0, vR 71), (1, vI l1), (2, vI l2), (4, vI l4)]) rfl (by decide) rfl dX11_number_87 rfl ?_
      refine x_iinc (q := 91) (ls' := [(4, vI (l4 + 1)), (3, vI (((10 * l3) + (mem 72 (425 + l4))) - 48)), (0, vR 71), (1, vI l1), (2, vI l2)]) 4 rfl (by decide) rfl dX11_number_88 rfl ?_
      refine x_goto (tgt := 52) dX11_number_91 (by decide) ?_
      refine x_sub [2, 3, 4, 1, 0] rfl ?_
      exact H
set_option maxRecDepth 20000 in
set_option maxHeartbeats 4000000 in
theorem B_X11_number_94 {G : GT} {d : Nat} {l1 : Int} {l2 : Int} {l3 : Int} {mem : Mem} {Q : Option AV → Mem → Prop} (hd : 2 ≤ d) (H : ((mem 71 8 ≠ 0) → (∀ m32 : Mem, m32 = upM mem 71 8 1 → (E_X11_number G d 119 [(0, vR 71), (3, vI l3)] [] m32 Q))) ∧ (¬ (mem 71 8 ≠ 0) → ((inr l3 ∧ inr l1 ∧ inr l2) ∧ (((l1 ≤ l3 ∧ l3 ≤ l2) → (∀ m38 : Mem, m38 = upM mem 71 8 0 → (E_X11_number G d 119 [(0, vR 71), (3, vI l3)] [] m38 Q))) ∧ (¬ (l1 ≤ l3 ∧ l3 ≤ l2) → (∀ m39 : Mem, m39 = upM mem 71 8 1 → (E_X11_number G d 119 [(0, vR 71), (3, vI l3)] [] m39 Q))))))) : E_X11_number G d 94 [(0, vR 71), (1, vI l1), (2, vI l2), (3, vI l3)] [] mem Q := by
  refine x_aloadn (q := 95) 0 rfl rfl rfl dX11_number_94 rfl ?_
  refine x_aloadn (q := 96) 0 rfl rfl rfl dX11_number_95 rfl ?_
  refine x_geti (q := 99) (ji := 8) dX11_number_96 rfl fa_X11_142 sh_71 rfl rfl (fun r29 => ?_)
  obtain ⟨H1, H2⟩ := H
  refine x_if_ne (tgt := 111) (q := 102) dX11_number_99 (by decide) rfl r29 (fun hB => ?_) (fun hB => ?_)
  · have H := H1 (hB)
    refine x_iconst (q := 112) dX11_number_111 rfl ?_
    refine x_goto (tgt := 116) dX11_number_112 (by decide) ?_
    refine x_putz (q := 119) (ji := 8) dX11_number_116 rfl fp_X11_142 sh_71 rfl rfl (by decide) (fun m32 em32 => ?_)
    have H := H m32 em32
    refine x_sub [0, 3] rfl ?_
    exact H
  · have H := H2 (hB)
    refine x_iloadn (q := 103) 3 rfl rfl dX11_number_102 rfl ?_
    refine x_iloadn (q := 104) 1 rfl rfl dX11_number_103 rfl ?_
    refine x_iloadn (q := 105) 2 rfl rfl dX11_number_104 rfl ?_
    obtain ⟨⟨s33, s34, s35⟩, H⟩ := H
    refine x_callS (q := 108) (d := d - 1) (as := [vI l3, vI l1, vI l2]) (st := [vR 71]) dX11_number_105 rfl ms_X11_83 rfl rfl (by exact Nat.le_of_ble_eq_true rfl) ⟨by show _ ≤ d; omega, by show _ ≤ 40 * d; omega⟩ ⟨Nat.le_refl _, Nat.le_refl _⟩ (ct_within s33 s34 s35 ?_)
    show E_X11_number G d 108 [(0, vR 71), (1, vI l1), (2, vI l2), (3, vI l3)] [vI (bz (l1 ≤ l3 ∧ l3 ≤ l2)), vR 71] mem Q
    obtain ⟨H1, H2⟩ := H
    refine x_if_ne (tgt := 115) (q := 111) dX11_number_108 (by decide) rfl (bz_inr _) (fun hB => ?_) (fun hB => ?_)
    · have H := H1 (bz_n0.mp hB)
      refine x_iconst (q := 116) dX11_number_115 rfl ?_
      refine x_putz (q := 119) (ji := 8) dX11_number_116 rfl fp_X11_142 sh_71 rfl rfl (by decide) (fun m38 em38 => ?_)
      have H := H m38 em38
      refine x_sub [0, 3] rfl ?_
      exact H
    · have H := H2 (fun z => hB (bz_n0.mpr z))
      refine x_iconst (q := 112) dX11_number_111 rfl ?_
      refine x_goto (tgt := 116) dX11_number_112 (by decide) ?_
      refine x_putz (q := 119) (ji := 8) dX11_number_116 rfl fp_X11_142 sh_71 rfl rfl (by decide) (fun m39 em39 => ?_)
      have H := H m39 em39
      refine x_sub [0, 3] rfl ?_
      exact H
set_option maxRecDepth 20000 in
set_option maxHeartbeats 4000000 in
theorem B_X11_number_119 {G : GT} {d : Nat} {l3 : Int} {mem : Mem} {Q : Option AV → Mem → Prop} (hd : 2 ≤ d) (H : ((mem 71 8 ≠ 0) → (Q (some (vI l3)) mem)) ∧ (¬ (mem 71 8 ≠ 0) → (C_X11_goOn G (d - 1) [vR 71] mem (fun r9 m43 => r9 = none ∧ (Q (some (vI l3)) m43))))) : E_X11_number G d 119 [(0, vR 71), (3, vI l3)] [] mem Q := by
  refine x_aloadn (q := 120) 0 rfl rfl rfl dX11_number_119 rfl ?_
  refine x_geti (q := 123) (ji := 8) dX11_number_120 rfl fa_X11_142 sh_71 rfl rfl (fun r40 => ?_)
  obtain ⟨H1, H2⟩ := H
  refine x_if_ne (tgt := 130) (q := 126) dX11_number_123 (by decide) rfl r40 (fun hB => ?_) (fun hB => ?_)
  · have H := H1 (hB)
    refine x_iloadn (q := 131) 1 rfl rfl dX11_number_130 rfl ?_
    exact x_iret rfl dX11_number_131 H
  · have H := H2 (hB)
    refine x_aloadn (q := 127) 0 rfl rfl rfl dX11_number_126 rfl ?_
    refine x_callV (q := 130) (d := d - 1) (as := []) (st := []) dX11_number_127 rfl mv_X11_158 sh_71 rfl rfl rfl (by exact Nat.le_of_ble_eq_true rfl) ⟨by show _ ≤ d; omega, by show _ ≤ 40 * d; omega⟩ ⟨Nat.le_refl _, Nat.le_refl _⟩ (Ct.mono H (fun r9 m43 H => ?_))
    obtain ⟨rfl, H⟩ := H
    show E_X11_number G d 130 [(0, vR 71), (3, vI l3)] [] m43 Q
    refine x_iloadn (q := 131) 1 rfl rfl dX11_number_130 rfl ?_
    exact x_iret rfl dX11_number_131 H
set_option maxRecDepth 20000 in
set_option maxHeartbeats 4000000 in
theorem B_X11_other {G : GT} {d : Nat} {l1 : Int} {l2 : Int} {mem : Mem} {Q : Option AV → Mem → Prop} (hd : 1 ≤ d) (H : C_X11_number G (d - 1) [vR 71, vI 0, vI ((mem 72 0) - 1)] mem (fun r9 m4 => ∃ z5 : Int, r9 = some (vI z5) ∧ (((m4 71 8 ≠ 0) → (Q (some (vI z5)) m4)) ∧ (¬ (m4 71 8 ≠ 0) → ((inr z5 ∧ inr l1) ∧ (((z5 = l1) → (∀ m13 : Mem, m13 = upM m4 71 8 1 → (∀ m14 : Mem, m14 = upM m13 71 6 (mem 71 6) → (∀ m15 : Mem, m15 = upM m14 71 7 (mem 71 7) → (Q (some (vI z5)) m15))))) ∧ (¬ (z5 = l1) → ((inr l2) ∧ (((l2 = 0) → (Q (some (vI z5)) m4)) ∧ (¬ (l2 = 0) → ((0 ≤ 41 + 12 * l1 + z5 ∧ 41 + 12 * l1 + z5 < 553) ∧ (((m4 72 (41 + 12 * l1 + z5) ≠ 0) → (Q (some (vI z5)) m4)) ∧ (¬ (m4 72 (41 + 12 * l1 + z5) ≠ 0) → (∀ m24 : Mem, m24 = upM m4 71 8 1 → (∀ m25 : Mem, m25 = upM m24 71 6 (mem 71 6) → (∀ m26 : Mem, m26 = upM m25 71 7 (mem 71 7) → (Q (some (vI z5)) m26))))))))))))))))) : C_X11_other G d [vR 71, vI l1, vI l2] mem Q := by
  refine Ct_of_Ex (by decide +kernel) (by exact Nat.le_of_ble_eq_true rfl) (ls := [(0, vR 71), (1, vI l1), (2, vI l2)]) rfl ?_
  show E_X11_other G d 0 [(0, vR 71), (1, vI l1), (2, vI l2)] [] mem Q
  refine x_aloadn (q := 1) 0 rfl rfl rfl dX11_other_0 rfl ?_
  refine x_geti (q := 4) (ji := 6) dX11_other_1 rfl fa_X11_136 sh_71 rfl rfl (fun r1 => ?_)
  refine x_istoren (q := 5) (ls' := [(3, vI (mem 71 6)), (0, vR 71), (1, vI l1), (2, vI l2)]) rfl (by decide) rfl dX11_other_4 rfl ?_
  refine x_aloadn (q := 6) 1 rfl rfl rfl dX11_other_5 rfl ?_
  refine x_geti (q := 9) (ji := 7) dX11_other_6 rfl fa_X11_132 sh_71 rfl rfl (fun r2 => ?_)
  refine x_istore (q := 11) (ls' := [(4, vI (mem 71 7)), (3, vI (mem 71 6)), (0, vR 71), (1, vI l1), (2, vI l2)]) (by decide) rfl dX11_other_9 rfl ?_
  refine x_aloadn (q := 12) 2 rfl rfl rfl dX11_other_11 rfl ?_
  refine x_iconst (q := 13) dX11_other_12 rfl ?_
  refine x_aloadn (q := 14) 2 rfl rfl rfl dX11_other_13 rfl ?_
  refine x_getr (q := 17) dX11_other_14 rfl fa_X11_9 sh_71 rfl ?_
  refine x_iconst (q := 18) dX11_other_17 rfl ?_
  refine x_iald (q := 19) dX11_other_18 rfl sh_72 (by decide) (by decide) (fun r3 => ?_)
  refine x_iconst (q := 20) dX11_other_19 rfl ?_
  refine x_isub (q := 21) dX11_other_20 rfl ?_
  refine x_callV (q := 24) (d := d - 1) (as := [vI 0, vI ((mem 72 0) - 1)]) (st := []) dX11_other_21 rfl mv_X11_161 sh_71 rfl rfl rfl (by exact Nat.le_of_ble_eq_true rfl) ⟨by show _ ≤ d; omega, by show _ ≤ 40 * d; omega⟩ ⟨Nat.le_refl _, Nat.le_refl _⟩ (Ct.mono H (fun r9 m4 H => ?_))
  obtain ⟨z5, rfl, H⟩ := H
  show E_X11_other G d 24 [(4, vI (mem 71 7)), (3, vI (mem 71 6)), (0, vR 71), (1, vI l1), (2, vI l2)] [vI z5] m4 Q
  refine x_istore (q := 26) (ls' := [(5, vI z5), (4, vI (mem 71 7)), (3, vI (mem 71 6)), (0, vR 71), (1, vI l1), (2, vI l2)]) (by decide) rfl dX11_other_24 rfl ?_
  refine x_aloadn (q := 27) 3 rfl rfl rfl dX11_other_26 rfl ?_
  refine x_geti (q := 30) (ji := 8) dX11_other_27 rfl fa_X11_142 sh_71 rfl rfl (fun r6 => ?_)
  obtain ⟨H1, H2⟩ := H
  refine x_if_ne (tgt := 69) (q := 33) dX11_other_30 (by decide) rfl r6 (fun hB => ?_) (fun hB => ?_)
  · have H := H1 (hB)
    refine x_iload (q := 71) 0 rfl dX11_other_69 rfl ?_
    exact x_iret rfl dX11_other_71 H
  · have H := H2 (hB)
    refine x_iload (q := 35) 0 rfl dX11_other_33 rfl ?_
    refine x_iloadn (q := 36) 4 rfl rfl dX11_other_35 rfl ?_
    obtain ⟨⟨s9, s10⟩, H⟩ := H
    obtain ⟨H1, H2⟩ := H
    refine x_icmp_eq (tgt := 53) (q := 39) dX11_other_36 (by decide) rfl s9 s10 (fun hB => ?_) (fun hB => ?_)
    · have H := H1 (hB)
      refine x_aloadn (q := 54) 3 rfl rfl rfl dX11_other_53 rfl ?_
      refine x_iconst (q := 55) dX11_other_54 rfl ?_
      refine x_putz (q := 58) (ji := 8) dX11_other_55 rfl fp_X11_142 sh_71 rfl rfl (by decide) (fun m13 em13 => ?_)
      have H := H m13 em13
      refine x_aloadn (q := 59) 3 rfl rfl rfl dX11_other_58 rfl ?_
      refine x_iloadn (q := 60) 2 rfl rfl dX11_other_59 rfl ?_
      refine x_puti (q := 63) (ji := 6) dX11_other_60 rfl fp_X11_136 sh_71 rfl rfl r1 (fun m14 em14 => ?_)
      have H := H m14 em14
      refine x_aloadn (q := 64) 3 rfl rfl rfl dX11_other_63 rfl ?_
      refine x_iload (q := 66) 1 rfl dX11_other_64 rfl ?_
      refine x_puti (q := 69) (ji := 7) dX11_other_66 rfl fp_X11_132 sh_71 rfl rfl r2 (fun m15 em15 => ?_)
      have H := H m15 em15
      refine x_iload (q := 71) 0 rfl dX11_other_69 rfl ?_
      exact x_iret rfl dX11_other_71 H
    · have H := H2 (hB)
      refine x_iloadn (q := 40) 5 rfl rfl dX11_other_39 rfl ?_
      obtain ⟨s16, H⟩ := H
      obtain ⟨H1, H2⟩ := H
      refine x_if_eq (tgt := 69) (q := 43) dX11_other_40 (by decide) rfl s16 (fun hB => ?_) (fun hB => ?_)
      · have H := H1 (hB)
        refine x_iload (q := 71) 0 rfl dX11_other_69 rfl ?_
        exact x_iret rfl dX11_other_71 H
      · have H := H2 (hB)
        refine x_aloadn (q := 44) 3 rfl rfl rfl dX11_other_43 rfl ?_
        refine x_iloadn (q := 45) 4 rfl rfl dX11_other_44 rfl ?_
        refine x_iload (q := 47) 0 rfl dX11_other_45 rfl ?_
        obtain ⟨⟨s19, s20⟩, H⟩ := H
        refine x_callV (q := 50) (d := d - 1) (as := [vI l1, vI z5]) (st := []) dX11_other_47 rfl mv_X11_108 sh_71 rfl rfl rfl (by exact Nat.le_of_ble_eq_true rfl) ⟨by show _ ≤ d; omega, by show _ ≤ 40 * d; omega⟩ ⟨Nat.le_refl _, Nat.le_refl _⟩ (ct_tieOf s19 s20 ?_)
        show E_X11_other G d 50 [(5, vI z5), (4, vI (mem 71 7)), (3, vI (mem 71 6)), (0, vR 71), (1, vI l1), (2, vI l2)] [vI (m4 72 (41 + 12 * l1 + z5))] m4 Q
        refine x_ok (fun hm21 => ?_)
        obtain ⟨H1, H2⟩ := H
        refine x_if_ne (tgt := 69) (q := 53) dX11_other_50 (by decide) rfl (ok_ai hm21 sh_72 (by decide) _) (fun hB => ?_) (fun hB => ?_)
        · have H := H1 (hB)
          refine x_iload (q := 71) 0 rfl dX11_other_69 rfl ?_
          exact x_iret rfl dX11_other_71 H
        · have H := H2 (hB)
          refine x_aloadn (q := 54) 3 rfl rfl rfl dX11_other_53 rfl ?_
          refine x_iconst (q := 55) dX11_other_54 rfl ?_
          refine x_putz (q := 58) (ji := 8) dX11_other_55 rfl fp_X11_142 sh_71 rfl rfl (by decide) (fun m24 em24 => ?_)
          have H := H m24 em24
          refine x_aloadn (q := 59) 3 rfl rfl rfl dX11_other_58 rfl ?_
          refine x_iloadn (q := 60) 2 rfl rfl dX11_other_59 rfl ?_
          refine x_puti (q := 63) (ji := 6) dX11_other_60 rfl fp_X11_136 sh_71 rfl rfl r1 (fun m25 em25 => ?_)
          have H := H m25 em25
          refine x_aloadn (q := 64) 3 rfl rfl rfl dX11_other_63 rfl ?_
          refine x_iload (q := 66) 1 rfl dX11_other_64 rfl ?_
          refine x_puti (q := 69) (ji := 7) dX11_other_66 rfl fp_X11_132 sh_71 rfl rfl r2 (fun m26 em26 => ?_)
          have H := H m26 em26
          refine x_iload (q := 71) 0 rfl dX11_other_69 rfl ?_
          exact x_iret rfl dX11_other_71 H
set_option maxRecDepth 20000 in
set_option maxHeartbeats 4000000 in
theorem B_X11_item {G : GT} {d : Nat}  {mem : Mem} {Q : Option AV → Mem → Prop} (hd : 1 ≤ d) (H : C_X11_isAt G (d - 1) [vR 71, vS 18] mem (fun r9 m1 => ∃ z2 : Int, r9 = some (vI z2) ∧ ((inr z2) ∧ (((z2 = 0) → (C_X11_takes G (d - 1) [vR 71, vS 19] m1 (fun r9 m6 => ∃ z7 : Int, r9 = some (vI z7) ∧ ((inr z7) ∧ (((z7 = 0) → (C_X11_isAt G (d - 1) [vR 71, vS 20] m6 (fun r9 m11 => ∃ z12 : Int, r9 = some (vI z12) ∧ ((inr z12) ∧ (((z12 = 0) → (C_X11_takes G (d - 1) [vR 71, vS 23] m11 (fun r9 m16 => ∃ z17 : Int, r9 = some (vI z17) ∧ ((inr z17) ∧ (((z17 ≠ 0) → (∀ m21 : Mem, m21 = upM m16 71 8 0 → (E_X11_item G d 312 [(0, vR 71)] [] m21 Q))) ∧ (¬ (z17 ≠ 0) → (∀ m22 : Mem, m22 = upM m16 71 8 1 → (E_X11_item G d 312 [(0, vR 71)] [] m22 Q)))))))) ∧ (¬ (z12 = 0) → (((m11 72 1 ≠ 60) → (∀ m26 : Mem, m26 = upM m11 71 8 0 → (E_X11_item G d 210 [(0, vR 71)] [] m26 Q))) ∧ (¬ (m11 72 1 ≠ 60) → (∀ m27 : Mem, m27 = upM m11 71 8 1 → (E_X11_item G d 210 [(0, vR 71)] [] m27 Q)))))))))) ∧ (¬ (z7 = 0) → (E_X11_item G d 127 [(0, vR 71)] [] m6 Q))))))) ∧ (¬ (z2 = 0) → (((m1 72 0 ≠ 12) → (∀ m31 : Mem, m31 = upM m1 71 8 0 → (E_X11_item G d 29 [(0, vR 71)] [] m31 Q))) ∧ (¬ (m1 72 0 ≠ 12) → (∀ m32 : Mem, m32 = upM m1 71 8 1 → (E_X11_item G d 29 [(0, vR 71)] [] m32 Q))))))))) : C_X11_item G d [vR 71] mem Q := by
  refine Ct_of_Ex (by decide +kernel) (by exact Nat.le_of_ble_eq_true rfl) (ls := [(0, vR 71)]) rfl ?_
  show E_X11_item G d 0 [(0, vR 71)] [] mem Q
  refine x_aloadn (q := 1) 0 rfl rfl rfl dX11_item_0 rfl ?_
  refine x_ldcS (q := 3) (t := 18) (by decide) ⟨by decide +kernel, by decide +kernel⟩ dX11_item_1 rfl ?_
  refine x_callV (q := 6) (d := d - 1) (as := [vS 18]) (st := []) dX11_item_3 rfl mv_X11_154 sh_71 rfl rfl rfl (by exact Nat.le_of_ble_eq_true rfl) ⟨by show _ ≤ d; omega, by show _ ≤ 40 * d; omega⟩ ⟨Nat.le_refl _, Nat.le_refl _⟩ (Ct.mono H (fun r9 m1 H => ?_))
  obtain ⟨z2, rfl, H⟩ := H
  show E_X11_item G d 6 [(0, vR 71)] [vI z2] m1 Q
  obtain ⟨s3, H⟩ := H
  obtain ⟨H1, H2⟩ := H
  refine x_if_eq (tgt := 118) (q := 9) dX11_item_6 (by decide) rfl s3 (fun hB => ?_) (fun hB => ?_)
  · have H := H1 (hB)
    refine x_aloadn (q := 119) 0 rfl rfl rfl dX11_item_118 rfl ?_
    refine x_ldcS (q := 121) (t := 19) (by decide) ⟨by decide +kernel, by decide +kernel⟩ dX11_item_119 rfl ?_
    refine x_callV (q := 124) (d := d - 1) (as := [vS 19]) (st := []) dX11_item_121 rfl mv_X11_166 sh_71 rfl rfl rfl (by exact Nat.le_of_ble_eq_true rfl) ⟨by show _ ≤ d; omega, by show _ ≤ 40 * d; omega⟩ ⟨Nat.le_refl _, Nat.le_refl _⟩ (Ct.mono H (fun r9 m6 H => ?_))
    obtain ⟨z7, rfl, H⟩ := H
    show E_X11_item G d 124 [(0, vR 71)] [vI z7] m6 Q
    obtain ⟨s8, H⟩ := H
    obtain ⟨H1, H2⟩ := H
    refine x_if_eq (tgt := 181) (q := 127) dX11_item_124 (by decide) rfl s8 (fun hB => ?_) (fun hB => ?_)
    · have H := H1 (hB)
      refine x_aloadn (q := 182) 0 rfl rfl rfl dX11_item_181 rfl ?_
      refine x_ldcS (q := 184) (t := 20) (by decide) ⟨by decide +kernel, by decide +kernel⟩ dX11_item_182 rfl ?_
      refine x_callV (q := 187) (d := d - 1) (as := [vS 20]) (st := []) dX11_item_184 rfl mv_X11_154 sh_71 rfl rfl rfl (by exact Nat.le_of_ble_eq_true rfl) ⟨by show _ ≤ d; omega, by show _ ≤ 40 * d; omega⟩ ⟨Nat.le_refl _, Nat.le_refl _⟩ (Ct.mono H (fun r9 m11 H => ?_))
      obtain ⟨z12, rfl, H⟩ := H
      show E_X11_item G d 187 [(0, vR 71)] [vI z12] m11 Q
      obtain ⟨s13, H⟩ := H
      obtain ⟨H1, H2⟩ := H
      refine x_if_eq (tgt := 294) (q := 190) dX11_item_187 (by decide) rfl s13 (fun hB => ?_) (fun hB => ?_)
      · have H := H1 (hB)
        refine x_aloadn (q := 295) 0 rfl rfl rfl dX11_item_294 rfl ?_
        refine x_aloadn (q := 296) 0 rfl rfl rfl dX11_item_295 rfl ?_
        refine x_ldcS (q := 298) (t := 23) (by decide) ⟨by decide +kernel, by decide +kernel⟩ dX11_item_296 rfl ?_
        refine x_callV (q := 301) (d := d - 1) (as := [vS 23]) (st := [vR 71]) dX11_item_298 rfl mv_X11_166 sh_71 rfl rfl rfl (by exact Nat.le_of_ble_eq_true rfl) ⟨by show _ ≤ d; omega, by show _ ≤ 40 * d; omega⟩ ⟨Nat.le_refl _, Nat.le_refl _⟩ (Ct.mono H (fun r9 m16 H => ?_))
        obtain ⟨z17, rfl, H⟩ := H
        show E_X11_item G d 301 [(0, vR 71)] [vI z17, vR 71] m16 Q
        obtain ⟨s18, H⟩ := H
        obtain ⟨H1, H2⟩ := H
        refine x_if_ne (tgt := 308) (q := 304) dX11_item_301 (by decide) rfl s18 (fun hB => ?_) (fun hB => ?_)
        · have H := H1 (hB)
          refine x_iconst (q := 309) dX11_item_308 rfl ?_
          refine x_putz (q := 312) (ji := 8) dX11_item_309 rfl fp_X11_142 sh_71 rfl rfl (by decide) (fun m21 em21 => ?_)
          have H := H m21 em21
          exact H
        · have H := H2 (hB)
          refine x_iconst (q := 305) dX11_item_304 rfl ?_
          refine x_goto (tgt := 309) dX11_item_305 (by decide) ?_
          refine x_putz (q := 312) (ji := 8) dX11_item_309 rfl fp_X11_142 sh_71 rfl rfl (by decide) (fun m22 em22 => ?_)
          have H := H m22 em22
          exact H
      · have H := H2 (hB)
        refine x_aloadn (q := 191) 0 rfl rfl rfl dX11_item_190 rfl ?_
        refine x_aloadn (q := 192) 0 rfl rfl rfl dX11_item_191 rfl ?_
        refine x_getr (q := 195) dX11_item_192 rfl fa_X11_9 sh_71 rfl ?_
        refine x_iconst (q := 196) dX11_item_195 rfl ?_
        refine x_iald (q := 197) dX11_item_196 rfl sh_72 (by decide) (by decide) (fun r23 => ?_)
        refine x_bipush (q := 199) rfl dX11_item_197 rfl ?_
        obtain ⟨H1, H2⟩ := H
        refine x_icmp_ne (tgt := 206) (q := 202) dX11_item_199 (by decide) rfl r23 (by decide) (fun hB => ?_) (fun hB => ?_)
        · have H := H1 (hB)
          refine x_iconst (q := 207) dX11_item_206 rfl ?_
          refine x_putz (q := 210) (ji := 8) dX11_item_207 rfl fp_X11_142 sh_71 rfl rfl (by decide) (fun m26 em26 => ?_)
          have H := H m26 em26
          exact H
        · have H := H2 (hB)
          refine x_iconst (q := 203) dX11_item_202 rfl ?_
          refine x_goto (tgt := 207) dX11_item_203 (by decide) ?_
          refine x_putz (q := 210) (ji := 8) dX11_item_207 rfl fp_X11_142 sh_71 rfl rfl (by decide) (fun m27 em27 => ?_)
          have H := H m27 em27
          exact H
    · have H := H2 (hB)
      exact H
  · have H := H2 (hB)
    refine x_aloadn (q := 10) 0 rfl rfl rfl dX11_item_9 rfl ?_
    refine x_aloadn (q := 11) 0 rfl rfl rfl dX11_item_10 rfl ?_
    refine x_getr (q := 14) dX11_item_11 rfl fa_X11_9 sh_71 rfl ?_
    refine x_iconst (q := 15) dX11_item_14 rfl ?_
    refine x_iald (q := 16) dX11_item_15 rfl sh_72 (by decide) (by decide) (fun r28 => ?_)
    refine x_bipush (q := 18) rfl dX11_item_16 rfl ?_
    obtain ⟨H1, H2⟩ := H
    refine x_icmp_ne (tgt := 25) (q := 21) dX11_item_18 (by decide) rfl r28 (by decide) (fun hB => ?_) (fun hB => ?_)
    · have H := H1 (hB)
      refine x_iconst (q := 26) dX11_item_25 rfl ?_
      refine x_putz (q := 29) (ji := 8) dX11_item_26 rfl fp_X11_142 sh_71 rfl rfl (by decide) (fun m31 em31 => ?_)
      have H := H m31 em31
      exact H
    · have H := H2 (hB)
      refine x_iconst (q := 22) dX11_item_21 rfl ?_
      refine x_goto (tgt := 26) dX11_item_22 (by decide) ?_
      refine x_putz (q := 29) (ji := 8) dX11_item_26 rfl fp_X11_142 sh_71 rfl rfl (by decide) (fun m32 em32 => ?_)
      have H := H m32 em32
      exact H
set_option maxRecDepth 20000 in
set_option maxHeartbeats 4000000 in
theorem B_X11_item_312 {G : GT} {d : Nat}  {mem : Mem} {Q : Option AV → Mem → Prop} (hd : 1 ≤ d) (H : C_X11_number G (d - 1) [vR 71, vI 0, vI 12] mem (fun r9 m33 => ∃ z34 : Int, r9 = some (vI z34) ∧ (((m33 71 8 ≠ 0) → (Q none m33)) ∧ (¬ (m33 71 8 ≠ 0) → ((inr z34) ∧ (∀ m38 : Mem, m38 = upM m33 72 2 z34 → (Q none m38))))))) : E_X11_item G d 312 [(0, vR 71)] [] mem Q := by
  refine x_aloadn (q := 313) 0 rfl rfl rfl dX11_item_312 rfl ?_
  refine x_iconst (q := 314) dX11_item_313 rfl ?_
  refine x_bipush (q := 316) rfl dX11_item_314 rfl ?_
  refine x_callV (q := 319) (d := d - 1) (as := [vI 0, vI 12]) (st := []) dX11_item_316 rfl mv_X11_161 sh_71 rfl rfl rfl (by exact Nat.le_of_ble_eq_true rfl) ⟨by show _ ≤ d; omega, by show _ ≤ 40 * d; omega⟩ ⟨Nat.le_refl _, Nat.le_refl _⟩ (Ct.mono H (fun r9 m33 H => ?_))
  obtain ⟨z34, rfl, H⟩ := H
  show E_X11_item G d 319 [(0, vR 71)] [vI z34] m33 Q
  refine x_istoren (q := 320) (ls' := [(1, vI z34), (0, vR 71)]) rfl (by decide) rfl dX11_item_319 rfl ?_
  refine x_aloadn (q := 321) 1 rfl rfl rfl dX11_item_320 rfl ?_
  refine x_geti (q := 324) (ji := 8) dX11_item_321 rfl fa_X11_142 sh_71 rfl rfl (fun r35 => ?_)
  obtain ⟨H1, H2⟩ := H
  refine x_if_ne (tgt := 334) (q := 327) dX11_item_324 (by decide) rfl r35 (fun hB => ?_) (fun hB => ?_)
  · have H := H1 (hB)
    exact x_vret rfl dX11_item_334 H
  · have H := H2 (hB)
    refine x_aloadn (q := 328) 1 rfl rfl rfl dX11_item_327 rfl ?_
    refine x_getr (q := 331) dX11_item_328 rfl fa_X11_9 sh_71 rfl ?_
    refine x_iconst (q := 332) dX11_item_331 rfl ?_
    refine x_iloadn (q := 333) 0 rfl rfl dX11_item_332 rfl ?_
    obtain ⟨s39, H⟩ := H
    refine x_iast (q := 334) dX11_item_333 rfl sh_72 (by decide) (by decide) s39 (fun m38 em38 => ?_)
    have H := H m38 em38
    exact x_vret rfl dX11_item_334 H
set_option maxRecDepth 20000 in
set_option maxHeartbeats 4000000 in
theorem B_X11_item_210 {G : GT} {d : Nat}  {mem : Mem} {Q : Option AV → Mem → Prop} (hd : 1 ≤ d) (H : C_X11_takes G (d - 1) [vR 71, vS 20] mem (fun r9 m40 => ∃ z41 : Int, r9 = some (vI z41) ∧ (C_X11_number G (d - 1) [vR 71, vI 0, vI ((m40 72 0) - 1)] m40 (fun r9 m43 => ∃ z44 : Int, r9 = some (vI z44) ∧ (C_X11_other G (d - 1) [vR 71, vI z44, vI 1] m43 (fun r9 m45 => ∃ z46 : Int, r9 = some (vI z46) ∧ (C_X11_takes G (d - 1) [vR 71, vS 21] m45 (fun r9 m47 => ∃ z48 : Int, r9 = some (vI z48) ∧ (((m47 71 8 ≠ 0) → (∀ m52 : Mem, m52 = upM m47 71 8 1 → (E_X11_item G d 276 [(0, vR 71), (2, vI z44), (3, vI z46), (4, vI z48)] [] m52 Q))) ∧ (¬ (m47 71 8 ≠ 0) → ((inr z48) ∧ (((z48 ≠ 0) → (∀ m56 : Mem, m56 = upM m47 71 8 0 → (E_X11_item G d 276 [(0, vR 71), (2, vI z44), (3, vI z46), (4, vI z48)] [] m56 Q))) ∧ (¬ (z48 ≠ 0) → (C_X11_takes G (d - 1) [vR 71, vS 22] m47 (fun r9 m57 => ∃ z58 : Int, r9 = some (vI z58) ∧ ((inr z58) ∧ (((z58 ≠ 0) → (∀ m62 : Mem, m62 = upM m57 71 8 0 → (E_X11_item G d 276 [(0, vR 71), (2, vI z44), (3, vI z46), (4, vI z48)] [] m62 Q))) ∧ (¬ (z58 ≠ 0) → (∀ m63 : Mem, m63 = upM m57 71 8 1 → (E_X11_item G d 276 [(0, vR 71), (2, vI z44), (3, vI z46), (4, vI z48)] [] m63 Q)))))))))))))))))))) : E_X11_item G d 210 [(0, vR 71)] [] mem Q := by
  refine x_aloadn (q := 211) 0 rfl rfl rfl dX11_item_210 rfl ?_
  refine x_ldcS (q := 213) (t := 20) (by decide) ⟨by decide +kernel, by decide +kernel⟩ dX11_item_211 rfl ?_
  refine x_callV (q := 216) (d := d - 1) (as := [vS 20]) (st := []) dX11_item_213 rfl mv_X11_166 sh_71 rfl rfl rfl (by exact Nat.le_of_ble_eq_true rfl) ⟨by show _ ≤ d; omega, by show _ ≤ 40 * d; omega⟩ ⟨Nat.le_refl _, Nat.le_refl _⟩ (Ct.mono H (fun r9 m40 H => ?_))
  obtain ⟨z41, rfl, H⟩ := H
  show E_X11_item G d 216 [(0, vR 71)] [vI z41] m40 Q
  refine x_istoren (q := 217) (ls' := [(1, vI z41), (0, vR 71)]) rfl (by decide) rfl dX11_item_216 rfl ?_
  refine x_aloadn (q := 218) 1 rfl rfl rfl dX11_item_217 rfl ?_
  refine x_iconst (q := 219) dX11_item_218 rfl ?_
  refine x_aloadn (q := 220) 1 rfl rfl rfl dX11_item_219 rfl ?_
  refine x_getr (q := 223) dX11_item_220 rfl fa_X11_9 sh_71 rfl ?_
  refine x_iconst (q := 224) dX11_item_223 rfl ?_
  refine x_iald (q := 225) dX11_item_224 rfl sh_72 (by decide) (by decide) (fun r42 => ?_)
  refine x_iconst (q := 226) dX11_item_225 rfl ?_
  refine x_isub (q := 227) dX11_item_226 rfl ?_
  refine x_callV (q := 230) (d := d - 1) (as := [vI 0, vI ((m40 72 0) - 1)]) (st := []) dX11_item_227 rfl mv_X11_161 sh_71 rfl rfl rfl (by exact Nat.le_of_ble_eq_true rfl) ⟨by show _ ≤ d; omega, by show _ ≤ 40 * d; omega⟩ ⟨Nat.le_refl _, Nat.le_refl _⟩ (Ct.mono H (fun r9 m43 H => ?_))
  obtain ⟨z44, rfl, H⟩ := H
  show E_X11_item G d 230 [(1, vI z41), (0, vR 71)] [vI z44] m43 Q
  refine x_istoren (q := 231) (ls' := [(2, vI z44), (1, vI z41), (0, vR 71)]) rfl (by decide) rfl dX11_item_230 rfl ?_
  refine x_aloadn (q := 232) 2 rfl rfl rfl dX11_item_231 rfl ?_
  refine x_iloadn (q := 233) 0 rfl rfl dX11_item_232 rfl ?_
  refine x_iconst (q := 234) dX11_item_233 rfl ?_
  refine x_callV (q := 237) (d := d - 1) (as := [vI z44, vI 1]) (st := []) dX11_item_234 rfl mv_X11_171 sh_71 rfl rfl rfl (by exact Nat.le_of_ble_eq_true rfl) ⟨by show _ ≤ d; omega, by show _ ≤ 40 * d; omega⟩ ⟨Nat.le_refl _, Nat.le_refl _⟩ (Ct.mono H (fun r9 m45 H => ?_))
  obtain ⟨z46, rfl, H⟩ := H
  show E_X11_item G d 237 [(2, vI z44), (1, vI z41), (0, vR 71)] [vI z46] m45 Q
  refine x_istoren (q := 238) (ls' := [(3, vI z46), (2, vI z44), (1, vI z41), (0, vR 71)]) rfl (by decide) rfl dX11_item_237 rfl ?_
  refine x_aloadn (q := 239) 3 rfl rfl rfl dX11_item_238 rfl ?_
  refine x_ldcS (q := 241) (t := 21) (by decide) ⟨by decide +kernel, by decide +kernel⟩ dX11_item_239 rfl ?_
  refine x_callV (q := 244) (d := d - 1) (as := [vS 21]) (st := []) dX11_item_241 rfl mv_X11_166 sh_71 rfl rfl rfl (by exact Nat.le_of_ble_eq_true rfl) ⟨by show _ ≤ d; omega, by show _ ≤ 40 * d; omega⟩ ⟨Nat.le_refl _, Nat.le_refl _⟩ (Ct.mono H (fun r9 m47 H => ?_))
  obtain ⟨z48, rfl, H⟩ := H
  show E_X11_item G d 244 [(3, vI z46), (2, vI z44), (1, vI z41), (0, vR 71)] [vI z48] m47 Q
  refine x_istore (q := 246) (ls' := [(4, vI z48), (3, vI z46), (2, vI z44), (1, vI z41), (0, vR 71)]) (by decide) rfl dX11_item_244 rfl ?_
  refine x_aloadn (q := 247) 4 rfl rfl rfl dX11_item_246 rfl ?_
  refine x_aloadn (q := 248) 4 rfl rfl rfl dX11_item_247 rfl ?_
  refine x_geti (q := 251) (ji := 8) dX11_item_248 rfl fa_X11_142 sh_71 rfl rfl (fun r49 => ?_)
  obtain ⟨H1, H2⟩ := H
  refine x_if_ne (tgt := 268) (q := 254) dX11_item_251 (by decide) rfl r49 (fun hB => ?_) (fun hB => ?_)
  · have H := H1 (hB)
    refine x_iconst (q := 269) dX11_item_268 rfl ?_
    refine x_goto (tgt := 273) dX11_item_269 (by decide) ?_
    refine x_putz (q := 276) (ji := 8) dX11_item_273 rfl fp_X11_142 sh_71 rfl rfl (by decide) (fun m52 em52 => ?_)
    have H := H m52 em52
    refine x_sub [4, 2, 1, 0] rfl ?_
    exact H
  · have H := H2 (hB)
    refine x_iload (q := 256) 0 rfl dX11_item_254 rfl ?_
    obtain ⟨s53, H⟩ := H
    obtain ⟨H1, H2⟩ := H
    refine x_if_ne (tgt := 272) (q := 259) dX11_item_256 (by decide) rfl s53 (fun hB => ?_) (fun hB => ?_)
    · have H := H1 (hB)
      refine x_iconst (q := 273) dX11_item_272 rfl ?_
      refine x_putz (q := 276) (ji := 8) dX11_item_273 rfl fp_X11_142 sh_71 rfl rfl (by decide) (fun m56 em56 => ?_)
      have H := H m56 em56
      refine x_sub [4, 2, 1, 0] rfl ?_
      exact H
    · have H := H2 (hB)
      refine x_aloadn (q := 260) 4 rfl rfl rfl dX11_item_259 rfl ?_
      refine x_ldcS (q := 262) (t := 22) (by decide) ⟨by decide +kernel, by decide +kernel⟩ dX11_item_260 rfl ?_
      refine x_callV (q := 265) (d := d - 1) (as := [vS 22]) (st := [vR 71]) dX11_item_262 rfl mv_X11_166 sh_71 rfl rfl rfl (by exact Nat.le_of_ble_eq_true rfl) ⟨by show _ ≤ d; omega, by show _ ≤ 40 * d; omega⟩ ⟨Nat.le_refl _, Nat.le_refl _⟩ (Ct.mono H (fun r9 m57 H => ?_))
      obtain ⟨z58, rfl, H⟩ := H
      show E_X11_item G d 265 [(4, vI z48), (3, vI z46), (2, vI z44), (1, vI z41), (0, vR 71)] [vI z58, vR 71] m57 Q
      obtain ⟨s59, H⟩ := H
      obtain ⟨H1, H2⟩ := H
      refine x_if_ne (tgt := 272) (q := 268) dX11_item_265 (by decide) rfl s59 (fun hB => ?_) (fun hB => ?_)
      · have H := H1 (hB)
        refine x_iconst (q := 273) dX11_item_272 rfl ?_
        refine x_putz (q := 276) (ji := 8) dX11_item_273 rfl fp_X11_142 sh_71 rfl rfl (by decide) (fun m62 em62 => ?_)
        have H := H m62 em62
        refine x_sub [4, 2, 1, 0] rfl ?_
        exact H
      · have H := H2 (hB)
        refine x_iconst (q := 269) dX11_item_268 rfl ?_
        refine x_goto (tgt := 273) dX11_item_269 (by decide) ?_
        refine x_putz (q := 276) (ji := 8) dX11_item_273 rfl fp_X11_142 sh_71 rfl rfl (by decide) (fun m63 em63 => ?_)
        have H := H m63 em63
        refine x_sub [4, 2, 1, 0] rfl ?_
        exact H
set_option maxRecDepth 20000 in
set_option maxHeartbeats 4000000 in
theorem B_X11_item_127 {G : GT} {d : Nat}  {mem : Mem} {Q : Option AV → Mem → Prop} (hd : 1 ≤ d) (H : C_X11_number G (d - 1) [vR 71, vI 0, vI ((mem 72 0) - 1)] mem (fun r9 m65 => ∃ z66 : Int, r9 = some (vI z66) ∧ (C_X11_other G (d - 1) [vR 71, vI z66, vI 0] m65 (fun r9 m67 => ∃ z68 : Int, r9 = some (vI z68) ∧ (C_X11_number G (d - 1) [vR 71, vI 1, vI 99] m67 (fun r9 m69 => ∃ z70 : Int, r9 = some (vI z70) ∧ (((m69 71 8 ≠ 0) → (Q none m69)) ∧ (¬ (m69 71 8 ≠ 0) → ((0 ≤ (41 + (12 * z66)) + z68 ∧ (41 + (12 * z66)) + z68 < 553) ∧ ((inr z70) ∧ (∀ m76 : Mem, m76 = upM m69 72 ((41 + (12 * z66)) + z68) z70 → (Q none m76)))))))))))) : E_X11_item G d 127 [(0, vR 71)] [] mem Q := by
  refine x_aloadn (q := 128) 0 rfl rfl rfl dX11_item_127 rfl ?_
  refine x_iconst (q := 129) dX11_item_128 rfl ?_
  refine x_aloadn (q := 130) 0 rfl rfl rfl dX11_item_129 rfl ?_
  refine x_getr (q := 133) dX11_item_130 rfl fa_X11_9 sh_71 rfl ?_
  refine x_iconst (q := 134) dX11_item_133 rfl ?_
  refine x_iald (q := 135) dX11_item_134 rfl sh_72 (by decide) (by decide) (fun r64 => ?_)
  refine x_iconst (q := 136) dX11_item_135 rfl ?_
  refine x_isub (q := 137) dX11_item_136 rfl ?_
  refine x_callV (q := 140) (d := d - 1) (as := [vI 0, vI ((mem 72 0) - 1)]) (st := []) dX11_item_137 rfl mv_X11_161 sh_71 rfl rfl rfl (by exact Nat.le_of_ble_eq_true rfl) ⟨by show _ ≤ d; omega, by show _ ≤ 40 * d; omega⟩ ⟨Nat.le_refl _, Nat.le_refl _⟩ (Ct.mono H (fun r9 m65 H => ?_))
  obtain ⟨z66, rfl, H⟩ := H
  show E_X11_item G d 140 [(0, vR 71)] [vI z66] m65 Q
  refine x_istoren (q := 141) (ls' := [(1, vI z66), (0, vR 71)]) rfl (by decide) rfl dX11_item_140 rfl ?_
  refine x_aloadn (q := 142) 1 rfl rfl rfl dX11_item_141 rfl ?_
  refine x_iloadn (q := 143) 0 rfl rfl dX11_item_142 rfl ?_
  refine x_iconst (q := 144) dX11_item_143 rfl ?_
  refine x_callV (q := 147) (d := d - 1) (as := [vI z66, vI 0]) (st := []) dX11_item_144 rfl mv_X11_171 sh_71 rfl rfl rfl (by exact Nat.le_of_ble_eq_true rfl) ⟨by show _ ≤ d; omega, by show _ ≤ 40 * d; omega⟩ ⟨Nat.le_refl _, Nat.le_refl _⟩ (Ct.mono H (fun r9 m67 H => ?_))
  obtain ⟨z68, rfl, H⟩ := H
  show E_X11_item G d 147 [(1, vI z66), (0, vR 71)] [vI z68] m67 Q
  refine x_istoren (q := 148) (ls' := [(2, vI z68), (1, vI z66), (0, vR 71)]) rfl (by decide) rfl dX11_item_147 rfl ?_
  refine x_aloadn (q := 149) 2 rfl rfl rfl dX11_item_148 rfl ?_
  refine x_iconst (q := 150) dX11_item_149 rfl ?_
  refine x_bipush (q := 152) rfl dX11_item_150 rfl ?_
  refine x_callV (q := 155) (d := d - 1) (as := [vI 1, vI 99]) (st := []) dX11_item_152 rfl mv_X11_161 sh_71 rfl rfl rfl (by exact Nat.le_of_ble_eq_true rfl) ⟨by show _ ≤ d; omega, by show _ ≤ 40 * d; omega⟩ ⟨Nat.le_refl _, Nat.le_refl _⟩ (Ct.mono H (fun r9 m69 H => ?_))
  obtain ⟨z70, rfl, H⟩ := H
  show E_X11_item G d 155 [(2, vI z68), (1, vI z66), (0, vR 71)] [vI z70] m69 Q
  refine x_istoren (q := 156) (ls' := [(3, vI z70), (2, vI z68), (1, vI z66), (0, vR 71)]) rfl (by decide) rfl dX11_item_155 rfl ?_
  refine x_aloadn (q := 157) 3 rfl rfl rfl dX11_item_156 rfl ?_
  refine x_geti (q := 160) (ji := 8) dX11_item_157 rfl fa_X11_142 sh_71 rfl rfl (fun r71 => ?_)
  obtain ⟨H1, H2⟩ := H
  refine x_if_ne (tgt := 178) (q := 163) dX11_item_160 (by decide) rfl r71 (fun hB => ?_) (fun hB => ?_)
  · have H := H1 (hB)
    refine x_goto (tgt := 334) dX11_item_178 (by decide) ?_
    exact x_vret rfl dX11_item_334 H
  · have H := H2 (hB)
    refine x_aloadn (q := 164) 3 rfl rfl rfl dX11_item_163 rfl ?_
    refine x_getr (q := 167) dX11_item_164 rfl fa_X11_9 sh_71 rfl ?_
    refine x_bipush (q := 169) rfl dX11_item_167 rfl ?_
    refine x_bipush (q := 171) rfl dX11_item_169 rfl ?_
    refine x_iloadn (q := 172) 2 rfl rfl dX11_item_171 rfl ?_
    refine x_imul (q := 173) dX11_item_172 rfl ?_
    refine x_iadd (q := 174) dX11_item_173 rfl ?_
    refine x_iloadn (q := 175) 1 rfl rfl dX11_item_174 rfl ?_
    refine x_iadd (q := 176) dX11_item_175 rfl ?_
    refine x_iloadn (q := 177) 0 rfl rfl dX11_item_176 rfl ?_
    obtain ⟨⟨s74, s75⟩, H⟩ := H
    obtain ⟨s77, H⟩ := H
    refine x_iast (q := 178) dX11_item_177 rfl sh_72 s74 s75 s77 (fun m76 em76 => ?_)
    have H := H m76 em76
    refine x_goto (tgt := 334) dX11_item_178 (by decide) ?_
    exact x_vret rfl dX11_item_334 H
set_option maxRecDepth 20000 in
set_option maxHeartbeats 4000000 in
theorem B_X11_item_29 {G : GT} {d : Nat}  {mem : Mem} {Q : Option AV → Mem → Prop} (hd : 1 ≤ d) (H : C_X11_takes G (d - 1) [vR 71, vS 18] mem (fun r9 m78 => ∃ z79 : Int, r9 = some (vI z79) ∧ (E_X11_item G d 38 [(0, vR 71), (2, vI 0)] [] m78 Q))) : E_X11_item G d 29 [(0, vR 71)] [] mem Q := by
  refine x_aloadn (q := 30) 0 rfl rfl rfl dX11_item_29 rfl ?_
  refine x_ldcS (q := 32) (t := 18) (by decide) ⟨by decide +kernel, by decide +kernel⟩ dX11_item_30 rfl ?_
  refine x_callV (q := 35) (d := d - 1) (as := [vS 18]) (st := []) dX11_item_32 rfl mv_X11_166 sh_71 rfl rfl rfl (by exact Nat.le_of_ble_eq_true rfl) ⟨by show _ ≤ d; omega, by show _ ≤ 40 * d; omega⟩ ⟨Nat.le_refl _, Nat.le_refl _⟩ (Ct.mono H (fun r9 m78 H => ?_))
  obtain ⟨z79, rfl, H⟩ := H
  show E_X11_item G d 35 [(0, vR 71)] [vI z79] m78 Q
  refine x_istoren (q := 36) (ls' := [(1, vI z79), (0, vR 71)]) rfl (by decide) rfl dX11_item_35 rfl ?_
  refine x_iconst (q := 37) dX11_item_36 rfl ?_
  refine x_istoren (q := 38) (ls' := [(2, vI 0), (1, vI z79), (0, vR 71)]) rfl (by decide) rfl dX11_item_37 rfl ?_
  refine x_sub [2, 0] rfl ?_
  exact H
set_option maxRecDepth 20000 in
set_option maxHeartbeats 4000000 in
theorem B_X11_item_276 {G : GT} {d : Nat} {l2 : Int} {l3 : Int} {l4 : Int} {mem : Mem} {Q : Option AV → Mem → Prop} (hd : 1 ≤ d) (H : ((mem 71 8 ≠ 0) → (Q none mem)) ∧ (¬ (mem 71 8 ≠ 0) → ((inr l2 ∧ inr l3 ∧ inr l4) ∧ ((0 ≤ mem 72 1 ∧ mem 72 1 < 60) ∧ (∀ m88 : Mem, m88 = ssM mem l2 l3 l4 → (Q none m88)))))) : E_X11_item G d 276 [(0, vR 71), (2, vI l2), (3, vI l3), (4, vI l4)] [] mem Q := by
  refine x_aloadn (q := 277) 0 rfl rfl rfl dX11_item_276 rfl ?_
  refine x_geti (q := 280) (ji := 8) dX11_item_277 rfl fa_X11_142 sh_71 rfl rfl (fun r80 => ?_)
  obtain ⟨H1, H2⟩ := H
  refine x_if_ne (tgt := 291) (q := 283) dX11_item_280 (by decide) rfl r80 (fun hB => ?_) (fun hB => ?_)
  · have H := H1 (hB)
    refine x_goto (tgt := 334) dX11_item_291 (by decide) ?_
    exact x_vret rfl dX11_item_334 H
  · have H := H2 (hB)
    refine x_aloadn (q := 284) 0 rfl rfl rfl dX11_item_283 rfl ?_
    refine x_iloadn (q := 285) 1 rfl rfl dX11_item_284 rfl ?_
    refine x_iloadn (q := 286) 2 rfl rfl dX11_item_285 rfl ?_
    refine x_iload (q := 288) 3 rfl dX11_item_286 rfl ?_
    obtain ⟨⟨s83, s84, s85⟩, H⟩ := H
    obtain ⟨⟨s86, s87⟩, H⟩ := H
    obtain ⟨m88, em88⟩ : ∃ m9 : Mem, m9 = ssM mem l2 l3 l4 := ⟨_, rfl⟩
    have H := H m88 em88
    refine x_callV (q := 291) (d := d - 1) (as := [vI l2, vI l3, vI l4]) (st := []) dX11_item_288 rfl mv_X11_126 sh_71 rfl rfl rfl (by exact Nat.le_of_ble_eq_true rfl) ⟨by show _ ≤ d; omega, by show _ ≤ 40 * d; omega⟩ ⟨Nat.le_refl _, Nat.le_refl _⟩ (ct_saysSo s86 s87 s83 s84 s85 ?_)
    rw [← em88]
    show E_X11_item G d 291 [(0, vR 71), (2, vI l2), (3, vI l3), (4, vI l4)] [] m88 Q
    refine x_goto (tgt := 334) dX11_item_291 (by decide) ?_
    exact x_vret rfl dX11_item_334 H
set_option maxRecDepth 20000 in
set_option maxHeartbeats 4000000 in
theorem B_X11_item_38 {G : GT} {d : Nat} {l2 : Int} {mem : Mem} {Q : Option AV → Mem → Prop} (hd : 1 ≤ d) (H : (inr l2) ∧ (((5 < l2) → (E_X11_item G d 62 [(0, vR 71), (2, vI l2)] [] mem Q)) ∧ (¬ (5 < l2) → ((0 ≤ l2 ∧ l2 < 6) ∧ (C_X11_takes G (d - 1) [vR 71, vS (strK (l2).toNat)] mem (fun r9 m94 => ∃ z95 : Int, r9 = some (vI z95) ∧ ((inr z95) ∧ (((z95 ≠ 0) → (E_X11_item G d 62 [(0, vR 71), (2, vI l2)] [] m94 Q)) ∧ (¬ (z95 ≠ 0) → (E_X11_item G d 38 [(0, vR 71), (2, vI (l2 + 1))] [] m94 Q)))))))))) : E_X11_item G d 38 [(0, vR 71), (2, vI l2)] [] mem Q := by
  refine x_iloadn (q := 39) 1 rfl rfl dX11_item_38 rfl ?_
  refine x_iconst (q := 40) dX11_item_39 rfl ?_
  obtain ⟨s89, H⟩ := H
  obtain ⟨H1, H2⟩ := H
  refine x_icmp_gt (tgt := 62) (q := 43) dX11_item_40 (by decide) rfl s89 (by decide) (fun hB => ?_) (fun hB => ?_)
  · have H := H1 (hB)
    exact H
  · have H := H2 (hB)
    refine x_aloadn (q := 44) 0 rfl rfl rfl dX11_item_43 rfl ?_
    refine x_aloadn (q := 45) 0 rfl rfl rfl dX11_item_44 rfl ?_
    refine x_getr (q := 48) dX11_item_45 rfl fa_X11_36 sh_71 rfl ?_
    refine x_iloadn (q := 49) 1 rfl rfl dX11_item_48 rfl ?_
    obtain ⟨⟨s92, s93⟩, H⟩ := H
    refine x_aldK (q := 50) dX11_item_49 rfl sh_76 s92 s93 ?_
    refine x_callV (q := 53) (d := d - 1) (as := [vS (strK (l2).toNat)]) (st := []) dX11_item_50 rfl mv_X11_166 sh_71 rfl rfl rfl (by exact Nat.le_of_ble_eq_true rfl) ⟨by show _ ≤ d; omega, by show _ ≤ 40 * d; omega⟩ ⟨Nat.le_refl _, Nat.le_refl _⟩ (Ct.mono H (fun r9 m94 H => ?_))
    obtain ⟨z95, rfl, H⟩ := H
    show E_X11_item G d 53 [(0, vR 71), (2, vI l2)] [vI z95] m94 Q
    obtain ⟨s96, H⟩ := H
    obtain ⟨H1, H2⟩ := H
    refine x_if_ne (tgt := 62) (q := 56) dX11_item_53 (by decide) rfl s96 (fun hB => ?_) (fun hB => ?_)
    · have H := H1 (hB)
      exact H
    · have H := H2 (hB)
      refine x_iinc (q := 59) (ls' := [(2, vI (l2 + 1)), (0, vR 71)]) 1 rfl (by decide) rfl dX11_item_56 rfl ?_
      refine x_goto (tgt := 38) dX11_item_59 (by decide) ?_
      refine x_sub [1, 0] rfl ?_
      exact H
set_option maxRecDepth 20000 in
set_option maxHeartbeats 4000000 in
theorem B_X11_item_62 {G : GT} {d : Nat} {l2 : Int} {mem : Mem} {Q : Option AV → Mem → Prop} (hd : 1 ≤ d) (H : ((mem 71 8 ≠ 0) → (∀ m102 : Mem, m102 = upM mem 71 8 1 → (E_X11_item G d 83 [(0, vR 71), (2, vI l2)] [] m102 Q))) ∧ (¬ (mem 71 8 ≠ 0) → ((inr l2) ∧ (((l2 ≤ 5) → (∀ m106 : Mem, m106 = upM mem 71 8 0 → (E_X11_item G d 83 [(0, vR 71), (2, vI l2)] [] m106 Q))) ∧ (¬ (l2 ≤ 5) → (∀ m107 : Mem, m107 = upM mem 71 8 1 → (E_X11_item G d 83 [(0, vR 71), (2, vI l2)] [] m107 Q))))))) : E_X11_item G d 62 [(0, vR 71), (2, vI l2)] [] mem Q := by
  refine x_aloadn (q := 63) 0 rfl rfl rfl dX11_item_62 rfl ?_
  refine x_aloadn (q := 64) 0 rfl rfl rfl dX11_item_63 rfl ?_
  refine x_geti (q := 67) (ji := 8) dX11_item_64 rfl fa_X11_142 sh_71 rfl rfl (fun r99 => ?_)
  obtain ⟨H1, H2⟩ := H
  refine x_if_ne (tgt := 75) (q := 70) dX11_item_67 (by decide) rfl r99 (fun hB => ?_) (fun hB => ?_)
  · have H := H1 (hB)
    refine x_iconst (q := 76) dX11_item_75 rfl ?_
    refine x_goto (tgt := 80) dX11_item_76 (by decide) ?_
    refine x_putz (q := 83) (ji := 8) dX11_item_80 rfl fp_X11_142 sh_71 rfl rfl (by decide) (fun m102 em102 => ?_)
    have H := H m102 em102
    exact H
  · have H := H2 (hB)
    refine x_iloadn (q := 71) 1 rfl rfl dX11_item_70 rfl ?_
    refine x_iconst (q := 72) dX11_item_71 rfl ?_
    obtain ⟨s103, H⟩ := H
    obtain ⟨H1, H2⟩ := H
    refine x_icmp_le (tgt := 79) (q := 75) dX11_item_72 (by decide) rfl s103 (by decide) (fun hB => ?_) (fun hB => ?_)
    · have H := H1 (hB)
      refine x_iconst (q := 80) dX11_item_79 rfl ?_
      refine x_putz (q := 83) (ji := 8) dX11_item_80 rfl fp_X11_142 sh_71 rfl rfl (by decide) (fun m106 em106 => ?_)
      have H := H m106 em106
      exact H
    · have H := H2 (hB)
      refine x_iconst (q := 76) dX11_item_75 rfl ?_
      refine x_goto (tgt := 80) dX11_item_76 (by decide) ?_
      refine x_putz (q := 83) (ji := 8) dX11_item_80 rfl fp_X11_142 sh_71 rfl rfl (by decide) (fun m107 em107 => ?_)
      have H := H m107 em107
      exact H
set_option maxRecDepth 20000 in
set_option maxHeartbeats 4000000 in
theorem B_X11_item_83 {G : GT} {d : Nat} {l2 : Int} {mem : Mem} {Q : Option AV → Mem → Prop} (hd : 1 ≤ d) (H : C_X11_number G (d - 1) [vR 71, vI 1, vI 99] mem (fun r9 m108 => ∃ z109 : Int, r9 = some (vI z109) ∧ (C_X11_number G (d - 1) [vR 71, vI 1, vI 9] m108 (fun r9 m110 => ∃ z111 : Int, r9 = some (vI z111) ∧ (((m110 71 8 ≠ 0) → (Q none m110)) ∧ (¬ (m110 71 8 ≠ 0) → ((inr l2 ∧ inr z109 ∧ inr z111) ∧ ((0 ≤ m110 72 0 ∧ m110 72 0 < 12) ∧ (∀ m120 : Mem, m120 = mkM m110 l2 z109 z111 → (Q none m120)))))))))) : E_X11_item G d 83 [(0, vR 71), (2, vI l2)] [] mem Q := by
  refine x_aloadn (q := 84) 0 rfl rfl rfl dX11_item_83 rfl ?_
  refine x_iconst (q := 85) dX11_item_84 rfl ?_
  refine x_bipush (q := 87) rfl dX11_item_85 rfl ?_
  refine x_callV (q := 90) (d := d - 1) (as := [vI 1, vI 99]) (st := []) dX11_item_87 rfl mv_X11_161 sh_71 rfl rfl rfl (by exact Nat.le_of_ble_eq_true rfl) ⟨by show _ ≤ d; omega, by show _ ≤ 40 * d; omega⟩ ⟨Nat.le_refl _, Nat.le_refl _⟩ (Ct.mono H (fun r9 m108 H => ?_))
  obtain ⟨z109, rfl, H⟩ := H
  show E_X11_item G d 90 [(0, vR 71), (2, vI l2)] [vI z109] m108 Q
  refine x_istoren (q := 91) (ls' := [(3, vI z109), (0, vR 71), (2, vI l2)]) rfl (by decide) rfl dX11_item_90 rfl ?_
  refine x_aloadn (q := 92) 1 rfl rfl rfl dX11_item_91 rfl ?_
  refine x_iconst (q := 93) dX11_item_92 rfl ?_
  refine x_bipush (q := 95) rfl dX11_item_93 rfl ?_
  refine x_callV (q := 98) (d := d - 1) (as := [vI 1, vI 9]) (st := []) dX11_item_95 rfl mv_X11_161 sh_71 rfl rfl rfl (by exact Nat.le_of_ble_eq_true rfl) ⟨by show _ ≤ d; omega, by show _ ≤ 40 * d; omega⟩ ⟨Nat.le_refl _, Nat.le_refl _⟩ (Ct.mono H (fun r9 m110 H => ?_))
  obtain ⟨z111, rfl, H⟩ := H
  show E_X11_item G d 98 [(3, vI z109), (0, vR 71), (2, vI l2)] [vI z111] m110 Q
  refine x_istore (q := 100) (ls' := [(4, vI z111), (3, vI z109), (0, vR 71), (2, vI l2)]) (by decide) rfl dX11_item_98 rfl ?_
  refine x_aloadn (q := 101) 2 rfl rfl rfl dX11_item_100 rfl ?_
  refine x_geti (q := 104) (ji := 8) dX11_item_101 rfl fa_X11_142 sh_71 rfl rfl (fun r112 => ?_)
  obtain ⟨H1, H2⟩ := H
  refine x_if_ne (tgt := 115) (q := 107) dX11_item_104 (by decide) rfl r112 (fun hB => ?_) (fun hB => ?_)
  · have H := H1 (hB)
    refine x_goto (tgt := 334) dX11_item_115 (by decide) ?_
    exact x_vret rfl dX11_item_334 H
  · have H := H2 (hB)
    refine x_aloadn (q := 108) 2 rfl rfl rfl dX11_item_107 rfl ?_
    refine x_iloadn (q := 109) 3 rfl rfl dX11_item_108 rfl ?_
    refine x_iloadn (q := 110) 1 rfl rfl dX11_item_109 rfl ?_
    refine x_iload (q := 112) 0 rfl dX11_item_110 rfl ?_
    obtain ⟨⟨s115, s116, s117⟩, H⟩ := H
    obtain ⟨⟨s118, s119⟩, H⟩ := H
    obtain ⟨m120, em120⟩ : ∃ m9 : Mem, m9 = mkM m110 l2 z109 z111 := ⟨_, rfl⟩
    have H := H m120 em120
    refine x_callV (q := 115) (d := d - 1) (as := [vI l2, vI z109, vI z111]) (st := []) dX11_item_112 rfl mv_X11_93 sh_71 rfl rfl rfl (by exact Nat.le_of_ble_eq_true rfl) ⟨by show _ ≤ d; omega, by show _ ≤ 40 * d; omega⟩ ⟨Nat.le_refl _, Nat.le_refl _⟩ (ct_makes s118 s119 s115 s116 s117 ?_)
    rw [← em120]
    show E_X11_item G d 115 [(4, vI z111), (3, vI z109), (0, vR 71), (2, vI l2)] [] m120 Q
    refine x_goto (tgt := 334) dX11_item_115 (by decide) ?_
    exact x_vret rfl dX11_item_334 H
set_option maxRecDepth 20000 in
set_option maxHeartbeats 4000000 in
theorem B_X11_text {G : GT} {d : Nat}  {mem : Mem} {Q : Option AV → Mem → Prop} (hd : 1 ≤ d) (H : ∀ m1 : Mem, m1 = cpM mem 72 74 0 0 553 → (∀ m2 : Mem, m2 = upM m1 71 7 0 → (∀ m3 : Mem, m3 = upM m2 71 8 0 → (C_X11_goOn G (d - 1) [vR 71] m3 (fun r9 m4 => r9 = none ∧ (C_X11_item G (d - 1) [vR 71] m4 (fun r9 m5 => r9 = none ∧ (E_X11_text G d 31 [(0, vR 71), (1, vI 1)] [] m5 Q)))))))) : C_X11_text G d [vR 71] mem Q := by
  refine Ct_of_Ex (by decide +kernel) (by exact Nat.le_of_ble_eq_true rfl) (ls := [(0, vR 71)]) rfl ?_
  show E_X11_text G d 0 [(0, vR 71)] [] mem Q
  refine x_aloadn (q := 1) 0 rfl rfl rfl dX11_text_0 rfl ?_
  refine x_getr (q := 4) dX11_text_1 rfl fa_X11_9 sh_71 rfl ?_
  refine x_aloadn (q := 5) 0 rfl rfl rfl dX11_text_4 rfl ?_
  refine x_getr (q := 8) dX11_text_5 rfl fa_X11_16 sh_71 rfl ?_
  obtain ⟨m1, em1⟩ : ∃ m9 : Mem, m9 = cpM mem 72 74 0 0 553 := ⟨_, rfl⟩
  have H := H m1 em1
  refine x_callS (q := 11) (d := d - 1) (as := [vR 72, vR 74]) (st := []) dX11_text_8 rfl ms_X11_183 rfl rfl (by exact Nat.le_of_ble_eq_true rfl) ⟨by show _ ≤ d; omega, by show _ ≤ 40 * d; omega⟩ ⟨Nat.le_refl _, Nat.le_refl _⟩ (ct_copy (by decide) (by decide) (by decide) ?_)
  rw [← em1]
  show E_X11_text G d 11 [(0, vR 71)] [] m1 Q
  refine x_aloadn (q := 12) 0 rfl rfl rfl dX11_text_11 rfl ?_
  refine x_iconst (q := 13) dX11_text_12 rfl ?_
  refine x_puti (q := 16) (ji := 7) dX11_text_13 rfl fp_X11_132 sh_71 rfl rfl (by decide) (fun m2 em2 => ?_)
  have H := H m2 em2
  refine x_aloadn (q := 17) 0 rfl rfl rfl dX11_text_16 rfl ?_
  refine x_iconst (q := 18) dX11_text_17 rfl ?_
  refine x_putz (q := 21) (ji := 8) dX11_text_18 rfl fp_X11_142 sh_71 rfl rfl (by decide) (fun m3 em3 => ?_)
  have H := H m3 em3
  refine x_aloadn (q := 22) 0 rfl rfl rfl dX11_text_21 rfl ?_
  refine x_callV (q := 25) (d := d - 1) (as := []) (st := []) dX11_text_22 rfl mv_X11_158 sh_71 rfl rfl rfl (by exact Nat.le_of_ble_eq_true rfl) ⟨by show _ ≤ d; omega, by show _ ≤ 40 * d; omega⟩ ⟨Nat.le_refl _, Nat.le_refl _⟩ (Ct.mono H (fun r9 m4 H => ?_))
  obtain ⟨rfl, H⟩ := H
  show E_X11_text G d 25 [(0, vR 71)] [] m4 Q
  refine x_aloadn (q := 26) 0 rfl rfl rfl dX11_text_25 rfl ?_
  refine x_callV (q := 29) (d := d - 1) (as := []) (st := []) dX11_text_26 rfl mv_X11_187 sh_71 rfl rfl rfl (by exact Nat.le_of_ble_eq_true rfl) ⟨by show _ ≤ d; omega, by show _ ≤ 40 * d; omega⟩ ⟨Nat.le_refl _, Nat.le_refl _⟩ (Ct.mono H (fun r9 m5 H => ?_))
  obtain ⟨rfl, H⟩ := H
  show E_X11_text G d 29 [(0, vR 71)] [] m5 Q
  refine x_iconst (q := 30) dX11_text_29 rfl ?_
  refine x_istoren (q := 31) (ls' := [(1, vI 1), (0, vR 71)]) rfl (by decide) rfl dX11_text_30 rfl ?_
  refine x_sub [1, 0] rfl ?_
  exact H
set_option maxRecDepth 20000 in
set_option maxHeartbeats 4000000 in
theorem B_X11_text_31 {G : GT} {d : Nat} {l1 : Int} {mem : Mem} {Q : Option AV → Mem → Prop} (hd : 1 ≤ d) (H : C_X11_takes G (d - 1) [vR 71, vS 24] mem (fun r9 m6 => ∃ z7 : Int, r9 = some (vI z7) ∧ ((inr z7) ∧ (((z7 = 0) → (E_X11_text G d 50 [(0, vR 71), (1, vI l1)] [] m6 Q)) ∧ (¬ (z7 = 0) → (C_X11_item G (d - 1) [vR 71] m6 (fun r9 m11 => r9 = none ∧ (E_X11_text G d 31 [(0, vR 71), (1, vI (l1 + 1))] [] m11 Q)))))))) : E_X11_text G d 31 [(0, vR 71), (1, vI l1)] [] mem Q := by
  refine x_aloadn (q := 32) 0 rfl rfl rfl dX11_text_31 rfl ?_
  refine x_ldcS (q := 34) (t := 24) (by decide) ⟨by decide +kernel, by decide +kernel⟩ dX11_text_32 rfl ?_
  refine x_callV (q := 37) (d := d - 1) (as := [vS 24]) (st := []) dX11_text_34 rfl mv_X11_166 sh_71 rfl rfl rfl (by exact Nat.le_of_ble_eq_true rfl) ⟨by show _ ≤ d; omega, by show _ ≤ 40 * d; omega⟩ ⟨Nat.le_refl _, Nat.le_refl _⟩ (Ct.mono H (fun r9 m6 H => ?_))
  obtain ⟨z7, rfl, H⟩ := H
  show E_X11_text G d 37 [(0, vR 71), (1, vI l1)] [vI z7] m6 Q
  obtain ⟨s8, H⟩ := H
  obtain ⟨H1, H2⟩ := H
  refine x_if_eq (tgt := 50) (q := 40) dX11_text_37 (by decide) rfl s8 (fun hB => ?_) (fun hB => ?_)
  · have H := H1 (hB)
    exact H
  · have H := H2 (hB)
    refine x_aloadn (q := 41) 0 rfl rfl rfl dX11_text_40 rfl ?_
    refine x_callV (q := 44) (d := d - 1) (as := []) (st := []) dX11_text_41 rfl mv_X11_187 sh_71 rfl rfl rfl (by exact Nat.le_of_ble_eq_true rfl) ⟨by show _ ≤ d; omega, by show _ ≤ 40 * d; omega⟩ ⟨Nat.le_refl _, Nat.le_refl _⟩ (Ct.mono H (fun r9 m11 H => ?_))
    obtain ⟨rfl, H⟩ := H
    show E_X11_text G d 44 [(0, vR 71), (1, vI l1)] [] m11 Q
    refine x_iinc (q := 47) (ls' := [(1, vI (l1 + 1)), (0, vR 71)]) 1 rfl (by decide) rfl dX11_text_44 rfl ?_
    refine x_goto (tgt := 31) dX11_text_47 (by decide) ?_
    refine x_sub [1, 0] rfl ?_
    exact H
set_option maxRecDepth 20000 in
set_option maxHeartbeats 4000000 in
theorem B_X11_text_50 {G : GT} {d : Nat} {l1 : Int} {mem : Mem} {Q : Option AV → Mem → Prop} (hd : 1 ≤ d) (H : ((mem 71 8 ≠ 0) → (∀ m15 : Mem, m15 = upM mem 71 8 1 → (E_X11_text G d 79 [(0, vR 71), (1, vI l1)] [] m15 Q))) ∧ (¬ (mem 71 8 ≠ 0) → (((mem 72 3 ≤ mem 71 6) → (∀ m20 : Mem, m20 = upM mem 71 8 0 → (E_X11_text G d 79 [(0, vR 71), (1, vI l1)] [] m20 Q))) ∧ (¬ (mem 72 3 ≤ mem 71 6) → (∀ m21 : Mem, m21 = upM mem 71 8 1 → (E_X11_text G d 79 [(0, vR 71), (1, vI l1)] [] m21 Q)))))) : E_X11_text G d 50 [(0, vR 71), (1, vI l1)] [] mem Q := by
  refine x_aloadn (q := 51) 0 rfl rfl rfl dX11_text_50 rfl ?_
  refine x_aloadn (q := 52) 0 rfl rfl rfl dX11_text_51 rfl ?_
  refine x_geti (q := 55) (ji := 8) dX11_text_52 rfl fa_X11_142 sh_71 rfl rfl (fun r12 => ?_)
  obtain ⟨H1, H2⟩ := H
  refine x_if_ne (tgt := 71) (q := 58) dX11_text_55 (by decide) rfl r12 (fun hB => ?_) (fun hB => ?_)
  · have H := H1 (hB)
    refine x_iconst (q := 72) dX11_text_71 rfl ?_
    refine x_goto (tgt := 76) dX11_text_72 (by decide) ?_
    refine x_putz (q := 79) (ji := 8) dX11_text_76 rfl fp_X11_142 sh_71 rfl rfl (by decide) (fun m15 em15 => ?_)
    have H := H m15 em15
    exact H
  · have H := H2 (hB)
    refine x_aloadn (q := 59) 0 rfl rfl rfl dX11_text_58 rfl ?_
    refine x_geti (q := 62) (ji := 6) dX11_text_59 rfl fa_X11_136 sh_71 rfl rfl (fun r16 => ?_)
    refine x_aloadn (q := 63) 0 rfl rfl rfl dX11_text_62 rfl ?_
    refine x_getr (q := 66) dX11_text_63 rfl fa_X11_9 sh_71 rfl ?_
    refine x_iconst (q := 67) dX11_text_66 rfl ?_
    refine x_iald (q := 68) dX11_text_67 rfl sh_72 (by decide) (by decide) (fun r17 => ?_)
    obtain ⟨H1, H2⟩ := H
    refine x_icmp_ge (tgt := 75) (q := 71) dX11_text_68 (by decide) rfl r16 r17 (fun hB => ?_) (fun hB => ?_)
    · have H := H1 (hB)
      refine x_iconst (q := 76) dX11_text_75 rfl ?_
      refine x_putz (q := 79) (ji := 8) dX11_text_76 rfl fp_X11_142 sh_71 rfl rfl (by decide) (fun m20 em20 => ?_)
      have H := H m20 em20
      exact H
    · have H := H2 (hB)
      refine x_iconst (q := 72) dX11_text_71 rfl ?_
      refine x_goto (tgt := 76) dX11_text_72 (by decide) ?_
      refine x_putz (q := 79) (ji := 8) dX11_text_76 rfl fp_X11_142 sh_71 rfl rfl (by decide) (fun m21 em21 => ?_)
      have H := H m21 em21
      exact H
set_option maxRecDepth 20000 in
set_option maxHeartbeats 4000000 in
theorem B_X11_text_79 {G : GT} {d : Nat} {l1 : Int} {mem : Mem} {Q : Option AV → Mem → Prop} (hd : 1 ≤ d) (H : ((mem 71 8 = 0) → (E_X11_text G d 97 [(0, vR 71), (1, vI l1)] [] mem Q)) ∧ (¬ (mem 71 8 = 0) → (∀ m25 : Mem, m25 = cpM mem 74 72 0 0 553 → (E_X11_text G d 97 [(0, vR 71), (1, vI l1)] [] m25 Q)))) : E_X11_text G d 79 [(0, vR 71), (1, vI l1)] [] mem Q := by
  refine x_aloadn (q := 80) 0 rfl rfl rfl dX11_text_79 rfl ?_
  refine x_geti (q := 83) (ji := 8) dX11_text_80 rfl fa_X11_142 sh_71 rfl rfl (fun r22 => ?_)
  obtain ⟨H1, H2⟩ := H
  refine x_if_eq (tgt := 97) (q := 86) dX11_text_83 (by decide) rfl r22 (fun hB => ?_) (fun hB => ?_)
  · have H := H1 (hB)
    exact H
  · have H := H2 (hB)
    refine x_aloadn (q := 87) 0 rfl rfl rfl dX11_text_86 rfl ?_
    refine x_getr (q := 90) dX11_text_87 rfl fa_X11_16 sh_71 rfl ?_
    refine x_aloadn (q := 91) 0 rfl rfl rfl dX11_text_90 rfl ?_
    refine x_getr (q := 94) dX11_text_91 rfl fa_X11_9 sh_71 rfl ?_
    obtain ⟨m25, em25⟩ : ∃ m9 : Mem, m9 = cpM mem 74 72 0 0 553 := ⟨_, rfl⟩
    have H := H m25 em25
    refine x_callS (q := 97) (d := d - 1) (as := [vR 74, vR 72]) (st := []) dX11_text_94 rfl ms_X11_183 rfl rfl (by exact Nat.le_of_ble_eq_true rfl) ⟨by show _ ≤ d; omega, by show _ ≤ 40 * d; omega⟩ ⟨Nat.le_refl _, Nat.le_refl _⟩ (ct_copy (by decide) (by decide) (by decide) ?_)
    rw [← em25]
    show E_X11_text G d 97 [(0, vR 71), (1, vI l1)] [] m25 Q
    exact H
set_option maxRecDepth 20000 in
set_option maxHeartbeats 4000000 in
theorem B_X11_text_97 {G : GT} {d : Nat} {l1 : Int} {mem : Mem} {Q : Option AV → Mem → Prop} (hd : 1 ≤ d) (H : ∀ m26 : Mem, m26 = upM mem 72 3 0 → (((m26 71 8 = 0) → (Q (some (vI l1)) m26)) ∧ (¬ (m26 71 8 = 0) → (Q (some (vI ((-10) - (m26 71 6)))) m26)))) : E_X11_text G d 97 [(0, vR 71), (1, vI l1)] [] mem Q := by
  refine x_aloadn (q := 98) 0 rfl rfl rfl dX11_text_97 rfl ?_
  refine x_getr (q := 101) dX11_text_98 rfl fa_X11_9 sh_71 rfl ?_
  refine x_iconst (q := 102) dX11_text_101 rfl ?_
  refine x_iconst (q := 103) dX11_text_102 rfl ?_
  refine x_iast (q := 104) dX11_text_103 rfl sh_72 (by decide) (by decide) (by decide) (fun m26 em26 => ?_)
  have H := H m26 em26
  refine x_aloadn (q := 105) 0 rfl rfl rfl dX11_text_104 rfl ?_
  refine x_geti (q := 108) (ji := 8) dX11_text_105 rfl fa_X11_142 sh_71 rfl rfl (fun r27 => ?_)
  obtain ⟨H1, H2⟩ := H
  refine x_if_eq (tgt := 121) (q := 111) dX11_text_108 (by decide) rfl r27 (fun hB => ?_) (fun hB => ?_)
  · have H := H1 (hB)
    refine x_iloadn (q := 122) 1 rfl rfl dX11_text_121 rfl ?_
    exact x_iret rfl dX11_text_122 H
  · have H := H2 (hB)
    refine x_bipush (q := 113) rfl dX11_text_111 rfl ?_
    refine x_aloadn (q := 114) 0 rfl rfl rfl dX11_text_113 rfl ?_
    refine x_geti (q := 117) (ji := 6) dX11_text_114 rfl fa_X11_136 sh_71 rfl rfl (fun r30 => ?_)
    refine x_isub (q := 118) dX11_text_117 rfl ?_
    refine x_goto (tgt := 122) dX11_text_118 (by decide) ?_
    exact x_iret rfl dX11_text_122 H
