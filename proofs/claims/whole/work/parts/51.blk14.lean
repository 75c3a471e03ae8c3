abbrev E_X11_goOn (G : GT) (d pc : Nat) (ls : List (Nat × AV)) (st : List AV) (mem : Mem) (Q : Option AV → Mem → Prop) : Prop := Ex G RX11 cX11_goOn 3 none d pc ls st mem Q
abbrev C_X11_goOn (G : GT) (d : Nat) (as : List AV) (mem : Mem) (Q : Option AV → Mem → Prop) : Prop := Ct G yX11_goOn cX11_goOn 3 none d as mem Q
abbrev E_X11_isAt (G : GT) (d pc : Nat) (ls : List (Nat × AV)) (st : List AV) (mem : Mem) (Q : Option AV → Mem → Prop) : Prop := Ex G RX11 cX11_isAt 4 (some .boolean) d pc ls st mem Q
abbrev C_X11_isAt (G : GT) (d : Nat) (as : List AV) (mem : Mem) (Q : Option AV → Mem → Prop) : Prop := Ct G yX11_isAt cX11_isAt 4 (some .boolean) d as mem Q
abbrev E_X11_takes (G : GT) (d pc : Nat) (ls : List (Nat × AV)) (st : List AV) (mem : Mem) (Q : Option AV → Mem → Prop) : Prop := Ex G RX11 cX11_takes 3 (some .boolean) d pc ls st mem Q
abbrev C_X11_takes (G : GT) (d : Nat) (as : List AV) (mem : Mem) (Q : Option AV → Mem → Prop) : Prop := Ct G yX11_takes cX11_takes 3 (some .boolean) d as mem Q
abbrev E_X11_number (G : GT) (d pc : Nat) (ls : List (Nat × AV)) (st : List AV) (mem : Mem) (Q : Option AV → Mem → Prop) : Prop := Ex G RX11 cX11_number 5 (some .int) d pc ls st mem Q
abbrev C_X11_number (G : GT) (d : Nat) (as : List AV) (mem : Mem) (Q : Option AV → Mem → Prop) : Prop := Ct G yX11_number cX11_number 5 (some .int) d as mem Q
abbrev E_X11_other (G : GT) (d pc : Nat) (ls : List (Nat × AV)) (st : List AV) (mem : Mem) (Q : Option AV → Mem → Prop) : Prop := Ex G RX11 cX11_other 6 (some .int) d pc ls st mem Q
abbrev C_X11_other (G : GT) (d : Nat) (as : List AV) (mem : Mem) (Q : Option AV → Mem → Prop) : Prop := Ct G yX11_other cX11_other 6 (some .int) d as mem Q
abbrev E_X11_item (G : GT) (d pc : Nat) (ls : List (Nat × AV)) (st : List AV) (mem : Mem) (Q : Option AV → Mem → Prop) : Prop := Ex G RX11 cX11_item 5 none d pc ls st mem Q
abbrev C_X11_item (G : GT) (d : Nat) (as : List AV) (mem : Mem) (Q : Option AV → Mem → Prop) : Prop := Ct G yX11_item cX11_item 5 none d as mem Q
abbrev E_X11_text (G : GT) (d pc : Nat) (ls : List (Nat × AV)) (st : List AV) (mem : Mem) (Q : Option AV → Mem → Prop) : Prop := Ex G RX11 cX11_text 2 (some .int) d pc ls st mem Q
abbrev C_X11_text (G : GT) (d : Nat) (as : List AV) (mem : Mem) (Q : Option AV → Mem → Prop) : Prop := Ct G yX11_text cX11_text 2 (some .int) d as mem Q
set_option maxRecDepth 20000 in
set_option maxHeartbeats 4000000 in
theorem B_X11_goOn {G : GT} {d : Nat}  {mem : Mem} {Q : Option AV → Mem → Prop} (hd : 1 ≤ d) (H : ∀ m2 : Mem, m2 = upM mem 71 6 (mem 71 7) → (E_X11_goOn G d 8 [(0, vR 71)] [] m2 Q)) : C_X11_goOn G d [vR 71] mem Q := by
  refine Ct_of_Ex (by decide +kernel) (by exact Nat.le_of_ble_eq_true rfl) (ls := [(0, vR 71)]) rfl ?_
  show E_X11_goOn G d 0 [(0, vR 71)] [] mem Q
  refine x_aloadn (q := 1) 0 rfl rfl rfl dX11_goOn_0 rfl ?_
  refine x_aloadn (q := 2) 0 rfl rfl rfl dX11_goOn_1 rfl ?_
  refine x_geti (q := 5) (ji := 7) dX11_goOn_2 rfl fa_X11_132 sh_71 rfl rfl (fun r1 => ?_)
  refine x_puti (q := 8) (ji := 6) dX11_goOn_5 rfl fp_X11_136 sh_71 rfl rfl r1 (fun m2 em2 => ?_)
  have H := H m2 em2
  exact H
set_option maxRecDepth 20000 in
set_option maxHeartbeats 4000000 in
theorem B_X11_goOn_8 {G : GT} {d : Nat}  {mem : Mem} {Q : Option AV → Mem → Prop} (hd : 2 ≤ d) (H : (0 ≤ mem 71 6 ∧ mem 72 3 ≤ 80) ∧ ((¬ (mem 71 6 < mem 72 3 ∧ 32 ≤ mem 72 (425 + (mem 71 6)) ∧ mem 72 (425 + (mem 71 6)) ≤ 32) → (∀ m9 : Mem, m9 = upM mem 71 7 (mem 71 6) → ((0 ≤ m9 71 6 ∧ m9 72 3 ≤ 80) ∧ ((0 ≤ m9 71 6 ∧ m9 72 3 ≤ 80) ∧ (((m9 72 3 ≤ m9 71 6) → ((inr ((m9 71 7) + 0)) ∧ (∀ m21 : Mem, m21 = upM m9 71 7 ((m9 71 7) + 0) → (E_X11_goOn G d 97 [(0, vR 71), (1, vI (bz (m9 71 6 < m9 72 3 ∧ 97 ≤ m9 72 (425 + (m9 71 6)) ∧ m9 72 (425 + (m9 71 6)) ≤ 122))), (2, vI (bz (m9 71 6 < m9 72 3 ∧ 48 ≤ m9 72 (425 + (m9 71 6)) ∧ m9 72 (425 + (m9 71 6)) ≤ 57)))] [] m21 Q)))) ∧ (¬ (m9 72 3 ≤ m9 71 6) → ((inr ((m9 71 7) + 1)) ∧ (∀ m23 : Mem, m23 = upM m9 71 7 ((m9 71 7) + 1) → (E_X11_goOn G d 97 [(0, vR 71), (1, vI (bz (m9 71 6 < m9 72 3 ∧ 97 ≤ m9 72 (425 + (m9 71 6)) ∧ m9 72 (425 + (m9 71 6)) ≤ 122))), (2, vI (bz (m9 71 6 < m9 72 3 ∧ 48 ≤ m9 72 (425 + (m9 71 6)) ∧ m9 72 (425 + (m9 71 6)) ≤ 57)))] [] m23 Q))))))))) ∧ ((mem 71 6 < mem 72 3 ∧ 32 ≤ mem 72 (425 + (mem 71 6)) ∧ mem 72 (425 + (mem 71 6)) ≤ 32) → ((inr ((mem 71 6) + 1)) ∧ (∀ m26 : Mem, m26 = upM mem 71 6 ((mem 71 6) + 1) → (E_X11_goOn G d 8 [(0, vR 71)] [] m26 Q)))))) : E_X11_goOn G d 8 [(0, vR 71)] [] mem Q := by
  refine x_aloadn (q := 9) 0 rfl rfl rfl dX11_goOn_8 rfl ?_
  refine x_aloadn (q := 10) 0 rfl rfl rfl dX11_goOn_9 rfl ?_
  refine x_geti (q := 13) (ji := 6) dX11_goOn_10 rfl fa_X11_136 sh_71 rfl rfl (fun r3 => ?_)
  refine x_bipush (q := 15) rfl dX11_goOn_13 rfl ?_
  refine x_bipush (q := 17) rfl dX11_goOn_15 rfl ?_
  obtain ⟨⟨s4, s5⟩, H⟩ := H
  refine x_callV (q := 20) (d := d - 1) (as := [vI (mem 71 6), vI 32, vI 32]) (st := []) dX11_goOn_17 rfl mv_X11_139 sh_71 rfl rfl rfl (by exact Nat.le_of_ble_eq_true rfl) ⟨by show _ ≤ d; omega, by show _ ≤ 40 * d; omega⟩ ⟨Nat.le_refl _, Nat.le_refl _⟩ (ct_isByte (by omega) r3 s4 s5 (by decide) (by decide) ?_)
  show E_X11_goOn G d 20 [(0, vR 71)] [vI (bz (mem 71 6 < mem 72 3 ∧ 32 ≤ mem 72 (425 + (mem 71 6)) ∧ mem 72 (425 + (mem 71 6)) ≤ 32))] mem Q
  obtain ⟨H1, H2⟩ := H
  refine x_if_eq (tgt := 36) (q := 23) dX11_goOn_20 (by decide) rfl (bz_inr _) (fun hB => ?_) (fun hB => ?_)
  · have H := H1 (bz_0.mp hB)
    refine x_aloadn (q := 37) 0 rfl rfl rfl dX11_goOn_36 rfl ?_
    refine x_aloadn (q := 38) 0 rfl rfl rfl dX11_goOn_37 rfl ?_
    refine x_geti (q := 41) (ji := 6) dX11_goOn_38 rfl fa_X11_136 sh_71 rfl rfl (fun r8 => ?_)
    refine x_puti (q := 44) (ji := 7) dX11_goOn_41 rfl fp_X11_132 sh_71 rfl rfl r8 (fun m9 em9 => ?_)
    have H := H m9 em9
    refine x_aloadn (q := 45) 0 rfl rfl rfl dX11_goOn_44 rfl ?_
    refine x_aloadn (q := 46) 0 rfl rfl rfl dX11_goOn_45 rfl ?_
    refine x_geti (q := 49) (ji := 6) dX11_goOn_46 rfl fa_X11_136 sh_71 rfl rfl (fun r10 => ?_)
    refine x_bipush (q := 51) rfl dX11_goOn_49 rfl ?_
    refine x_bipush (q := 53) rfl dX11_goOn_51 rfl ?_
    obtain ⟨⟨s11, s12⟩, H⟩ := H
    refine x_callV (q := 56) (d := d - 1) (as := [vI (m9 71 6), vI 97, vI 122]) (st := []) dX11_goOn_53 rfl mv_X11_139 sh_71 rfl rfl rfl (by exact Nat.le_of_ble_eq_true rfl) ⟨by show _ ≤ d; omega, by show _ ≤ 40 * d; omega⟩ ⟨Nat.le_refl _, Nat.le_refl _⟩ (ct_isByte (by omega) r10 s11 s12 (by decide) (by decide) ?_)
    show E_X11_goOn G d 56 [(0, vR 71)] [vI (bz (m9 71 6 < m9 72 3 ∧ 97 ≤ m9 72 (425 + (m9 71 6)) ∧ m9 72 (425 + (m9 71 6)) ≤ 122))] m9 Q
    refine x_istoren (q := 57) (ls' := [(1, vI (bz (m9 71 6 < m9 72 3 ∧ 97 ≤ m9 72 (425 + (m9 71 6)) ∧ m9 72 (425 + (m9 71 6)) ≤ 122))), (0, vR 71)]) rfl (by decide) rfl dX11_goOn_56 rfl ?_
    refine x_aloadn (q := 58) 1 rfl rfl rfl dX11_goOn_57 rfl ?_
    refine x_aloadn (q := 59) 1 rfl rfl rfl dX11_goOn_58 rfl ?_
    refine x_geti (q := 62) (ji := 6) dX11_goOn_59 rfl fa_X11_136 sh_71 rfl rfl (fun r13 => ?_)
    refine x_bipush (q := 64) rfl dX11_goOn_62 rfl ?_
    refine x_bipush (q := 66) rfl dX11_goOn_64 rfl ?_
    obtain ⟨⟨s14, s15⟩, H⟩ := H
    refine x_callV (q := 69) (d := d - 1) (as := [vI (m9 71 6), vI 48, vI 57]) (st := []) dX11_goOn_66 rfl mv_X11_139 sh_71 rfl rfl rfl (by exact Nat.le_of_ble_eq_true rfl) ⟨by show _ ≤ d; omega, by show _ ≤ 40 * d; omega⟩ ⟨Nat.le_refl _, Nat.le_refl _⟩ (ct_isByte (by omega) r13 s14 s15 (by decide) (by decide) ?_)
    show E_X11_goOn G d 69 [(1, vI (bz (m9 71 6 < m9 72 3 ∧ 97 ≤ m9 72 (425 + (m9 71 6)) ∧ m9 72 (425 + (m9 71 6)) ≤ 122))), (0, vR 71)] [vI (bz (m9 71 6 < m9 72 3 ∧ 48 ≤ m9 72 (425 + (m9 71 6)) ∧ m9 72 (425 + (m9 71 6)) ≤ 57))] m9 Q
    refine x_istoren (q := 70) (ls' := [(2, vI (bz (m9 71 6 < m9 72 3 ∧ 48 ≤ m9 72 (425 + (m9 71 6)) ∧ m9 72 (425 + (m9 71 6)) ≤ 57))), (1, vI (bz (m9 71 6 < m9 72 3 ∧ 97 ≤ m9 72 (425 + (m9 71 6)) ∧ m9 72 (425 + (m9 71 6)) ≤ 122))), (0, vR 71)]) rfl (by decide) rfl dX11_goOn_69 rfl ?_
    refine x_aloadn (q := 71) 2 rfl rfl rfl dX11_goOn_70 rfl ?_
    refine x_dup (q := 72) (by exact Nat.ne_of_beq_eq_false rfl) dX11_goOn_71 rfl ?_
    refine x_geti (q := 75) (ji := 7) dX11_goOn_72 rfl fa_X11_132 sh_71 rfl rfl (fun r16 => ?_)
    refine x_aloadn (q := 76) 2 rfl rfl rfl dX11_goOn_75 rfl ?_
    refine x_geti (q := 79) (ji := 6) dX11_goOn_76 rfl fa_X11_136 sh_71 rfl rfl (fun r17 => ?_)
    refine x_aloadn (q := 80) 2 rfl rfl rfl dX11_goOn_79 rfl ?_
    refine x_getr (q := 83) dX11_goOn_80 rfl fa_X11_9 sh_71 rfl ?_
    refine x_iconst (q := 84) dX11_goOn_83 rfl ?_
    refine x_iald (q := 85) dX11_goOn_84 rfl sh_72 (by decide) (by decide) (fun r18 => ?_)
    obtain ⟨H1, H2⟩ := H
    refine x_icmp_ge (tgt := 92) (q := 88) dX11_goOn_85 (by decide) rfl r17 r18 (fun hB => ?_) (fun hB => ?_)
    · have H := H1 (hB)
      refine x_iconst (q := 93) dX11_goOn_92 rfl ?_
      refine x_iadd (q := 94) dX11_goOn_93 rfl ?_
      obtain ⟨s22, H⟩ := H
      refine x_puti (q := 97) (ji := 7) dX11_goOn_94 rfl fp_X11_132 sh_71 rfl rfl s22 (fun m21 em21 => ?_)
      have H := H m21 em21
      refine x_sub [2, 1, 0] rfl ?_
      exact H
    · have H := H2 (hB)
      refine x_iconst (q := 89) dX11_goOn_88 rfl ?_
      refine x_goto (tgt := 93) dX11_goOn_89 (by decide) ?_
      refine x_iadd (q := 94) dX11_goOn_93 rfl ?_
      obtain ⟨s24, H⟩ := H
      refine x_puti (q := 97) (ji := 7) dX11_goOn_94 rfl fp_X11_132 sh_71 rfl rfl s24 (fun m23 em23 => ?_)
      have H := H m23 em23
      refine x_sub [2, 1, 0] rfl ?_
      exact H
  · have H := H2 (Classical.byContradiction (fun z => hB (bz_0.mpr z)))
    refine x_aloadn (q := 24) 0 rfl rfl rfl dX11_goOn_23 rfl ?_
    refine x_dup (q := 25) (by exact Nat.ne_of_beq_eq_false rfl) dX11_goOn_24 rfl ?_
    refine x_geti (q := 28) (ji := 6) dX11_goOn_25 rfl fa_X11_136 sh_71 rfl rfl (fun r25 => ?_)
    refine x_iconst (q := 29) dX11_goOn_28 rfl ?_
    refine x_iadd (q := 30) dX11_goOn_29 rfl ?_
    obtain ⟨s27, H⟩ := H
    refine x_puti (q := 33) (ji := 6) dX11_goOn_30 rfl fp_X11_136 sh_71 rfl rfl s27 (fun m26 em26 => ?_)
    have H := H m26 em26
    refine x_goto (tgt := 8) dX11_goOn_33 (by decide) ?_
    exact H
set_option maxRecDepth 20000 in
set_option maxHeartbeats 4000000 in
theorem B_X11_goOn_97 {G : GT} {d : Nat} {l1 : Int} {l2 : Int} {mem : Mem} {Q : Option AV → Mem → Prop} (hd : 2 ≤ d) (H : (inr l1) ∧ (((l1 = 0) → ((inr l2) ∧ (((l2 = 0) → (Q none mem)) ∧ (¬ (l2 = 0) → ((0 ≤ mem 71 7 ∧ mem 72 3 ≤ 80) ∧ ((¬ (mem 71 7 < mem 72 3 ∧ 48 ≤ mem 72 (425 + (mem 71 7)) ∧ mem 72 (425 + (mem 71 7)) ≤ 57) → (Q none mem)) ∧ ((mem 71 7 < mem 72 3 ∧ 48 ≤ mem 72 (425 + (mem 71 7)) ∧ mem 72 (425 + (mem 71 7)) ≤ 57) → ((inr ((mem 71 7) + 1)) ∧ (∀ m40 : Mem, m40 = upM mem 71 7 ((mem 71 7) + 1) → (E_X11_goOn G d 97 [(0, vR 71), (1, vI l1), (2, vI l2)] [] m40 Q)))))))))) ∧ (¬ (l1 = 0) → ((0 ≤ mem 71 7 ∧ mem 72 3 ≤ 80) ∧ (((mem 71 7 < mem 72 3 ∧ 97 ≤ mem 72 (425 + (mem 71 7)) ∧ mem 72 (425 + (mem 71 7)) ≤ 122) → ((inr ((mem 71 7) + 1)) ∧ (∀ m48 : Mem, m48 = upM mem 71 7 ((mem 71 7) + 1) → (E_X11_goOn G d 97 [(0, vR 71), (1, vI l1), (2, vI l2)] [] m48 Q)))) ∧ (¬ (mem 71 7 < mem 72 3 ∧ 97 ≤ mem 72 (425 + (mem 71 7)) ∧ mem 72 (425 + (mem 71 7)) ≤ 122) → ((inr l2) ∧ (((l2 = 0) → (Q none mem)) ∧ (¬ (l2 = 0) → ((0 ≤ mem 71 7 ∧ mem 72 3 ≤ 80) ∧ ((¬ (mem 71 7 < mem 72 3 ∧ 48 ≤ mem 72 (425 + (mem 71 7)) ∧ mem 72 (425 + (mem 71 7)) ≤ 57) → (Q none mem)) ∧ ((mem 71 7 < mem 72 3 ∧ 48 ≤ mem 72 (425 + (mem 71 7)) ∧ mem 72 (425 + (mem 71 7)) ≤ 57) → ((inr ((mem 71 7) + 1)) ∧ (∀ m59 : Mem, m59 = upM mem 71 7 ((mem 71 7) + 1) → (E_X11_goOn G d 97 [(0, vR 71), (1, vI l1), (2, vI l2)] [] m59 Q))))))))))))))) : E_X11_goOn G d 97 [(0, vR 71), (1, vI l1), (2, vI l2)] [] mem Q := by
  refine x_iloadn (q := 98) 1 rfl rfl dX11_goOn_97 rfl ?_
  obtain ⟨s28, H⟩ := H
  obtain ⟨H1, H2⟩ := H
  refine x_if_eq (tgt := 116) (q := 101) dX11_goOn_98 (by decide) rfl s28 (fun hB => ?_) (fun hB => ?_)
  · have H := H1 (hB)
    refine x_iloadn (q := 117) 2 rfl rfl dX11_goOn_116 rfl ?_
    obtain ⟨s31, H⟩ := H
    obtain ⟨H1, H2⟩ := H
    refine x_if_eq (tgt := 148) (q := 120) dX11_goOn_117 (by decide) rfl s31 (fun hB => ?_) (fun hB => ?_)
    · have H := H1 (hB)
      exact x_vret rfl dX11_goOn_148 H
    · have H := H2 (hB)
      refine x_aloadn (q := 121) 0 rfl rfl rfl dX11_goOn_120 rfl ?_
      refine x_aloadn (q := 122) 0 rfl rfl rfl dX11_goOn_121 rfl ?_
      refine x_geti (q := 125) (ji := 7) dX11_goOn_122 rfl fa_X11_132 sh_71 rfl rfl (fun r34 => ?_)
      refine x_bipush (q := 127) rfl dX11_goOn_125 rfl ?_
      refine x_bipush (q := 129) rfl dX11_goOn_127 rfl ?_
      obtain ⟨⟨s35, s36⟩, H⟩ := H
      refine x_callV (q := 132) (d := d - 1) (as := [vI (mem 71 7), vI 48, vI 57]) (st := []) dX11_goOn_129 rfl mv_X11_139 sh_71 rfl rfl rfl (by exact Nat.le_of_ble_eq_true rfl) ⟨by show _ ≤ d; omega, by show _ ≤ 40 * d; omega⟩ ⟨Nat.le_refl _, Nat.le_refl _⟩ (ct_isByte (by omega) r34 s35 s36 (by decide) (by decide) ?_)
      show E_X11_goOn G d 132 [(0, vR 71), (1, vI l1), (2, vI l2)] [vI (bz (mem 71 7 < mem 72 3 ∧ 48 ≤ mem 72 (425 + (mem 71 7)) ∧ mem 72 (425 + (mem 71 7)) ≤ 57))] mem Q
      obtain ⟨H1, H2⟩ := H
      refine x_if_eq (tgt := 148) (q := 135) dX11_goOn_132 (by decide) rfl (bz_inr _) (fun hB => ?_) (fun hB => ?_)
      · have H := H1 (bz_0.mp hB)
        exact x_vret rfl dX11_goOn_148 H
      · have H := H2 (Classical.byContradiction (fun z => hB (bz_0.mpr z)))
        refine x_aloadn (q := 136) 0 rfl rfl rfl dX11_goOn_135 rfl ?_
        refine x_dup (q := 137) (by exact Nat.ne_of_beq_eq_false rfl) dX11_goOn_136 rfl ?_
        refine x_geti (q := 140) (ji := 7) dX11_goOn_137 rfl fa_X11_132 sh_71 rfl rfl (fun r39 => ?_)
        refine x_iconst (q := 141) dX11_goOn_140 rfl ?_
        refine x_iadd (q := 142) dX11_goOn_141 rfl ?_
        obtain ⟨s41, H⟩ := H
        refine x_puti (q := 145) (ji := 7) dX11_goOn_142 rfl fp_X11_132 sh_71 rfl rfl s41 (fun m40 em40 => ?_)
        have H := H m40 em40
        refine x_goto (tgt := 97) dX11_goOn_145 (by decide) ?_
        exact H
  · have H := H2 (hB)
    refine x_aloadn (q := 102) 0 rfl rfl rfl dX11_goOn_101 rfl ?_
    refine x_aloadn (q := 103) 0 rfl rfl rfl dX11_goOn_102 rfl ?_
    refine x_geti (q := 106) (ji := 7) dX11_goOn_103 rfl fa_X11_132 sh_71 rfl rfl (fun r42 => ?_)
    refine x_bipush (q := 108) rfl dX11_goOn_106 rfl ?_
    refine x_bipush (q := 110) rfl dX11_goOn_108 rfl ?_
    obtain ⟨⟨s43, s44⟩, H⟩ := H
    refine x_callV (q := 113) (d := d - 1) (as := [vI (mem 71 7), vI 97, vI 122]) (st := []) dX11_goOn_110 rfl mv_X11_139 sh_71 rfl rfl rfl (by exact Nat.le_of_ble_eq_true rfl) ⟨by show _ ≤ d; omega, by show _ ≤ 40 * d; omega⟩ ⟨Nat.le_refl _, Nat.le_refl _⟩ (ct_isByte (by omega) r42 s43 s44 (by decide) (by decide) ?_)
    show E_X11_goOn G d 113 [(0, vR 71), (1, vI l1), (2, vI l2)] [vI (bz (mem 71 7 < mem 72 3 ∧ 97 ≤ mem 72 (425 + (mem 71 7)) ∧ mem 72 (425 + (mem 71 7)) ≤ 122))] mem Q
    obtain ⟨H1, H2⟩ := H
    refine x_if_ne (tgt := 135) (q := 116) dX11_goOn_113 (by decide) rfl (bz_inr _) (fun hB => ?_) (fun hB => ?_)
    · have H := H1 (bz_n0.mp hB)
      refine x_aloadn (q := 136) 0 rfl rfl rfl dX11_goOn_135 rfl ?_
      refine x_dup (q := 137) (by exact Nat.ne_of_beq_eq_false rfl) dX11_goOn_136 rfl ?_
      refine x_geti (q := 140) (ji := 7) dX11_goOn_137 rfl fa_X11_132 sh_71 rfl rfl (fun r47 => ?_)
      refine x_iconst (q := 141) dX11_goOn_140 rfl ?_
      refine x_iadd (q := 142) dX11_goOn_141 rfl ?_
      obtain ⟨s49, H⟩ := H
      refine x_puti (q := 145) (ji := 7) dX11_goOn_142 rfl fp_X11_132 sh_71 rfl rfl s49 (fun m48 em48 => ?_)
      have H := H m48 em48
      refine x_goto (tgt := 97) dX11_goOn_145 (by decide) ?_
      exact H
    · have H := H2 (fun z => hB (bz_n0.mpr z))
      refine x_iloadn (q := 117) 2 rfl rfl dX11_goOn_116 rfl ?_
      obtain ⟨s50, H⟩ := H
      obtain ⟨H1, H2⟩ := H
      refine x_if_eq (tgt := 148) (q := 120) dX11_goOn_117 (by decide) rfl s50 (fun hB => ?_) (fun hB => ?_)
      · have H := H1 (hB)
        exact x_vret rfl dX11_goOn_148 H
      · have H := H2 (hB)
        refine x_aloadn (q := 121) 0 rfl rfl rfl dX11_goOn_120 rfl ?_
        refine x_aloadn (q := 122) 0 rfl rfl rfl dX11_goOn_121 rfl ?_
        refine x_geti (q := 125) (ji := 7) dX11_goOn_122 rfl fa_X11_132 sh_71 rfl rfl (fun r53 => ?_)
        refine x_bipush (q := 127) rfl dX11_goOn_125 rfl ?_
        refine x_bipush (q := 129) rfl dX11_goOn_127 rfl ?_
        obtain ⟨⟨s54, s55⟩, H⟩ := H
        refine x_callV (q := 132) (d := d - 1) (as := [vI (mem 71 7), vI 48, vI 57]) (st := []) dX11_goOn_129 rfl mv_X11_139 sh_71 rfl rfl rfl (by exact Nat.le_of_ble_eq_true rfl) ⟨by show _ ≤ d; omega, by show _ ≤ 40 * d; omega⟩ ⟨Nat.le_refl _, Nat.le_refl _⟩ (ct_isByte (by omega) r53 s54 s55 (by decide) (by decide) ?_)
        show E_X11_goOn G d 132 [(0, vR 71), (1, vI l1), (2, vI l2)] [vI (bz (mem 71 7 < mem 72 3 ∧ 48 ≤ mem 72 (425 + (mem 71 7)) ∧ mem 72 (425 + (mem 71 7)) ≤ 57))] mem Q
        obtain ⟨H1, H2⟩ := H
        refine x_if_eq (tgt := 148) (q := 135) dX11_goOn_132 (by decide) rfl (bz_inr _) (fun hB => ?_) (fun hB => ?_)
        · have H := H1 (bz_0.mp hB)
          exact x_vret rfl dX11_goOn_148 H
        · have H := H2 (Classical.byContradiction (fun z => hB (bz_0.mpr z)))
          refine x_aloadn (q := 136) 0 rfl rfl rfl dX11_goOn_135 rfl ?_
          refine x_dup (q := 137) (by exact Nat.ne_of_beq_eq_false rfl) dX11_goOn_136 rfl ?_
          refine x_geti (q := 140) (ji := 7) dX11_goOn_137 rfl fa_X11_132 sh_71 rfl rfl (fun r58 => ?_)
          refine x_iconst (q := 141) dX11_goOn_140 rfl ?_
          refine x_iadd (q := 142) dX11_goOn_141 rfl ?_
          obtain ⟨s60, H⟩ := H
          refine x_puti (q := 145) (ji := 7) dX11_goOn_142 rfl fp_X11_132 sh_71 rfl rfl s60 (fun m59 em59 => ?_)
          have H := H m59 em59
          refine x_goto (tgt := 97) dX11_goOn_145 (by decide) ?_
          exact H
set_option maxRecDepth 20000 in
set_option maxHeartbeats 4000000 in
theorem B_X11_isAt {G : GT} {d : Nat} {t : Nat} (ht : t < 25) {mem : Mem} {Q : Option AV → Mem → Prop} (hd : 2 ≤ d) (H : ((mem 71 8 ≠ 0) → (E_X11_isAt G d 31 [(0, vR 71), (1, vS t), (2, vI 0), (3, vI 0)] [] mem Q)) ∧ (¬ (mem 71 8 ≠ 0) → ((inr ((mem 71 7) - (mem 71 6))) ∧ ((((mem 71 7) - (mem 71 6) ≠ ((litB t).length : Int)) → (E_X11_isAt G d 31 [(0, vR 71), (1, vS t), (2, vI 0), (3, vI 0)] [] mem Q)) ∧ (¬ ((mem 71 7) - (mem 71 6) ≠ ((litB t).length : Int)) → (E_X11_isAt G d 31 [(0, vR 71), (1, vS t), (2, vI 1), (3, vI 0)] [] mem Q)))))) : C_X11_isAt G d [vR 71, vS t] mem Q := by
  refine Ct_of_Ex (by decide +kernel) (by exact Nat.le_of_ble_eq_true rfl) (ls := [(0, vR 71), (1, vS t)]) rfl ?_
  show E_X11_isAt G d 0 [(0, vR 71), (1, vS t)] [] mem Q
  refine x_aloadn (q := 1) 0 rfl rfl rfl dX11_isAt_0 rfl ?_
  refine x_geti (q := 4) (ji := 8) dX11_isAt_1 rfl fa_X11_142 sh_71 rfl rfl (fun r1 => ?_)
  obtain ⟨H1, H2⟩ := H
  refine x_if_ne (tgt := 27) (q := 7) dX11_isAt_4 (by decide) rfl r1 (fun hB => ?_) (fun hB => ?_)
  · have H := H1 (hB)
    refine x_iconst (q := 28) dX11_isAt_27 rfl ?_
    refine x_istoren (q := 29) (ls' := [(2, vI 0), (0, vR 71), (1, vS t)]) rfl (by decide) rfl dX11_isAt_28 rfl ?_
    refine x_iconst (q := 30) dX11_isAt_29 rfl ?_
    refine x_istoren (q := 31) (ls' := [(3, vI 0), (2, vI 0), (0, vR 71), (1, vS t)]) rfl (by decide) rfl dX11_isAt_30 rfl ?_
    refine x_sub [2, 3, 1, 0] rfl ?_
    exact H
  · have H := H2 (hB)
    refine x_aloadn (q := 8) 0 rfl rfl rfl dX11_isAt_7 rfl ?_
    refine x_geti (q := 11) (ji := 7) dX11_isAt_8 rfl fa_X11_132 sh_71 rfl rfl (fun r4 => ?_)
    refine x_aloadn (q := 12) 0 rfl rfl rfl dX11_isAt_11 rfl ?_
    refine x_geti (q := 15) (ji := 6) dX11_isAt_12 rfl fa_X11_136 sh_71 rfl rfl (fun r5 => ?_)
    refine x_isub (q := 16) dX11_isAt_15 rfl ?_
    refine x_aloadn (q := 17) 1 rfl rfl rfl dX11_isAt_16 rfl ?_
    refine x_callT (q := 20) (d := d - 1) (as := []) (st := [vI ((mem 71 7) - (mem 71 6))]) dX11_isAt_17 rfl mv_X11_146 ht rfl rfl rfl (by exact Nat.le_of_ble_eq_true rfl) ⟨by show _ ≤ d; omega, by show _ ≤ 40 * d; omega⟩ ⟨Nat.le_refl _, Nat.le_refl _⟩ (ct_len ht (by omega) ?_)
    show E_X11_isAt G d 20 [(0, vR 71), (1, vS t)] [vI ((litB t).length : Int), vI ((mem 71 7) - (mem 71 6))] mem Q
    obtain ⟨s6, H⟩ := H
    obtain ⟨H1, H2⟩ := H
    refine x_icmp_ne (tgt := 27) (q := 23) dX11_isAt_20 (by decide) rfl s6 (lit_lr ht) (fun hB => ?_) (fun hB => ?_)
    · have H := H1 (hB)
      refine x_iconst (q := 28) dX11_isAt_27 rfl ?_
      refine x_istoren (q := 29) (ls' := [(2, vI 0), (0, vR 71), (1, vS t)]) rfl (by decide) rfl dX11_isAt_28 rfl ?_
      refine x_iconst (q := 30) dX11_isAt_29 rfl ?_
      refine x_istoren (q := 31) (ls' := [(3, vI 0), (2, vI 0), (0, vR 71), (1, vS t)]) rfl (by decide) rfl dX11_isAt_30 rfl ?_
      refine x_sub [2, 3, 1, 0] rfl ?_
      exact H
    · have H := H2 (hB)
      refine x_iconst (q := 24) dX11_isAt_23 rfl ?_
      refine x_goto (tgt := 28) dX11_isAt_24 (by decide) ?_
      refine x_istoren (q := 29) (ls' := [(2, vI 1), (0, vR 71), (1, vS t)]) rfl (by decide) rfl dX11_isAt_28 rfl ?_
      refine x_iconst (q := 30) dX11_isAt_29 rfl ?_
      refine x_istoren (q := 31) (ls' := [(3, vI 0), (2, vI 1), (0, vR 71), (1, vS t)]) rfl (by decide) rfl dX11_isAt_30 rfl ?_
      refine x_sub [2, 3, 1, 0] rfl ?_
      exact H
set_option maxRecDepth 20000 in
set_option maxHeartbeats 4000000 in
theorem B_X11_isAt_31 {G : GT} {d : Nat} {t : Nat} (ht : t < 25) {l2 : Int} {l3 : Int} {mem : Mem} {Q : Option AV → Mem → Prop} (hd : 5 ≤ d) (H : (inr l2) ∧ (((l2 = 0) → ((l2 = 0 ∨ l2 = 1) ∧ (Q (some (vI l2)) mem))) ∧ (¬ (l2 = 0) → ((inr l3) ∧ (((((litB t).length : Int) ≤ l3) → ((l2 = 0 ∨ l2 = 1) ∧ (Q (some (vI l2)) mem))) ∧ (¬ (((litB t).length : Int) ≤ l3) → ((0 ≤ (425 + (mem 71 6)) + l3 ∧ (425 + (mem 71 6)) + l3 < 553) ∧ ((0 ≤ l3 ∧ l3 < ((litB t).length : Int)) ∧ (((mem 72 ((425 + (mem 71 6)) + l3) ≠ (litB t).getD (Int.toNat l3) 0) → (E_X11_isAt G d 31 [(0, vR 71), (1, vS t), (2, vI 0), (3, vI (l3 + 1))] [] mem Q)) ∧ (¬ (mem 72 ((425 + (mem 71 6)) + l3) ≠ (litB t).getD (Int.toNat l3) 0) → (E_X11_isAt G d 31 [(0, vR 71), (1, vS t), (2, vI 1), (3, vI (l3 + 1))] [] mem Q))))))))))) : E_X11_isAt G d 31 [(0, vR 71), (1, vS t), (2, vI l2), (3, vI l3)] [] mem Q := by
  refine x_iloadn (q := 32) 2 rfl rfl dX11_isAt_31 rfl ?_
  obtain ⟨s9, H⟩ := H
  obtain ⟨H1, H2⟩ := H
  refine x_if_eq (tgt := 78) (q := 35) dX11_isAt_32 (by decide) rfl s9 (fun hB => ?_) (fun hB => ?_)
  · have H := H1 (hB)
    refine x_iloadn (q := 79) 2 rfl rfl dX11_isAt_78 rfl ?_
    obtain ⟨s12, H⟩ := H
    exact x_zret rfl dX11_isAt_79 s12 H
  · have H := H2 (hB)
    refine x_iloadn (q := 36) 3 rfl rfl dX11_isAt_35 rfl ?_
    refine x_aloadn (q := 37) 1 rfl rfl rfl dX11_isAt_36 rfl ?_
    refine x_callT (q := 40) (d := d - 1) (as := []) (st := [vI l3]) dX11_isAt_37 rfl mv_X11_146 ht rfl rfl rfl (by exact Nat.le_of_ble_eq_true rfl) ⟨by show _ ≤ d; omega, by show _ ≤ 40 * d; omega⟩ ⟨Nat.le_refl _, Nat.le_refl _⟩ (ct_len ht (by omega) ?_)
    show E_X11_isAt G d 40 [(0, vR 71), (1, vS t), (2, vI l2), (3, vI l3)] [vI ((litB t).length : Int), vI l3] mem Q
    obtain ⟨s13, H⟩ := H
    obtain ⟨H1, H2⟩ := H
    refine x_icmp_ge (tgt := 78) (q := 43) dX11_isAt_40 (by decide) rfl s13 (lit_lr ht) (fun hB => ?_) (fun hB => ?_)
    · have H := H1 (hB)
      refine x_iloadn (q := 79) 2 rfl rfl dX11_isAt_78 rfl ?_
      obtain ⟨s16, H⟩ := H
      exact x_zret rfl dX11_isAt_79 s16 H
    · have H := H2 (hB)
      refine x_aloadn (q := 44) 0 rfl rfl rfl dX11_isAt_43 rfl ?_
      refine x_getr (q := 47) dX11_isAt_44 rfl fa_X11_9 sh_71 rfl ?_
      refine x_sipush (q := 50) rfl dX11_isAt_47 rfl ?_
      refine x_aloadn (q := 51) 0 rfl rfl rfl dX11_isAt_50 rfl ?_
      refine x_geti (q := 54) (ji := 6) dX11_isAt_51 rfl fa_X11_136 sh_71 rfl rfl (fun r17 => ?_)
      refine x_iadd (q := 55) dX11_isAt_54 rfl ?_
      refine x_iloadn (q := 56) 3 rfl rfl dX11_isAt_55 rfl ?_
      refine x_iadd (q := 57) dX11_isAt_56 rfl ?_
      obtain ⟨⟨s18, s19⟩, H⟩ := H
      refine x_iald (q := 58) dX11_isAt_57 rfl sh_72 s18 s19 (fun r20 => ?_)
      refine x_aloadn (q := 59) 1 rfl rfl rfl dX11_isAt_58 rfl ?_
      refine x_iloadn (q := 60) 3 rfl rfl dX11_isAt_59 rfl ?_
      obtain ⟨⟨s21, s22⟩, H⟩ := H
      refine x_callT (q := 63) (d := d - 1) (as := [vI l3]) (st := [vI (mem 72 ((425 + (mem 71 6)) + l3))]) dX11_isAt_60 rfl mv_X11_150 ht rfl rfl rfl (by exact Nat.le_of_ble_eq_true rfl) ⟨by show _ ≤ d; omega, by show _ ≤ 40 * d; omega⟩ ⟨Nat.le_refl _, Nat.le_refl _⟩ (ct_charAt ht (by omega) s21 s22 ?_)
      show E_X11_isAt G d 63 [(0, vR 71), (1, vS t), (2, vI l2), (3, vI l3)] [vI ((litB t).getD (Int.toNat l3) 0), vI (mem 72 ((425 + (mem 71 6)) + l3))] mem Q
      obtain ⟨H1, H2⟩ := H
      refine x_icmp_ne (tgt := 70) (q := 66) dX11_isAt_63 (by decide) rfl r20 (lit_chr ht _) (fun hB => ?_) (fun hB => ?_)
      · have H := H1 (hB)
        refine x_iconst (q := 71) dX11_isAt_70 rfl ?_
        refine x_istoren (q := 72) (ls' := [(2, vI 0), (0, vR 71), (1, vS t), (3, vI l3)]) rfl (by decide) rfl dX11_isAt_71 rfl ?_
        refine x_iinc (q := 75) (ls' := [(3, vI (l3 + 1)), (2, vI 0), (0, vR 71), (1, vS t)]) 3 rfl (by decide) rfl dX11_isAt_72 rfl ?_
        refine x_goto (tgt := 31) dX11_isAt_75 (by decide) ?_
        refine x_sub [2, 3, 1, 0] rfl ?_
        exact H
      · have H := H2 (hB)
        refine x_iconst (q := 67) dX11_isAt_66 rfl ?_
        refine x_goto (tgt := 71) dX11_isAt_67 (by decide) ?_
        refine x_istoren (q := 72) (ls' := [(2, vI 1), (0, vR 71), (1, vS t), (3, vI l3)]) rfl (by decide) rfl dX11_isAt_71 rfl ?_
        refine x_iinc (q := 75) (ls' := [(3, vI (l3 + 1)), (2, vI 1), (0, vR 71), (1, vS t)]) 3 rfl (by decide) rfl dX11_isAt_72 rfl ?_
        refine x_goto (tgt := 31) dX11_isAt_75 (by decide) ?_
        refine x_sub [2, 3, 1, 0] rfl ?_
        exact H
set_option maxRecDepth 20000 in
set_option maxHeartbeats 4000000 in
theorem B_X11_takes {G : GT} {d : Nat} {t : Nat} (ht : t < 25) {mem : Mem} {Q : Option AV → Mem → Prop} (hd : 1 ≤ d) (H : C_X11_isAt G (d - 1) [vR 71, vS t] mem (fun r9 m1 => ∃ z2 : Int, r9 = some (vI z2) ∧ ((inr z2) ∧ (((z2 = 0) → ((z2 = 0 ∨ z2 = 1) ∧ (Q (some (vI z2)) m1))) ∧ (¬ (z2 = 0) → (C_X11_goOn G (d - 1) [vR 71] m1 (fun r9 m7 => r9 = none ∧ ((z2 = 0 ∨ z2 = 1) ∧ (Q (some (vI z2)) m7))))))))) : C_X11_takes G d [vR 71, vS t] mem Q := by
  refine Ct_of_Ex (by decide +kernel) (by exact Nat.le_of_ble_eq_true rfl) (ls := [(0, vR 71), (1, vS t)]) rfl ?_
  show E_X11_takes G d 0 [(0, vR 71), (1, vS t)] [] mem Q
  refine x_aloadn (q := 1) 0 rfl rfl rfl dX11_takes_0 rfl ?_
  refine x_aloadn (q := 2) 1 rfl rfl rfl dX11_takes_1 rfl ?_
  refine x_callV (q := 5) (d := d - 1) (as := [vS t]) (st := []) dX11_takes_2 rfl mv_X11_154 sh_71 rfl rfl rfl (by exact Nat.le_of_ble_eq_true rfl) ⟨by show _ ≤ d; omega, by show _ ≤ 40 * d; omega⟩ ⟨Nat.le_refl _, Nat.le_refl _⟩ (Ct.mono H (fun r9 m1 H => ?_))
  obtain ⟨z2, rfl, H⟩ := H
  show E_X11_takes G d 5 [(0, vR 71), (1, vS t)] [vI z2] m1 Q
  refine x_istoren (q := 6) (ls' := [(2, vI z2), (0, vR 71), (1, vS t)]) rfl (by decide) rfl dX11_takes_5 rfl ?_
  refine x_iloadn (q := 7) 0 rfl rfl dX11_takes_6 rfl ?_
  obtain ⟨s3, H⟩ := H
  obtain ⟨H1, H2⟩ := H
  refine x_if_eq (tgt := 14) (q := 10) dX11_takes_7 (by decide) rfl s3 (fun hB => ?_) (fun hB => ?_)
  · have H := H1 (hB)
    refine x_iloadn (q := 15) 0 rfl rfl dX11_takes_14 rfl ?_
    obtain ⟨s6, H⟩ := H
    exact x_zret rfl dX11_takes_15 s6 H
  · have H := H2 (hB)
    refine x_aloadn (q := 11) 1 rfl rfl rfl dX11_takes_10 rfl ?_
    refine x_callV (q := 14) (d := d - 1) (as := []) (st := []) dX11_takes_11 rfl mv_X11_158 sh_71 rfl rfl rfl (by exact Nat.le_of_ble_eq_true rfl) ⟨by show _ ≤ d; omega, by show _ ≤ 40 * d; omega⟩ ⟨Nat.le_refl _, Nat.le_refl _⟩ (Ct.mono H (fun r9 m7 H => ?_))
    obtain ⟨rfl, H⟩ := H
    show E_X11_takes G d 14 [(2, vI z2), (0, vR 71), (1, vS t)] [] m7 Q
    refine x_iloadn (q := 15) 0 rfl rfl dX11_takes_14 rfl ?_
    obtain ⟨s8, H⟩ := H
    exact x_zret rfl dX11_takes_15 s8 H
set_option maxRecDepth 20000 in
set_option maxHeartbeats 4000000 in
theorem B_X11_number {G : GT} {d : Nat} {l1 : Int} {l2 : Int} {mem : Mem} {Q : Option AV → Mem → Prop} (hd : 2 ≤ d) (H : ((mem 71 8 ≠ 0) → (∀ m4 : Mem, m4 = upM mem 71 8 1 → (E_X11_number G d 52 [(0, vR 71), (1, vI l1), (2, vI l2), (3, vI 0), (4, vI (m4 71 6))] [] m4 Q))) ∧ (¬ (mem 71 8 ≠ 0) → ((0 ≤ mem 71 6 ∧ mem 72 3 ≤ 80) ∧ ((¬ (mem 71 6 < mem 72 3 ∧ 48 ≤ mem 72 (425 + (mem 71 6)) ∧ mem 72 (425 + (mem 71 6)) ≤ 57) → (∀ m11 : Mem, m11 = upM mem 71 8 1 → (E_X11_number G d 52 [(0, vR 71), (1, vI l1), (2, vI l2), (3, vI 0), (4, vI (m11 71 6))] [] m11 Q))) ∧ ((mem 71 6 < mem 72 3 ∧ 48 ≤ mem 72 (425 + (mem 71 6)) ∧ mem 72 (425 + (mem 71 6)) ≤ 57) → ((inr ((mem 71 7) - (mem 71 6))) ∧ ((((mem 71 7) - (mem 71 6) ≤ 3) → (∀ m18 : Mem, m18 = upM mem 71 8 0 → (E_X11_number G d 52 [(0, vR 71), (1, vI l1), (2, vI l2), (3, vI 0), (4, vI (m18 71 6))] [] m18 Q))) ∧ (¬ ((mem 71 7) - (mem 71 6) ≤ 3) → (∀ m20 : Mem, m20 = upM mem 71 8 1 → (E_X11_number G d 52 [(0, vR 71), (1, vI l1), (2, vI l2), (3, vI 0), (4, vI (m20 71 6))] [] m20 Q)))))))))) : C_X11_number G d [vR 71, vI l1, vI l2] mem Q := by
  refine Ct_of_Ex (by decide +kernel) (by exact Nat.le_of_ble_eq_true rfl) (ls := [(0, vR 71), (1, vI l1), (2, vI l2)]) rfl ?_
  show E_X11_number G d 0 [(0, vR 71), (1, vI l1), (2, vI l2)] [] mem Q
  refine x_iconst (q := 1) dX11_number_0 rfl ?_
  refine x_istoren (q := 2) (ls' := [(3, vI 0), (0, vR 71), (1, vI l1), (2, vI l2)]) rfl (by decide) rfl dX11_number_1 rfl ?_
  refine x_aloadn (q := 3) 1 rfl rfl rfl dX11_number_2 rfl ?_
  refine x_aloadn (q := 4) 1 rfl rfl rfl dX11_number_3 rfl ?_
  refine x_geti (q := 7) (ji := 8) dX11_number_4 rfl fa_X11_142 sh_71 rfl rfl (fun r1 => ?_)
  obtain ⟨H1, H2⟩ := H
  refine x_if_ne (tgt := 38) (q := 10) dX11_number_7 (by decide) rfl r1 (fun hB => ?_) (fun hB => ?_)
  · have H := H1 (hB)
    refine x_iconst (q := 39) dX11_number_38 rfl ?_
    refine x_goto (tgt := 43) dX11_number_39 (by decide) ?_
    refine x_putz (q := 46) (ji := 8) dX11_number_43 rfl fp_X11_142 sh_71 rfl rfl (by decide) (fun m4 em4 => ?_)
    have H := H m4 em4
    refine x_aloadn (q := 47) 1 rfl rfl rfl dX11_number_46 rfl ?_
    refine x_geti (q := 50) (ji := 6) dX11_number_47 rfl fa_X11_136 sh_71 rfl rfl (fun r5 => ?_)
    refine x_istore (q := 52) (ls' := [(4, vI (m4 71 6)), (3, vI 0), (0, vR 71), (1, vI l1), (2, vI l2)]) (by decide) rfl dX11_number_50 rfl ?_
    refine x_sub [2, 3, 4, 1, 0] rfl ?_
    exact H
  · have H := H2 (hB)
    refine x_aloadn (q := 11) 1 rfl rfl rfl dX11_number_10 rfl ?_
    refine x_aloadn (q := 12) 1 rfl rfl rfl dX11_number_11 rfl ?_
    refine x_geti (q := 15) (ji := 6) dX11_number_12 rfl fa_X11_136 sh_71 rfl rfl (fun r6 => ?_)
    refine x_bipush (q := 17) rfl dX11_number_15 rfl ?_
    refine x_bipush (q := 19) rfl dX11_number_17 rfl ?_
    obtain ⟨⟨s7, s8⟩, H⟩ := H
    refine x_callV (q := 22) (d := d - 1) (as := [vI (mem 71 6), vI 48, vI 57]) (st := [vR 71]) dX11_number_19 rfl mv_X11_139 sh_71 rfl rfl rfl (by exact Nat.le_of_ble_eq_true rfl) ⟨by show _ ≤ d; omega, by show _ ≤ 40 * d; omega⟩ ⟨Nat.le_refl _, Nat.le_refl _⟩ (ct_isByte (by omega) r6 s7 s8 (by decide) (by decide) ?_)
    show E_X11_number G d 22 [(3, vI 0), (0, vR 71), (1, vI l1), (2, vI l2)] [vI (bz (mem 71 6 < mem 72 3 ∧ 48 ≤ mem 72 (425 + (mem 71 6)) ∧ mem 72 (425 + (mem 71 6)) ≤ 57)), vR 71] mem Q
    obtain ⟨H1, H2⟩ := H
    refine x_if_eq (tgt := 38) (q := 25) dX11_number_22 (by decide) rfl (bz_inr _) (fun hB => ?_) (fun hB => ?_)
    · have H := H1 (bz_0.mp hB)
      refine x_iconst (q := 39) dX11_number_38 rfl ?_
      refine x_goto (tgt := 43) dX11_number_39 (by decide) ?_
      refine x_putz (q := 46) (ji := 8) dX11_number_43 rfl fp_X11_142 sh_71 rfl rfl (by decide) (fun m11 em11 => ?_)
      have H := H m11 em11
      refine x_aloadn (q := 47) 1 rfl rfl rfl dX11_number_46 rfl ?_
      refine x_geti (q := 50) (ji := 6) dX11_number_47 rfl fa_X11_136 sh_71 rfl rfl (fun r12 => ?_)
      refine x_istore (q := 52) (ls' := [(4, vI (m11 71 6)), (3, vI 0), (0, vR 71), (1, vI l1), (2, vI l2)]) (by decide) rfl dX11_number_50 rfl ?_
      refine x_sub [2, 3, 4, 1, 0] rfl ?_
      exact H
    · have H := H2 (Classical.byContradiction (fun z => hB (bz_0.mpr z)))
      refine x_aloadn (q := 26) 1 rfl rfl rfl dX11_number_25 rfl ?_
      refine x_geti (q := 29) (ji := 7) dX11_number_26 rfl fa_X11_132 sh_71 rfl rfl (fun r13 => ?_)
      refine x_aloadn (q := 30) 1 rfl rfl rfl dX11_number_29 rfl ?_
      refine x_geti (q := 33) (ji := 6) dX11_number_30 rfl fa_X11_136 sh_71 rfl rfl (fun r14 => ?_)
      refine x_isub (q := 34) dX11_number_33 rfl ?_
      refine x_iconst (q := 35) dX11_number_34 rfl ?_
      obtain ⟨s15, H⟩ := H
      obtain ⟨H1, H2⟩ := H
      refine x_icmp_le (tgt := 42) (q := 38) dX11_number_35 (by decide) rfl s15 (by decide) (fun hB => ?_) (fun hB => ?_)
      · have H := H1 (hB)
        refine x_iconst (q := 43) dX11_number_42 rfl ?_
        refine x_putz (q := 46) (ji := 8) dX11_number_43 rfl fp_X11_142 sh_71 rfl rfl (by decide) (fun m18 em18 => ?_)
        have H := H m18 em18
        refine x_aloadn (q := 47) 1 rfl rfl rfl dX11_number_46 rfl ?_
        refine x_geti (q := 50) (ji := 6) dX11_number_47 rfl fa_X11_136 sh_71 rfl rfl (fun r19 => ?_)
        refine x_istore (q := 52) (ls' := [(4, vI (m18 71 6)), (3, vI 0), (0, vR 71), (1, vI l1), (2, vI l2)]) (by decide) rfl dX11_number_50 rfl ?_
        refine x_sub [2, 3, 4, 1, 0] rfl ?_
        exact H
      · have H := H2 (hB)
        refine x_iconst (q := 39) dX11_number_38 rfl ?_
        refine x_goto (tgt := 43) dX11_number_39 (by decide) ?_
        refine x_putz (q := 46) (ji := 8) dX11_number_43 rfl fp_X11_142 sh_71 rfl rfl (by decide) (fun m20 em20 => ?_)
        have H := H m20 em20
        refine x_aloadn (q := 47) 1 rfl rfl rfl dX11_number_46 rfl ?_
        refine x_geti (q := 50) (ji := 6) dX11_number_47 rfl fa_X11_136 sh_71 rfl rfl (fun r21 => ?_)
        refine x_istore (q := 52) (ls' := [(4, vI (m20 71 6)), (3, vI 0), (0, vR 71), (1, vI l1), (2, vI l2)]) (by decide) rfl dX11_number_50 rfl ?_
        refine x_sub [2, 3, 4, 1, 0] rfl ?_
        exact H
set_option maxRecDepth 20000 in
set_option maxHeartbeats 4000000 in
theorem B_X11_number_52 {G : GT} {d : Nat} {l1 : Int} {l2 : Int} {l3 : Int} {l4 : Int} {mem : Mem} {Q : Option AV → Mem → Prop} (hd : 2 ≤ d) (H : (inr l4) ∧ (((mem 71 7 ≤ l4) → (((mem 71 8 ≠ 0) → (∀ m29 : Mem, m29 = upM mem 71 8 1 → (((m29 71 8 ≠ 0) → (Q (some (vI l3)) m29)) ∧ (¬ (m29 71 8 ≠ 0) → (C_X11_goOn G (d - 1) [vR 71] m29 (fun r9 m33 => r9 = none ∧ (Q (some (vI l3)) m33))))))) ∧ (¬ (mem 71 8 ≠ 0) → ((inr l3 ∧ inr l1 ∧ inr l2) ∧ (((l1 ≤ l3 ∧ l3 ≤ l2) → (∀ m39 : Mem, m39 = upM mem 71 8 0 → (((m39 71 8 ≠ 0) → (Q (some (vI l3)) m39)) ∧ (¬ (m39 71 8 ≠ 0) → (C_X11_goOn G (d - 1) [vR 71] m39 (fun r9 m43 => r9 = none ∧ (Q (some (vI l3)) m43))))))) ∧ (¬ (l1 ≤ l3 ∧ l3 ≤ l2) → (∀ m44 : Mem, m44 = upM mem 71 8 1 → (((m44 71 8 ≠ 0) → (Q (some (vI l3)) m44)) ∧ (¬ (m44 71 8 ≠ 0) → (C_X11_goOn G (d - 1) [vR 71] m44 (fun r9 m48 => r9 = none ∧ (Q (some (vI l3)) m48)))))))))))) ∧ (¬ (mem 71 7 ≤ l4) → (((mem 71 8 ≠ 0) → (((mem 71 8 ≠ 0) → (∀ m55 : Mem, m55 = upM mem 71 8 1 → (((m55 71 8 ≠ 0) → (Q (some (vI l3)) m55)) ∧ (¬ (m55 71 8 ≠ 0) → (C_X11_goOn G (d - 1) [vR 71] m55 (fun r9 m59 => r9 = none ∧ (Q (some (vI l3)) m59))))))) ∧ (¬ (mem 71 8 ≠ 0) → ((inr l3 ∧ inr l1 ∧ inr l2) ∧ (((l1 ≤ l3 ∧ l3 ≤ l2) → (∀ m65 : Mem, m65 = upM mem 71 8 0 → (((m65 71 8 ≠ 0) → (Q (some (vI l3)) m65)) ∧ (¬ (m65 71 8 ≠ 0) → (C_X11_goOn G (d - 1) [vR 71] m65 (fun r9 m69 => r9 = none ∧ (Q (some (vI l3)) m69))))))) ∧ (¬ (l1 ≤ l3 ∧ l3 ≤ l2) → (∀ m70 : Mem, m70 = upM mem 71 8 1 → (((m70 71 8 ≠ 0) → (Q (some (vI l3)) m70)) ∧ (¬ (m70 71 8 ≠ 0) → (C_X11_goOn G (d - 1) [vR 71] m70 (fun r9 m74 => r9 = none ∧ (Q (some (vI l3)) m74)))))))))))) ∧ (¬ (mem 71 8 ≠ 0) → ((0 ≤ 425 + l4 ∧ 425 + l4 < 553) ∧ (E_X11_number G d 52 [(0, vR 71), (1, vI l1), (2, vI l2), (3, vI (((10 * l3) + (mem 72 (425 + l4))) - 48)), (4, vI (l4 + 1))] [] mem Q))))))) : E_X11_number G d 52 [(0, vR 71), (1, vI l1), (2, vI l2), (3, vI l3), (4, vI l4)] [] mem Q := by
  refine x_iload (q := 54) 4 rfl dX11_number_52 rfl ?_
  refine x_aloadn (q := 55) 0 rfl rfl rfl dX11_number_54 rfl ?_
  refine x_geti (q := 58) (ji := 7) dX11_number_55 rfl fa_X11_132 sh_71 rfl rfl (fun r22 => ?_)
  obtain ⟨s23, H⟩ := H
  obtain ⟨H1, H2⟩ := H
  refine x_icmp_ge (tgt := 94) (q := 61) dX11_number_58 (by decide) rfl s23 r22 (fun hB => ?_) (fun hB => ?_)
  · have H := H1 (hB)
    refine x_aloadn (q := 95) 0 rfl rfl rfl dX11_number_94 rfl ?_
    refine x_aloadn (q := 96) 0 rfl rfl rfl dX11_number_95 rfl ?_
    refine x_geti (q := 99) (ji := 8) dX11_number_96 rfl fa_X11_142 sh_71 rfl rfl (fun r26 => ?_)
    obtain ⟨H1, H2⟩ := H
    refine x_if_ne (tgt := 111) (q := 102) dX11_number_99 (by decide) rfl r26 (fun hB => ?_) (fun hB => ?_)
    · have H := H1 (hB)
      refine x_iconst (q := 112) dX11_number_111 rfl ?_
      refine x_goto (tgt := 116) dX11_number_112 (by decide) ?_
      refine x_putz (q := 119) (ji := 8) dX11_number_116 rfl fp_X11_142 sh_71 rfl rfl (by decide) (fun m29 em29 => ?_)
      have H := H m29 em29
      refine x_aloadn (q := 120) 0 rfl rfl rfl dX11_number_119 rfl ?_
      refine x_geti (q := 123) (ji := 8) dX11_number_120 rfl fa_X11_142 sh_71 rfl rfl (fun r30 => ?_)
      obtain ⟨H1, H2⟩ := H
      refine x_if_ne (tgt := 130) (q := 126) dX11_number_123 (by decide) rfl r30 (fun hB => ?_) (fun hB => ?_)
      · have H := H1 (hB)
        refine x_iloadn (q := 131) 3 rfl rfl dX11_number_130 rfl ?_
        exact x_iret rfl dX11_number_131 H
      · have H := H2 (hB)
        refine x_aloadn (q := 127) 0 rfl rfl rfl dX11_number_126 rfl ?_
        refine x_callV (q := 130) (d := d - 1) (as := []) (st := []) dX11_number_127 rfl mv_X11_158 sh_71 rfl rfl rfl (by exact Nat.le_of_ble_eq_true rfl) ⟨by show _ ≤ d; omega, by show _ ≤ 40 * d; omega⟩ ⟨Nat.le_refl _, Nat.le_refl _⟩ (Ct.mono H (fun r9 m33 H => ?_))
        obtain ⟨rfl, H⟩ := H
        show E_X11_number G d 130 [(0, vR 71), (1, vI l1), (2, vI l2), (3, vI l3), (4, vI l4)] [] m33 Q
        refine x_iloadn (q := 131) 3 rfl rfl dX11_number_130 rfl ?_
        exact x_iret rfl dX11_number_131 H
    · have H := H2 (hB)
      refine x_iloadn (q := 103) 3 rfl rfl dX11_number_102 rfl ?_
      refine x_iloadn (q := 104) 1 rfl rfl dX11_number_103 rfl ?_
      refine x_iloadn (q := 105) 2 rfl rfl dX11_number_104 rfl ?_
      obtain ⟨⟨s34, s35, s36⟩, H⟩ := H
      refine x_callS (q := 108) (d := d - 1) (as := [vI l3, vI l1, vI l2]) (st := [vR 71]) dX11_number_105 rfl ms_X11_83 rfl rfl (by exact Nat.le_of_ble_eq_true rfl) ⟨by show _ ≤ d; omega, by show _ ≤ 40 * d; omega⟩ ⟨Nat.le_refl _, Nat.le_refl _⟩ (ct_within s34 s35 s36 ?_)
      show E_X11_number G d 108 [(0, vR 71), (1, vI l1), (2, vI l2), (3, vI l3), (4, vI l4)] [vI (bz (l1 ≤ l3 ∧ l3 ≤ l2)), vR 71] mem Q
      obtain ⟨H1, H2⟩ := H
      refine x_if_ne (tgt := 115) (q := 111) dX11_number_108 (by decide) rfl (bz_inr _) (fun hB => ?_) (fun hB => ?_)
      · have H := H1 (bz_n0.mp hB)
        refine x_iconst (q := 116) dX11_number_115 rfl ?_
        refine x_putz (q := 119) (ji := 8) dX11_number_116 rfl fp_X11_142 sh_71 rfl rfl (by decide) (fun m39 em39 => ?_)
        have H := H m39 em39
        refine x_aloadn (q := 120) 0 rfl rfl rfl dX11_number_119 rfl ?_
        refine x_geti (q := 123) (ji := 8) dX11_number_120 rfl fa_X11_142 sh_71 rfl rfl (fun r40 => ?_)
        obtain ⟨H1, H2⟩ := H
        refine x_if_ne (tgt := 130) (q := 126) dX11_number_123 (by decide) rfl r40 (fun hB => ?_) (fun hB => ?_)
        · have H := H1 (hB)
          refine x_iloadn (q := 131) 3 rfl rfl dX11_number_130 rfl ?_
          exact x_iret rfl dX11_number_131 H
        · have H := H2 (hB)
          refine x_aloadn (q := 127) 0 rfl rfl rfl dX11_number_126 rfl ?_
          refine x_callV (q := 130) (d := d - 1) (as := []) (st := []) dX11_number_127 rfl mv_X11_158 sh_71 rfl rfl rfl (by exact Nat.le_of_ble_eq_true rfl) ⟨by show _ ≤ d; omega, by show _ ≤ 40 * d; omega⟩ ⟨Nat.le_refl _, Nat.le_refl _⟩ (Ct.mono H (fun r9 m43 H => ?_))
          obtain ⟨rfl, H⟩ := H
          show E_X11_number G d 130 [(0, vR 71), (1, vI l1), (2, vI l2), (3, vI l3), (4, vI l4)] [] m43 Q
          refine x_iloadn (q := 131) 3 rfl rfl dX11_number_130 rfl ?_
          exact x_iret rfl dX11_number_131 H
      · have H := H2 (fun z => hB (bz_n0.mpr z))
        refine x_iconst (q := 112) dX11_number_111 rfl ?_
        refine x_goto (tgt := 116) dX11_number_112 (by decide) ?_
        refine x_putz (q := 119) (ji := 8) dX11_number_116 rfl fp_X11_142 sh_71 rfl rfl (by decide) (fun m44 em44 => ?_)
        have H := H m44 em44
        refine x_aloadn (q := 120) 0 rfl rfl rfl dX11_number_119 rfl ?_
        refine x_geti (q := 123) (ji := 8) dX11_number_120 rfl fa_X11_142 sh_71 rfl rfl (fun r45 => ?_)
        obtain ⟨H1, H2⟩ := H
        refine x_if_ne (tgt := 130) (q := 126) dX11_number_123 (by decide) rfl r45 (fun hB => ?_) (fun hB => ?_)
        · have H := H1 (hB)
          refine x_iloadn (q := 131) 3 rfl rfl dX11_number_130 rfl ?_
          exact x_iret rfl dX11_number_131 H
        · have H := H2 (hB)
          refine x_aloadn (q := 127) 0 rfl rfl rfl dX11_number_126 rfl ?_
          refine x_callV (q := 130) (d := d - 1) (as := []) (st := []) dX11_number_127 rfl mv_X11_158 sh_71 rfl rfl rfl (by exact Nat.le_of_ble_eq_true rfl) ⟨by show _ ≤ d; omega, by show _ ≤ 40 * d; omega⟩ ⟨Nat.le_refl _, Nat.le_refl _⟩ (Ct.mono H (fun r9 m48 H => ?_))
          obtain ⟨rfl, H⟩ := H
          show E_X11_number G d 130 [(0, vR 71), (1, vI l1), (2, vI l2), (3, vI l3), (4, vI l4)] [] m48 Q
          refine x_iloadn (q := 131) 3 rfl rfl dX11_number_130 rfl ?_
          exact x_iret rfl dX11_number_131 H
  · have H := H2 (hB)
    refine x_aloadn (q := 62) 0 rfl rfl rfl dX11_number_61 rfl ?_
    refine x_geti (q := 65) (ji := 8) dX11_number_62 rfl fa_X11_142 sh_71 rfl rfl (fun r49 => ?_)
    obtain ⟨H1, H2⟩ := H
    refine x_if_ne (tgt := 94) (q := 68) dX11_number_65 (by decide) rfl r49 (fun hB => ?_) (fun hB => ?_)
    · have H := H1 (hB)
      refine x_aloadn (q := 95) 0 rfl rfl rfl dX11_number_94 rfl ?_
      refine x_aloadn (q := 96) 0 rfl rfl rfl dX11_number_95 rfl ?_
      refine x_geti (q := 99) (ji := 8) dX11_number_96 rfl fa_X11_142 sh_71 rfl rfl (fun r52 => ?_)
      obtain ⟨H1, H2⟩ := H
      refine x_if_ne (tgt := 111) (q := 102) dX11_number_99 (by decide) rfl r52 (fun hB => ?_) (fun hB => ?_)
      · have H := H1 (hB)
        refine x_iconst (q := 112) dX11_number_111 rfl ?_
        refine x_goto (tgt := 116) dX11_number_112 (by decide) ?_
        refine x_putz (q := 119) (ji := 8) dX11_number_116 rfl fp_X11_142 sh_71 rfl rfl (by decide) (fun m55 em55 => ?_)
        have H := H m55 em55
        refine x_aloadn (q := 120) 0 rfl rfl rfl dX11_number_119 rfl ?_
        refine x_geti (q := 123) (ji := 8) dX11_number_120 rfl fa_X11_142 sh_71 rfl rfl (fun r56 => ?_)
        obtain ⟨H1, H2⟩ := H
        refine x_if_ne (tgt := 130) (q := 126) dX11_number_123 (by decide) rfl r56 (fun hB => ?_) (fun hB => ?_)
        · have H := H1 (hB)
          refine x_iloadn (q := 131) 3 rfl rfl dX11_number_130 rfl ?_
          exact x_iret rfl dX11_number_131 H
        · have H := H2 (hB)
          refine x_aloadn (q := 127) 0 rfl rfl rfl dX11_number_126 rfl ?_
          refine x_callV (q := 130) (d := d - 1) (as := []) (st := []) dX11_number_127 rfl mv_X11_158 sh_71 rfl rfl rfl (by exact Nat.le_of_ble_eq_true rfl) ⟨by show _ ≤ d; omega, by show _ ≤ 40 * d; omega⟩ ⟨Nat.le_refl _, Nat.le_refl _⟩ (Ct.mono H (fun r9 m59 H => ?_))
          obtain ⟨rfl, H⟩ := H
          show E_X11_number G d 130 [(0, vR 71), (1, vI l1), (2, vI l2), (3, vI l3), (4, vI l4)] [] m59 Q
          refine x_iloadn (q := 131) 3 rfl rfl dX11_number_130 rfl ?_
          exact x_iret rfl dX11_number_131 H
      · have H := H2 (hB)
        refine x_iloadn (q := 103) 3 rfl rfl dX11_number_102 rfl ?_
        refine x_iloadn (q := 104) 1 rfl rfl dX11_number_103 rfl ?_
        refine x_iloadn (q := 105) 2 rfl rfl dX11_number_104 rfl ?_
        obtain ⟨⟨s60, s61, s62⟩, H⟩ := H
        refine x_callS (q := 108) (d := d - 1) (as := [vI l3, vI l1, vI l2]) (st := [vR 71]) dX11_number_105 rfl ms_X11_83 rfl rfl (by exact Nat.le_of_ble_eq_true rfl) ⟨by show _ ≤ d; omega, by show _ ≤ 40 * d; omega⟩ ⟨Nat.le_refl _, Nat.le_refl _⟩ (ct_within s60 s61 s62 ?_)
        show E_X11_number G d 108 [(0, vR 71), (1, vI l1), (2, vI l2), (3, vI l3), (4, vI l4)] [vI (bz (l1 ≤ l3 ∧ l3 ≤ l2)), vR 71] mem Q
        obtain ⟨H1, H2⟩ := H
        refine x_if_ne (tgt := 115) (q := 111) dX11_number_108 (by decide) rfl (bz_inr _) (fun hB => ?_) (fun hB => ?_)
        · have H := H1 (bz_n0.mp hB)
          refine x_iconst (q := 116) dX11_number_115 rfl ?_
          refine x_putz (q := 119) (ji := 8) dX11_number_116 rfl fp_X11_142 sh_71 rfl rfl (by decide) (fun m65 em65 => ?_)
          have H := H m65 em65
          refine x_aloadn (q := 120) 0 rfl rfl rfl dX11_number_119 rfl ?_
          refine x_geti (q := 123) (ji := 8) dX11_number_120 rfl fa_X11_142 sh_71 rfl rfl (fun r66 => ?_)
          obtain ⟨H1, H2⟩ := H
          refine x_if_ne (tgt := 130) (q := 126) dX11_number_123 (by decide) rfl r66 (fun hB => ?_) (fun hB => ?_)
          · have H := H1 (hB)
            refine x_iloadn (q := 131) 3 rfl rfl dX11_number_130 rfl ?_
            exact x_iret rfl dX11_number_131 H
          · have H := H2 (hB)
            refine x_aloadn (q := 127) 0 rfl rfl rfl dX11_number_126 rfl ?_
            refine x_callV (q := 130) (d := d - 1) (as := []) (st := []) dX11_number_127 rfl mv_X11_158 sh_71 rfl rfl rfl (by exact Nat.le_of_ble_eq_true rfl) ⟨by show _ ≤ d; omega, by show _ ≤ 40 * d; omega⟩ ⟨Nat.le_refl _, Nat.le_refl _⟩ (Ct.mono H (fun r9 m69 H => ?_))
            obtain ⟨rfl, H⟩ := H
            show E_X11_number G d 130 [(0, vR 71), (1, vI l1), (2, vI l2), (3, vI l3), (4, vI l4)] [] m69 Q
            refine x_iloadn (q := 131) 3 rfl rfl dX11_number_130 rfl ?_
            exact x_iret rfl dX11_number_131 H
        · have H := H2 (fun z => hB (bz_n0.mpr z))
          refine x_iconst (q := 112) dX11_number_111 rfl ?_
          refine x_goto (tgt := 116) dX11_number_112 (by decide) ?_
          refine x_putz (q := 119) (ji := 8) dX11_number_116 rfl fp_X11_142 sh_71 rfl rfl (by decide) (fun m70 em70 => ?_)
          have H := H m70 em70
          refine x_aloadn (q := 120) 0 rfl rfl rfl dX11_number_119 rfl ?_
          refine x_geti (q := 123) (ji := 8) dX11_number_120 rfl fa_X11_142 sh_71 rfl rfl (fun r71 => ?_)
          obtain ⟨H1, H2⟩ := H
          refine x_if_ne (tgt := 130) (q := 126) dX11_number_123 (by decide) rfl r71 (fun hB => ?_) (fun hB => ?_)
          · have H := H1 (hB)
            refine x_iloadn (q := 131) 3 rfl rfl dX11_number_130 rfl ?_
            exact x_iret rfl dX11_number_131 H
          · have H := H2 (hB)
            refine x_aloadn (q := 127) 0 rfl rfl rfl dX11_number_126 rfl ?_
            refine x_callV (q := 130) (d := d - 1) (as := []) (st := []) dX11_number_127 rfl mv_X11_158 sh_71 rfl rfl rfl (by exact Nat.le_of_ble_eq_true rfl) ⟨by show _ ≤ d; omega, by show _ ≤ 40 * d; omega⟩ ⟨Nat.le_refl _, Nat.le_refl _⟩ (Ct.mono H (fun r9 m74 H => ?_))
            obtain ⟨rfl, H⟩ := H
            show E_X11_number G d 130 [(0, vR 71), (1, vI l1), (2, vI l2), (3, vI l3), (4, vI l4)] [] m74 Q
            refine x_iloadn (q := 131) 3 rfl rfl dX11_number_130 rfl ?_
            exact x_iret rfl dX11_number_131 H
    · have H := H2 (hB)
      refine x_bipush (q := 70) rfl dX11_number_68 rfl ?_
      refine x_iloadn (q := 71) 3 rfl rfl dX11_number_70 rfl ?_
      refine x_imul (q := 72) dX11_number_71 rfl ?_
      refine x_aloadn (q := 73) 0 rfl rfl rfl dX11_number_72 rfl ?_
      refine x_getr (q := 76) dX11_number_73 rfl fa_X11_9 sh_71 rfl ?_
      refine x_sipush (q := 79) rfl dX11_number_76 rfl ?_
      refine x_iload (q := 81) 4 rfl dX11_number_79 rfl ?_
      refine x_iadd (q := 82) dX11_number_81 rfl ?_
      obtain ⟨⟨s75, s76⟩, H⟩ := H
      refine x_iald (q := 83) dX11_number_82 rfl sh_72 s75 s76 (fun r77 => ?_)
      refine x_iadd (q := 84) dX11_number_83 rfl ?_
      refine x_bipush (q := 86) rfl dX11_number_84 rfl ?_
      refine x_isub (q := 87) dX11_number_86 rfl ?_
      refine x_istoren (q := 88) (ls' := [(3, vI (((10 * l3) + (mem 72 (425 + l4))) - 48)), (0, vR 71), (1, vI l1), (2, vI l2), (4, vI l4)]) rfl (by decide) rfl dX11_number_87 rfl ?_
      refine x_iinc (q := 91) (ls' := [(4, vI (l4 + 1)), (3, vI (((10 * l3) + (mem 72 (425 + l4))) - 48)), (0, vR 71), (1, vI l1), (2, vI l2)]) 4 rfl (by decide) rfl dX11_number_88 rfl ?_
      refine x_goto (tgt := 52) dX11_number_91 (by decide) ?_
      refine x_sub [2, 3, 4, 1, 0] rfl ?_
      exact H
set_option maxRecDepth 20000 in
set_option maxHeartbeats 4000000 in
theorem B_X11_other {G : GT} {d : Nat} {l1 : Int} {l2 : Int} {mem : Mem} {Q : Option AV → Mem → Prop} (hd : 1 ≤ d) (H : C_X11_number G (d - 1) [vR 71, vI 0, vI ((mem 72 0) - 1)] mem (fun r9 m4 => ∃ z5 : Int, r9 = some (vI z5) ∧ (((m4 71 8 ≠ 0) → (Q (some (vI z5)) m4)) ∧ (¬ (m4 71 8 ≠ 0) → ((inr z5 ∧ inr l1) ∧ (((z5 = l1) → (∀ m13 : Mem, m13 = upM m4 71 8 1 → (∀ m14 : Mem, m14 = upM m13 71 6 (mem 71 6) → (∀ m15 : Mem, m15 = upM m14 71 7 (mem 71 7) → (Q (some (vI z5)) m15))))) ∧ (¬ (z5 = l1) → ((inr l2) ∧ (((l2 = 0) → (Q (some (vI z5)) m4)) ∧ (¬ (l2 = 0) → ((0 ≤ 41 + 12 * l1 + z5 ∧ 41 + 12 * l1 + z5 < 553) ∧ (((m4 72 (41 + 12 * l1 + z5) ≠ 0) → (Q (some (vI z5)) m4)) ∧ (¬ (m4 72 (41 + 12 * l1 + z5) ≠ 0) → (∀ m24 : Mem, m24 = upM m4 71 8 1 → (∀ m25 : Mem, m25 = upM m24 71 6 (mem 71 6) → (∀ m26 : Mem, m26 = upM m25 71 7 (mem 71 7) → (Q (some (vI z5)) m26))))))))))))))))) : C_X11_other G d [vR 71, vI l1, vI l2] mem Q := by
  refine Ct_of_Ex (by decide +kernel) (by exact Nat.le_of_ble_eq_true rfl) (ls := [(0, vR 71), (1, vI l1), (2, vI l2)]) rfl ?_
  show E_X11_other G d 0 [(0, vR 71), (1, vI l1), (2, vI l2)] [] mem Q
  refine x_aloadn (q := 1) 0 rfl rfl rfl dX11_other_0 rfl ?_
  refine x_geti (q := 4) (ji := 6) dX11_other_1 rfl fa_X11_136 sh_71 rfl rfl (fun r1 => ?_)
  refine x_istoren (q := 5) (ls' := [(3, vI (mem 71 6)), (0, vR 71), (1, vI l1), (2, vI l2)]) rfl (by decide) rfl dX11_other_4 rfl ?_
  refine x_aloadn (q := 6) 1 rfl rfl rfl dX11_other_5 rfl ?_
  refine x_geti (q := 9) (ji := 7) dX11_other_6 rfl fa_X11_132 sh_71 rfl rfl (fun r2 => ?_)
  refine x_istore (q := 11) (ls' := [(4, vI (mem 71 7)), (3, vI (mem 71 6)), (0, vR 71), (1, vI l1), (2, vI l2)]) (by decide) rfl dX11_other_9 rfl ?_
  refine x_aloadn (q := 12) 2 rfl rfl rfl dX11_other_11 rfl ?_
  refine x_iconst (q := 13) dX11_other_12 rfl ?_
  refine x_aloadn (q := 14) 2 rfl rfl rfl dX11_other_13 rfl ?_
  refine x_getr (q := 17) dX11_other_14 rfl fa_X11_9 sh_71 rfl ?_
  refine x_iconst (q := 18) dX11_other_17 rfl ?_
  refine x_iald (q := 19) dX11_other_18 rfl sh_72 (by decide) (by decide) (fun r3 => ?_)
  refine x_iconst (q := 20) dX11_other_19 rfl ?_
  refine x_isub (q := 21) dX11_other_20 rfl ?_
  refine x_callV (q := 24) (d := d - 1) (as := [vI 0, vI ((mem 72 0) - 1)]) (st := []) dX11_other_21 rfl mv_X11_161 sh_71 rfl rfl rfl (by exact Nat.le_of_ble_eq_true rfl) ⟨by show _ ≤ d; omega, by show _ ≤ 40 * d; omega⟩ ⟨Nat.le_refl _, Nat.le_refl _⟩ (Ct.mono H (fun r9 m4 H => ?_))
  obtain ⟨z5, rfl, H⟩ := H
  show E_X11_other G d 24 [(4, vI (mem 71 7)), (3, vI (mem 71 6)), (0, vR 71), (1, vI l1), (2, vI l2)] [vI z5] m4 Q
  refine x_istore (q := 26) (ls' := [(5, vI z5), (4, vI (mem 71 7)), (3, vI (mem 71 6)), (0, vR 71), (1, vI l1), (2, vI l2)]) (by decide) rfl dX11_other_24 rfl ?_
  refine x_aloadn (q := 27) 3 rfl rfl rfl dX11_other_26 rfl ?_
  refine x_geti (q := 30) (ji := 8) dX11_other_27 rfl fa_X11_142 sh_71 rfl rfl (fun r6 => ?_)
  obtain ⟨H1, H2⟩ := H
  refine x_if_ne (tgt := 69) (q := 33) dX11_other_30 (by decide) rfl r6 (fun hB => ?_) (fun hB => ?_)
  · have H := H1 (hB)
    refine x_iload (q := 71) 0 rfl dX11_other_69 rfl ?_
    exact x_iret rfl dX11_other_71 H
  · have H := H2 (hB)
    refine x_iload (q := 35) 0 rfl dX11_other_33 rfl ?_
    refine x_iloadn (q := 36) 4 rfl rfl dX11_other_35 rfl ?_
    obtain ⟨⟨s9, s10⟩, H⟩ := H
    obtain ⟨H1, H2⟩ := H
    refine x_icmp_eq (tgt := 53) (q := 39) dX11_other_36 (by decide) rfl s9 s10 (fun hB => ?_) (fun hB => ?_)
    · have H := H1 (hB)
      refine x_aloadn (q := 54) 3 rfl rfl rfl dX11_other_53 rfl ?_
      refine x_iconst (q := 55) dX11_other_54 rfl ?_
      refine x_putz (q := 58) (ji := 8) dX11_other_55 rfl fp_X11_142 sh_71 rfl rfl (by decide) (fun m13 em13 => ?_)
      have H := H m13 em13
      refine x_aloadn (q := 59) 3 rfl rfl rfl dX11_other_58 rfl ?_
      refine x_iloadn (q := 60) 2 rfl rfl dX11_other_59 rfl ?_
      refine x_puti (q := 63) (ji := 6) dX11_other_60 rfl fp_X11_136 sh_71 rfl rfl r1 (fun m14 em14 => ?_)
      have H := H m14 em14
      refine x_aloadn (q := 64) 3 rfl rfl rfl dX11_other_63 rfl ?_
      refine x_iload (q := 66) 1 rfl dX11_other_64 rfl ?_
      refine x_puti (q := 69) (ji := 7) dX11_other_66 rfl fp_X11_132 sh_71 rfl rfl r2 (fun m15 em15 => ?_)
      have H := H m15 em15
      refine x_iload (q := 71) 0 rfl dX11_other_69 rfl ?_
      exact x_iret rfl dX11_other_71 H
    · have H := H2 (hB)
      refine x_iloadn (q := 40) 5 rfl rfl dX11_other_39 rfl ?_
      obtain ⟨s16, H⟩ := H
      obtain ⟨H1, H2⟩ := H
      refine x_if_eq (tgt := 69) (q := 43) dX11_other_40 (by decide) rfl s16 (fun hB => ?_) (fun hB => ?_)
      · have H := H1 (hB)
        refine x_iload (q := 71) 0 rfl dX11_other_69 rfl ?_
        exact x_iret rfl dX11_other_71 H
      · have H := H2 (hB)
        refine x_aloadn (q := 44) 3 rfl rfl rfl dX11_other_43 rfl ?_
        refine x_iloadn (q := 45) 4 rfl rfl dX11_other_44 rfl ?_
        refine x_iload (q := 47) 0 rfl dX11_other_45 rfl ?_
        obtain ⟨⟨s19, s20⟩, H⟩ := H
        refine x_callV (q := 50) (d := d - 1) (as := [vI l1, vI z5]) (st := []) dX11_other_47 rfl mv_X11_108 sh_71 rfl rfl rfl (by exact Nat.le_of_ble_eq_true rfl) ⟨by show _ ≤ d; omega, by show _ ≤ 40 * d; omega⟩ ⟨Nat.le_refl _, Nat.le_refl _⟩ (ct_tieOf s19 s20 ?_)
        show E_X11_other G d 50 [(5, vI z5), (4, vI (mem 71 7)), (3, vI (mem 71 6)), (0, vR 71), (1, vI l1), (2, vI l2)] [vI (m4 72 (41 + 12 * l1 + z5))] m4 Q
        refine x_ok (fun hm21 => ?_)
        obtain ⟨H1, H2⟩ := H
        refine x_if_ne (tgt := 69) (q := 53) dX11_other_50 (by decide) rfl (ok_ai hm21 sh_72 (by decide) _) (fun hB => ?_) (fun hB => ?_)
        · have H := H1 (hB)
          refine x_iload (q := 71) 0 rfl dX11_other_69 rfl ?_
          exact x_iret rfl dX11_other_71 H
        · have H := H2 (hB)
          refine x_aloadn (q := 54) 3 rfl rfl rfl dX11_other_53 rfl ?_
          refine x_iconst (q := 55) dX11_other_54 rfl ?_
          refine x_putz (q := 58) (ji := 8) dX11_other_55 rfl fp_X11_142 sh_71 rfl rfl (by decide) (fun m24 em24 => ?_)
          have H := H m24 em24
          refine x_aloadn (q := 59) 3 rfl rfl rfl dX11_other_58 rfl ?_
          refine x_iloadn (q := 60) 2 rfl rfl dX11_other_59 rfl ?_
          refine x_puti (q := 63) (ji := 6) dX11_other_60 rfl fp_X11_136 sh_71 rfl rfl r1 (fun m25 em25 => ?_)
          have H := H m25 em25
          refine x_aloadn (q := 64) 3 rfl rfl rfl dX11_other_63 rfl ?_
          refine x_iload (q := 66) 1 rfl dX11_other_64 rfl ?_
          refine x_puti (q := 69) (ji := 7) dX11_other_66 rfl fp_X11_132 sh_71 rfl rfl r2 (fun m26 em26 => ?_)
          have H := H m26 em26
          refine x_iload (q := 71) 0 rfl dX11_other_69 rfl ?_
          exact x_iret rfl dX11_other_71 H
set_option maxRecDepth 20000 in
set_option maxHeartbeats 4000000 in
theorem B_X11_item {G : GT} {d : Nat}  {mem : Mem} {Q : Option AV → Mem → Prop} (hd : 1 ≤ d) (H : C_X11_isAt G (d - 1) [vR 71, vS 18] mem (fun r9 m1 => ∃ z2 : Int, r9 = some (vI z2) ∧ ((inr z2) ∧ (((z2 = 0) → (C_X11_takes G (d - 1) [vR 71, vS 19] m1 (fun r9 m6 => ∃ z7 : Int, r9 = some (vI z7) ∧ ((inr z7) ∧ (((z7 = 0) → (C_X11_isAt G (d - 1) [vR 71, vS 20] m6 (fun r9 m11 => ∃ z12 : Int, r9 = some (vI z12) ∧ ((inr z12) ∧ (((z12 = 0) → (C_X11_takes G (d - 1) [vR 71, vS 23] m11 (fun r9 m16 => ∃ z17 : Int, r9 = some (vI z17) ∧ ((inr z17) ∧ (((z17 ≠ 0) → (∀ m21 : Mem, m21 = upM m16 71 8 0 → (C_X11_number G (d - 1) [vR 71, vI 0, vI 12] m21 (fun r9 m22 => ∃ z23 : Int, r9 = some (vI z23) ∧ (((m22 71 8 ≠ 0) → (Q none m22)) ∧ (¬ (m22 71 8 ≠ 0) → ((inr z23) ∧ (∀ m27 : Mem, m27 = upM m22 72 2 z23 → (Q none m27))))))))) ∧ (¬ (z17 ≠ 0) → (∀ m29 : Mem, m29 = upM m16 71 8 1 → (C_X11_number G (d - 1) [vR 71, vI 0, vI 12] m29 (fun r9 m30 => ∃ z31 : Int, r9 = some (vI z31) ∧ (((m30 71 8 ≠ 0) → (Q none m30)) ∧ (¬ (m30 71 8 ≠ 0) → ((inr z31) ∧ (∀ m35 : Mem, m35 = upM m30 72 2 z31 → (Q none m35)))))))))))))) ∧ (¬ (z12 = 0) → (((m11 72 1 ≠ 60) → (∀ m40 : Mem, m40 = upM m11 71 8 0 → (C_X11_takes G (d - 1) [vR 71, vS 20] m40 (fun r9 m41 => ∃ z42 : Int, r9 = some (vI z42) ∧ (C_X11_number G (d - 1) [vR 71, vI 0, vI ((m41 72 0) - 1)] m41 (fun r9 m44 => ∃ z45 : Int, r9 = some (vI z45) ∧ (C_X11_other G (d - 1) [vR 71, vI z45, vI 1] m44 (fun r9 m46 => ∃ z47 : Int, r9 = some (vI z47) ∧ (C_X11_takes G (d - 1) [vR 71, vS 21] m46 (fun r9 m48 => ∃ z49 : Int, r9 = some (vI z49) ∧ (((m48 71 8 ≠ 0) → (∀ m53 : Mem, m53 = upM m48 71 8 1 → (((m53 71 8 ≠ 0) → (Q none m53)) ∧ (¬ (m53 71 8 ≠ 0) → ((inr z45 ∧ inr z47 ∧ inr z49) ∧ ((0 ≤ m53 72 1 ∧ m53 72 1 < 60) ∧ (∀ m62 : Mem, m62 = ssM m53 z45 z47 z49 → (Q none m62)))))))) ∧ (¬ (m48 71 8 ≠ 0) → ((inr z49) ∧ (((z49 ≠ 0) → (∀ m66 : Mem, m66 = upM m48 71 8 0 → (((m66 71 8 ≠ 0) → (Q none m66)) ∧ (¬ (m66 71 8 ≠ 0) → ((inr z45 ∧ inr z47) ∧ ((0 ≤ m66 72 1 ∧ m66 72 1 < 60) ∧ (∀ m74 : Mem, m74 = ssM m66 z45 z47 z49 → (Q none m74)))))))) ∧ (¬ (z49 ≠ 0) → (C_X11_takes G (d - 1) [vR 71, vS 22] m48 (fun r9 m75 => ∃ z76 : Int, r9 = some (vI z76) ∧ ((inr z76) ∧ (((z76 ≠ 0) → (∀ m80 : Mem, m80 = upM m75 71 8 0 → (((m80 71 8 ≠ 0) → (Q none m80)) ∧ (¬ (m80 71 8 ≠ 0) → ((inr z45 ∧ inr z47) ∧ ((0 ≤ m80 72 1 ∧ m80 72 1 < 60) ∧ (∀ m88 : Mem, m88 = ssM m80 z45 z47 z49 → (Q none m88)))))))) ∧ (¬ (z76 ≠ 0) → (∀ m89 : Mem, m89 = upM m75 71 8 1 → (((m89 71 8 ≠ 0) → (Q none m89)) ∧ (¬ (m89 71 8 ≠ 0) → ((inr z45 ∧ inr z47) ∧ ((0 ≤ m89 72 1 ∧ m89 72 1 < 60) ∧ (∀ m97 : Mem, m97 = ssM m89 z45 z47 z49 → (Q none m97))))))))))))))))))))))))))) ∧ (¬ (m11 72 1 ≠ 60) → (∀ m98 : Mem, m98 = upM m11 71 8 1 → (C_X11_takes G (d - 1) [vR 71, vS 20] m98 (fun r9 m99 => ∃ z100 : Int, r9 = some (vI z100) ∧ (C_X11_number G (d - 1) [vR 71, vI 0, vI ((m99 72 0) - 1)] m99 (fun r9 m102 => ∃ z103 : Int, r9 = some (vI z103) ∧ (C_X11_other G (d - 1) [vR 71, vI z103, vI 1] m102 (fun r9 m104 => ∃ z105 : Int, r9 = some (vI z105) ∧ (C_X11_takes G (d - 1) [vR 71, vS 21] m104 (fun r9 m106 => ∃ z107 : Int, r9 = some (vI z107) ∧ (((m106 71 8 ≠ 0) → (∀ m111 : Mem, m111 = upM m106 71 8 1 → (((m111 71 8 ≠ 0) → (Q none m111)) ∧ (¬ (m111 71 8 ≠ 0) → ((inr z103 ∧ inr z105 ∧ inr z107) ∧ ((0 ≤ m111 72 1 ∧ m111 72 1 < 60) ∧ (∀ m120 : Mem, m120 = ssM m111 z103 z105 z107 → (Q none m120)))))))) ∧ (¬ (m106 71 8 ≠ 0) → ((inr z107) ∧ (((z107 ≠ 0) → (∀ m124 : Mem, m124 = upM m106 71 8 0 → (((m124 71 8 ≠ 0) → (Q none m124)) ∧ (¬ (m124 71 8 ≠ 0) → ((inr z103 ∧ inr z105) ∧ ((0 ≤ m124 72 1 ∧ m124 72 1 < 60) ∧ (∀ m132 : Mem, m132 = ssM m124 z103 z105 z107 → (Q none m132)))))))) ∧ (¬ (z107 ≠ 0) → (C_X11_takes G (d - 1) [vR 71, vS 22] m106 (fun r9 m133 => ∃ z134 : Int, r9 = some (vI z134) ∧ ((inr z134) ∧ (((z134 ≠ 0) → (∀ m138 : Mem, m138 = upM m133 71 8 0 → (((m138 71 8 ≠ 0) → (Q none m138)) ∧ (¬ (m138 71 8 ≠ 0) → ((inr z103 ∧ inr z105) ∧ ((0 ≤ m138 72 1 ∧ m138 72 1 < 60) ∧ (∀ m146 : Mem, m146 = ssM m138 z103 z105 z107 → (Q none m146)))))))) ∧ (¬ (z134 ≠ 0) → (∀ m147 : Mem, m147 = upM m133 71 8 1 → (((m147 71 8 ≠ 0) → (Q none m147)) ∧ (¬ (m147 71 8 ≠ 0) → ((inr z103 ∧ inr z105) ∧ ((0 ≤ m147 72 1 ∧ m147 72 1 < 60) ∧ (∀ m155 : Mem, m155 = ssM m147 z103 z105 z107 → (Q none m155)))))))))))))))))))))))))))))))))) ∧ (¬ (z7 = 0) → (C_X11_number G (d - 1) [vR 71, vI 0, vI ((m6 72 0) - 1)] m6 (fun r9 m157 => ∃ z158 : Int, r9 = some (vI z158) ∧ (C_X11_other G (d - 1) [vR 71, vI z158, vI 0] m157 (fun r9 m159 => ∃ z160 : Int, r9 = some (vI z160) ∧ (C_X11_number G (d - 1) [vR 71, vI 1, vI 99] m159 (fun r9 m161 => ∃ z162 : Int, r9 = some (vI z162) ∧ (((m161 71 8 ≠ 0) → (Q none m161)) ∧ (¬ (m161 71 8 ≠ 0) → ((0 ≤ (41 + (12 * z158)) + z160 ∧ (41 + (12 * z158)) + z160 < 553) ∧ ((inr z162) ∧ (∀ m168 : Mem, m168 = upM m161 72 ((41 + (12 * z158)) + z160) z162 → (Q none m168)))))))))))))))))) ∧ (¬ (z2 = 0) → (((m1 72 0 ≠ 12) → (∀ m173 : Mem, m173 = upM m1 71 8 0 → (C_X11_takes G (d - 1) [vR 71, vS 18] m173 (fun r9 m174 => ∃ z175 : Int, r9 = some (vI z175) ∧ (E_X11_item G d 38 [(0, vR 71), (2, vI 0)] [] m174 Q))))) ∧ (¬ (m1 72 0 ≠ 12) → (∀ m176 : Mem, m176 = upM m1 71 8 1 → (C_X11_takes G (d - 1) [vR 71, vS 18] m176 (fun r9 m177 => ∃ z178 : Int, r9 = some (vI z178) ∧ (E_X11_item G d 38 [(0, vR 71), (2, vI 0)] [] m177 Q))))))))))) : C_X11_item G d [vR 71] mem Q := by
  refine Ct_of_Ex (by decide +kernel) (by exact Nat.le_of_ble_eq_true rfl) (ls := [(0, vR 71)]) rfl ?_
  show E_X11_item G d 0 [(0, vR 71)] [] mem Q
  refine x_aloadn (q := 1) 0 rfl rfl rfl dX11_item_0 rfl ?_
  refine x_ldcS (q := 3) (t := 18) (by decide) ⟨by decide +kernel, by decide +kernel⟩ dX11_item_1 rfl ?_
  refine x_callV (q := 6) (d := d - 1) (as := [vS 18]) (st := []) dX11_item_3 rfl mv_X11_154 sh_71 rfl rfl rfl (by exact Nat.le_of_ble_eq_true rfl) ⟨by show _ ≤ d; omega, by show _ ≤ 40 * d; omega⟩ ⟨Nat.le_refl _, Nat.le_refl _⟩ (Ct.mono H (fun r9 m1 H => ?_))
  obtain ⟨z2, rfl, H⟩ := H
  show E_X11_item G d 6 [(0, vR 71)] [vI z2] m1 Q
  obtain ⟨s3, H⟩ := H
  obtain ⟨H1, H2⟩ := H
  refine x_if_eq (tgt := 118) (q := 9) dX11_item_6 (by decide) rfl s3 (fun hB => ?_) (fun hB => ?_)
  · have H := H1 (hB)
    refine x_aloadn (q := 119) 0 rfl rfl rfl dX11_item_118 rfl ?_
    refine x_ldcS (q := 121) (t := 19) (by decide) ⟨by decide +kernel, by decide +kernel⟩ dX11_item_119 rfl ?_
    refine x_callV (q := 124) (d := d - 1) (as := [vS 19]) (st := []) dX11_item_121 rfl mv_X11_166 sh_71 rfl rfl rfl (by exact Nat.le_of_ble_eq_true rfl) ⟨by show _ ≤ d; omega, by show _ ≤ 40 * d; omega⟩ ⟨Nat.le_refl _, Nat.le_refl _⟩ (Ct.mono H (fun r9 m6 H => ?_))
    obtain ⟨z7, rfl, H⟩ := H
    show E_X11_item G d 124 [(0, vR 71)] [vI z7] m6 Q
    obtain ⟨s8, H⟩ := H
    obtain ⟨H1, H2⟩ := H
    refine x_if_eq (tgt := 181) (q := 127) dX11_item_124 (by decide) rfl s8 (fun hB => ?_) (fun hB => ?_)
    · have H := H1 (hB)
      refine x_aloadn (q := 182) 0 rfl rfl rfl dX11_item_181 rfl ?_
      refine x_ldcS (q := 184) (t := 20) (by decide) ⟨by decide +kernel, by decide +kernel⟩ dX11_item_182 rfl ?_
      refine x_callV (q := 187) (d := d - 1) (as := [vS 20]) (st := []) dX11_item_184 rfl mv_X11_154 sh_71 rfl rfl rfl (by exact Nat.le_of_ble_eq_true rfl) ⟨by show _ ≤ d; omega, by show _ ≤ 40 * d; omega⟩ ⟨Nat.le_refl _, Nat.le_refl _⟩ (Ct.mono H (fun r9 m11 H => ?_))
      obtain ⟨z12, rfl, H⟩ := H
      show E_X11_item G d 187 [(0, vR 71)] [vI z12] m11 Q
      obtain ⟨s13, H⟩ := H
      obtain ⟨H1, H2⟩ := H
      refine x_if_eq (tgt := 294) (q := 190) dX11_item_187 (by decide) rfl s13 (fun hB => ?_) (fun hB => ?_)
      · have H := H1 (hB)
        refine x_aloadn (q := 295) 0 rfl rfl rfl dX11_item_294 rfl ?_
        refine x_aloadn (q := 296) 0 rfl rfl rfl dX11_item_295 rfl ?_
        refine x_ldcS (q := 298) (t := 23) (by decide) ⟨by decide +kernel, by decide +kernel⟩ dX11_item_296 rfl ?_
        refine x_callV (q := 301) (d := d - 1) (as := [vS 23]) (st := [vR 71]) dX11_item_298 rfl mv_X11_166 sh_71 rfl rfl rfl (by exact Nat.le_of_ble_eq_true rfl) ⟨by show _ ≤ d; omega, by show _ ≤ 40 * d; omega⟩ ⟨Nat.le_refl _, Nat.le_refl _⟩ (Ct.mono H (fun r9 m16 H => ?_))
        obtain ⟨z17, rfl, H⟩ := H
        show E_X11_item G d 301 [(0, vR 71)] [vI z17, vR 71] m16 Q
        obtain ⟨s18, H⟩ := H
        obtain ⟨H1, H2⟩ := H
        refine x_if_ne (tgt := 308) (q := 304) dX11_item_301 (by decide) rfl s18 (fun hB => ?_) (fun hB => ?_)
        · have H := H1 (hB)
          refine x_iconst (q := 309) dX11_item_308 rfl ?_
          refine x_putz (q := 312) (ji := 8) dX11_item_309 rfl fp_X11_142 sh_71 rfl rfl (by decide) (fun m21 em21 => ?_)
          have H := H m21 em21
          refine x_aloadn (q := 313) 0 rfl rfl rfl dX11_item_312 rfl ?_
          refine x_iconst (q := 314) dX11_item_313 rfl ?_
          refine x_bipush (q := 316) rfl dX11_item_314 rfl ?_
          refine x_callV (q := 319) (d := d - 1) (as := [vI 0, vI 12]) (st := []) dX11_item_316 rfl mv_X11_161 sh_71 rfl rfl rfl (by exact Nat.le_of_ble_eq_true rfl) ⟨by show _ ≤ d; omega, by show _ ≤ 40 * d; omega⟩ ⟨Nat.le_refl _, Nat.le_refl _⟩ (Ct.mono H (fun r9 m22 H => ?_))
          obtain ⟨z23, rfl, H⟩ := H
          show E_X11_item G d 319 [(0, vR 71)] [vI z23] m22 Q
          refine x_istoren (q := 320) (ls' := [(1, vI z23), (0, vR 71)]) rfl (by decide) rfl dX11_item_319 rfl ?_
          refine x_aloadn (q := 321) 1 rfl rfl rfl dX11_item_320 rfl ?_
          refine x_geti (q := 324) (ji := 8) dX11_item_321 rfl fa_X11_142 sh_71 rfl rfl (fun r24 => ?_)
          obtain ⟨H1, H2⟩ := H
          refine x_if_ne (tgt := 334) (q := 327) dX11_item_324 (by decide) rfl r24 (fun hB => ?_) (fun hB => ?_)
          · have H := H1 (hB)
            exact x_vret rfl dX11_item_334 H
          · have H := H2 (hB)
            refine x_aloadn (q := 328) 1 rfl rfl rfl dX11_item_327 rfl ?_
            refine x_getr (q := 331) dX11_item_328 rfl fa_X11_9 sh_71 rfl ?_
            refine x_iconst (q := 332) dX11_item_331 rfl ?_
            refine x_iloadn (q := 333) 0 rfl rfl dX11_item_332 rfl ?_
            obtain ⟨s28, H⟩ := H
            refine x_iast (q := 334) dX11_item_333 rfl sh_72 (by decide) (by decide) s28 (fun m27 em27 => ?_)
            have H := H m27 em27
            exact x_vret rfl dX11_item_334 H
        · have H := H2 (hB)
          refine x_iconst (q := 305) dX11_item_304 rfl ?_
          refine x_goto (tgt := 309) dX11_item_305 (by decide) ?_
          refine x_putz (q := 312) (ji := 8) dX11_item_309 rfl fp_X11_142 sh_71 rfl rfl (by decide) (fun m29 em29 => ?_)
          have H := H m29 em29
          refine x_aloadn (q := 313) 0 rfl rfl rfl dX11_item_312 rfl ?_
          refine x_iconst (q := 314) dX11_item_313 rfl ?_
          refine x_bipush (q := 316) rfl dX11_item_314 rfl ?_
          refine x_callV (q := 319) (d := d - 1) (as := [vI 0, vI 12]) (st := []) dX11_item_316 rfl mv_X11_161 sh_71 rfl rfl rfl (by exact Nat.le_of_ble_eq_true rfl) ⟨by show _ ≤ d; omega, by show _ ≤ 40 * d; omega⟩ ⟨Nat.le_refl _, Nat.le_refl _⟩ (Ct.mono H (fun r9 m30 H => ?_))
          obtain ⟨z31, rfl, H⟩ := H
          show E_X11_item G d 319 [(0, vR 71)] [vI z31] m30 Q
          refine x_istoren (q := 320) (ls' := [(1, vI z31), (0, vR 71)]) rfl (by decide) rfl dX11_item_319 rfl ?_
          refine x_aloadn (q := 321) 1 rfl rfl rfl dX11_item_320 rfl ?_
          refine x_geti (q := 324) (ji := 8) dX11_item_321 rfl fa_X11_142 sh_71 rfl rfl (fun r32 => ?_)
          obtain ⟨H1, H2⟩ := H
          refine x_if_ne (tgt := 334) (q := 327) dX11_item_324 (by decide) rfl r32 (fun hB => ?_) (fun hB => ?_)
          · have H := H1 (hB)
            exact x_vret rfl dX11_item_334 H
          · have H := H2 (hB)
            refine x_aloadn (q := 328) 1 rfl rfl rfl dX11_item_327 rfl ?_
            refine x_getr (q := 331) dX11_item_328 rfl fa_X11_9 sh_71 rfl ?_
            refine x_iconst (q := 332) dX11_item_331 rfl ?_
            refine x_iloadn (q := 333) 0 rfl rfl dX11_item_332 rfl ?_
            obtain ⟨s36, H⟩ := H
            refine x_iast (q := 334) dX11_item_333 rfl sh_72 (by decide) (by decide) s36 (fun m35 em35 => ?_)
            have H := H m35 em35
            exact x_vret rfl dX11_item_334 H
      · have H := H2 (hB)
        refine x_aloadn (q := 191) 0 rfl rfl rfl dX11_item_190 rfl ?_
        refine x_aloadn (q := 192) 0 rfl rfl rfl dX11_item_191 rfl ?_
        refine x_getr (q := 195) dX11_item_192 rfl fa_X11_9 sh_71 rfl ?_
        refine x_iconst (q := 196) dX11_item_195 rfl ?_
        refine x_iald (q := 197) dX11_item_196 rfl sh_72 (by decide) (by decide) (fun r37 => ?_)
        refine x_bipush (q := 199) rfl dX11_item_197 rfl ?_
        obtain ⟨H1, H2⟩ := H
        refine x_icmp_ne (tgt := 206) (q := 202) dX11_item_199 (by decide) rfl r37 (by decide) (fun hB => ?_) (fun hB => ?_)
        · have H := H1 (hB)
          refine x_iconst (q := 207) dX11_item_206 rfl ?_
          refine x_putz (q := 210) (ji := 8) dX11_item_207 rfl fp_X11_142 sh_71 rfl rfl (by decide) (fun m40 em40 => ?_)
          have H := H m40 em40
          refine x_aloadn (q := 211) 0 rfl rfl rfl dX11_item_210 rfl ?_
          refine x_ldcS (q := 213) (t := 20) (by decide) ⟨by decide +kernel, by decide +kernel⟩ dX11_item_211 rfl ?_
          refine x_callV (q := 216) (d := d - 1) (as := [vS 20]) (st := []) dX11_item_213 rfl mv_X11_166 sh_71 rfl rfl rfl (by exact Nat.le_of_ble_eq_true rfl) ⟨by show _ ≤ d; omega, by show _ ≤ 40 * d; omega⟩ ⟨Nat.le_refl _, Nat.le_refl _⟩ (Ct.mono H (fun r9 m41 H => ?_))
          obtain ⟨z42, rfl, H⟩ := H
          show E_X11_item G d 216 [(0, vR 71)] [vI z42] m41 Q
          refine x_istoren (q := 217) (ls' := [(1, vI z42), (0, vR 71)]) rfl (by decide) rfl dX11_item_216 rfl ?_
          refine x_aloadn (q := 218) 1 rfl rfl rfl dX11_item_217 rfl ?_
          refine x_iconst (q := 219) dX11_item_218 rfl ?_
          refine x_aloadn (q := 220) 1 rfl rfl rfl dX11_item_219 rfl ?_
          refine x_getr (q := 223) dX11_item_220 rfl fa_X11_9 sh_71 rfl ?_
          refine x_iconst (q := 224) dX11_item_223 rfl ?_
          refine x_iald (q := 225) dX11_item_224 rfl sh_72 (by decide) (by decide) (fun r43 => ?_)
          refine x_iconst (q := 226) dX11_item_225 rfl ?_
          refine x_isub (q := 227) dX11_item_226 rfl ?_
          refine x_callV (q := 230) (d := d - 1) (as := [vI 0, vI ((m41 72 0) - 1)]) (st := []) dX11_item_227 rfl mv_X11_161 sh_71 rfl rfl rfl (by exact Nat.le_of_ble_eq_true rfl) ⟨by show _ ≤ d; omega, by show _ ≤ 40 * d; omega⟩ ⟨Nat.le_refl _, Nat.le_refl _⟩ (Ct.mono H (fun r9 m44 H => ?_))
          obtain ⟨z45, rfl, H⟩ := H
          show E_X11_item G d 230 [(1, vI z42), (0, vR 71)] [vI z45] m44 Q
          refine x_istoren (q := 231) (ls' := [(2, vI z45), (1, vI z42), (0, vR 71)]) rfl (by decide) rfl dX11_item_230 rfl ?_
          refine x_aloadn (q := 232) 2 rfl rfl rfl dX11_item_231 rfl ?_
          refine x_iloadn (q := 233) 0 rfl rfl dX11_item_232 rfl ?_
          refine x_iconst (q := 234) dX11_item_233 rfl ?_
          refine x_callV (q := 237) (d := d - 1) (as := [vI z45, vI 1]) (st := []) dX11_item_234 rfl mv_X11_171 sh_71 rfl rfl rfl (by exact Nat.le_of_ble_eq_true rfl) ⟨by show _ ≤ d; omega, by show _ ≤ 40 * d; omega⟩ ⟨Nat.le_refl _, Nat.le_refl _⟩ (Ct.mono H (fun r9 m46 H => ?_))
          obtain ⟨z47, rfl, H⟩ := H
          show E_X11_item G d 237 [(2, vI z45), (1, vI z42), (0, vR 71)] [vI z47] m46 Q
          refine x_istoren (q := 238) (ls' := [(3, vI z47), (2, vI z45), (1, vI z42), (0, vR 71)]) rfl (by decide) rfl dX11_item_237 rfl ?_
          refine x_aloadn (q := 239) 3 rfl rfl rfl dX11_item_238 rfl ?_
          refine x_ldcS (q := 241) (t := 21) (by decide) ⟨by decide +kernel, by decide +kernel⟩ dX11_item_239 rfl ?_
          refine x_callV (q := 244) (d := d - 1) (as := [vS 21]) (st := []) dX11_item_241 rfl mv_X11_166 sh_71 rfl rfl rfl (by exact Nat.le_of_ble_eq_true rfl) ⟨by show _ ≤ d; omega, by show _ ≤ 40 * d; omega⟩ ⟨Nat.le_refl _, Nat.le_refl _⟩ (Ct.mono H (fun r9 m48 H => ?_))
          obtain ⟨z49, rfl, H⟩ := H
          show E_X11_item G d 244 [(3, vI z47), (2, vI z45), (1, vI z42), (0, vR 71)] [vI z49] m48 Q
          refine x_istore (q := 246) (ls' := [(4, vI z49), (3, vI z47), (2, vI z45), (1, vI z42), (0, vR 71)]) (by decide) rfl dX11_item_244 rfl ?_
          refine x_aloadn (q := 247) 4 rfl rfl rfl dX11_item_246 rfl ?_
          refine x_aloadn (q := 248) 4 rfl rfl rfl dX11_item_247 rfl ?_
          refine x_geti (q := 251) (ji := 8) dX11_item_248 rfl fa_X11_142 sh_71 rfl rfl (fun r50 => ?_)
          obtain ⟨H1, H2⟩ := H
          refine x_if_ne (tgt := 268) (q := 254) dX11_item_251 (by decide) rfl r50 (fun hB => ?_) (fun hB => ?_)
          · have H := H1 (hB)
            refine x_iconst (q := 269) dX11_item_268 rfl ?_
            refine x_goto (tgt := 273) dX11_item_269 (by decide) ?_
            refine x_putz (q := 276) (ji := 8) dX11_item_273 rfl fp_X11_142 sh_71 rfl rfl (by decide) (fun m53 em53 => ?_)
            have H := H m53 em53
            refine x_aloadn (q := 277) 4 rfl rfl rfl dX11_item_276 rfl ?_
            refine x_geti (q := 280) (ji := 8) dX11_item_277 rfl fa_X11_142 sh_71 rfl rfl (fun r54 => ?_)
            obtain ⟨H1, H2⟩ := H
            refine x_if_ne (tgt := 291) (q := 283) dX11_item_280 (by decide) rfl r54 (fun hB => ?_) (fun hB => ?_)
            · have H := H1 (hB)
              refine x_goto (tgt := 334) dX11_item_291 (by decide) ?_
              exact x_vret rfl dX11_item_334 H
            · have H := H2 (hB)
              refine x_aloadn (q := 284) 4 rfl rfl rfl dX11_item_283 rfl ?_
              refine x_iloadn (q := 285) 2 rfl rfl dX11_item_284 rfl ?_
              refine x_iloadn (q := 286) 1 rfl rfl dX11_item_285 rfl ?_
              refine x_iload (q := 288) 0 rfl dX11_item_286 rfl ?_
              obtain ⟨⟨s57, s58, s59⟩, H⟩ := H
              obtain ⟨⟨s60, s61⟩, H⟩ := H
              obtain ⟨m62, em62⟩ : ∃ m9 : Mem, m9 = ssM m53 z45 z47 z49 := ⟨_, rfl⟩
              have H := H m62 em62
              refine x_callV (q := 291) (d := d - 1) (as := [vI z45, vI z47, vI z49]) (st := []) dX11_item_288 rfl mv_X11_126 sh_71 rfl rfl rfl (by exact Nat.le_of_ble_eq_true rfl) ⟨by show _ ≤ d; omega, by show _ ≤ 40 * d; omega⟩ ⟨Nat.le_refl _, Nat.le_refl _⟩ (ct_saysSo s60 s61 s57 s58 s59 ?_)
              rw [← em62]
              show E_X11_item G d 291 [(4, vI z49), (3, vI z47), (2, vI z45), (1, vI z42), (0, vR 71)] [] m62 Q
              refine x_goto (tgt := 334) dX11_item_291 (by decide) ?_
              exact x_vret rfl dX11_item_334 H
          · have H := H2 (hB)
            refine x_iload (q := 256) 0 rfl dX11_item_254 rfl ?_
            obtain ⟨s63, H⟩ := H
            obtain ⟨H1, H2⟩ := H
            refine x_if_ne (tgt := 272) (q := 259) dX11_item_256 (by decide) rfl s63 (fun hB => ?_) (fun hB => ?_)
            · have H := H1 (hB)
              refine x_iconst (q := 273) dX11_item_272 rfl ?_
              refine x_putz (q := 276) (ji := 8) dX11_item_273 rfl fp_X11_142 sh_71 rfl rfl (by decide) (fun m66 em66 => ?_)
              have H := H m66 em66
              refine x_aloadn (q := 277) 4 rfl rfl rfl dX11_item_276 rfl ?_
              refine x_geti (q := 280) (ji := 8) dX11_item_277 rfl fa_X11_142 sh_71 rfl rfl (fun r67 => ?_)
              obtain ⟨H1, H2⟩ := H
              refine x_if_ne (tgt := 291) (q := 283) dX11_item_280 (by decide) rfl r67 (fun hB => ?_) (fun hB => ?_)
              · have H := H1 (hB)
                refine x_goto (tgt := 334) dX11_item_291 (by decide) ?_
                exact x_vret rfl dX11_item_334 H
              · have H := H2 (hB)
                refine x_aloadn (q := 284) 4 rfl rfl rfl dX11_item_283 rfl ?_
                refine x_iloadn (q := 285) 2 rfl rfl dX11_item_284 rfl ?_
                refine x_iloadn (q := 286) 1 rfl rfl dX11_item_285 rfl ?_
                refine x_iload (q := 288) 0 rfl dX11_item_286 rfl ?_
                obtain ⟨⟨s70, s71⟩, H⟩ := H
                obtain ⟨⟨s72, s73⟩, H⟩ := H
                obtain ⟨m74, em74⟩ : ∃ m9 : Mem, m9 = ssM m66 z45 z47 z49 := ⟨_, rfl⟩
                have H := H m74 em74
                refine x_callV (q := 291) (d := d - 1) (as := [vI z45, vI z47, vI z49]) (st := []) dX11_item_288 rfl mv_X11_126 sh_71 rfl rfl rfl (by exact Nat.le_of_ble_eq_true rfl) ⟨by show _ ≤ d; omega, by show _ ≤ 40 * d; omega⟩ ⟨Nat.le_refl _, Nat.le_refl _⟩ (ct_saysSo s72 s73 s70 s71 s63 ?_)
                rw [← em74]
                show E_X11_item G d 291 [(4, vI z49), (3, vI z47), (2, vI z45), (1, vI z42), (0, vR 71)] [] m74 Q
                refine x_goto (tgt := 334) dX11_item_291 (by decide) ?_
                exact x_vret rfl dX11_item_334 H
            · have H := H2 (hB)
              refine x_aloadn (q := 260) 4 rfl rfl rfl dX11_item_259 rfl ?_
              refine x_ldcS (q := 262) (t := 22) (by decide) ⟨by decide +kernel, by decide +kernel⟩ dX11_item_260 rfl ?_
              refine x_callV (q := 265) (d := d - 1) (as := [vS 22]) (st := [vR 71]) dX11_item_262 rfl mv_X11_166 sh_71 rfl rfl rfl (by exact Nat.le_of_ble_eq_true rfl) ⟨by show _ ≤ d; omega, by show _ ≤ 40 * d; omega⟩ ⟨Nat.le_refl _, Nat.le_refl _⟩ (Ct.mono H (fun r9 m75 H => ?_))
              obtain ⟨z76, rfl, H⟩ := H
              show E_X11_item G d 265 [(4, vI z49), (3, vI z47), (2, vI z45), (1, vI z42), (0, vR 71)] [vI z76, vR 71] m75 Q
              obtain ⟨s77, H⟩ := H
              obtain ⟨H1, H2⟩ := H
              refine x_if_ne (tgt := 272) (q := 268) dX11_item_265 (by decide) rfl s77 (fun hB => ?_) (fun hB => ?_)
              · have H := H1 (hB)
                refine x_iconst (q := 273) dX11_item_272 rfl ?_
                refine x_putz (q := 276) (ji := 8) dX11_item_273 rfl fp_X11_142 sh_71 rfl rfl (by decide) (fun m80 em80 => ?_)
                have H := H m80 em80
                refine x_aloadn (q := 277) 4 rfl rfl rfl dX11_item_276 rfl ?_
                refine x_geti (q := 280) (ji := 8) dX11_item_277 rfl fa_X11_142 sh_71 rfl rfl (fun r81 => ?_)
                obtain ⟨H1, H2⟩ := H
                refine x_if_ne (tgt := 291) (q := 283) dX11_item_280 (by decide) rfl r81 (fun hB => ?_) (fun hB => ?_)
                · have H := H1 (hB)
                  refine x_goto (tgt := 334) dX11_item_291 (by decide) ?_
                  exact x_vret rfl dX11_item_334 H
                · have H := H2 (hB)
                  refine x_aloadn (q := 284) 4 rfl rfl rfl dX11_item_283 rfl ?_
                  refine x_iloadn (q := 285) 2 rfl rfl dX11_item_284 rfl ?_
                  refine x_iloadn (q := 286) 1 rfl rfl dX11_item_285 rfl ?_
                  refine x_iload (q := 288) 0 rfl dX11_item_286 rfl ?_
                  obtain ⟨⟨s84, s85⟩, H⟩ := H
                  obtain ⟨⟨s86, s87⟩, H⟩ := H
                  obtain ⟨m88, em88⟩ : ∃ m9 : Mem, m9 = ssM m80 z45 z47 z49 := ⟨_, rfl⟩
                  have H := H m88 em88
                  refine x_callV (q := 291) (d := d - 1) (as := [vI z45, vI z47, vI z49]) (st := []) dX11_item_288 rfl mv_X11_126 sh_71 rfl rfl rfl (by exact Nat.le_of_ble_eq_true rfl) ⟨by show _ ≤ d; omega, by show _ ≤ 40 * d; omega⟩ ⟨Nat.le_refl _, Nat.le_refl _⟩ (ct_saysSo s86 s87 s84 s85 s63 ?_)
                  rw [← em88]
                  show E_X11_item G d 291 [(4, vI z49), (3, vI z47), (2, vI z45), (1, vI z42), (0, vR 71)] [] m88 Q
                  refine x_goto (tgt := 334) dX11_item_291 (by decide) ?_
                  exact x_vret rfl dX11_item_334 H
              · have H := H2 (hB)
                refine x_iconst (q := 269) dX11_item_268 rfl ?_
                refine x_goto (tgt := 273) dX11_item_269 (by decide) ?_
                refine x_putz (q := 276) (ji := 8) dX11_item_273 rfl fp_X11_142 sh_71 rfl rfl (by decide) (fun m89 em89 => ?_)
                have H := H m89 em89
                refine x_aloadn (q := 277) 4 rfl rfl rfl dX11_item_276 rfl ?_
                refine x_geti (q := 280) (ji := 8) dX11_item_277 rfl fa_X11_142 sh_71 rfl rfl (fun r90 => ?_)
                obtain ⟨H1, H2⟩ := H
                refine x_if_ne (tgt := 291) (q := 283) dX11_item_280 (by decide) rfl r90 (fun hB => ?_) (fun hB => ?_)
                · have H := H1 (hB)
                  refine x_goto (tgt := 334) dX11_item_291 (by decide) ?_
                  exact x_vret rfl dX11_item_334 H
                · have H := H2 (hB)
                  refine x_aloadn (q := 284) 4 rfl rfl rfl dX11_item_283 rfl ?_
                  refine x_iloadn (q := 285) 2 rfl rfl dX11_item_284 rfl ?_
                  refine x_iloadn (q := 286) 1 rfl rfl dX11_item_285 rfl ?_
                  refine x_iload (q := 288) 0 rfl dX11_item_286 rfl ?_
                  obtain ⟨⟨s93, s94⟩, H⟩ := H
                  obtain ⟨⟨s95, s96⟩, H⟩ := H
                  obtain ⟨m97, em97⟩ : ∃ m9 : Mem, m9 = ssM m89 z45 z47 z49 := ⟨_, rfl⟩
                  have H := H m97 em97
                  refine x_callV (q := 291) (d := d - 1) (as := [vI z45, vI z47, vI z49]) (st := []) dX11_item_288 rfl mv_X11_126 sh_71 rfl rfl rfl (by exact Nat.le_of_ble_eq_true rfl) ⟨by show _ ≤ d; omega, by show _ ≤ 40 * d; omega⟩ ⟨Nat.le_refl _, Nat.le_refl _⟩ (ct_saysSo s95 s96 s93 s94 s63 ?_)
                  rw [← em97]
                  show E_X11_item G d 291 [(4, vI z49), (3, vI z47), (2, vI z45), (1, vI z42), (0, vR 71)] [] m97 Q
                  refine x_goto (tgt := 334) dX11_item_291 (by decide) ?_
                  exact x_vret rfl dX11_item_334 H
        · have H := H2 (hB)
          refine x_iconst (q := 203) dX11_item_202 rfl ?_
          refine x_goto (tgt := 207) dX11_item_203 (by decide) ?_
          refine x_putz (q := 210) (ji := 8) dX11_item_207 rfl fp_X11_142 sh_71 rfl rfl (by decide) (fun m98 em98 => ?_)
          have H := H m98 em98
          refine x_aloadn (q := 211) 0 rfl rfl rfl dX11_item_210 rfl ?_
          refine x_ldcS (q := 213) (t := 20) (by decide) ⟨by decide +kernel, by decide +kernel⟩ dX11_item_211 rfl ?_
          refine x_callV (q := 216) (d := d - 1) (as := [vS 20]) (st := []) dX11_item_213 rfl mv_X11_166 sh_71 rfl rfl rfl (by exact Nat.le_of_ble_eq_true rfl) ⟨by show _ ≤ d; omega, by show _ ≤ 40 * d; omega⟩ ⟨Nat.le_refl _, Nat.le_refl _⟩ (Ct.mono H (fun r9 m99 H => ?_))
          obtain ⟨z100, rfl, H⟩ := H
          show E_X11_item G d 216 [(0, vR 71)] [vI z100] m99 Q
          refine x_istoren (q := 217) (ls' := [(1, vI z100), (0, vR 71)]) rfl (by decide) rfl dX11_item_216 rfl ?_
          refine x_aloadn (q := 218) 1 rfl rfl rfl dX11_item_217 rfl ?_
          refine x_iconst (q := 219) dX11_item_218 rfl ?_
          refine x_aloadn (q := 220) 1 rfl rfl rfl dX11_item_219 rfl ?_
          refine x_getr (q := 223) dX11_item_220 rfl fa_X11_9 sh_71 rfl ?_
          refine x_iconst (q := 224) dX11_item_223 rfl ?_
          refine x_iald (q := 225) dX11_item_224 rfl sh_72 (by decide) (by decide) (fun r101 => ?_)
          refine x_iconst (q := 226) dX11_item_225 rfl ?_
          refine x_isub (q := 227) dX11_item_226 rfl ?_
          refine x_callV (q := 230) (d := d - 1) (as := [vI 0, vI ((m99 72 0) - 1)]) (st := []) dX11_item_227 rfl mv_X11_161 sh_71 rfl rfl rfl (by exact Nat.le_of_ble_eq_true rfl) ⟨by show _ ≤ d; omega, by show _ ≤ 40 * d; omega⟩ ⟨Nat.le_refl _, Nat.le_refl _⟩ (Ct.mono H (fun r9 m102 H => ?_))
          obtain ⟨z103, rfl, H⟩ := H
          show E_X11_item G d 230 [(1, vI z100), (0, vR 71)] [vI z103] m102 Q
          refine x_istoren (q := 231) (ls' := [(2, vI z103), (1, vI z100), (0, vR 71)]) rfl (by decide) rfl dX11_item_230 rfl ?_
          refine x_aloadn (q := 232) 2 rfl rfl rfl dX11_item_231 rfl ?_
          refine x_iloadn (q := 233) 0 rfl rfl dX11_item_232 rfl ?_
          refine x_iconst (q := 234) dX11_item_233 rfl ?_
          refine x_callV (q := 237) (d := d - 1) (as := [vI z103, vI 1]) (st := []) dX11_item_234 rfl mv_X11_171 sh_71 rfl rfl rfl (by exact Nat.le_of_ble_eq_true rfl) ⟨by show _ ≤ d; omega, by show _ ≤ 40 * d; omega⟩ ⟨Nat.le_refl _, Nat.le_refl _⟩ (Ct.mono H (fun r9 m104 H => ?_))
          obtain ⟨z105, rfl, H⟩ := H
          show E_X11_item G d 237 [(2, vI z103), (1, vI z100), (0, vR 71)] [vI z105] m104 Q
          refine x_istoren (q := 238) (ls' := [(3, vI z105), (2, vI z103), (1, vI z100), (0, vR 71)]) rfl (by decide) rfl dX11_item_237 rfl ?_
          refine x_aloadn (q := 239) 3 rfl rfl rfl dX11_item_238 rfl ?_
          refine x_ldcS (q := 241) (t := 21) (by decide) ⟨by decide +kernel, by decide +kernel⟩ dX11_item_239 rfl ?_
          refine x_callV (q := 244) (d := d - 1) (as := [vS 21]) (st := []) dX11_item_241 rfl mv_X11_166 sh_71 rfl rfl rfl (by exact Nat.le_of_ble_eq_true rfl) ⟨by show _ ≤ d; omega, by show _ ≤ 40 * d; omega⟩ ⟨Nat.le_refl _, Nat.le_refl _⟩ (Ct.mono H (fun r9 m106 H => ?_))
          obtain ⟨z107, rfl, H⟩ := H
          show E_X11_item G d 244 [(3, vI z105), (2, vI z103), (1, vI z100), (0, vR 71)] [vI z107] m106 Q
          refine x_istore (q := 246) (ls' := [(4, vI z107), (3, vI z105), (2, vI z103), (1, vI z100), (0, vR 71)]) (by decide) rfl dX11_item_244 rfl ?_
          refine x_aloadn (q := 247) 4 rfl rfl rfl dX11_item_246 rfl ?_
          refine x_aloadn (q := 248) 4 rfl rfl rfl dX11_item_247 rfl ?_
          refine x_geti (q := 251) (ji := 8) dX11_item_248 rfl fa_X11_142 sh_71 rfl rfl (fun r108 => ?_)
          obtain ⟨H1, H2⟩ := H
          refine x_if_ne (tgt := 268) (q := 254) dX11_item_251 (by decide) rfl r108 (fun hB => ?_) (fun hB => ?_)
          · have H := H1 (hB)
            refine x_iconst (q := 269) dX11_item_268 rfl ?_
            refine x_goto (tgt := 273) dX11_item_269 (by decide) ?_
            refine x_putz (q := 276) (ji := 8) dX11_item_273 rfl fp_X11_142 sh_71 rfl rfl (by decide) (fun m111 em111 => ?_)
            have H := H m111 em111
            refine x_aloadn (q := 277) 4 rfl rfl rfl dX11_item_276 rfl ?_
            refine x_geti (q := 280) (ji := 8) dX11_item_277 rfl fa_X11_142 sh_71 rfl rfl (fun r112 => ?_)
            obtain ⟨H1, H2⟩ := H
            refine x_if_ne (tgt := 291) (q := 283) dX11_item_280 (by decide) rfl r112 (fun hB => ?_) (fun hB => ?_)
            · have H := H1 (hB)
              refine x_goto (tgt := 334) dX11_item_291 (by decide) ?_
              exact x_vret rfl dX11_item_334 H
            · have H := H2 (hB)
              refine x_aloadn (q := 284) 4 rfl rfl rfl dX11_item_283 rfl ?_
              refine x_iloadn (q := 285) 2 rfl rfl dX11_item_284 rfl ?_
              refine x_iloadn (q := 286) 1 rfl rfl dX11_item_285 rfl ?_
              refine x_iload (q := 288) 0 rfl dX11_item_286 rfl ?_
              obtain ⟨⟨s115, s116, s117⟩, H⟩ := H
              obtain ⟨⟨s118, s119⟩, H⟩ := H
              obtain ⟨m120, em120⟩ : ∃ m9 : Mem, m9 = ssM m111 z103 z105 z107 := ⟨_, rfl⟩
              have H := H m120 em120
              refine x_callV (q := 291) (d := d - 1) (as := [vI z103, vI z105, vI z107]) (st := []) dX11_item_288 rfl mv_X11_126 sh_71 rfl rfl rfl (by exact Nat.le_of_ble_eq_true rfl) ⟨by show _ ≤ d; omega, by show _ ≤ 40 * d; omega⟩ ⟨Nat.le_refl _, Nat.le_refl _⟩ (ct_saysSo s118 s119 s115 s116 s117 ?_)
              rw [← em120]
              show E_X11_item G d 291 [(4, vI z107), (3, vI z105), (2, vI z103), (1, vI z100), (0, vR 71)] [] m120 Q
              refine x_goto (tgt := 334) dX11_item_291 (by decide) ?_
              exact x_vret rfl dX11_item_334 H
          · have H := H2 (hB)
            refine x_iload (q := 256) 0 rfl dX11_item_254 rfl ?_
            obtain ⟨s121, H⟩ := H
            obtain ⟨H1, H2⟩ := H
            refine x_if_ne (tgt := 272) (q := 259) dX11_item_256 (by decide) rfl s121 (fun hB => ?_) (fun hB => ?_)
            · have H := H1 (hB)
              refine x_iconst (q := 273) dX11_item_272 rfl ?_
              refine x_putz (q := 276) (ji := 8) dX11_item_273 rfl fp_X11_142 sh_71 rfl rfl (by decide) (fun m124 em124 => ?_)
              have H := H m124 em124
              refine x_aloadn (q := 277) 4 rfl rfl rfl dX11_item_276 rfl ?_
              refine x_geti (q := 280) (ji := 8) dX11_item_277 rfl fa_X11_142 sh_71 rfl rfl (fun r125 => ?_)
              obtain ⟨H1, H2⟩ := H
              refine x_if_ne (tgt := 291) (q := 283) dX11_item_280 (by decide) rfl r125 (fun hB => ?_) (fun hB => ?_)
              · have H := H1 (hB)
                refine x_goto (tgt := 334) dX11_item_291 (by decide) ?_
                exact x_vret rfl dX11_item_334 H
              · have H := H2 (hB)
                refine x_aloadn (q := 284) 4 rfl rfl rfl dX11_item_283 rfl ?_
                refine x_iloadn (q := 285) 2 rfl rfl dX11_item_284 rfl ?_
                refine x_iloadn (q := 286) 1 rfl rfl dX11_item_285 rfl ?_
                refine x_iload (q := 288) 0 rfl dX11_item_286 rfl ?_
                obtain ⟨⟨s128, s129⟩, H⟩ := H
                obtain ⟨⟨s130, s131⟩, H⟩ := H
                obtain ⟨m132, em132⟩ : ∃ m9 : Mem, m9 = ssM m124 z103 z105 z107 := ⟨_, rfl⟩
                have H := H m132 em132
                refine x_callV (q := 291) (d := d - 1) (as := [vI z103, vI z105, vI z107]) (st := []) dX11_item_288 rfl mv_X11_126 sh_71 rfl rfl rfl (by exact Nat.le_of_ble_eq_true rfl) ⟨by show _ ≤ d; omega, by show _ ≤ 40 * d; omega⟩ ⟨Nat.le_refl _, Nat.le_refl _⟩ (ct_saysSo s130 s131 s128 s129 s121 ?_)
                rw [← em132]
                show E_X11_item G d 291 [(4, vI z107), (3, vI z105), (2, vI z103), (1, vI z100), (0, vR 71)] [] m132 Q
                refine x_goto (tgt := 334) dX11_item_291 (by decide) ?_
                exact x_vret rfl dX11_item_334 H
            · have H := H2 (hB)
              refine x_aloadn (q := 260) 4 rfl rfl rfl dX11_item_259 rfl ?_
              refine x_ldcS (q := 262) (t := 22) (by decide) ⟨by decide +kernel, by decide +kernel⟩ dX11_item_260 rfl ?_
              refine x_callV (q := 265) (d := d - 1) (as := [vS 22]) (st := [vR 71]) dX11_item_262 rfl mv_X11_166 sh_71 rfl rfl rfl (by exact Nat.le_of_ble_eq_true rfl) ⟨by show _ ≤ d; omega, by show _ ≤ 40 * d; omega⟩ ⟨Nat.le_refl _, Nat.le_refl _⟩ (Ct.mono H (fun r9 m133 H => ?_))
              obtain ⟨z134, rfl, H⟩ := H
              show E_X11_item G d 265 [(4, vI z107), (3, vI z105), (2, vI z103), (1, vI z100), (0, vR 71)] [vI z134, vR 71] m133 Q
              obtain ⟨s135, H⟩ := H
              obtain ⟨H1, H2⟩ := H
              refine x_if_ne (tgt := 272) (q := 268) dX11_item_265 (by decide) rfl s135 (fun hB => ?_) (fun hB => ?_)
              · have H := H1 (hB)
                refine x_iconst (q := 273) dX11_item_272 rfl ?_
                refine x_putz (q := 276) (ji := 8) dX11_item_273 rfl fp_X11_142 sh_71 rfl rfl (by decide) (fun m138 em138 => ?_)
                have H := H m138 em138
                refine x_aloadn (q := 277) 4 rfl rfl rfl dX11_item_276 rfl ?_
                refine x_geti (q := 280) (ji := 8) dX11_item_277 rfl fa_X11_142 sh_71 rfl rfl (fun r139 => ?_)
                obtain ⟨H1, H2⟩ := H
                refine x_if_ne (tgt := 291) (q := 283) dX11_item_280 (by decide) rfl r139 (fun hB => ?_) (fun hB => ?_)
                · have H := H1 (hB)
                  refine x_goto (tgt := 334) dX11_item_291 (by decide) ?_
                  exact x_vret rfl dX11_item_334 H
                · have H := H2 (hB)
                  refine x_aloadn (q := 284) 4 rfl rfl rfl dX11_item_283 rfl ?_
                  refine x_iloadn (q := 285) 2 rfl rfl dX11_item_284 rfl ?_
                  refine x_iloadn (q := 286) 1 rfl rfl dX11_item_285 rfl ?_
                  refine x_iload (q := 288) 0 rfl dX11_item_286 rfl ?_
                  obtain ⟨⟨s142, s143⟩, H⟩ := H
                  obtain ⟨⟨s144, s145⟩, H⟩ := H
                  obtain ⟨m146, em146⟩ : ∃ m9 : Mem, m9 = ssM m138 z103 z105 z107 := ⟨_, rfl⟩
                  have H := H m146 em146
                  refine x_callV (q := 291) (d := d - 1) (as := [vI z103, vI z105, vI z107]) (st := []) dX11_item_288 rfl mv_X11_126 sh_71 rfl rfl rfl (by exact Nat.le_of_ble_eq_true rfl) ⟨by show _ ≤ d; omega, by show _ ≤ 40 * d; omega⟩ ⟨Nat.le_refl _, Nat.le_refl _⟩ (ct_saysSo s144 s145 s142 s143 s121 ?_)
                  rw [← em146]
                  show E_X11_item G d 291 [(4, vI z107), (3, vI z105), (2, vI z103), (1, vI z100), (0, vR 71)] [] m146 Q
                  refine x_goto (tgt := 334) dX11_item_291 (by decide) ?_
                  exact x_vret rfl dX11_item_334 H
              · have H := H2 (hB)
                refine x_iconst (q := 269) dX11_item_268 rfl ?_
                refine x_goto (tgt := 273) dX11_item_269 (by decide) ?_
                refine x_putz (q := 276) (ji := 8) dX11_item_273 rfl fp_X11_142 sh_71 rfl rfl (by decide) (fun m147 em147 => ?_)
                have H := H m147 em147
                refine x_aloadn (q := 277) 4 rfl rfl rfl dX11_item_276 rfl ?_
                refine x_geti (q := 280) (ji := 8) dX11_item_277 rfl fa_X11_142 sh_71 rfl rfl (fun r148 => ?_)
                obtain ⟨H1, H2⟩ := H
                refine x_if_ne (tgt := 291) (q := 283) dX11_item_280 (by decide) rfl r148 (fun hB => ?_) (fun hB => ?_)
                · have H := H1 (hB)
                  refine x_goto (tgt := 334) dX11_item_291 (by decide) ?_
                  exact x_vret rfl dX11_item_334 H
                · have H := H2 (hB)
                  refine x_aloadn (q := 284) 4 rfl rfl rfl dX11_item_283 rfl ?_
                  refine x_iloadn (q := 285) 2 rfl rfl dX11_item_284 rfl ?_
                  refine x_iloadn (q := 286) 1 rfl rfl dX11_item_285 rfl ?_
                  refine x_iload (q := 288) 0 rfl dX11_item_286 rfl ?_
                  obtain ⟨⟨s151, s152⟩, H⟩ := H
                  obtain ⟨⟨s153, s154⟩, H⟩ := H
                  obtain ⟨m155, em155⟩ : ∃ m9 : Mem, m9 = ssM m147 z103 z105 z107 := ⟨_, rfl⟩
                  have H := H m155 em155
                  refine x_callV (q := 291) (d := d - 1) (as := [vI z103, vI z105, vI z107]) (st := []) dX11_item_288 rfl mv_X11_126 sh_71 rfl rfl rfl (by exact Nat.le_of_ble_eq_true rfl) ⟨by show _ ≤ d; omega, by show _ ≤ 40 * d; omega⟩ ⟨Nat.le_refl _, Nat.le_refl _⟩ (ct_saysSo s153 s154 s151 s152 s121 ?_)
                  rw [← em155]
                  show E_X11_item G d 291 [(4, vI z107), (3, vI z105), (2, vI z103), (1, vI z100), (0, vR 71)] [] m155 Q
                  refine x_goto (tgt := 334) dX11_item_291 (by decide) ?_
                  exact x_vret rfl dX11_item_334 H
    · have H := H2 (hB)
      refine x_aloadn (q := 128) 0 rfl rfl rfl dX11_item_127 rfl ?_
      refine x_iconst (q := 129) dX11_item_128 rfl ?_
      refine x_aloadn (q := 130) 0 rfl rfl rfl dX11_item_129 rfl ?_
      refine x_getr (q := 133) dX11_item_130 rfl fa_X11_9 sh_71 rfl ?_
      refine x_iconst (q := 134) dX11_item_133 rfl ?_
      refine x_iald (q := 135) dX11_item_134 rfl sh_72 (by decide) (by decide) (fun r156 => ?_)
      refine x_iconst (q := 136) dX11_item_135 rfl ?_
      refine x_isub (q := 137) dX11_item_136 rfl ?_
      refine x_callV (q := 140) (d := d - 1) (as := [vI 0, vI ((m6 72 0) - 1)]) (st := []) dX11_item_137 rfl mv_X11_161 sh_71 rfl rfl rfl (by exact Nat.le_of_ble_eq_true rfl) ⟨by show _ ≤ d; omega, by show _ ≤ 40 * d; omega⟩ ⟨Nat.le_refl _, Nat.le_refl _⟩ (Ct.mono H (fun r9 m157 H => ?_))
      obtain ⟨z158, rfl, H⟩ := H
      show E_X11_item G d 140 [(0, vR 71)] [vI z158] m157 Q
      refine x_istoren (q := 141) (ls' := [(1, vI z158), (0, vR 71)]) rfl (by decide) rfl dX11_item_140 rfl ?_
      refine x_aloadn (q := 142) 1 rfl rfl rfl dX11_item_141 rfl ?_
      refine x_iloadn (q := 143) 0 rfl rfl dX11_item_142 rfl ?_
      refine x_iconst (q := 144) dX11_item_143 rfl ?_
      refine x_callV (q := 147) (d := d - 1) (as := [vI z158, vI 0]) (st := []) dX11_item_144 rfl mv_X11_171 sh_71 rfl rfl rfl (by exact Nat.le_of_ble_eq_true rfl) ⟨by show _ ≤ d; omega, by show _ ≤ 40 * d; omega⟩ ⟨Nat.le_refl _, Nat.le_refl _⟩ (Ct.mono H (fun r9 m159 H => ?_))
      obtain ⟨z160, rfl, H⟩ := H
      show E_X11_item G d 147 [(1, vI z158), (0, vR 71)] [vI z160] m159 Q
      refine x_istoren (q := 148) (ls' := [(2, vI z160), (1, vI z158), (0, vR 71)]) rfl (by decide) rfl dX11_item_147 rfl ?_
      refine x_aloadn (q := 149) 2 rfl rfl rfl dX11_item_148 rfl ?_
      refine x_iconst (q := 150) dX11_item_149 rfl ?_
      refine x_bipush (q := 152) rfl dX11_item_150 rfl ?_
      refine x_callV (q := 155) (d := d - 1) (as := [vI 1, vI 99]) (st := []) dX11_item_152 rfl mv_X11_161 sh_71 rfl rfl rfl (by exact Nat.le_of_ble_eq_true rfl) ⟨by show _ ≤ d; omega, by show _ ≤ 40 * d; omega⟩ ⟨Nat.le_refl _, Nat.le_refl _⟩ (Ct.mono H (fun r9 m161 H => ?_))
      obtain ⟨z162, rfl, H⟩ := H
      show E_X11_item G d 155 [(2, vI z160), (1, vI z158), (0, vR 71)] [vI z162] m161 Q
      refine x_istoren (q := 156) (ls' := [(3, vI z162), (2, vI z160), (1, vI z158), (0, vR 71)]) rfl (by decide) rfl dX11_item_155 rfl ?_
      refine x_aloadn (q := 157) 3 rfl rfl rfl dX11_item_156 rfl ?_
      refine x_geti (q := 160) (ji := 8) dX11_item_157 rfl fa_X11_142 sh_71 rfl rfl (fun r163 => ?_)
      obtain ⟨H1, H2⟩ := H
      refine x_if_ne (tgt := 178) (q := 163) dX11_item_160 (by decide) rfl r163 (fun hB => ?_) (fun hB => ?_)
      · have H := H1 (hB)
        refine x_goto (tgt := 334) dX11_item_178 (by decide) ?_
        exact x_vret rfl dX11_item_334 H
      · have H := H2 (hB)
        refine x_aloadn (q := 164) 3 rfl rfl rfl dX11_item_163 rfl ?_
        refine x_getr (q := 167) dX11_item_164 rfl fa_X11_9 sh_71 rfl ?_
        refine x_bipush (q := 169) rfl dX11_item_167 rfl ?_
        refine x_bipush (q := 171) rfl dX11_item_169 rfl ?_
        refine x_iloadn (q := 172) 2 rfl rfl dX11_item_171 rfl ?_
        refine x_imul (q := 173) dX11_item_172 rfl ?_
        refine x_iadd (q := 174) dX11_item_173 rfl ?_
        refine x_iloadn (q := 175) 1 rfl rfl dX11_item_174 rfl ?_
        refine x_iadd (q := 176) dX11_item_175 rfl ?_
        refine x_iloadn (q := 177) 0 rfl rfl dX11_item_176 rfl ?_
        obtain ⟨⟨s166, s167⟩, H⟩ := H
        obtain ⟨s169, H⟩ := H
        refine x_iast (q := 178) dX11_item_177 rfl sh_72 s166 s167 s169 (fun m168 em168 => ?_)
        have H := H m168 em168
        refine x_goto (tgt := 334) dX11_item_178 (by decide) ?_
        exact x_vret rfl dX11_item_334 H
  · have H := H2 (hB)
    refine x_aloadn (q := 10) 0 rfl rfl rfl dX11_item_9 rfl ?_
    refine x_aloadn (q := 11) 0 rfl rfl rfl dX11_item_10 rfl ?_
    refine x_getr (q := 14) dX11_item_11 rfl fa_X11_9 sh_71 rfl ?_
    refine x_iconst (q := 15) dX11_item_14 rfl ?_
    refine x_iald (q := 16) dX11_item_15 rfl sh_72 (by decide) (by decide) (fun r170 => ?_)
    refine x_bipush (q := 18) rfl dX11_item_16 rfl ?_
    obtain ⟨H1, H2⟩ := H
    refine x_icmp_ne (tgt := 25) (q := 21) dX11_item_18 (by decide) rfl r170 (by decide) (fun hB => ?_) (fun hB => ?_)
    · have H := H1 (hB)
      refine x_iconst (q := 26) dX11_item_25 rfl ?_
      refine x_putz (q := 29) (ji := 8) dX11_item_26 rfl fp_X11_142 sh_71 rfl rfl (by decide) (fun m173 em173 => ?_)
      have H := H m173 em173
      refine x_aloadn (q := 30) 0 rfl rfl rfl dX11_item_29 rfl ?_
      refine x_ldcS (q := 32) (t := 18) (by decide) ⟨by decide +kernel, by decide +kernel⟩ dX11_item_30 rfl ?_
      refine x_callV (q := 35) (d := d - 1) (as := [vS 18]) (st := []) dX11_item_32 rfl mv_X11_166 sh_71 rfl rfl rfl (by exact Nat.le_of_ble_eq_true rfl) ⟨by show _ ≤ d; omega, by show _ ≤ 40 * d; omega⟩ ⟨Nat.le_refl _, Nat.le_refl _⟩ (Ct.mono H (fun r9 m174 H => ?_))
      obtain ⟨z175, rfl, H⟩ := H
      show E_X11_item G d 35 [(0, vR 71)] [vI z175] m174 Q
      refine x_istoren (q := 36) (ls' := [(1, vI z175), (0, vR 71)]) rfl (by decide) rfl dX11_item_35 rfl ?_
      refine x_iconst (q := 37) dX11_item_36 rfl ?_
      refine x_istoren (q := 38) (ls' := [(2, vI 0), (1, vI z175), (0, vR 71)]) rfl (by decide) rfl dX11_item_37 rfl ?_
      refine x_sub [2, 0] rfl ?_
      exact H
    · have H := H2 (hB)
      refine x_iconst (q := 22) dX11_item_21 rfl ?_
      refine x_goto (tgt := 26) dX11_item_22 (by decide) ?_
      refine x_putz (q := 29) (ji := 8) dX11_item_26 rfl fp_X11_142 sh_71 rfl rfl (by decide) (fun m176 em176 => ?_)
      have H := H m176 em176
      refine x_aloadn (q := 30) 0 rfl rfl rfl dX11_item_29 rfl ?_
      refine x_ldcS (q := 32) (t := 18) (by decide) ⟨by decide +kernel, by decide +kernel⟩ dX11_item_30 rfl ?_
      refine x_callV (q := 35) (d := d - 1) (as := [vS 18]) (st := []) dX11_item_32 rfl mv_X11_166 sh_71 rfl rfl rfl (by exact Nat.le_of_ble_eq_true rfl) ⟨by show _ ≤ d; omega, by show _ ≤ 40 * d; omega⟩ ⟨Nat.le_refl _, Nat.le_refl _⟩ (Ct.mono H (fun r9 m177 H => ?_))
      obtain ⟨z178, rfl, H⟩ := H
      show E_X11_item G d 35 [(0, vR 71)] [vI z178] m177 Q
      refine x_istoren (q := 36) (ls' := [(1, vI z178), (0, vR 71)]) rfl (by decide) rfl dX11_item_35 rfl ?_
      refine x_iconst (q := 37) dX11_item_36 rfl ?_
      refine x_istoren (q := 38) (ls' := [(2, vI 0), (1, vI z178), (0, vR 71)]) rfl (by decide) rfl dX11_item_37 rfl ?_
      refine x_sub [2, 0] rfl ?_
      exact H
set_option maxRecDepth 20000 in
set_option maxHeartbeats 4000000 in
theorem B_X11_item_38 {G : GT} {d : Nat} {l2 : Int} {mem : Mem} {Q : Option AV → Mem → Prop} (hd : 1 ≤ d) (H : (inr l2) ∧ (((5 < l2) → (((mem 71 8 ≠ 0) → (∀ m185 : Mem, m185 = upM mem 71 8 1 → (C_X11_number G (d - 1) [vR 71, vI 1, vI 99] m185 (fun r9 m186 => ∃ z187 : Int, r9 = some (vI z187) ∧ (C_X11_number G (d - 1) [vR 71, vI 1, vI 9] m186 (fun r9 m188 => ∃ z189 : Int, r9 = some (vI z189) ∧ (((m188 71 8 ≠ 0) → (Q none m188)) ∧ (¬ (m188 71 8 ≠ 0) → ((inr z187 ∧ inr z189) ∧ ((0 ≤ m188 72 0 ∧ m188 72 0 < 12) ∧ (∀ m197 : Mem, m197 = mkM m188 l2 z187 z189 → (Q none m197)))))))))))) ∧ (¬ (mem 71 8 ≠ 0) → (((l2 ≤ 5) → (∀ m200 : Mem, m200 = upM mem 71 8 0 → (C_X11_number G (d - 1) [vR 71, vI 1, vI 99] m200 (fun r9 m201 => ∃ z202 : Int, r9 = some (vI z202) ∧ (C_X11_number G (d - 1) [vR 71, vI 1, vI 9] m201 (fun r9 m203 => ∃ z204 : Int, r9 = some (vI z204) ∧ (((m203 71 8 ≠ 0) → (Q none m203)) ∧ (¬ (m203 71 8 ≠ 0) → ((inr z202 ∧ inr z204) ∧ ((0 ≤ m203 72 0 ∧ m203 72 0 < 12) ∧ (∀ m212 : Mem, m212 = mkM m203 l2 z202 z204 → (Q none m212)))))))))))) ∧ (¬ (l2 ≤ 5) → (∀ m213 : Mem, m213 = upM mem 71 8 1 → (C_X11_number G (d - 1) [vR 71, vI 1, vI 99] m213 (fun r9 m214 => ∃ z215 : Int, r9 = some (vI z215) ∧ (C_X11_number G (d - 1) [vR 71, vI 1, vI 9] m214 (fun r9 m216 => ∃ z217 : Int, r9 = some (vI z217) ∧ (((m216 71 8 ≠ 0) → (Q none m216)) ∧ (¬ (m216 71 8 ≠ 0) → ((inr z215 ∧ inr z217) ∧ ((0 ≤ m216 72 0 ∧ m216 72 0 < 12) ∧ (∀ m225 : Mem, m225 = mkM m216 l2 z215 z217 → (Q none m225)))))))))))))))) ∧ (¬ (5 < l2) → ((0 ≤ l2 ∧ l2 < 6) ∧ (C_X11_takes G (d - 1) [vR 71, vS (strK (l2).toNat)] mem (fun r9 m228 => ∃ z229 : Int, r9 = some (vI z229) ∧ ((inr z229) ∧ (((z229 ≠ 0) → (((m228 71 8 ≠ 0) → (∀ m236 : Mem, m236 = upM m228 71 8 1 → (C_X11_number G (d - 1) [vR 71, vI 1, vI 99] m236 (fun r9 m237 => ∃ z238 : Int, r9 = some (vI z238) ∧ (C_X11_number G (d - 1) [vR 71, vI 1, vI 9] m237 (fun r9 m239 => ∃ z240 : Int, r9 = some (vI z240) ∧ (((m239 71 8 ≠ 0) → (Q none m239)) ∧ (¬ (m239 71 8 ≠ 0) → ((inr z238 ∧ inr z240) ∧ ((0 ≤ m239 72 0 ∧ m239 72 0 < 12) ∧ (∀ m248 : Mem, m248 = mkM m239 l2 z238 z240 → (Q none m248)))))))))))) ∧ (¬ (m228 71 8 ≠ 0) → (((l2 ≤ 5) → (∀ m251 : Mem, m251 = upM m228 71 8 0 → (C_X11_number G (d - 1) [vR 71, vI 1, vI 99] m251 (fun r9 m252 => ∃ z253 : Int, r9 = some (vI z253) ∧ (C_X11_number G (d - 1) [vR 71, vI 1, vI 9] m252 (fun r9 m254 => ∃ z255 : Int, r9 = some (vI z255) ∧ (((m254 71 8 ≠ 0) → (Q none m254)) ∧ (¬ (m254 71 8 ≠ 0) → ((inr z253 ∧ inr z255) ∧ ((0 ≤ m254 72 0 ∧ m254 72 0 < 12) ∧ (∀ m263 : Mem, m263 = mkM m254 l2 z253 z255 → (Q none m263)))))))))))) ∧ (¬ (l2 ≤ 5) → (∀ m264 : Mem, m264 = upM m228 71 8 1 → (C_X11_number G (d - 1) [vR 71, vI 1, vI 99] m264 (fun r9 m265 => ∃ z266 : Int, r9 = some (vI z266) ∧ (C_X11_number G (d - 1) [vR 71, vI 1, vI 9] m265 (fun r9 m267 => ∃ z268 : Int, r9 = some (vI z268) ∧ (((m267 71 8 ≠ 0) → (Q none m267)) ∧ (¬ (m267 71 8 ≠ 0) → ((inr z266 ∧ inr z268) ∧ ((0 ≤ m267 72 0 ∧ m267 72 0 < 12) ∧ (∀ m276 : Mem, m276 = mkM m267 l2 z266 z268 → (Q none m276)))))))))))))))) ∧ (¬ (z229 ≠ 0) → (E_X11_item G d 38 [(0, vR 71), (2, vI (l2 + 1))] [] m228 Q)))))))))) : E_X11_item G d 38 [(0, vR 71), (2, vI l2)] [] mem Q := by
  refine x_iloadn (q := 39) 1 rfl rfl dX11_item_38 rfl ?_
  refine x_iconst (q := 40) dX11_item_39 rfl ?_
  obtain ⟨s179, H⟩ := H
  obtain ⟨H1, H2⟩ := H
  refine x_icmp_gt (tgt := 62) (q := 43) dX11_item_40 (by decide) rfl s179 (by decide) (fun hB => ?_) (fun hB => ?_)
  · have H := H1 (hB)
    refine x_aloadn (q := 63) 0 rfl rfl rfl dX11_item_62 rfl ?_
    refine x_aloadn (q := 64) 0 rfl rfl rfl dX11_item_63 rfl ?_
    refine x_geti (q := 67) (ji := 8) dX11_item_64 rfl fa_X11_142 sh_71 rfl rfl (fun r182 => ?_)
    obtain ⟨H1, H2⟩ := H
    refine x_if_ne (tgt := 75) (q := 70) dX11_item_67 (by decide) rfl r182 (fun hB => ?_) (fun hB => ?_)
    · have H := H1 (hB)
      refine x_iconst (q := 76) dX11_item_75 rfl ?_
      refine x_goto (tgt := 80) dX11_item_76 (by decide) ?_
      refine x_putz (q := 83) (ji := 8) dX11_item_80 rfl fp_X11_142 sh_71 rfl rfl (by decide) (fun m185 em185 => ?_)
      have H := H m185 em185
      refine x_aloadn (q := 84) 0 rfl rfl rfl dX11_item_83 rfl ?_
      refine x_iconst (q := 85) dX11_item_84 rfl ?_
      refine x_bipush (q := 87) rfl dX11_item_85 rfl ?_
      refine x_callV (q := 90) (d := d - 1) (as := [vI 1, vI 99]) (st := []) dX11_item_87 rfl mv_X11_161 sh_71 rfl rfl rfl (by exact Nat.le_of_ble_eq_true rfl) ⟨by show _ ≤ d; omega, by show _ ≤ 40 * d; omega⟩ ⟨Nat.le_refl _, Nat.le_refl _⟩ (Ct.mono H (fun r9 m186 H => ?_))
      obtain ⟨z187, rfl, H⟩ := H
      show E_X11_item G d 90 [(0, vR 71), (2, vI l2)] [vI z187] m186 Q
      refine x_istoren (q := 91) (ls' := [(3, vI z187), (0, vR 71), (2, vI l2)]) rfl (by decide) rfl dX11_item_90 rfl ?_
      refine x_aloadn (q := 92) 1 rfl rfl rfl dX11_item_91 rfl ?_
      refine x_iconst (q := 93) dX11_item_92 rfl ?_
      refine x_bipush (q := 95) rfl dX11_item_93 rfl ?_
      refine x_callV (q := 98) (d := d - 1) (as := [vI 1, vI 9]) (st := []) dX11_item_95 rfl mv_X11_161 sh_71 rfl rfl rfl (by exact Nat.le_of_ble_eq_true rfl) ⟨by show _ ≤ d; omega, by show _ ≤ 40 * d; omega⟩ ⟨Nat.le_refl _, Nat.le_refl _⟩ (Ct.mono H (fun r9 m188 H => ?_))
      obtain ⟨z189, rfl, H⟩ := H
      show E_X11_item G d 98 [(3, vI z187), (0, vR 71), (2, vI l2)] [vI z189] m188 Q
      refine x_istore (q := 100) (ls' := [(4, vI z189), (3, vI z187), (0, vR 71), (2, vI l2)]) (by decide) rfl dX11_item_98 rfl ?_
      refine x_aloadn (q := 101) 2 rfl rfl rfl dX11_item_100 rfl ?_
      refine x_geti (q := 104) (ji := 8) dX11_item_101 rfl fa_X11_142 sh_71 rfl rfl (fun r190 => ?_)
      obtain ⟨H1, H2⟩ := H
      refine x_if_ne (tgt := 115) (q := 107) dX11_item_104 (by decide) rfl r190 (fun hB => ?_) (fun hB => ?_)
      · have H := H1 (hB)
        refine x_goto (tgt := 334) dX11_item_115 (by decide) ?_
        exact x_vret rfl dX11_item_334 H
      · have H := H2 (hB)
        refine x_aloadn (q := 108) 2 rfl rfl rfl dX11_item_107 rfl ?_
        refine x_iloadn (q := 109) 3 rfl rfl dX11_item_108 rfl ?_
        refine x_iloadn (q := 110) 1 rfl rfl dX11_item_109 rfl ?_
        refine x_iload (q := 112) 0 rfl dX11_item_110 rfl ?_
        obtain ⟨⟨s193, s194⟩, H⟩ := H
        obtain ⟨⟨s195, s196⟩, H⟩ := H
        obtain ⟨m197, em197⟩ : ∃ m9 : Mem, m9 = mkM m188 l2 z187 z189 := ⟨_, rfl⟩
        have H := H m197 em197
        refine x_callV (q := 115) (d := d - 1) (as := [vI l2, vI z187, vI z189]) (st := []) dX11_item_112 rfl mv_X11_93 sh_71 rfl rfl rfl (by exact Nat.le_of_ble_eq_true rfl) ⟨by show _ ≤ d; omega, by show _ ≤ 40 * d; omega⟩ ⟨Nat.le_refl _, Nat.le_refl _⟩ (ct_makes s195 s196 s179 s193 s194 ?_)
        rw [← em197]
        show E_X11_item G d 115 [(4, vI z189), (3, vI z187), (0, vR 71), (2, vI l2)] [] m197 Q
        refine x_goto (tgt := 334) dX11_item_115 (by decide) ?_
        exact x_vret rfl dX11_item_334 H
    · have H := H2 (hB)
      refine x_iloadn (q := 71) 1 rfl rfl dX11_item_70 rfl ?_
      refine x_iconst (q := 72) dX11_item_71 rfl ?_
      obtain ⟨H1, H2⟩ := H
      refine x_icmp_le (tgt := 79) (q := 75) dX11_item_72 (by decide) rfl s179 (by decide) (fun hB => ?_) (fun hB => ?_)
      · have H := H1 (hB)
        refine x_iconst (q := 80) dX11_item_79 rfl ?_
        refine x_putz (q := 83) (ji := 8) dX11_item_80 rfl fp_X11_142 sh_71 rfl rfl (by decide) (fun m200 em200 => ?_)
        have H := H m200 em200
        refine x_aloadn (q := 84) 0 rfl rfl rfl dX11_item_83 rfl ?_
        refine x_iconst (q := 85) dX11_item_84 rfl ?_
        refine x_bipush (q := 87) rfl dX11_item_85 rfl ?_
        refine x_callV (q := 90) (d := d - 1) (as := [vI 1, vI 99]) (st := []) dX11_item_87 rfl mv_X11_161 sh_71 rfl rfl rfl (by exact Nat.le_of_ble_eq_true rfl) ⟨by show _ ≤ d; omega, by show _ ≤ 40 * d; omega⟩ ⟨Nat.le_refl _, Nat.le_refl _⟩ (Ct.mono H (fun r9 m201 H => ?_))
        obtain ⟨z202, rfl, H⟩ := H
        show E_X11_item G d 90 [(0, vR 71), (2, vI l2)] [vI z202] m201 Q
        refine x_istoren (q := 91) (ls' := [(3, vI z202), (0, vR 71), (2, vI l2)]) rfl (by decide) rfl dX11_item_90 rfl ?_
        refine x_aloadn (q := 92) 1 rfl rfl rfl dX11_item_91 rfl ?_
        refine x_iconst (q := 93) dX11_item_92 rfl ?_
        refine x_bipush (q := 95) rfl dX11_item_93 rfl ?_
        refine x_callV (q := 98) (d := d - 1) (as := [vI 1, vI 9]) (st := []) dX11_item_95 rfl mv_X11_161 sh_71 rfl rfl rfl (by exact Nat.le_of_ble_eq_true rfl) ⟨by show _ ≤ d; omega, by show _ ≤ 40 * d; omega⟩ ⟨Nat.le_refl _, Nat.le_refl _⟩ (Ct.mono H (fun r9 m203 H => ?_))
        obtain ⟨z204, rfl, H⟩ := H
        show E_X11_item G d 98 [(3, vI z202), (0, vR 71), (2, vI l2)] [vI z204] m203 Q
        refine x_istore (q := 100) (ls' := [(4, vI z204), (3, vI z202), (0, vR 71), (2, vI l2)]) (by decide) rfl dX11_item_98 rfl ?_
        refine x_aloadn (q := 101) 2 rfl rfl rfl dX11_item_100 rfl ?_
        refine x_geti (q := 104) (ji := 8) dX11_item_101 rfl fa_X11_142 sh_71 rfl rfl (fun r205 => ?_)
        obtain ⟨H1, H2⟩ := H
        refine x_if_ne (tgt := 115) (q := 107) dX11_item_104 (by decide) rfl r205 (fun hB => ?_) (fun hB => ?_)
        · have H := H1 (hB)
          refine x_goto (tgt := 334) dX11_item_115 (by decide) ?_
          exact x_vret rfl dX11_item_334 H
        · have H := H2 (hB)
          refine x_aloadn (q := 108) 2 rfl rfl rfl dX11_item_107 rfl ?_
          refine x_iloadn (q := 109) 3 rfl rfl dX11_item_108 rfl ?_
          refine x_iloadn (q := 110) 1 rfl rfl dX11_item_109 rfl ?_
          refine x_iload (q := 112) 0 rfl dX11_item_110 rfl ?_
          obtain ⟨⟨s208, s209⟩, H⟩ := H
          obtain ⟨⟨s210, s211⟩, H⟩ := H
          obtain ⟨m212, em212⟩ : ∃ m9 : Mem, m9 = mkM m203 l2 z202 z204 := ⟨_, rfl⟩
          have H := H m212 em212
          refine x_callV (q := 115) (d := d - 1) (as := [vI l2, vI z202, vI z204]) (st := []) dX11_item_112 rfl mv_X11_93 sh_71 rfl rfl rfl (by exact Nat.le_of_ble_eq_true rfl) ⟨by show _ ≤ d; omega, by show _ ≤ 40 * d; omega⟩ ⟨Nat.le_refl _, Nat.le_refl _⟩ (ct_makes s210 s211 s179 s208 s209 ?_)
          rw [← em212]
          show E_X11_item G d 115 [(4, vI z204), (3, vI z202), (0, vR 71), (2, vI l2)] [] m212 Q
          refine x_goto (tgt := 334) dX11_item_115 (by decide) ?_
          exact x_vret rfl dX11_item_334 H
      · have H := H2 (hB)
        refine x_iconst (q := 76) dX11_item_75 rfl ?_
        refine x_goto (tgt := 80) dX11_item_76 (by decide) ?_
        refine x_putz (q := 83) (ji := 8) dX11_item_80 rfl fp_X11_142 sh_71 rfl rfl (by decide) (fun m213 em213 => ?_)
        have H := H m213 em213
        refine x_aloadn (q := 84) 0 rfl rfl rfl dX11_item_83 rfl ?_
        refine x_iconst (q := 85) dX11_item_84 rfl ?_
        refine x_bipush (q := 87) rfl dX11_item_85 rfl ?_
        refine x_callV (q := 90) (d := d - 1) (as := [vI 1, vI 99]) (st := []) dX11_item_87 rfl mv_X11_161 sh_71 rfl rfl rfl (by exact Nat.le_of_ble_eq_true rfl) ⟨by show _ ≤ d; omega, by show _ ≤ 40 * d; omega⟩ ⟨Nat.le_refl _, Nat.le_refl _⟩ (Ct.mono H (fun r9 m214 H => ?_))
        obtain ⟨z215, rfl, H⟩ := H
        show E_X11_item G d 90 [(0, vR 71), (2, vI l2)] [vI z215] m214 Q
        refine x_istoren (q := 91) (ls' := [(3, vI z215), (0, vR 71), (2, vI l2)]) rfl (by decide) rfl dX11_item_90 rfl ?_
        refine x_aloadn (q := 92) 1 rfl rfl rfl dX11_item_91 rfl ?_
        refine x_iconst (q := 93) dX11_item_92 rfl ?_
        refine x_bipush (q := 95) rfl dX11_item_93 rfl ?_
        refine x_callV (q := 98) (d := d - 1) (as := [vI 1, vI 9]) (st := []) dX11_item_95 rfl mv_X11_161 sh_71 rfl rfl rfl (by exact Nat.le_of_ble_eq_true rfl) ⟨by show _ ≤ d; omega, by show _ ≤ 40 * d; omega⟩ ⟨Nat.le_refl _, Nat.le_refl _⟩ (Ct.mono H (fun r9 m216 H => ?_))
        obtain ⟨z217, rfl, H⟩ := H
        show E_X11_item G d 98 [(3, vI z215), (0, vR 71), (2, vI l2)] [vI z217] m216 Q
        refine x_istore (q := 100) (ls' := [(4, vI z217), (3, vI z215), (0, vR 71), (2, vI l2)]) (by decide) rfl dX11_item_98 rfl ?_
        refine x_aloadn (q := 101) 2 rfl rfl rfl dX11_item_100 rfl ?_
        refine x_geti (q := 104) (ji := 8) dX11_item_101 rfl fa_X11_142 sh_71 rfl rfl (fun r218 => ?_)
        obtain ⟨H1, H2⟩ := H
        refine x_if_ne (tgt := 115) (q := 107) dX11_item_104 (by decide) rfl r218 (fun hB => ?_) (fun hB => ?_)
        · have H := H1 (hB)
          refine x_goto (tgt := 334) dX11_item_115 (by decide) ?_
          exact x_vret rfl dX11_item_334 H
        · have H := H2 (hB)
          refine x_aloadn (q := 108) 2 rfl rfl rfl dX11_item_107 rfl ?_
          refine x_iloadn (q := 109) 3 rfl rfl dX11_item_108 rfl ?_
          refine x_iloadn (q := 110) 1 rfl rfl dX11_item_109 rfl ?_
          refine x_iload (q := 112) 0 rfl dX11_item_110 rfl ?_
          obtain ⟨⟨s221, s222⟩, H⟩ := H
          obtain ⟨⟨s223, s224⟩, H⟩ := H
          obtain ⟨m225, em225⟩ : ∃ m9 : Mem, m9 = mkM m216 l2 z215 z217 := ⟨_, rfl⟩
          have H := H m225 em225
          refine x_callV (q := 115) (d := d - 1) (as := [vI l2, vI z215, vI z217]) (st := []) dX11_item_112 rfl mv_X11_93 sh_71 rfl rfl rfl (by exact Nat.le_of_ble_eq_true rfl) ⟨by show _ ≤ d; omega, by show _ ≤ 40 * d; omega⟩ ⟨Nat.le_refl _, Nat.le_refl _⟩ (ct_makes s223 s224 s179 s221 s222 ?_)
          rw [← em225]
          show E_X11_item G d 115 [(4, vI z217), (3, vI z215), (0, vR 71), (2, vI l2)] [] m225 Q
          refine x_goto (tgt := 334) dX11_item_115 (by decide) ?_
          exact x_vret rfl dX11_item_334 H
  · have H := H2 (hB)
    refine x_aloadn (q := 44) 0 rfl rfl rfl dX11_item_43 rfl ?_
    refine x_aloadn (q := 45) 0 rfl rfl rfl dX11_item_44 rfl ?_
    refine x_getr (q := 48) dX11_item_45 rfl fa_X11_36 sh_71 rfl ?_
    refine x_iloadn (q := 49) 1 rfl rfl dX11_item_48 rfl ?_
    obtain ⟨⟨s226, s227⟩, H⟩ := H
    refine x_aldK (q := 50) dX11_item_49 rfl sh_76 s226 s227 ?_
    refine x_callV (q := 53) (d := d - 1) (as := [vS (strK (l2).toNat)]) (st := []) dX11_item_50 rfl mv_X11_166 sh_71 rfl rfl rfl (by exact Nat.le_of_ble_eq_true rfl) ⟨by show _ ≤ d; omega, by show _ ≤ 40 * d; omega⟩ ⟨Nat.le_refl _, Nat.le_refl _⟩ (Ct.mono H (fun r9 m228 H => ?_))
    obtain ⟨z229, rfl, H⟩ := H
    show E_X11_item G d 53 [(0, vR 71), (2, vI l2)] [vI z229] m228 Q
    obtain ⟨s230, H⟩ := H
    obtain ⟨H1, H2⟩ := H
    refine x_if_ne (tgt := 62) (q := 56) dX11_item_53 (by decide) rfl s230 (fun hB => ?_) (fun hB => ?_)
    · have H := H1 (hB)
      refine x_aloadn (q := 63) 0 rfl rfl rfl dX11_item_62 rfl ?_
      refine x_aloadn (q := 64) 0 rfl rfl rfl dX11_item_63 rfl ?_
      refine x_geti (q := 67) (ji := 8) dX11_item_64 rfl fa_X11_142 sh_71 rfl rfl (fun r233 => ?_)
      obtain ⟨H1, H2⟩ := H
      refine x_if_ne (tgt := 75) (q := 70) dX11_item_67 (by decide) rfl r233 (fun hB => ?_) (fun hB => ?_)
      · have H := H1 (hB)
        refine x_iconst (q := 76) dX11_item_75 rfl ?_
        refine x_goto (tgt := 80) dX11_item_76 (by decide) ?_
        refine x_putz (q := 83) (ji := 8) dX11_item_80 rfl fp_X11_142 sh_71 rfl rfl (by decide) (fun m236 em236 => ?_)
        have H := H m236 em236
        refine x_aloadn (q := 84) 0 rfl rfl rfl dX11_item_83 rfl ?_
        refine x_iconst (q := 85) dX11_item_84 rfl ?_
        refine x_bipush (q := 87) rfl dX11_item_85 rfl ?_
        refine x_callV (q := 90) (d := d - 1) (as := [vI 1, vI 99]) (st := []) dX11_item_87 rfl mv_X11_161 sh_71 rfl rfl rfl (by exact Nat.le_of_ble_eq_true rfl) ⟨by show _ ≤ d; omega, by show _ ≤ 40 * d; omega⟩ ⟨Nat.le_refl _, Nat.le_refl _⟩ (Ct.mono H (fun r9 m237 H => ?_))
        obtain ⟨z238, rfl, H⟩ := H
        show E_X11_item G d 90 [(0, vR 71), (2, vI l2)] [vI z238] m237 Q
        refine x_istoren (q := 91) (ls' := [(3, vI z238), (0, vR 71), (2, vI l2)]) rfl (by decide) rfl dX11_item_90 rfl ?_
        refine x_aloadn (q := 92) 1 rfl rfl rfl dX11_item_91 rfl ?_
        refine x_iconst (q := 93) dX11_item_92 rfl ?_
        refine x_bipush (q := 95) rfl dX11_item_93 rfl ?_
        refine x_callV (q := 98) (d := d - 1) (as := [vI 1, vI 9]) (st := []) dX11_item_95 rfl mv_X11_161 sh_71 rfl rfl rfl (by exact Nat.le_of_ble_eq_true rfl) ⟨by show _ ≤ d; omega, by show _ ≤ 40 * d; omega⟩ ⟨Nat.le_refl _, Nat.le_refl _⟩ (Ct.mono H (fun r9 m239 H => ?_))
        obtain ⟨z240, rfl, H⟩ := H
        show E_X11_item G d 98 [(3, vI z238), (0, vR 71), (2, vI l2)] [vI z240] m239 Q
        refine x_istore (q := 100) (ls' := [(4, vI z240), (3, vI z238), (0, vR 71), (2, vI l2)]) (by decide) rfl dX11_item_98 rfl ?_
        refine x_aloadn (q := 101) 2 rfl rfl rfl dX11_item_100 rfl ?_
        refine x_geti (q := 104) (ji := 8) dX11_item_101 rfl fa_X11_142 sh_71 rfl rfl (fun r241 => ?_)
        obtain ⟨H1, H2⟩ := H
        refine x_if_ne (tgt := 115) (q := 107) dX11_item_104 (by decide) rfl r241 (fun hB => ?_) (fun hB => ?_)
        · have H := H1 (hB)
          refine x_goto (tgt := 334) dX11_item_115 (by decide) ?_
          exact x_vret rfl dX11_item_334 H
        · have H := H2 (hB)
          refine x_aloadn (q := 108) 2 rfl rfl rfl dX11_item_107 rfl ?_
          refine x_iloadn (q := 109) 3 rfl rfl dX11_item_108 rfl ?_
          refine x_iloadn (q := 110) 1 rfl rfl dX11_item_109 rfl ?_
          refine x_iload (q := 112) 0 rfl dX11_item_110 rfl ?_
          obtain ⟨⟨s244, s245⟩, H⟩ := H
          obtain ⟨⟨s246, s247⟩, H⟩ := H
          obtain ⟨m248, em248⟩ : ∃ m9 : Mem, m9 = mkM m239 l2 z238 z240 := ⟨_, rfl⟩
          have H := H m248 em248
          refine x_callV (q := 115) (d := d - 1) (as := [vI l2, vI z238, vI z240]) (st := []) dX11_item_112 rfl mv_X11_93 sh_71 rfl rfl rfl (by exact Nat.le_of_ble_eq_true rfl) ⟨by show _ ≤ d; omega, by show _ ≤ 40 * d; omega⟩ ⟨Nat.le_refl _, Nat.le_refl _⟩ (ct_makes s246 s247 s179 s244 s245 ?_)
          rw [← em248]
          show E_X11_item G d 115 [(4, vI z240), (3, vI z238), (0, vR 71), (2, vI l2)] [] m248 Q
          refine x_goto (tgt := 334) dX11_item_115 (by decide) ?_
          exact x_vret rfl dX11_item_334 H
      · have H := H2 (hB)
        refine x_iloadn (q := 71) 1 rfl rfl dX11_item_70 rfl ?_
        refine x_iconst (q := 72) dX11_item_71 rfl ?_
        obtain ⟨H1, H2⟩ := H
        refine x_icmp_le (tgt := 79) (q := 75) dX11_item_72 (by decide) rfl s179 (by decide) (fun hB => ?_) (fun hB => ?_)
        · have H := H1 (hB)
          refine x_iconst (q := 80) dX11_item_79 rfl ?_
          refine x_putz (q := 83) (ji := 8) dX11_item_80 rfl fp_X11_142 sh_71 rfl rfl (by decide) (fun m251 em251 => ?_)
          have H := H m251 em251
          refine x_aloadn (q := 84) 0 rfl rfl rfl dX11_item_83 rfl ?_
          refine x_iconst (q := 85) dX11_item_84 rfl ?_
          refine x_bipush (q := 87) rfl dX11_item_85 rfl ?_
          refine x_callV (q := 90) (d := d - 1) (as := [vI 1, vI 99]) (st := []) dX11_item_87 rfl mv_X11_161 sh_71 rfl rfl rfl (by exact Nat.le_of_ble_eq_true rfl) ⟨by show _ ≤ d; omega, by show _ ≤ 40 * d; omega⟩ ⟨Nat.le_refl _, Nat.le_refl _⟩ (Ct.mono H (fun r9 m252 H => ?_))
          obtain ⟨z253, rfl, H⟩ := H
          show E_X11_item G d 90 [(0, vR 71), (2, vI l2)] [vI z253] m252 Q
          refine x_istoren (q := 91) (ls' := [(3, vI z253), (0, vR 71), (2, vI l2)]) rfl (by decide) rfl dX11_item_90 rfl ?_
          refine x_aloadn (q := 92) 1 rfl rfl rfl dX11_item_91 rfl ?_
          refine x_iconst (q := 93) dX11_item_92 rfl ?_
          refine x_bipush (q := 95) rfl dX11_item_93 rfl ?_
          refine x_callV (q := 98) (d := d - 1) (as := [vI 1, vI 9]) (st := []) dX11_item_95 rfl mv_X11_161 sh_71 rfl rfl rfl (by exact Nat.le_of_ble_eq_true rfl) ⟨by show _ ≤ d; omega, by show _ ≤ 40 * d; omega⟩ ⟨Nat.le_refl _, Nat.le_refl _⟩ (Ct.mono H (fun r9 m254 H => ?_))
          obtain ⟨z255, rfl, H⟩ := H
          show E_X11_item G d 98 [(3, vI z253), (0, vR 71), (2, vI l2)] [vI z255] m254 Q
          refine x_istore (q := 100) (ls' := [(4, vI z255), (3, vI z253), (0, vR 71), (2, vI l2)]) (by decide) rfl dX11_item_98 rfl ?_
          refine x_aloadn (q := 101) 2 rfl rfl rfl dX11_item_100 rfl ?_
          refine x_geti (q := 104) (ji := 8) dX11_item_101 rfl fa_X11_142 sh_71 rfl rfl (fun r256 => ?_)
          obtain ⟨H1, H2⟩ := H
          refine x_if_ne (tgt := 115) (q := 107) dX11_item_104 (by decide) rfl r256 (fun hB => ?_) (fun hB => ?_)
          · have H := H1 (hB)
            refine x_goto (tgt := 334) dX11_item_115 (by decide) ?_
            exact x_vret rfl dX11_item_334 H
          · have H := H2 (hB)
            refine x_aloadn (q := 108) 2 rfl rfl rfl dX11_item_107 rfl ?_
            refine x_iloadn (q := 109) 3 rfl rfl dX11_item_108 rfl ?_
            refine x_iloadn (q := 110) 1 rfl rfl dX11_item_109 rfl ?_
            refine x_iload (q := 112) 0 rfl dX11_item_110 rfl ?_
            obtain ⟨⟨s259, s260⟩, H⟩ := H
            obtain ⟨⟨s261, s262⟩, H⟩ := H
            obtain ⟨m263, em263⟩ : ∃ m9 : Mem, m9 = mkM m254 l2 z253 z255 := ⟨_, rfl⟩
            have H := H m263 em263
            refine x_callV (q := 115) (d := d - 1) (as := [vI l2, vI z253, vI z255]) (st := []) dX11_item_112 rfl mv_X11_93 sh_71 rfl rfl rfl (by exact Nat.le_of_ble_eq_true rfl) ⟨by show _ ≤ d; omega, by show _ ≤ 40 * d; omega⟩ ⟨Nat.le_refl _, Nat.le_refl _⟩ (ct_makes s261 s262 s179 s259 s260 ?_)
            rw [← em263]
            show E_X11_item G d 115 [(4, vI z255), (3, vI z253), (0, vR 71), (2, vI l2)] [] m263 Q
            refine x_goto (tgt := 334) dX11_item_115 (by decide) ?_
            exact x_vret rfl dX11_item_334 H
        · have H := H2 (hB)
          refine x_iconst (q := 76) dX11_item_75 rfl ?_
          refine x_goto (tgt := 80) dX11_item_76 (by decide) ?_
          refine x_putz (q := 83) (ji := 8) dX11_item_80 rfl fp_X11_142 sh_71 rfl rfl (by decide) (fun m264 em264 => ?_)
          have H := H m264 em264
          refine x_aloadn (q := 84) 0 rfl rfl rfl dX11_item_83 rfl ?_
          refine x_iconst (q := 85) dX11_item_84 rfl ?_
          refine x_bipush (q := 87) rfl dX11_item_85 rfl ?_
          refine x_callV (q := 90) (d := d - 1) (as := [vI 1, vI 99]) (st := []) dX11_item_87 rfl mv_X11_161 sh_71 rfl rfl rfl (by exact Nat.le_of_ble_eq_true rfl) ⟨by show _ ≤ d; omega, by show _ ≤ 40 * d; omega⟩ ⟨Nat.le_refl _, Nat.le_refl _⟩ (Ct.mono H (fun r9 m265 H => ?_))
          obtain ⟨z266, rfl, H⟩ := H
          show E_X11_item G d 90 [(0, vR 71), (2, vI l2)] [vI z266] m265 Q
          refine x_istoren (q := 91) (ls' := [(3, vI z266), (0, vR 71), (2, vI l2)]) rfl (by decide) rfl dX11_item_90 rfl ?_
          refine x_aloadn (q := 92) 1 rfl rfl rfl dX11_item_91 rfl ?_
          refine x_iconst (q := 93) dX11_item_92 rfl ?_
          refine x_bipush (q := 95) rfl dX11_item_93 rfl ?_
          refine x_callV (q := 98) (d := d - 1) (as := [vI 1, vI 9]) (st := []) dX11_item_95 rfl mv_X11_161 sh_71 rfl rfl rfl (by exact Nat.le_of_ble_eq_true rfl) ⟨by show _ ≤ d; omega, by show _ ≤ 40 * d; omega⟩ ⟨Nat.le_refl _, Nat.le_refl _⟩ (Ct.mono H (fun r9 m267 H => ?_))
          obtain ⟨z268, rfl, H⟩ := H
          show E_X11_item G d 98 [(3, vI z266), (0, vR 71), (2, vI l2)] [vI z268] m267 Q
          refine x_istore (q := 100) (ls' := [(4, vI z268), (3, vI z266), (0, vR 71), (2, vI l2)]) (by decide) rfl dX11_item_98 rfl ?_
          refine x_aloadn (q := 101) 2 rfl rfl rfl dX11_item_100 rfl ?_
          refine x_geti (q := 104) (ji := 8) dX11_item_101 rfl fa_X11_142 sh_71 rfl rfl (fun r269 => ?_)
          obtain ⟨H1, H2⟩ := H
          refine x_if_ne (tgt := 115) (q := 107) dX11_item_104 (by decide) rfl r269 (fun hB => ?_) (fun hB => ?_)
          · have H := H1 (hB)
            refine x_goto (tgt := 334) dX11_item_115 (by decide) ?_
            exact x_vret rfl dX11_item_334 H
          · have H := H2 (hB)
            refine x_aloadn (q := 108) 2 rfl rfl rfl dX11_item_107 rfl ?_
            refine x_iloadn (q := 109) 3 rfl rfl dX11_item_108 rfl ?_
            refine x_iloadn (q := 110) 1 rfl rfl dX11_item_109 rfl ?_
            refine x_iload (q := 112) 0 rfl dX11_item_110 rfl ?_
            obtain ⟨⟨s272, s273⟩, H⟩ := H
            obtain ⟨⟨s274, s275⟩, H⟩ := H
            obtain ⟨m276, em276⟩ : ∃ m9 : Mem, m9 = mkM m267 l2 z266 z268 := ⟨_, rfl⟩
            have H := H m276 em276
            refine x_callV (q := 115) (d := d - 1) (as := [vI l2, vI z266, vI z268]) (st := []) dX11_item_112 rfl mv_X11_93 sh_71 rfl rfl rfl (by exact Nat.le_of_ble_eq_true rfl) ⟨by show _ ≤ d; omega, by show _ ≤ 40 * d; omega⟩ ⟨Nat.le_refl _, Nat.le_refl _⟩ (ct_makes s274 s275 s179 s272 s273 ?_)
            rw [← em276]
            show E_X11_item G d 115 [(4, vI z268), (3, vI z266), (0, vR 71), (2, vI l2)] [] m276 Q
            refine x_goto (tgt := 334) dX11_item_115 (by decide) ?_
            exact x_vret rfl dX11_item_334 H
    · have H := H2 (hB)
      refine x_iinc (q := 59) (ls' := [(2, vI (l2 + 1)), (0, vR 71)]) 1 rfl (by decide) rfl dX11_item_56 rfl ?_
      refine x_goto (tgt := 38) dX11_item_59 (by decide) ?_
      refine x_sub [1, 0] rfl ?_
      exact H
set_option maxRecDepth 20000 in
set_option maxHeartbeats 4000000 in
theorem B_X11_text {G : GT} {d : Nat}  {mem : Mem} {Q : Option AV → Mem → Prop} (hd : 1 ≤ d) (H : ∀ m1 : Mem, m1 = cpM mem 72 74 0 0 553 → (∀ m2 : Mem, m2 = upM m1 71 7 0 → (∀ m3 : Mem, m3 = upM m2 71 8 0 → (C_X11_goOn G (d - 1) [vR 71] m3 (fun r9 m4 => r9 = none ∧ (C_X11_item G (d - 1) [vR 71] m4 (fun r9 m5 => r9 = none ∧ (E_X11_text G d 31 [(0, vR 71), (1, vI 1)] [] m5 Q)))))))) : C_X11_text G d [vR 71] mem Q := by
  refine Ct_of_Ex (by decide +kernel) (by exact Nat.le_of_ble_eq_true rfl) (ls := [(0, vR 71)]) rfl ?_
  show E_X11_text G d 0 [(0, vR 71)] [] mem Q
  refine x_aloadn (q := 1) 0 rfl rfl rfl dX11_text_0 rfl ?_
  refine x_getr (q := 4) dX11_text_1 rfl fa_X11_9 sh_71 rfl ?_
  refine x_aloadn (q := 5) 0 rfl rfl rfl dX11_text_4 rfl ?_
  refine x_getr (q := 8) dX11_text_5 rfl fa_X11_16 sh_71 rfl ?_
  obtain ⟨m1, em1⟩ : ∃ m9 : Mem, m9 = cpM mem 72 74 0 0 553 := ⟨_, rfl⟩
  have H := H m1 em1
  refine x_callS (q := 11) (d := d - 1) (as := [vR 72, vR 74]) (st := []) dX11_text_8 rfl ms_X11_183 rfl rfl (by exact Nat.le_of_ble_eq_true rfl) ⟨by show _ ≤ d; omega, by show _ ≤ 40 * d; omega⟩ ⟨Nat.le_refl _, Nat.le_refl _⟩ (ct_copy (by decide) (by decide) (by decide) ?_)
  rw [← em1]
  show E_X11_text G d 11 [(0, vR 71)] [] m1 Q
  refine x_aloadn (q := 12) 0 rfl rfl rfl dX11_text_11 rfl ?_
  refine x_iconst (q := 13) dX11_text_12 rfl ?_
  refine x_puti (q := 16) (ji := 7) dX11_text_13 rfl fp_X11_132 sh_71 rfl rfl (by decide) (fun m2 em2 => ?_)
  have H := H m2 em2
  refine x_aloadn (q := 17) 0 rfl rfl rfl dX11_text_16 rfl ?_
  refine x_iconst (q := 18) dX11_text_17 rfl ?_
  refine x_putz (q := 21) (ji := 8) dX11_text_18 rfl fp_X11_142 sh_71 rfl rfl (by decide) (fun m3 em3 => ?_)
  have H := H m3 em3
  refine x_aloadn (q := 22) 0 rfl rfl rfl dX11_text_21 rfl ?_
  refine x_callV (q := 25) (d := d - 1) (as := []) (st := []) dX11_text_22 rfl mv_X11_158 sh_71 rfl rfl rfl (by exact Nat.le_of_ble_eq_true rfl) ⟨by show _ ≤ d; omega, by show _ ≤ 40 * d; omega⟩ ⟨Nat.le_refl _, Nat.le_refl _⟩ (Ct.mono H (fun r9 m4 H => ?_))
  obtain ⟨rfl, H⟩ := H
  show E_X11_text G d 25 [(0, vR 71)] [] m4 Q
  refine x_aloadn (q := 26) 0 rfl rfl rfl dX11_text_25 rfl ?_
  refine x_callV (q := 29) (d := d - 1) (as := []) (st := []) dX11_text_26 rfl mv_X11_187 sh_71 rfl rfl rfl (by exact Nat.le_of_ble_eq_true rfl) ⟨by show _ ≤ d; omega, by show _ ≤ 40 * d; omega⟩ ⟨Nat.le_refl _, Nat.le_refl _⟩ (Ct.mono H (fun r9 m5 H => ?_))
  obtain ⟨rfl, H⟩ := H
  show E_X11_text G d 29 [(0, vR 71)] [] m5 Q
  refine x_iconst (q := 30) dX11_text_29 rfl ?_
  refine x_istoren (q := 31) (ls' := [(1, vI 1), (0, vR 71)]) rfl (by decide) rfl dX11_text_30 rfl ?_
  refine x_sub [1, 0] rfl ?_
  exact H
set_option maxRecDepth 20000 in
set_option maxHeartbeats 4000000 in
theorem B_X11_text_31 {G : GT} {d : Nat} {l1 : Int} {mem : Mem} {Q : Option AV → Mem → Prop} (hd : 1 ≤ d) (H : C_X11_takes G (d - 1) [vR 71, vS 24] mem (fun r9 m6 => ∃ z7 : Int, r9 = some (vI z7) ∧ ((inr z7) ∧ (((z7 = 0) → (((m6 71 8 ≠ 0) → (∀ m14 : Mem, m14 = upM m6 71 8 1 → (((m14 71 8 = 0) → (∀ m18 : Mem, m18 = upM m14 72 3 0 → (((m18 71 8 = 0) → (Q (some (vI l1)) m18)) ∧ (¬ (m18 71 8 = 0) → (Q (some (vI ((-10) - (m18 71 6)))) m18))))) ∧ (¬ (m14 71 8 = 0) → (∀ m23 : Mem, m23 = cpM m14 74 72 0 0 553 → (∀ m24 : Mem, m24 = upM m23 72 3 0 → (((m24 71 8 = 0) → (Q (some (vI l1)) m24)) ∧ (¬ (m24 71 8 = 0) → (Q (some (vI ((-10) - (m24 71 6)))) m24))))))))) ∧ (¬ (m6 71 8 ≠ 0) → (((m6 72 3 ≤ m6 71 6) → (∀ m33 : Mem, m33 = upM m6 71 8 0 → (((m33 71 8 = 0) → (∀ m37 : Mem, m37 = upM m33 72 3 0 → (((m37 71 8 = 0) → (Q (some (vI l1)) m37)) ∧ (¬ (m37 71 8 = 0) → (Q (some (vI ((-10) - (m37 71 6)))) m37))))) ∧ (¬ (m33 71 8 = 0) → (∀ m42 : Mem, m42 = cpM m33 74 72 0 0 553 → (∀ m43 : Mem, m43 = upM m42 72 3 0 → (((m43 71 8 = 0) → (Q (some (vI l1)) m43)) ∧ (¬ (m43 71 8 = 0) → (Q (some (vI ((-10) - (m43 71 6)))) m43))))))))) ∧ (¬ (m6 72 3 ≤ m6 71 6) → (∀ m48 : Mem, m48 = upM m6 71 8 1 → (((m48 71 8 = 0) → (∀ m52 : Mem, m52 = upM m48 72 3 0 → (((m52 71 8 = 0) → (Q (some (vI l1)) m52)) ∧ (¬ (m52 71 8 = 0) → (Q (some (vI ((-10) - (m52 71 6)))) m52))))) ∧ (¬ (m48 71 8 = 0) → (∀ m57 : Mem, m57 = cpM m48 74 72 0 0 553 → (∀ m58 : Mem, m58 = upM m57 72 3 0 → (((m58 71 8 = 0) → (Q (some (vI l1)) m58)) ∧ (¬ (m58 71 8 = 0) → (Q (some (vI ((-10) - (m58 71 6)))) m58))))))))))))) ∧ (¬ (z7 = 0) → (C_X11_item G (d - 1) [vR 71] m6 (fun r9 m63 => r9 = none ∧ (E_X11_text G d 31 [(0, vR 71), (1, vI (l1 + 1))] [] m63 Q)))))))) : E_X11_text G d 31 [(0, vR 71), (1, vI l1)] [] mem Q := by
  refine x_aloadn (q := 32) 0 rfl rfl rfl dX11_text_31 rfl ?_
  refine x_ldcS (q := 34) (t := 24) (by decide) ⟨by decide +kernel, by decide +kernel⟩ dX11_text_32 rfl ?_
  refine x_callV (q := 37) (d := d - 1) (as := [vS 24]) (st := []) dX11_text_34 rfl mv_X11_166 sh_71 rfl rfl rfl (by exact Nat.le_of_ble_eq_true rfl) ⟨by show _ ≤ d; omega, by show _ ≤ 40 * d; omega⟩ ⟨Nat.le_refl _, Nat.le_refl _⟩ (Ct.mono H (fun r9 m6 H => ?_))
  obtain ⟨z7, rfl, H⟩ := H
  show E_X11_text G d 37 [(0, vR 71), (1, vI l1)] [vI z7] m6 Q
  obtain ⟨s8, H⟩ := H
  obtain ⟨H1, H2⟩ := H
  refine x_if_eq (tgt := 50) (q := 40) dX11_text_37 (by decide) rfl s8 (fun hB => ?_) (fun hB => ?_)
  · have H := H1 (hB)
    refine x_aloadn (q := 51) 0 rfl rfl rfl dX11_text_50 rfl ?_
    refine x_aloadn (q := 52) 0 rfl rfl rfl dX11_text_51 rfl ?_
    refine x_geti (q := 55) (ji := 8) dX11_text_52 rfl fa_X11_142 sh_71 rfl rfl (fun r11 => ?_)
    obtain ⟨H1, H2⟩ := H
    refine x_if_ne (tgt := 71) (q := 58) dX11_text_55 (by decide) rfl r11 (fun hB => ?_) (fun hB => ?_)
    · have H := H1 (hB)
      refine x_iconst (q := 72) dX11_text_71 rfl ?_
      refine x_goto (tgt := 76) dX11_text_72 (by decide) ?_
      refine x_putz (q := 79) (ji := 8) dX11_text_76 rfl fp_X11_142 sh_71 rfl rfl (by decide) (fun m14 em14 => ?_)
      have H := H m14 em14
      refine x_aloadn (q := 80) 0 rfl rfl rfl dX11_text_79 rfl ?_
      refine x_geti (q := 83) (ji := 8) dX11_text_80 rfl fa_X11_142 sh_71 rfl rfl (fun r15 => ?_)
      obtain ⟨H1, H2⟩ := H
      refine x_if_eq (tgt := 97) (q := 86) dX11_text_83 (by decide) rfl r15 (fun hB => ?_) (fun hB => ?_)
      · have H := H1 (hB)
        refine x_aloadn (q := 98) 0 rfl rfl rfl dX11_text_97 rfl ?_
        refine x_getr (q := 101) dX11_text_98 rfl fa_X11_9 sh_71 rfl ?_
        refine x_iconst (q := 102) dX11_text_101 rfl ?_
        refine x_iconst (q := 103) dX11_text_102 rfl ?_
        refine x_iast (q := 104) dX11_text_103 rfl sh_72 (by decide) (by decide) (by decide) (fun m18 em18 => ?_)
        have H := H m18 em18
        refine x_aloadn (q := 105) 0 rfl rfl rfl dX11_text_104 rfl ?_
        refine x_geti (q := 108) (ji := 8) dX11_text_105 rfl fa_X11_142 sh_71 rfl rfl (fun r19 => ?_)
        obtain ⟨H1, H2⟩ := H
        refine x_if_eq (tgt := 121) (q := 111) dX11_text_108 (by decide) rfl r19 (fun hB => ?_) (fun hB => ?_)
        · have H := H1 (hB)
          refine x_iloadn (q := 122) 1 rfl rfl dX11_text_121 rfl ?_
          exact x_iret rfl dX11_text_122 H
        · have H := H2 (hB)
          refine x_bipush (q := 113) rfl dX11_text_111 rfl ?_
          refine x_aloadn (q := 114) 0 rfl rfl rfl dX11_text_113 rfl ?_
          refine x_geti (q := 117) (ji := 6) dX11_text_114 rfl fa_X11_136 sh_71 rfl rfl (fun r22 => ?_)
          refine x_isub (q := 118) dX11_text_117 rfl ?_
          refine x_goto (tgt := 122) dX11_text_118 (by decide) ?_
          exact x_iret rfl dX11_text_122 H
      · have H := H2 (hB)
        refine x_aloadn (q := 87) 0 rfl rfl rfl dX11_text_86 rfl ?_
        refine x_getr (q := 90) dX11_text_87 rfl fa_X11_16 sh_71 rfl ?_
        refine x_aloadn (q := 91) 0 rfl rfl rfl dX11_text_90 rfl ?_
        refine x_getr (q := 94) dX11_text_91 rfl fa_X11_9 sh_71 rfl ?_
        obtain ⟨m23, em23⟩ : ∃ m9 : Mem, m9 = cpM m14 74 72 0 0 553 := ⟨_, rfl⟩
        have H := H m23 em23
        refine x_callS (q := 97) (d := d - 1) (as := [vR 74, vR 72]) (st := []) dX11_text_94 rfl ms_X11_183 rfl rfl (by exact Nat.le_of_ble_eq_true rfl) ⟨by show _ ≤ d; omega, by show _ ≤ 40 * d; omega⟩ ⟨Nat.le_refl _, Nat.le_refl _⟩ (ct_copy (by decide) (by decide) (by decide) ?_)
        rw [← em23]
        show E_X11_text G d 97 [(0, vR 71), (1, vI l1)] [] m23 Q
        refine x_aloadn (q := 98) 0 rfl rfl rfl dX11_text_97 rfl ?_
        refine x_getr (q := 101) dX11_text_98 rfl fa_X11_9 sh_71 rfl ?_
        refine x_iconst (q := 102) dX11_text_101 rfl ?_
        refine x_iconst (q := 103) dX11_text_102 rfl ?_
        refine x_iast (q := 104) dX11_text_103 rfl sh_72 (by decide) (by decide) (by decide) (fun m24 em24 => ?_)
        have H := H m24 em24
        refine x_aloadn (q := 105) 0 rfl rfl rfl dX11_text_104 rfl ?_
        refine x_geti (q := 108) (ji := 8) dX11_text_105 rfl fa_X11_142 sh_71 rfl rfl (fun r25 => ?_)
        obtain ⟨H1, H2⟩ := H
        refine x_if_eq (tgt := 121) (q := 111) dX11_text_108 (by decide) rfl r25 (fun hB => ?_) (fun hB => ?_)
        · have H := H1 (hB)
          refine x_iloadn (q := 122) 1 rfl rfl dX11_text_121 rfl ?_
          exact x_iret rfl dX11_text_122 H
        · have H := H2 (hB)
          refine x_bipush (q := 113) rfl dX11_text_111 rfl ?_
          refine x_aloadn (q := 114) 0 rfl rfl rfl dX11_text_113 rfl ?_
          refine x_geti (q := 117) (ji := 6) dX11_text_114 rfl fa_X11_136 sh_71 rfl rfl (fun r28 => ?_)
          refine x_isub (q := 118) dX11_text_117 rfl ?_
          refine x_goto (tgt := 122) dX11_text_118 (by decide) ?_
          exact x_iret rfl dX11_text_122 H
    · have H := H2 (hB)
      refine x_aloadn (q := 59) 0 rfl rfl rfl dX11_text_58 rfl ?_
      refine x_geti (q := 62) (ji := 6) dX11_text_59 rfl fa_X11_136 sh_71 rfl rfl (fun r29 => ?_)
      refine x_aloadn (q := 63) 0 rfl rfl rfl dX11_text_62 rfl ?_
      refine x_getr (q := 66) dX11_text_63 rfl fa_X11_9 sh_71 rfl ?_
      refine x_iconst (q := 67) dX11_text_66 rfl ?_
      refine x_iald (q := 68) dX11_text_67 rfl sh_72 (by decide) (by decide) (fun r30 => ?_)
      obtain ⟨H1, H2⟩ := H
      refine x_icmp_ge (tgt := 75) (q := 71) dX11_text_68 (by decide) rfl r29 r30 (fun hB => ?_) (fun hB => ?_)
      · have H := H1 (hB)
        refine x_iconst (q := 76) dX11_text_75 rfl ?_
        refine x_putz (q := 79) (ji := 8) dX11_text_76 rfl fp_X11_142 sh_71 rfl rfl (by decide) (fun m33 em33 => ?_)
        have H := H m33 em33
        refine x_aloadn (q := 80) 0 rfl rfl rfl dX11_text_79 rfl ?_
        refine x_geti (q := 83) (ji := 8) dX11_text_80 rfl fa_X11_142 sh_71 rfl rfl (fun r34 => ?_)
        obtain ⟨H1, H2⟩ := H
        refine x_if_eq (tgt := 97) (q := 86) dX11_text_83 (by decide) rfl r34 (fun hB => ?_) (fun hB => ?_)
        · have H := H1 (hB)
          refine x_aloadn (q := 98) 0 rfl rfl rfl dX11_text_97 rfl ?_
          refine x_getr (q := 101) dX11_text_98 rfl fa_X11_9 sh_71 rfl ?_
          refine x_iconst (q := 102) dX11_text_101 rfl ?_
          refine x_iconst (q := 103) dX11_text_102 rfl ?_
          refine x_iast (q := 104) dX11_text_103 rfl sh_72 (by decide) (by decide) (by decide) (fun m37 em37 => ?_)
          have H := H m37 em37
          refine x_aloadn (q := 105) 0 rfl rfl rfl dX11_text_104 rfl ?_
          refine x_geti (q := 108) (ji := 8) dX11_text_105 rfl fa_X11_142 sh_71 rfl rfl (fun r38 => ?_)
          obtain ⟨H1, H2⟩ := H
          refine x_if_eq (tgt := 121) (q := 111) dX11_text_108 (by decide) rfl r38 (fun hB => ?_) (fun hB => ?_)
          · have H := H1 (hB)
            refine x_iloadn (q := 122) 1 rfl rfl dX11_text_121 rfl ?_
            exact x_iret rfl dX11_text_122 H
          · have H := H2 (hB)
            refine x_bipush (q := 113) rfl dX11_text_111 rfl ?_
            refine x_aloadn (q := 114) 0 rfl rfl rfl dX11_text_113 rfl ?_
            refine x_geti (q := 117) (ji := 6) dX11_text_114 rfl fa_X11_136 sh_71 rfl rfl (fun r41 => ?_)
            refine x_isub (q := 118) dX11_text_117 rfl ?_
            refine x_goto (tgt := 122) dX11_text_118 (by decide) ?_
            exact x_iret rfl dX11_text_122 H
        · have H := H2 (hB)
          refine x_aloadn (q := 87) 0 rfl rfl rfl dX11_text_86 rfl ?_
          refine x_getr (q := 90) dX11_text_87 rfl fa_X11_16 sh_71 rfl ?_
          refine x_aloadn (q := 91) 0 rfl rfl rfl dX11_text_90 rfl ?_
          refine x_getr (q := 94) dX11_text_91 rfl fa_X11_9 sh_71 rfl ?_
          obtain ⟨m42, em42⟩ : ∃ m9 : Mem, m9 = cpM m33 74 72 0 0 553 := ⟨_, rfl⟩
          have H := H m42 em42
          refine x_callS (q := 97) (d := d - 1) (as := [vR 74, vR 72]) (st := []) dX11_text_94 rfl ms_X11_183 rfl rfl (by exact Nat.le_of_ble_eq_true rfl) ⟨by show _ ≤ d; omega, by show _ ≤ 40 * d; omega⟩ ⟨Nat.le_refl _, Nat.le_refl _⟩ (ct_copy (by decide) (by decide) (by decide) ?_)
          rw [← em42]
          show E_X11_text G d 97 [(0, vR 71), (1, vI l1)] [] m42 Q
          refine x_aloadn (q := 98) 0 rfl rfl rfl dX11_text_97 rfl ?_
          refine x_getr (q := 101) dX11_text_98 rfl fa_X11_9 sh_71 rfl ?_
          refine x_iconst (q := 102) dX11_text_101 rfl ?_
          refine x_iconst (q := 103) dX11_text_102 rfl ?_
          refine x_iast (q := 104) dX11_text_103 rfl sh_72 (by decide) (by decide) (by decide) (fun m43 em43 => ?_)
          have H := H m43 em43
          refine x_aloadn (q := 105) 0 rfl rfl rfl dX11_text_104 rfl ?_
          refine x_geti (q := 108) (ji := 8) dX11_text_105 rfl fa_X11_142 sh_71 rfl rfl (fun r44 => ?_)
          obtain ⟨H1, H2⟩ := H
          refine x_if_eq (tgt := 121) (q := 111) dX11_text_108 (by decide) rfl r44 (fun hB => ?_) (fun hB => ?_)
          · have H := H1 (hB)
            refine x_iloadn (q := 122) 1 rfl rfl dX11_text_121 rfl ?_
            exact x_iret rfl dX11_text_122 H
          · have H := H2 (hB)
            refine x_bipush (q := 113) rfl dX11_text_111 rfl ?_
            refine x_aloadn (q := 114) 0 rfl rfl rfl dX11_text_113 rfl ?_
            refine x_geti (q := 117) (ji := 6) dX11_text_114 rfl fa_X11_136 sh_71 rfl rfl (fun r47 => ?_)
            refine x_isub (q := 118) dX11_text_117 rfl ?_
            refine x_goto (tgt := 122) dX11_text_118 (by decide) ?_
            exact x_iret rfl dX11_text_122 H
      · have H := H2 (hB)
        refine x_iconst (q := 72) dX11_text_71 rfl ?_
        refine x_goto (tgt := 76) dX11_text_72 (by decide) ?_
        refine x_putz (q := 79) (ji := 8) dX11_text_76 rfl fp_X11_142 sh_71 rfl rfl (by decide) (fun m48 em48 => ?_)
        have H := H m48 em48
        refine x_aloadn (q := 80) 0 rfl rfl rfl dX11_text_79 rfl ?_
        refine x_geti (q := 83) (ji := 8) dX11_text_80 rfl fa_X11_142 sh_71 rfl rfl (fun r49 => ?_)
        obtain ⟨H1, H2⟩ := H
        refine x_if_eq (tgt := 97) (q := 86) dX11_text_83 (by decide) rfl r49 (fun hB => ?_) (fun hB => ?_)
        · have H := H1 (hB)
          refine x_aloadn (q := 98) 0 rfl rfl rfl dX11_text_97 rfl ?_
          refine x_getr (q := 101) dX11_text_98 rfl fa_X11_9 sh_71 rfl ?_
          refine x_iconst (q := 102) dX11_text_101 rfl ?_
          refine x_iconst (q := 103) dX11_text_102 rfl ?_
          refine x_iast (q := 104) dX11_text_103 rfl sh_72 (by decide) (by decide) (by decide) (fun m52 em52 => ?_)
          have H := H m52 em52
          refine x_aloadn (q := 105) 0 rfl rfl rfl dX11_text_104 rfl ?_
          refine x_geti (q := 108) (ji := 8) dX11_text_105 rfl fa_X11_142 sh_71 rfl rfl (fun r53 => ?_)
          obtain ⟨H1, H2⟩ := H
          refine x_if_eq (tgt := 121) (q := 111) dX11_text_108 (by decide) rfl r53 (fun hB => ?_) (fun hB => ?_)
          · have H := H1 (hB)
            refine x_iloadn (q := 122) 1 rfl rfl dX11_text_121 rfl ?_
            exact x_iret rfl dX11_text_122 H
          · have H := H2 (hB)
            refine x_bipush (q := 113) rfl dX11_text_111 rfl ?_
            refine x_aloadn (q := 114) 0 rfl rfl rfl dX11_text_113 rfl ?_
            refine x_geti (q := 117) (ji := 6) dX11_text_114 rfl fa_X11_136 sh_71 rfl rfl (fun r56 => ?_)
            refine x_isub (q := 118) dX11_text_117 rfl ?_
            refine x_goto (tgt := 122) dX11_text_118 (by decide) ?_
            exact x_iret rfl dX11_text_122 H
        · have H := H2 (hB)
          refine x_aloadn (q := 87) 0 rfl rfl rfl dX11_text_86 rfl ?_
          refine x_getr (q := 90) dX11_text_87 rfl fa_X11_16 sh_71 rfl ?_
          refine x_aloadn (q := 91) 0 rfl rfl rfl dX11_text_90 rfl ?_
          refine x_getr (q := 94) dX11_text_91 rfl fa_X11_9 sh_71 rfl ?_
          obtain ⟨m57, em57⟩ : ∃ m9 : Mem, m9 = cpM m48 74 72 0 0 553 := ⟨_, rfl⟩
          have H := H m57 em57
          refine x_callS (q := 97) (d := d - 1) (as := [vR 74, vR 72]) (st := []) dX11_text_94 rfl ms_X11_183 rfl rfl (by exact Nat.le_of_ble_eq_true rfl) ⟨by show _ ≤ d; omega, by show _ ≤ 40 * d; omega⟩ ⟨Nat.le_refl _, Nat.le_refl _⟩ (ct_copy (by decide) (by decide) (by decide) ?_)
          rw [← em57]
          show E_X11_text G d 97 [(0, vR 71), (1, vI l1)] [] m57 Q
          refine x_aloadn (q := 98) 0 rfl rfl rfl dX11_text_97 rfl ?_
          refine x_getr (q := 101) dX11_text_98 rfl fa_X11_9 sh_71 rfl ?_
          refine x_iconst (q := 102) dX11_text_101 rfl ?_
          refine x_iconst (q := 103) dX11_text_102 rfl ?_
          refine x_iast (q := 104) dX11_text_103 rfl sh_72 (by decide) (by decide) (by decide) (fun m58 em58 => ?_)
          have H := H m58 em58
          refine x_aloadn (q := 105) 0 rfl rfl rfl dX11_text_104 rfl ?_
          refine x_geti (q := 108) (ji := 8) dX11_text_105 rfl fa_X11_142 sh_71 rfl rfl (fun r59 => ?_)
          obtain ⟨H1, H2⟩ := H
          refine x_if_eq (tgt := 121) (q := 111) dX11_text_108 (by decide) rfl r59 (fun hB => ?_) (fun hB => ?_)
          · have H := H1 (hB)
            refine x_iloadn (q := 122) 1 rfl rfl dX11_text_121 rfl ?_
            exact x_iret rfl dX11_text_122 H
          · have H := H2 (hB)
            refine x_bipush (q := 113) rfl dX11_text_111 rfl ?_
            refine x_aloadn (q := 114) 0 rfl rfl rfl dX11_text_113 rfl ?_
            refine x_geti (q := 117) (ji := 6) dX11_text_114 rfl fa_X11_136 sh_71 rfl rfl (fun r62 => ?_)
            refine x_isub (q := 118) dX11_text_117 rfl ?_
            refine x_goto (tgt := 122) dX11_text_118 (by decide) ?_
            exact x_iret rfl dX11_text_122 H
  · have H := H2 (hB)
    refine x_aloadn (q := 41) 0 rfl rfl rfl dX11_text_40 rfl ?_
    refine x_callV (q := 44) (d := d - 1) (as := []) (st := []) dX11_text_41 rfl mv_X11_187 sh_71 rfl rfl rfl (by exact Nat.le_of_ble_eq_true rfl) ⟨by show _ ≤ d; omega, by show _ ≤ 40 * d; omega⟩ ⟨Nat.le_refl _, Nat.le_refl _⟩ (Ct.mono H (fun r9 m63 H => ?_))
    obtain ⟨rfl, H⟩ := H
    show E_X11_text G d 44 [(0, vR 71), (1, vI l1)] [] m63 Q
    refine x_iinc (q := 47) (ls' := [(1, vI (l1 + 1)), (0, vR 71)]) 1 rfl (by decide) rfl dX11_text_44 rfl ?_
    refine x_goto (tgt := 31) dX11_text_47 (by decide) ?_
    refine x_sub [1, 0] rfl ?_
    exact H
