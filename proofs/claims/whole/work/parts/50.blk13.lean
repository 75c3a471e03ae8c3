abbrev E_X4_isWord (G : GT) (d pc : Nat) (ls : List (Nat × AV)) (st : List AV) (mem : Mem) (Q : Option AV → Mem → Prop) : Prop := Ex G RX4 cX4_isWord 3 (some .boolean) d pc ls st mem Q
abbrev C_X4_isWord (G : GT) (d : Nat) (as : List AV) (mem : Mem) (Q : Option AV → Mem → Prop) : Prop := Ct G yX4_isWord cX4_isWord 3 (some .boolean) d as mem Q
abbrev E_X4_advance (G : GT) (d pc : Nat) (ls : List (Nat × AV)) (st : List AV) (mem : Mem) (Q : Option AV → Mem → Prop) : Prop := Ex G RX4 cX4_advance 1 none d pc ls st mem Q
abbrev C_X4_advance (G : GT) (d : Nat) (as : List AV) (mem : Mem) (Q : Option AV → Mem → Prop) : Prop := Ct G yX4_advance cX4_advance 1 none d as mem Q
abbrev E_X4_takenNumber (G : GT) (d pc : Nat) (ls : List (Nat × AV)) (st : List AV) (mem : Mem) (Q : Option AV → Mem → Prop) : Prop := Ex G RX4 cX4_takenNumber 3 (some .int) d pc ls st mem Q
abbrev C_X4_takenNumber (G : GT) (d : Nat) (as : List AV) (mem : Mem) (Q : Option AV → Mem → Prop) : Prop := Ct G yX4_takenNumber cX4_takenNumber 3 (some .int) d as mem Q
abbrev E_X4_readNumber (G : GT) (d pc : Nat) (ls : List (Nat × AV)) (st : List AV) (mem : Mem) (Q : Option AV → Mem → Prop) : Prop := Ex G RX4 cX4_readNumber 4 (some .int) d pc ls st mem Q
abbrev C_X4_readNumber (G : GT) (d : Nat) (as : List AV) (mem : Mem) (Q : Option AV → Mem → Prop) : Prop := Ct G yX4_readNumber cX4_readNumber 4 (some .int) d as mem Q
abbrev E_X4_readKind (G : GT) (d pc : Nat) (ls : List (Nat × AV)) (st : List AV) (mem : Mem) (Q : Option AV → Mem → Prop) : Prop := Ex G RX4 cX4_readKind 2 (some .int) d pc ls st mem Q
abbrev C_X4_readKind (G : GT) (d : Nat) (as : List AV) (mem : Mem) (Q : Option AV → Mem → Prop) : Prop := Ct G yX4_readKind cX4_readKind 2 (some .int) d as mem Q
abbrev E_X4_readMachine (G : GT) (d pc : Nat) (ls : List (Nat × AV)) (st : List AV) (mem : Mem) (Q : Option AV → Mem → Prop) : Prop := Ex G RX4 cX4_readMachine 4 none d pc ls st mem Q
abbrev C_X4_readMachine (G : GT) (d : Nat) (as : List AV) (mem : Mem) (Q : Option AV → Mem → Prop) : Prop := Ct G yX4_readMachine cX4_readMachine 4 none d as mem Q
abbrev E_X4_readTie (G : GT) (d pc : Nat) (ls : List (Nat × AV)) (st : List AV) (mem : Mem) (Q : Option AV → Mem → Prop) : Prop := Ex G RX4 cX4_readTie 4 none d pc ls st mem Q
abbrev C_X4_readTie (G : GT) (d : Nat) (as : List AV) (mem : Mem) (Q : Option AV → Mem → Prop) : Prop := Ct G yX4_readTie cX4_readTie 4 none d as mem Q
abbrev E_X4_readSaying (G : GT) (d pc : Nat) (ls : List (Nat × AV)) (st : List AV) (mem : Mem) (Q : Option AV → Mem → Prop) : Prop := Ex G RX4 cX4_readSaying 4 none d pc ls st mem Q
abbrev C_X4_readSaying (G : GT) (d : Nat) (as : List AV) (mem : Mem) (Q : Option AV → Mem → Prop) : Prop := Ct G yX4_readSaying cX4_readSaying 4 none d as mem Q
abbrev E_X4_readMost (G : GT) (d pc : Nat) (ls : List (Nat × AV)) (st : List AV) (mem : Mem) (Q : Option AV → Mem → Prop) : Prop := Ex G RX4 cX4_readMost 2 none d pc ls st mem Q
abbrev C_X4_readMost (G : GT) (d : Nat) (as : List AV) (mem : Mem) (Q : Option AV → Mem → Prop) : Prop := Ct G yX4_readMost cX4_readMost 2 none d as mem Q
abbrev E_X4_readItem (G : GT) (d pc : Nat) (ls : List (Nat × AV)) (st : List AV) (mem : Mem) (Q : Option AV → Mem → Prop) : Prop := Ex G RX4 cX4_readItem 1 none d pc ls st mem Q
abbrev C_X4_readItem (G : GT) (d : Nat) (as : List AV) (mem : Mem) (Q : Option AV → Mem → Prop) : Prop := Ct G yX4_readItem cX4_readItem 1 none d as mem Q
abbrev E_X4_read (G : GT) (d pc : Nat) (ls : List (Nat × AV)) (st : List AV) (mem : Mem) (Q : Option AV → Mem → Prop) : Prop := Ex G RX4 cX4_read 3 (some .int) d pc ls st mem Q
abbrev C_X4_read (G : GT) (d : Nat) (as : List AV) (mem : Mem) (Q : Option AV → Mem → Prop) : Prop := Ct G yX4_read cX4_read 3 (some .int) d as mem Q
set_option maxRecDepth 20000 in
set_option maxHeartbeats 4000000 in
theorem B_X4_isWord {G : GT} {d : Nat} {t : Nat} (ht : t < 25) {mem : Mem} {Q : Option AV → Mem → Prop} (hd : 2 ≤ d) (H : ((mem 31 3 ≠ 1) → (Q (some (vI 0)) mem)) ∧ (¬ (mem 31 3 ≠ 1) → ((inr ((mem 31 1) - (mem 31 2))) ∧ ((((mem 31 1) - (mem 31 2) = ((litB t).length : Int)) → (E_X4_isWord G d 28 [(0, vR 31), (1, vS t), (2, vI 0)] [] mem Q)) ∧ (¬ ((mem 31 1) - (mem 31 2) = ((litB t).length : Int)) → (Q (some (vI 0)) mem)))))) : C_X4_isWord G d [vR 31, vS t] mem Q := by
  refine Ct_of_Ex (by decide +kernel) (by exact Nat.le_of_ble_eq_true rfl) (ls := [(0, vR 31), (1, vS t)]) rfl ?_
  show E_X4_isWord G d 0 [(0, vR 31), (1, vS t)] [] mem Q
  refine x_aloadn (q := 1) 0 rfl rfl rfl dX4_isWord_0 rfl ?_
  refine x_geti (q := 4) (ji := 3) dX4_isWord_1 rfl fa_X4_32 sh_31 rfl rfl (fun r1 => ?_)
  refine x_iconst (q := 5) dX4_isWord_4 rfl ?_
  obtain ⟨H1, H2⟩ := H
  refine x_icmp_ne (tgt := 24) (q := 8) dX4_isWord_5 (by decide) rfl r1 (by decide) (fun hB => ?_) (fun hB => ?_)
  · have H := H1 (hB)
    refine x_iconst (q := 25) dX4_isWord_24 rfl ?_
    exact x_zret rfl dX4_isWord_25 (by decide) H
  · have H := H2 (hB)
    refine x_aloadn (q := 9) 0 rfl rfl rfl dX4_isWord_8 rfl ?_
    refine x_geti (q := 12) (ji := 1) dX4_isWord_9 rfl fa_X4_15 sh_31 rfl rfl (fun r4 => ?_)
    refine x_aloadn (q := 13) 0 rfl rfl rfl dX4_isWord_12 rfl ?_
    refine x_geti (q := 16) (ji := 2) dX4_isWord_13 rfl fa_X4_41 sh_31 rfl rfl (fun r5 => ?_)
    refine x_isub (q := 17) dX4_isWord_16 rfl ?_
    refine x_aloadn (q := 18) 1 rfl rfl rfl dX4_isWord_17 rfl ?_
    refine x_callT (q := 21) (d := d - 1) (as := []) (st := [vI ((mem 31 1) - (mem 31 2))]) dX4_isWord_18 rfl mv_X4_133 ht rfl rfl rfl (by exact Nat.le_of_ble_eq_true rfl) ⟨by show _ ≤ d; omega, by show _ ≤ 40 * d; omega⟩ ⟨Nat.le_refl _, Nat.le_refl _⟩ (ct_len ht (by omega) ?_)
    show E_X4_isWord G d 21 [(0, vR 31), (1, vS t)] [vI ((litB t).length : Int), vI ((mem 31 1) - (mem 31 2))] mem Q
    obtain ⟨s6, H⟩ := H
    obtain ⟨H1, H2⟩ := H
    refine x_icmp_eq (tgt := 26) (q := 24) dX4_isWord_21 (by decide) rfl s6 (lit_lr ht) (fun hB => ?_) (fun hB => ?_)
    · have H := H1 (hB)
      refine x_iconst (q := 27) dX4_isWord_26 rfl ?_
      refine x_istoren (q := 28) (ls' := [(2, vI 0), (0, vR 31), (1, vS t)]) rfl (by decide) rfl dX4_isWord_27 rfl ?_
      refine x_sub [1, 2, 0] rfl ?_
      exact H
    · have H := H2 (hB)
      refine x_iconst (q := 25) dX4_isWord_24 rfl ?_
      exact x_zret rfl dX4_isWord_25 (by decide) H
set_option maxRecDepth 20000 in
set_option maxHeartbeats 4000000 in
theorem B_X4_isWord_28 {G : GT} {d : Nat} {t : Nat} (ht : t < 25) {l2 : Int} {mem : Mem} {Q : Option AV → Mem → Prop} (hd : 5 ≤ d) (H : (inr l2) ∧ (((((litB t).length : Int) ≤ l2) → (Q (some (vI 1)) mem)) ∧ (¬ (((litB t).length : Int) ≤ l2) → ((0 ≤ (mem 31 2) + l2 ∧ (mem 31 2) + l2 < 80) ∧ ((0 ≤ l2 ∧ l2 < ((litB t).length : Int)) ∧ (((mem 29 ((mem 31 2) + l2) = (litB t).getD (Int.toNat l2) 0) → (E_X4_isWord G d 28 [(0, vR 31), (1, vS t), (2, vI (l2 + 1))] [] mem Q)) ∧ (¬ (mem 29 ((mem 31 2) + l2) = (litB t).getD (Int.toNat l2) 0) → (Q (some (vI 0)) mem)))))))) : E_X4_isWord G d 28 [(0, vR 31), (1, vS t), (2, vI l2)] [] mem Q := by
  refine x_iloadn (q := 29) 2 rfl rfl dX4_isWord_28 rfl ?_
  refine x_aloadn (q := 30) 1 rfl rfl rfl dX4_isWord_29 rfl ?_
  refine x_callT (q := 33) (d := d - 1) (as := []) (st := [vI l2]) dX4_isWord_30 rfl mv_X4_133 ht rfl rfl rfl (by exact Nat.le_of_ble_eq_true rfl) ⟨by show _ ≤ d; omega, by show _ ≤ 40 * d; omega⟩ ⟨Nat.le_refl _, Nat.le_refl _⟩ (ct_len ht (by omega) ?_)
  show E_X4_isWord G d 33 [(0, vR 31), (1, vS t), (2, vI l2)] [vI ((litB t).length : Int), vI l2] mem Q
  obtain ⟨s9, H⟩ := H
  obtain ⟨H1, H2⟩ := H
  refine x_icmp_ge (tgt := 66) (q := 36) dX4_isWord_33 (by decide) rfl s9 (lit_lr ht) (fun hB => ?_) (fun hB => ?_)
  · have H := H1 (hB)
    refine x_iconst (q := 67) dX4_isWord_66 rfl ?_
    exact x_zret rfl dX4_isWord_67 (by decide) H
  · have H := H2 (hB)
    refine x_aloadn (q := 37) 0 rfl rfl rfl dX4_isWord_36 rfl ?_
    refine x_getr (q := 40) dX4_isWord_37 rfl fa_X4_9 sh_31 rfl ?_
    refine x_getr (q := 43) dX4_isWord_40 rfl fa_X4_35 sh_21 rfl ?_
    refine x_aloadn (q := 44) 0 rfl rfl rfl dX4_isWord_43 rfl ?_
    refine x_geti (q := 47) (ji := 2) dX4_isWord_44 rfl fa_X4_41 sh_31 rfl rfl (fun r12 => ?_)
    refine x_iloadn (q := 48) 2 rfl rfl dX4_isWord_47 rfl ?_
    refine x_iadd (q := 49) dX4_isWord_48 rfl ?_
    obtain ⟨⟨s13, s14⟩, H⟩ := H
    refine x_bald (q := 50) dX4_isWord_49 rfl sh_29 s13 s14 (fun r15 => ?_)
    refine x_aloadn (q := 51) 1 rfl rfl rfl dX4_isWord_50 rfl ?_
    refine x_iloadn (q := 52) 2 rfl rfl dX4_isWord_51 rfl ?_
    obtain ⟨⟨s16, s17⟩, H⟩ := H
    refine x_callT (q := 55) (d := d - 1) (as := [vI l2]) (st := [vI (mem 29 ((mem 31 2) + l2))]) dX4_isWord_52 rfl mv_X4_138 ht rfl rfl rfl (by exact Nat.le_of_ble_eq_true rfl) ⟨by show _ ≤ d; omega, by show _ ≤ 40 * d; omega⟩ ⟨Nat.le_refl _, Nat.le_refl _⟩ (ct_charAt ht (by omega) s16 s17 ?_)
    show E_X4_isWord G d 55 [(0, vR 31), (1, vS t), (2, vI l2)] [vI ((litB t).getD (Int.toNat l2) 0), vI (mem 29 ((mem 31 2) + l2))] mem Q
    obtain ⟨H1, H2⟩ := H
    refine x_icmp_eq (tgt := 60) (q := 58) dX4_isWord_55 (by decide) rfl r15 (lit_chr ht _) (fun hB => ?_) (fun hB => ?_)
    · have H := H1 (hB)
      refine x_iinc (q := 63) (ls' := [(2, vI (l2 + 1)), (0, vR 31), (1, vS t)]) 2 rfl (by decide) rfl dX4_isWord_60 rfl ?_
      refine x_goto (tgt := 28) dX4_isWord_63 (by decide) ?_
      refine x_sub [1, 2, 0] rfl ?_
      exact H
    · have H := H2 (hB)
      refine x_iconst (q := 59) dX4_isWord_58 rfl ?_
      exact x_zret rfl dX4_isWord_59 (by decide) H
set_option maxRecDepth 20000 in
set_option maxHeartbeats 4000000 in
theorem B_X4_advance {G : GT} {d : Nat}  {mem : Mem} {Q : Option AV → Mem → Prop} (hd : 1 ≤ d) (H : ((mem 31 4 = -1) → (E_X4_advance G d 8 [(0, vR 31)] [] mem Q)) ∧ (¬ (mem 31 4 = -1) → (Q none mem))) : C_X4_advance G d [vR 31] mem Q := by
  refine Ct_of_Ex (by decide +kernel) (by exact Nat.le_of_ble_eq_true rfl) (ls := [(0, vR 31)]) rfl ?_
  show E_X4_advance G d 0 [(0, vR 31)] [] mem Q
  refine x_aloadn (q := 1) 0 rfl rfl rfl dX4_advance_0 rfl ?_
  refine x_callV (q := 4) (d := d - 1) (as := []) (st := []) dX4_advance_1 rfl mv_X4_28 sh_31 rfl rfl rfl (by exact Nat.le_of_ble_eq_true rfl) ⟨by show _ ≤ d; omega, by show _ ≤ 40 * d; omega⟩ ⟨Nat.le_refl _, Nat.le_refl _⟩ (ct_isRight ?_)
  show E_X4_advance G d 4 [(0, vR 31)] [vI (bz (mem 31 4 = -1))] mem Q
  obtain ⟨H1, H2⟩ := H
  refine x_if_ne (tgt := 8) (q := 7) dX4_advance_4 (by decide) rfl (bz_inr _) (fun hB => ?_) (fun hB => ?_)
  · have H := H1 (bz_n0.mp hB)
    exact H
  · have H := H2 (fun z => hB (bz_n0.mpr z))
    exact x_vret rfl dX4_advance_7 H
set_option maxRecDepth 20000 in
set_option maxHeartbeats 4000000 in
theorem B_X4_advance_8 {G : GT} {d : Nat}  {mem : Mem} {Q : Option AV → Mem → Prop} (hd : 1 ≤ d) (H : ((mem 21 13 ≤ mem 31 1) → (∀ m8 : Mem, m8 = upM mem 31 2 (mem 31 1) → (((m8 31 1 < m8 21 13) → ((0 ≤ m8 31 1 ∧ m8 31 1 < 80) ∧ (∀ m16 : Mem, m16 = upM m8 31 3 (tyB (m8 29 (m8 31 1))) → ((inr ((m16 31 1) + 1)) ∧ (∀ m18 : Mem, m18 = upM m16 31 1 ((m16 31 1) + 1) → (E_X4_advance G d 102 [(0, vR 31)] [] m18 Q)))))) ∧ (¬ (m8 31 1 < m8 21 13) → (∀ m20 : Mem, m20 = upM m8 31 3 0 → (Q none m20)))))) ∧ (¬ (mem 21 13 ≤ mem 31 1) → ((0 ≤ mem 31 1 ∧ mem 31 1 < 80) ∧ (((mem 29 (mem 31 1) ≠ 32) → (∀ m28 : Mem, m28 = upM mem 31 2 (mem 31 1) → (((m28 31 1 < m28 21 13) → ((0 ≤ m28 31 1 ∧ m28 31 1 < 80) ∧ (∀ m36 : Mem, m36 = upM m28 31 3 (tyB (m28 29 (m28 31 1))) → ((inr ((m36 31 1) + 1)) ∧ (∀ m38 : Mem, m38 = upM m36 31 1 ((m36 31 1) + 1) → (E_X4_advance G d 102 [(0, vR 31)] [] m38 Q)))))) ∧ (¬ (m28 31 1 < m28 21 13) → (∀ m40 : Mem, m40 = upM m28 31 3 0 → (Q none m40)))))) ∧ (¬ (mem 29 (mem 31 1) ≠ 32) → ((inr ((mem 31 1) + 1)) ∧ (∀ m42 : Mem, m42 = upM mem 31 1 ((mem 31 1) + 1) → (E_X4_advance G d 8 [(0, vR 31)] [] m42 Q)))))))) : E_X4_advance G d 8 [(0, vR 31)] [] mem Q := by
  refine x_aloadn (q := 9) 0 rfl rfl rfl dX4_advance_8 rfl ?_
  refine x_geti (q := 12) (ji := 1) dX4_advance_9 rfl fa_X4_15 sh_31 rfl rfl (fun r3 => ?_)
  refine x_aloadn (q := 13) 0 rfl rfl rfl dX4_advance_12 rfl ?_
  refine x_getr (q := 16) dX4_advance_13 rfl fa_X4_9 sh_31 rfl ?_
  refine x_geti (q := 19) (ji := 13) dX4_advance_16 rfl fa_X4_142 sh_21 rfl rfl (fun r4 => ?_)
  obtain ⟨H1, H2⟩ := H
  refine x_icmp_ge (tgt := 52) (q := 22) dX4_advance_19 (by decide) rfl r3 r4 (fun hB => ?_) (fun hB => ?_)
  · have H := H1 (hB)
    refine x_aloadn (q := 53) 0 rfl rfl rfl dX4_advance_52 rfl ?_
    refine x_aloadn (q := 54) 0 rfl rfl rfl dX4_advance_53 rfl ?_
    refine x_geti (q := 57) (ji := 1) dX4_advance_54 rfl fa_X4_15 sh_31 rfl rfl (fun r7 => ?_)
    refine x_puti (q := 60) (ji := 2) dX4_advance_57 rfl fp_X4_41 sh_31 rfl rfl r7 (fun m8 em8 => ?_)
    have H := H m8 em8
    refine x_aloadn (q := 61) 0 rfl rfl rfl dX4_advance_60 rfl ?_
    refine x_geti (q := 64) (ji := 1) dX4_advance_61 rfl fa_X4_15 sh_31 rfl rfl (fun r9 => ?_)
    refine x_aloadn (q := 65) 0 rfl rfl rfl dX4_advance_64 rfl ?_
    refine x_getr (q := 68) dX4_advance_65 rfl fa_X4_9 sh_31 rfl ?_
    refine x_geti (q := 71) (ji := 13) dX4_advance_68 rfl fa_X4_142 sh_21 rfl rfl (fun r10 => ?_)
    obtain ⟨H1, H2⟩ := H
    refine x_icmp_lt (tgt := 80) (q := 74) dX4_advance_71 (by decide) rfl r9 r10 (fun hB => ?_) (fun hB => ?_)
    · have H := H1 (hB)
      refine x_aloadn (q := 81) 0 rfl rfl rfl dX4_advance_80 rfl ?_
      refine x_aloadn (q := 82) 0 rfl rfl rfl dX4_advance_81 rfl ?_
      refine x_aloadn (q := 83) 0 rfl rfl rfl dX4_advance_82 rfl ?_
      refine x_geti (q := 86) (ji := 1) dX4_advance_83 rfl fa_X4_15 sh_31 rfl rfl (fun r13 => ?_)
      obtain ⟨⟨s14, s15⟩, H⟩ := H
      refine x_callV (q := 89) (d := d - 1) (as := [vI (m8 31 1)]) (st := [vR 31]) dX4_advance_86 rfl mv_X4_145 sh_31 rfl rfl rfl (by exact Nat.le_of_ble_eq_true rfl) ⟨by show _ ≤ d; omega, by show _ ≤ 40 * d; omega⟩ ⟨Nat.le_refl _, Nat.le_refl _⟩ (ct_typeAt s14 s15 ?_)
      show E_X4_advance G d 89 [(0, vR 31)] [vI (tyB (m8 29 (m8 31 1))), vR 31] m8 Q
      refine x_puti (q := 92) (ji := 3) dX4_advance_89 rfl fp_X4_32 sh_31 rfl rfl (tyB_inr _) (fun m16 em16 => ?_)
      have H := H m16 em16
      refine x_aloadn (q := 93) 0 rfl rfl rfl dX4_advance_92 rfl ?_
      refine x_dup (q := 94) (by exact Nat.ne_of_beq_eq_false rfl) dX4_advance_93 rfl ?_
      refine x_geti (q := 97) (ji := 1) dX4_advance_94 rfl fa_X4_15 sh_31 rfl rfl (fun r17 => ?_)
      refine x_iconst (q := 98) dX4_advance_97 rfl ?_
      refine x_iadd (q := 99) dX4_advance_98 rfl ?_
      obtain ⟨s19, H⟩ := H
      refine x_puti (q := 102) (ji := 1) dX4_advance_99 rfl fp_X4_15 sh_31 rfl rfl s19 (fun m18 em18 => ?_)
      have H := H m18 em18
      exact H
    · have H := H2 (hB)
      refine x_aloadn (q := 75) 0 rfl rfl rfl dX4_advance_74 rfl ?_
      refine x_iconst (q := 76) dX4_advance_75 rfl ?_
      refine x_puti (q := 79) (ji := 3) dX4_advance_76 rfl fp_X4_32 sh_31 rfl rfl (by decide) (fun m20 em20 => ?_)
      have H := H m20 em20
      exact x_vret rfl dX4_advance_79 H
  · have H := H2 (hB)
    refine x_aloadn (q := 23) 0 rfl rfl rfl dX4_advance_22 rfl ?_
    refine x_getr (q := 26) dX4_advance_23 rfl fa_X4_9 sh_31 rfl ?_
    refine x_getr (q := 29) dX4_advance_26 rfl fa_X4_35 sh_21 rfl ?_
    refine x_aloadn (q := 30) 0 rfl rfl rfl dX4_advance_29 rfl ?_
    refine x_geti (q := 33) (ji := 1) dX4_advance_30 rfl fa_X4_15 sh_31 rfl rfl (fun r21 => ?_)
    obtain ⟨⟨s22, s23⟩, H⟩ := H
    refine x_bald (q := 34) dX4_advance_33 rfl sh_29 s22 s23 (fun r24 => ?_)
    refine x_bipush (q := 36) rfl dX4_advance_34 rfl ?_
    obtain ⟨H1, H2⟩ := H
    refine x_icmp_ne (tgt := 52) (q := 39) dX4_advance_36 (by decide) rfl r24 (by decide) (fun hB => ?_) (fun hB => ?_)
    · have H := H1 (hB)
      refine x_aloadn (q := 53) 0 rfl rfl rfl dX4_advance_52 rfl ?_
      refine x_aloadn (q := 54) 0 rfl rfl rfl dX4_advance_53 rfl ?_
      refine x_geti (q := 57) (ji := 1) dX4_advance_54 rfl fa_X4_15 sh_31 rfl rfl (fun r27 => ?_)
      refine x_puti (q := 60) (ji := 2) dX4_advance_57 rfl fp_X4_41 sh_31 rfl rfl r27 (fun m28 em28 => ?_)
      have H := H m28 em28
      refine x_aloadn (q := 61) 0 rfl rfl rfl dX4_advance_60 rfl ?_
      refine x_geti (q := 64) (ji := 1) dX4_advance_61 rfl fa_X4_15 sh_31 rfl rfl (fun r29 => ?_)
      refine x_aloadn (q := 65) 0 rfl rfl rfl dX4_advance_64 rfl ?_
      refine x_getr (q := 68) dX4_advance_65 rfl fa_X4_9 sh_31 rfl ?_
      refine x_geti (q := 71) (ji := 13) dX4_advance_68 rfl fa_X4_142 sh_21 rfl rfl (fun r30 => ?_)
      obtain ⟨H1, H2⟩ := H
      refine x_icmp_lt (tgt := 80) (q := 74) dX4_advance_71 (by decide) rfl r29 r30 (fun hB => ?_) (fun hB => ?_)
      · have H := H1 (hB)
        refine x_aloadn (q := 81) 0 rfl rfl rfl dX4_advance_80 rfl ?_
        refine x_aloadn (q := 82) 0 rfl rfl rfl dX4_advance_81 rfl ?_
        refine x_aloadn (q := 83) 0 rfl rfl rfl dX4_advance_82 rfl ?_
        refine x_geti (q := 86) (ji := 1) dX4_advance_83 rfl fa_X4_15 sh_31 rfl rfl (fun r33 => ?_)
        obtain ⟨⟨s34, s35⟩, H⟩ := H
        refine x_callV (q := 89) (d := d - 1) (as := [vI (m28 31 1)]) (st := [vR 31]) dX4_advance_86 rfl mv_X4_145 sh_31 rfl rfl rfl (by exact Nat.le_of_ble_eq_true rfl) ⟨by show _ ≤ d; omega, by show _ ≤ 40 * d; omega⟩ ⟨Nat.le_refl _, Nat.le_refl _⟩ (ct_typeAt s34 s35 ?_)
        show E_X4_advance G d 89 [(0, vR 31)] [vI (tyB (m28 29 (m28 31 1))), vR 31] m28 Q
        refine x_puti (q := 92) (ji := 3) dX4_advance_89 rfl fp_X4_32 sh_31 rfl rfl (tyB_inr _) (fun m36 em36 => ?_)
        have H := H m36 em36
        refine x_aloadn (q := 93) 0 rfl rfl rfl dX4_advance_92 rfl ?_
        refine x_dup (q := 94) (by exact Nat.ne_of_beq_eq_false rfl) dX4_advance_93 rfl ?_
        refine x_geti (q := 97) (ji := 1) dX4_advance_94 rfl fa_X4_15 sh_31 rfl rfl (fun r37 => ?_)
        refine x_iconst (q := 98) dX4_advance_97 rfl ?_
        refine x_iadd (q := 99) dX4_advance_98 rfl ?_
        obtain ⟨s39, H⟩ := H
        refine x_puti (q := 102) (ji := 1) dX4_advance_99 rfl fp_X4_15 sh_31 rfl rfl s39 (fun m38 em38 => ?_)
        have H := H m38 em38
        exact H
      · have H := H2 (hB)
        refine x_aloadn (q := 75) 0 rfl rfl rfl dX4_advance_74 rfl ?_
        refine x_iconst (q := 76) dX4_advance_75 rfl ?_
        refine x_puti (q := 79) (ji := 3) dX4_advance_76 rfl fp_X4_32 sh_31 rfl rfl (by decide) (fun m40 em40 => ?_)
        have H := H m40 em40
        exact x_vret rfl dX4_advance_79 H
    · have H := H2 (hB)
      refine x_aloadn (q := 40) 0 rfl rfl rfl dX4_advance_39 rfl ?_
      refine x_dup (q := 41) (by exact Nat.ne_of_beq_eq_false rfl) dX4_advance_40 rfl ?_
      refine x_geti (q := 44) (ji := 1) dX4_advance_41 rfl fa_X4_15 sh_31 rfl rfl (fun r41 => ?_)
      refine x_iconst (q := 45) dX4_advance_44 rfl ?_
      refine x_iadd (q := 46) dX4_advance_45 rfl ?_
      obtain ⟨s43, H⟩ := H
      refine x_puti (q := 49) (ji := 1) dX4_advance_46 rfl fp_X4_15 sh_31 rfl rfl s43 (fun m42 em42 => ?_)
      have H := H m42 em42
      refine x_goto (tgt := 8) dX4_advance_49 (by decide) ?_
      exact H
set_option maxRecDepth 20000 in
set_option maxHeartbeats 4000000 in
theorem B_X4_advance_102 {G : GT} {d : Nat}  {mem : Mem} {Q : Option AV → Mem → Prop} (hd : 1 ≤ d) (H : ((mem 31 3 = 3) → (Q none mem)) ∧ (¬ (mem 31 3 = 3) → (((mem 21 13 ≤ mem 31 1) → (Q none mem)) ∧ (¬ (mem 21 13 ≤ mem 31 1) → ((0 ≤ mem 31 1 ∧ mem 31 1 < 80) ∧ (((tyB (mem 29 (mem 31 1)) ≠ mem 31 3) → (Q none mem)) ∧ (¬ (tyB (mem 29 (mem 31 1)) ≠ mem 31 3) → ((inr ((mem 31 1) + 1)) ∧ (∀ m58 : Mem, m58 = upM mem 31 1 ((mem 31 1) + 1) → (E_X4_advance G d 102 [(0, vR 31)] [] m58 Q)))))))))) : E_X4_advance G d 102 [(0, vR 31)] [] mem Q := by
  refine x_aloadn (q := 103) 0 rfl rfl rfl dX4_advance_102 rfl ?_
  refine x_geti (q := 106) (ji := 3) dX4_advance_103 rfl fa_X4_32 sh_31 rfl rfl (fun r44 => ?_)
  refine x_iconst (q := 107) dX4_advance_106 rfl ?_
  obtain ⟨H1, H2⟩ := H
  refine x_icmp_eq (tgt := 152) (q := 110) dX4_advance_107 (by decide) rfl r44 (by decide) (fun hB => ?_) (fun hB => ?_)
  · have H := H1 (hB)
    exact x_vret rfl dX4_advance_152 H
  · have H := H2 (hB)
    refine x_aloadn (q := 111) 0 rfl rfl rfl dX4_advance_110 rfl ?_
    refine x_geti (q := 114) (ji := 1) dX4_advance_111 rfl fa_X4_15 sh_31 rfl rfl (fun r47 => ?_)
    refine x_aloadn (q := 115) 0 rfl rfl rfl dX4_advance_114 rfl ?_
    refine x_getr (q := 118) dX4_advance_115 rfl fa_X4_9 sh_31 rfl ?_
    refine x_geti (q := 121) (ji := 13) dX4_advance_118 rfl fa_X4_142 sh_21 rfl rfl (fun r48 => ?_)
    obtain ⟨H1, H2⟩ := H
    refine x_icmp_ge (tgt := 152) (q := 124) dX4_advance_121 (by decide) rfl r47 r48 (fun hB => ?_) (fun hB => ?_)
    · have H := H1 (hB)
      exact x_vret rfl dX4_advance_152 H
    · have H := H2 (hB)
      refine x_aloadn (q := 125) 0 rfl rfl rfl dX4_advance_124 rfl ?_
      refine x_aloadn (q := 126) 0 rfl rfl rfl dX4_advance_125 rfl ?_
      refine x_geti (q := 129) (ji := 1) dX4_advance_126 rfl fa_X4_15 sh_31 rfl rfl (fun r51 => ?_)
      obtain ⟨⟨s52, s53⟩, H⟩ := H
      refine x_callV (q := 132) (d := d - 1) (as := [vI (mem 31 1)]) (st := []) dX4_advance_129 rfl mv_X4_145 sh_31 rfl rfl rfl (by exact Nat.le_of_ble_eq_true rfl) ⟨by show _ ≤ d; omega, by show _ ≤ 40 * d; omega⟩ ⟨Nat.le_refl _, Nat.le_refl _⟩ (ct_typeAt s52 s53 ?_)
      show E_X4_advance G d 132 [(0, vR 31)] [vI (tyB (mem 29 (mem 31 1)))] mem Q
      refine x_aloadn (q := 133) 0 rfl rfl rfl dX4_advance_132 rfl ?_
      refine x_geti (q := 136) (ji := 3) dX4_advance_133 rfl fa_X4_32 sh_31 rfl rfl (fun r54 => ?_)
      obtain ⟨H1, H2⟩ := H
      refine x_icmp_ne (tgt := 152) (q := 139) dX4_advance_136 (by decide) rfl (tyB_inr _) r54 (fun hB => ?_) (fun hB => ?_)
      · have H := H1 (hB)
        exact x_vret rfl dX4_advance_152 H
      · have H := H2 (hB)
        refine x_aloadn (q := 140) 0 rfl rfl rfl dX4_advance_139 rfl ?_
        refine x_dup (q := 141) (by exact Nat.ne_of_beq_eq_false rfl) dX4_advance_140 rfl ?_
        refine x_geti (q := 144) (ji := 1) dX4_advance_141 rfl fa_X4_15 sh_31 rfl rfl (fun r57 => ?_)
        refine x_iconst (q := 145) dX4_advance_144 rfl ?_
        refine x_iadd (q := 146) dX4_advance_145 rfl ?_
        obtain ⟨s59, H⟩ := H
        refine x_puti (q := 149) (ji := 1) dX4_advance_146 rfl fp_X4_15 sh_31 rfl rfl s59 (fun m58 em58 => ?_)
        have H := H m58 em58
        refine x_goto (tgt := 102) dX4_advance_149 (by decide) ?_
        exact H
set_option maxRecDepth 20000 in
set_option maxHeartbeats 4000000 in
theorem B_X4_takenNumber {G : GT} {d : Nat}  {mem : Mem} {Q : Option AV → Mem → Prop} (H : ((mem 31 3 ≠ 2) → (Q (some (vI (-1))) mem)) ∧ (¬ (mem 31 3 ≠ 2) → ((inr ((mem 31 1) - (mem 31 2))) ∧ ((((mem 31 1) - (mem 31 2) ≤ 3) → (E_X4_takenNumber G d 30 [(0, vR 31), (1, vI 0), (2, vI (mem 31 2))] [] mem Q)) ∧ (¬ ((mem 31 1) - (mem 31 2) ≤ 3) → (Q (some (vI (-1))) mem)))))) : C_X4_takenNumber G d [vR 31] mem Q := by
  refine Ct_of_Ex (by decide +kernel) (by exact Nat.le_of_ble_eq_true rfl) (ls := [(0, vR 31)]) rfl ?_
  show E_X4_takenNumber G d 0 [(0, vR 31)] [] mem Q
  refine x_aloadn (q := 1) 0 rfl rfl rfl dX4_takenNumber_0 rfl ?_
  refine x_geti (q := 4) (ji := 3) dX4_takenNumber_1 rfl fa_X4_32 sh_31 rfl rfl (fun r1 => ?_)
  refine x_iconst (q := 5) dX4_takenNumber_4 rfl ?_
  obtain ⟨H1, H2⟩ := H
  refine x_icmp_ne (tgt := 21) (q := 8) dX4_takenNumber_5 (by decide) rfl r1 (by decide) (fun hB => ?_) (fun hB => ?_)
  · have H := H1 (hB)
    refine x_iconst (q := 22) dX4_takenNumber_21 rfl ?_
    exact x_iret rfl dX4_takenNumber_22 H
  · have H := H2 (hB)
    refine x_aloadn (q := 9) 0 rfl rfl rfl dX4_takenNumber_8 rfl ?_
    refine x_geti (q := 12) (ji := 1) dX4_takenNumber_9 rfl fa_X4_15 sh_31 rfl rfl (fun r4 => ?_)
    refine x_aloadn (q := 13) 0 rfl rfl rfl dX4_takenNumber_12 rfl ?_
    refine x_geti (q := 16) (ji := 2) dX4_takenNumber_13 rfl fa_X4_41 sh_31 rfl rfl (fun r5 => ?_)
    refine x_isub (q := 17) dX4_takenNumber_16 rfl ?_
    refine x_iconst (q := 18) dX4_takenNumber_17 rfl ?_
    obtain ⟨s6, H⟩ := H
    obtain ⟨H1, H2⟩ := H
    refine x_icmp_le (tgt := 23) (q := 21) dX4_takenNumber_18 (by decide) rfl s6 (by decide) (fun hB => ?_) (fun hB => ?_)
    · have H := H1 (hB)
      refine x_iconst (q := 24) dX4_takenNumber_23 rfl ?_
      refine x_istoren (q := 25) (ls' := [(1, vI 0), (0, vR 31)]) rfl (by decide) rfl dX4_takenNumber_24 rfl ?_
      refine x_aloadn (q := 26) 1 rfl rfl rfl dX4_takenNumber_25 rfl ?_
      refine x_geti (q := 29) (ji := 2) dX4_takenNumber_26 rfl fa_X4_41 sh_31 rfl rfl (fun r9 => ?_)
      refine x_istoren (q := 30) (ls' := [(2, vI (mem 31 2)), (1, vI 0), (0, vR 31)]) rfl (by decide) rfl dX4_takenNumber_29 rfl ?_
      refine x_sub [2, 1, 0] rfl ?_
      exact H
    · have H := H2 (hB)
      refine x_iconst (q := 22) dX4_takenNumber_21 rfl ?_
      exact x_iret rfl dX4_takenNumber_22 H
set_option maxRecDepth 20000 in
set_option maxHeartbeats 4000000 in
theorem B_X4_takenNumber_30 {G : GT} {d : Nat} {l1 : Int} {l2 : Int} {mem : Mem} {Q : Option AV → Mem → Prop} (H : (inr l2) ∧ (((mem 31 1 ≤ l2) → (Q (some (vI l1)) mem)) ∧ (¬ (mem 31 1 ≤ l2) → ((0 ≤ l2 ∧ l2 < 80) ∧ (E_X4_takenNumber G d 30 [(0, vR 31), (1, vI (((l1 * 10) + (mem 29 l2)) - 48)), (2, vI (l2 + 1))] [] mem Q))))) : E_X4_takenNumber G d 30 [(0, vR 31), (1, vI l1), (2, vI l2)] [] mem Q := by
  refine x_iloadn (q := 31) 2 rfl rfl dX4_takenNumber_30 rfl ?_
  refine x_aloadn (q := 32) 0 rfl rfl rfl dX4_takenNumber_31 rfl ?_
  refine x_geti (q := 35) (ji := 1) dX4_takenNumber_32 rfl fa_X4_15 sh_31 rfl rfl (fun r10 => ?_)
  obtain ⟨s11, H⟩ := H
  obtain ⟨H1, H2⟩ := H
  refine x_icmp_ge (tgt := 62) (q := 38) dX4_takenNumber_35 (by decide) rfl s11 r10 (fun hB => ?_) (fun hB => ?_)
  · have H := H1 (hB)
    refine x_iloadn (q := 63) 1 rfl rfl dX4_takenNumber_62 rfl ?_
    exact x_iret rfl dX4_takenNumber_63 H
  · have H := H2 (hB)
    refine x_iloadn (q := 39) 1 rfl rfl dX4_takenNumber_38 rfl ?_
    refine x_bipush (q := 41) rfl dX4_takenNumber_39 rfl ?_
    refine x_imul (q := 42) dX4_takenNumber_41 rfl ?_
    refine x_aloadn (q := 43) 0 rfl rfl rfl dX4_takenNumber_42 rfl ?_
    refine x_getr (q := 46) dX4_takenNumber_43 rfl fa_X4_9 sh_31 rfl ?_
    refine x_getr (q := 49) dX4_takenNumber_46 rfl fa_X4_35 sh_21 rfl ?_
    refine x_iloadn (q := 50) 2 rfl rfl dX4_takenNumber_49 rfl ?_
    obtain ⟨⟨s14, s15⟩, H⟩ := H
    refine x_bald (q := 51) dX4_takenNumber_50 rfl sh_29 s14 s15 (fun r16 => ?_)
    refine x_iadd (q := 52) dX4_takenNumber_51 rfl ?_
    refine x_bipush (q := 54) rfl dX4_takenNumber_52 rfl ?_
    refine x_isub (q := 55) dX4_takenNumber_54 rfl ?_
    refine x_istoren (q := 56) (ls' := [(1, vI (((l1 * 10) + (mem 29 l2)) - 48)), (0, vR 31), (2, vI l2)]) rfl (by decide) rfl dX4_takenNumber_55 rfl ?_
    refine x_iinc (q := 59) (ls' := [(2, vI (l2 + 1)), (1, vI (((l1 * 10) + (mem 29 l2)) - 48)), (0, vR 31)]) 2 rfl (by decide) rfl dX4_takenNumber_56 rfl ?_
    refine x_goto (tgt := 30) dX4_takenNumber_59 (by decide) ?_
    refine x_sub [2, 1, 0] rfl ?_
    exact H
set_option maxRecDepth 20000 in
set_option maxHeartbeats 4000000 in
theorem B_X4_readNumber {G : GT} {d : Nat} {l1 : Int} {l2 : Int} {mem : Mem} {Q : Option AV → Mem → Prop} (hd : 2 ≤ d) (H : C_X4_advance G (d - 1) [vR 31] mem (fun r9 m1 => r9 = none ∧ (C_X4_takenNumber G (d - 1) [vR 31] m1 (fun r9 m2 => ∃ z3 : Int, r9 = some (vI z3) ∧ ((inr z3 ∧ inr l1 ∧ inr l2) ∧ ((¬ (z3 < l1 ∨ l2 < z3) → (Q (some (vI z3)) m2)) ∧ ((z3 < l1 ∨ l2 < z3) → (∀ m9 : Mem, m9 = flM m2 → (Q (some (vI z3)) m9))))))))) : C_X4_readNumber G d [vR 31, vI l1, vI l2] mem Q := by
  refine Ct_of_Ex (by decide +kernel) (by exact Nat.le_of_ble_eq_true rfl) (ls := [(0, vR 31), (1, vI l1), (2, vI l2)]) rfl ?_
  show E_X4_readNumber G d 0 [(0, vR 31), (1, vI l1), (2, vI l2)] [] mem Q
  refine x_aloadn (q := 1) 0 rfl rfl rfl dX4_readNumber_0 rfl ?_
  refine x_callV (q := 4) (d := d - 1) (as := []) (st := []) dX4_readNumber_1 rfl mv_X4_25 sh_31 rfl rfl rfl (by exact Nat.le_of_ble_eq_true rfl) ⟨by show _ ≤ d; omega, by show _ ≤ 40 * d; omega⟩ ⟨Nat.le_refl _, Nat.le_refl _⟩ (Ct.mono H (fun r9 m1 H => ?_))
  obtain ⟨rfl, H⟩ := H
  show E_X4_readNumber G d 4 [(0, vR 31), (1, vI l1), (2, vI l2)] [] m1 Q
  refine x_aloadn (q := 5) 0 rfl rfl rfl dX4_readNumber_4 rfl ?_
  refine x_callV (q := 8) (d := d - 1) (as := []) (st := []) dX4_readNumber_5 rfl mv_X4_126 sh_31 rfl rfl rfl (by exact Nat.le_of_ble_eq_true rfl) ⟨by show _ ≤ d; omega, by show _ ≤ 40 * d; omega⟩ ⟨Nat.le_refl _, Nat.le_refl _⟩ (Ct.mono H (fun r9 m2 H => ?_))
  obtain ⟨z3, rfl, H⟩ := H
  show E_X4_readNumber G d 8 [(0, vR 31), (1, vI l1), (2, vI l2)] [vI z3] m2 Q
  refine x_istoren (q := 9) (ls' := [(3, vI z3), (0, vR 31), (1, vI l1), (2, vI l2)]) rfl (by decide) rfl dX4_readNumber_8 rfl ?_
  refine x_iloadn (q := 10) 0 rfl rfl dX4_readNumber_9 rfl ?_
  refine x_iloadn (q := 11) 2 rfl rfl dX4_readNumber_10 rfl ?_
  refine x_iloadn (q := 12) 3 rfl rfl dX4_readNumber_11 rfl ?_
  obtain ⟨⟨s4, s5, s6⟩, H⟩ := H
  refine x_callS (q := 15) (d := d - 1) (as := [vI z3, vI l1, vI l2]) (st := []) dX4_readNumber_12 rfl ms_X4_129 rfl rfl (by exact Nat.le_of_ble_eq_true rfl) ⟨by show _ ≤ d; omega, by show _ ≤ 40 * d; omega⟩ ⟨Nat.le_refl _, Nat.le_refl _⟩ (ct_outside s4 s5 s6 ?_)
  show E_X4_readNumber G d 15 [(3, vI z3), (0, vR 31), (1, vI l1), (2, vI l2)] [vI (bz (z3 < l1 ∨ l2 < z3))] m2 Q
  obtain ⟨H1, H2⟩ := H
  refine x_if_eq (tgt := 22) (q := 18) dX4_readNumber_15 (by decide) rfl (bz_inr _) (fun hB => ?_) (fun hB => ?_)
  · have H := H1 (bz_0.mp hB)
    refine x_iloadn (q := 23) 0 rfl rfl dX4_readNumber_22 rfl ?_
    exact x_iret rfl dX4_readNumber_23 H
  · have H := H2 (Classical.byContradiction (fun z => hB (bz_0.mpr z)))
    refine x_aloadn (q := 19) 1 rfl rfl rfl dX4_readNumber_18 rfl ?_
    obtain ⟨m9, em9⟩ : ∃ m9 : Mem, m9 = flM m2 := ⟨_, rfl⟩
    have H := H m9 em9
    refine x_callV (q := 22) (d := d - 1) (as := []) (st := []) dX4_readNumber_19 rfl mv_X4_44 sh_31 rfl rfl rfl (by exact Nat.le_of_ble_eq_true rfl) ⟨by show _ ≤ d; omega, by show _ ≤ 40 * d; omega⟩ ⟨Nat.le_refl _, Nat.le_refl _⟩ (ct_fail (by omega) ?_)
    rw [← em9]
    show E_X4_readNumber G d 22 [(3, vI z3), (0, vR 31), (1, vI l1), (2, vI l2)] [] m9 Q
    refine x_iloadn (q := 23) 0 rfl rfl dX4_readNumber_22 rfl ?_
    exact x_iret rfl dX4_readNumber_23 H
set_option maxRecDepth 20000 in
set_option maxHeartbeats 4000000 in
theorem B_X4_readKind {G : GT} {d : Nat}  {mem : Mem} {Q : Option AV → Mem → Prop} (hd : 1 ≤ d) (H : C_X4_advance G (d - 1) [vR 31] mem (fun r9 m1 => r9 = none ∧ (E_X4_readKind G d 6 [(0, vR 31), (1, vI 0)] [] m1 Q))) : C_X4_readKind G d [vR 31] mem Q := by
  refine Ct_of_Ex (by decide +kernel) (by exact Nat.le_of_ble_eq_true rfl) (ls := [(0, vR 31)]) rfl ?_
  show E_X4_readKind G d 0 [(0, vR 31)] [] mem Q
  refine x_aloadn (q := 1) 0 rfl rfl rfl dX4_readKind_0 rfl ?_
  refine x_callV (q := 4) (d := d - 1) (as := []) (st := []) dX4_readKind_1 rfl mv_X4_25 sh_31 rfl rfl rfl (by exact Nat.le_of_ble_eq_true rfl) ⟨by show _ ≤ d; omega, by show _ ≤ 40 * d; omega⟩ ⟨Nat.le_refl _, Nat.le_refl _⟩ (Ct.mono H (fun r9 m1 H => ?_))
  obtain ⟨rfl, H⟩ := H
  show E_X4_readKind G d 4 [(0, vR 31)] [] m1 Q
  refine x_iconst (q := 5) dX4_readKind_4 rfl ?_
  refine x_istoren (q := 6) (ls' := [(1, vI 0), (0, vR 31)]) rfl (by decide) rfl dX4_readKind_5 rfl ?_
  refine x_sub [1, 0] rfl ?_
  exact H
set_option maxRecDepth 20000 in
set_option maxHeartbeats 4000000 in
theorem B_X4_readKind_6 {G : GT} {d : Nat} {l1 : Int} {mem : Mem} {Q : Option AV → Mem → Prop} (hd : 2 ≤ d) (H : (inr l1) ∧ (((5 < l1) → (∀ m5 : Mem, m5 = flM mem → (Q (some (vI 0)) m5))) ∧ (¬ (5 < l1) → (C_X4_isWord G (d - 1) [vR 31, vS (wdK l1)] mem (fun r9 m6 => ∃ z7 : Int, r9 = some (vI z7) ∧ ((inr z7) ∧ (((z7 = 0) → (E_X4_readKind G d 6 [(0, vR 31), (1, vI (l1 + 1))] [] m6 Q)) ∧ (¬ (z7 = 0) → (Q (some (vI l1)) m6))))))))) : E_X4_readKind G d 6 [(0, vR 31), (1, vI l1)] [] mem Q := by
  refine x_iloadn (q := 7) 1 rfl rfl dX4_readKind_6 rfl ?_
  refine x_iconst (q := 8) dX4_readKind_7 rfl ?_
  obtain ⟨s2, H⟩ := H
  obtain ⟨H1, H2⟩ := H
  refine x_icmp_gt (tgt := 30) (q := 11) dX4_readKind_8 (by decide) rfl s2 (by decide) (fun hB => ?_) (fun hB => ?_)
  · have H := H1 (hB)
    refine x_aloadn (q := 31) 0 rfl rfl rfl dX4_readKind_30 rfl ?_
    obtain ⟨m5, em5⟩ : ∃ m9 : Mem, m9 = flM mem := ⟨_, rfl⟩
    have H := H m5 em5
    refine x_callV (q := 34) (d := d - 1) (as := []) (st := []) dX4_readKind_31 rfl mv_X4_44 sh_31 rfl rfl rfl (by exact Nat.le_of_ble_eq_true rfl) ⟨by show _ ≤ d; omega, by show _ ≤ 40 * d; omega⟩ ⟨Nat.le_refl _, Nat.le_refl _⟩ (ct_fail (by omega) ?_)
    rw [← em5]
    show E_X4_readKind G d 34 [(0, vR 31), (1, vI l1)] [] m5 Q
    refine x_iconst (q := 35) dX4_readKind_34 rfl ?_
    exact x_iret rfl dX4_readKind_35 H
  · have H := H2 (hB)
    refine x_aloadn (q := 12) 0 rfl rfl rfl dX4_readKind_11 rfl ?_
    refine x_iloadn (q := 13) 1 rfl rfl dX4_readKind_12 rfl ?_
    refine x_callS (q := 16) (d := d - 1) (as := [vI l1]) (st := [vR 31]) dX4_readKind_13 rfl ms_X4_110 rfl rfl (by exact Nat.le_of_ble_eq_true rfl) ⟨by show _ ≤ d; omega, by show _ ≤ 40 * d; omega⟩ ⟨Nat.le_refl _, Nat.le_refl _⟩ (ct_wordOf s2 ?_)
    show E_X4_readKind G d 16 [(0, vR 31), (1, vI l1)] [vS (wdK l1), vR 31] mem Q
    refine x_callV (q := 19) (d := d - 1) (as := [vS (wdK l1)]) (st := []) dX4_readKind_16 rfl mv_X4_49 sh_31 rfl rfl rfl (by exact Nat.le_of_ble_eq_true rfl) ⟨by show _ ≤ d; omega, by show _ ≤ 40 * d; omega⟩ ⟨Nat.le_refl _, Nat.le_refl _⟩ (Ct.mono H (fun r9 m6 H => ?_))
    obtain ⟨z7, rfl, H⟩ := H
    show E_X4_readKind G d 19 [(0, vR 31), (1, vI l1)] [vI z7] m6 Q
    obtain ⟨s8, H⟩ := H
    obtain ⟨H1, H2⟩ := H
    refine x_if_eq (tgt := 24) (q := 22) dX4_readKind_19 (by decide) rfl s8 (fun hB => ?_) (fun hB => ?_)
    · have H := H1 (hB)
      refine x_iinc (q := 27) (ls' := [(1, vI (l1 + 1)), (0, vR 31)]) 1 rfl (by decide) rfl dX4_readKind_24 rfl ?_
      refine x_goto (tgt := 6) dX4_readKind_27 (by decide) ?_
      refine x_sub [1, 0] rfl ?_
      exact H
    · have H := H2 (hB)
      refine x_iloadn (q := 23) 1 rfl rfl dX4_readKind_22 rfl ?_
      exact x_iret rfl dX4_readKind_23 H
set_option maxRecDepth 20000 in
set_option maxHeartbeats 4000000 in
theorem B_X4_readMachine {G : GT} {d : Nat}  {mem : Mem} {Q : Option AV → Mem → Prop} (hd : 1 ≤ d) (H : C_X4_readKind G (d - 1) [vR 31] mem (fun r9 m1 => ∃ z2 : Int, r9 = some (vI z2) ∧ (C_X4_readNumber G (d - 1) [vR 31, vI 1, vI 99] m1 (fun r9 m3 => ∃ z4 : Int, r9 = some (vI z4) ∧ (C_X4_readNumber G (d - 1) [vR 31, vI 1, vI 9] m3 (fun r9 m5 => ∃ z6 : Int, r9 = some (vI z6) ∧ ((¬ (m5 31 4 = -1) → (Q none m5)) ∧ ((m5 31 4 = -1) → ((inr z2 ∧ inr z4 ∧ inr z6) ∧ ((0 ≤ m5 21 0 ∧ m5 21 0 < 12) ∧ (∀ m14 : Mem, m14 = addMcM m5 21 z2 z4 z6 → (Q none m14)))))))))))) : C_X4_readMachine G d [vR 31] mem Q := by
  refine Ct_of_Ex (by decide +kernel) (by exact Nat.le_of_ble_eq_true rfl) (ls := [(0, vR 31)]) rfl ?_
  show E_X4_readMachine G d 0 [(0, vR 31)] [] mem Q
  refine x_aloadn (q := 1) 0 rfl rfl rfl dX4_readMachine_0 rfl ?_
  refine x_callV (q := 4) (d := d - 1) (as := []) (st := []) dX4_readMachine_1 rfl mv_X4_77 sh_31 rfl rfl rfl (by exact Nat.le_of_ble_eq_true rfl) ⟨by show _ ≤ d; omega, by show _ ≤ 40 * d; omega⟩ ⟨Nat.le_refl _, Nat.le_refl _⟩ (Ct.mono H (fun r9 m1 H => ?_))
  obtain ⟨z2, rfl, H⟩ := H
  show E_X4_readMachine G d 4 [(0, vR 31)] [vI z2] m1 Q
  refine x_istoren (q := 5) (ls' := [(1, vI z2), (0, vR 31)]) rfl (by decide) rfl dX4_readMachine_4 rfl ?_
  refine x_aloadn (q := 6) 1 rfl rfl rfl dX4_readMachine_5 rfl ?_
  refine x_iconst (q := 7) dX4_readMachine_6 rfl ?_
  refine x_bipush (q := 9) rfl dX4_readMachine_7 rfl ?_
  refine x_callV (q := 12) (d := d - 1) (as := [vI 1, vI 99]) (st := []) dX4_readMachine_9 rfl mv_X4_81 sh_31 rfl rfl rfl (by exact Nat.le_of_ble_eq_true rfl) ⟨by show _ ≤ d; omega, by show _ ≤ 40 * d; omega⟩ ⟨Nat.le_refl _, Nat.le_refl _⟩ (Ct.mono H (fun r9 m3 H => ?_))
  obtain ⟨z4, rfl, H⟩ := H
  show E_X4_readMachine G d 12 [(1, vI z2), (0, vR 31)] [vI z4] m3 Q
  refine x_istoren (q := 13) (ls' := [(2, vI z4), (1, vI z2), (0, vR 31)]) rfl (by decide) rfl dX4_readMachine_12 rfl ?_
  refine x_aloadn (q := 14) 2 rfl rfl rfl dX4_readMachine_13 rfl ?_
  refine x_iconst (q := 15) dX4_readMachine_14 rfl ?_
  refine x_bipush (q := 17) rfl dX4_readMachine_15 rfl ?_
  refine x_callV (q := 20) (d := d - 1) (as := [vI 1, vI 9]) (st := []) dX4_readMachine_17 rfl mv_X4_81 sh_31 rfl rfl rfl (by exact Nat.le_of_ble_eq_true rfl) ⟨by show _ ≤ d; omega, by show _ ≤ 40 * d; omega⟩ ⟨Nat.le_refl _, Nat.le_refl _⟩ (Ct.mono H (fun r9 m5 H => ?_))
  obtain ⟨z6, rfl, H⟩ := H
  show E_X4_readMachine G d 20 [(2, vI z4), (1, vI z2), (0, vR 31)] [vI z6] m5 Q
  refine x_istoren (q := 21) (ls' := [(3, vI z6), (2, vI z4), (1, vI z2), (0, vR 31)]) rfl (by decide) rfl dX4_readMachine_20 rfl ?_
  refine x_aloadn (q := 22) 3 rfl rfl rfl dX4_readMachine_21 rfl ?_
  refine x_callV (q := 25) (d := d - 1) (as := []) (st := []) dX4_readMachine_22 rfl mv_X4_28 sh_31 rfl rfl rfl (by exact Nat.le_of_ble_eq_true rfl) ⟨by show _ ≤ d; omega, by show _ ≤ 40 * d; omega⟩ ⟨Nat.le_refl _, Nat.le_refl _⟩ (ct_isRight ?_)
  show E_X4_readMachine G d 25 [(3, vI z6), (2, vI z4), (1, vI z2), (0, vR 31)] [vI (bz (m5 31 4 = -1))] m5 Q
  obtain ⟨H1, H2⟩ := H
  refine x_if_eq (tgt := 39) (q := 28) dX4_readMachine_25 (by decide) rfl (bz_inr _) (fun hB => ?_) (fun hB => ?_)
  · have H := H1 (bz_0.mp hB)
    exact x_vret rfl dX4_readMachine_39 H
  · have H := H2 (Classical.byContradiction (fun z => hB (bz_0.mpr z)))
    refine x_aloadn (q := 29) 3 rfl rfl rfl dX4_readMachine_28 rfl ?_
    refine x_getr (q := 32) dX4_readMachine_29 rfl fa_X4_9 sh_31 rfl ?_
    refine x_iloadn (q := 33) 2 rfl rfl dX4_readMachine_32 rfl ?_
    refine x_iloadn (q := 34) 1 rfl rfl dX4_readMachine_33 rfl ?_
    refine x_iloadn (q := 35) 0 rfl rfl dX4_readMachine_34 rfl ?_
    obtain ⟨⟨s9, s10, s11⟩, H⟩ := H
    obtain ⟨⟨s12, s13⟩, H⟩ := H
    obtain ⟨m14, em14⟩ : ∃ m9 : Mem, m9 = addMcM m5 21 z2 z4 z6 := ⟨_, rfl⟩
    have H := H m14 em14
    refine x_callV (q := 38) (d := d - 1) (as := [vI z2, vI z4, vI z6]) (st := []) dX4_readMachine_35 rfl mv_X4_85 sh_21 rfl rfl rfl (by exact Nat.le_of_ble_eq_true rfl) ⟨by show _ ≤ d; omega, by show _ ≤ 40 * d; omega⟩ ⟨Nat.le_refl _, Nat.le_refl _⟩ (ct_addMachine (by decide) s12 s13 s9 s10 s11 ?_)
    rw [← em14]
    show E_X4_readMachine G d 38 [(3, vI z6), (2, vI z4), (1, vI z2), (0, vR 31)] [vI (m5 21 0)] m14 Q
    refine x_pop (q := 39) (by exact Nat.ne_of_beq_eq_false rfl) dX4_readMachine_38 rfl ?_
    exact x_vret rfl dX4_readMachine_39 H
set_option maxRecDepth 20000 in
set_option maxHeartbeats 4000000 in
theorem B_X4_readTie {G : GT} {d : Nat}  {mem : Mem} {Q : Option AV → Mem → Prop} (hd : 2 ≤ d) (H : C_X4_readNumber G (d - 1) [vR 31, vI 0, vI ((mem 21 0) - 1)] mem (fun r9 m2 => ∃ z3 : Int, r9 = some (vI z3) ∧ (C_X4_readNumber G (d - 1) [vR 31, vI 0, vI ((m2 21 0) - 1)] m2 (fun r9 m5 => ∃ z6 : Int, r9 = some (vI z6) ∧ ((¬ (m5 31 4 = -1) → (C_X4_readNumber G (d - 1) [vR 31, vI 1, vI 99] m5 (fun r9 m9 => ∃ z10 : Int, r9 = some (vI z10) ∧ ((¬ (m9 31 4 = -1) → (Q none m9)) ∧ ((m9 31 4 = -1) → ((inr z10) ∧ ((0 ≤ z3 ∧ z3 < 12 ∧ 0 ≤ z6 ∧ z6 < 12) ∧ (∀ m18 : Mem, m18 = setTieM m9 21 z3 z6 z10 → (Q none m18))))))))) ∧ ((m5 31 4 = -1) → ((inr z3 ∧ inr z6) ∧ (((z3 ≠ z6) → (C_X4_readNumber G (d - 1) [vR 31, vI 1, vI 99] m5 (fun r9 m23 => ∃ z24 : Int, r9 = some (vI z24) ∧ ((¬ (m23 31 4 = -1) → (Q none m23)) ∧ ((m23 31 4 = -1) → ((inr z24) ∧ ((0 ≤ z3 ∧ z3 < 12 ∧ 0 ≤ z6 ∧ z6 < 12) ∧ (∀ m32 : Mem, m32 = setTieM m23 21 z3 z6 z24 → (Q none m32))))))))) ∧ (¬ (z3 ≠ z6) → (∀ m33 : Mem, m33 = flM m5 → (C_X4_readNumber G (d - 1) [vR 31, vI 1, vI 99] m33 (fun r9 m34 => ∃ z35 : Int, r9 = some (vI z35) ∧ ((¬ (m34 31 4 = -1) → (Q none m34)) ∧ ((m34 31 4 = -1) → ((inr z35) ∧ ((0 ≤ z3 ∧ z3 < 12 ∧ 0 ≤ z6 ∧ z6 < 12) ∧ (∀ m43 : Mem, m43 = setTieM m34 21 z3 z6 z35 → (Q none m43)))))))))))))))))) : C_X4_readTie G d [vR 31] mem Q := by
  refine Ct_of_Ex (by decide +kernel) (by exact Nat.le_of_ble_eq_true rfl) (ls := [(0, vR 31)]) rfl ?_
  show E_X4_readTie G d 0 [(0, vR 31)] [] mem Q
  refine x_aloadn (q := 1) 0 rfl rfl rfl dX4_readTie_0 rfl ?_
  refine x_iconst (q := 2) dX4_readTie_1 rfl ?_
  refine x_aloadn (q := 3) 0 rfl rfl rfl dX4_readTie_2 rfl ?_
  refine x_getr (q := 6) dX4_readTie_3 rfl fa_X4_9 sh_31 rfl ?_
  refine x_geti (q := 9) (ji := 0) dX4_readTie_6 rfl fa_X4_89 sh_21 rfl rfl (fun r1 => ?_)
  refine x_iconst (q := 10) dX4_readTie_9 rfl ?_
  refine x_isub (q := 11) dX4_readTie_10 rfl ?_
  refine x_callV (q := 14) (d := d - 1) (as := [vI 0, vI ((mem 21 0) - 1)]) (st := []) dX4_readTie_11 rfl mv_X4_81 sh_31 rfl rfl rfl (by exact Nat.le_of_ble_eq_true rfl) ⟨by show _ ≤ d; omega, by show _ ≤ 40 * d; omega⟩ ⟨Nat.le_refl _, Nat.le_refl _⟩ (Ct.mono H (fun r9 m2 H => ?_))
  obtain ⟨z3, rfl, H⟩ := H
  show E_X4_readTie G d 14 [(0, vR 31)] [vI z3] m2 Q
  refine x_istoren (q := 15) (ls' := [(1, vI z3), (0, vR 31)]) rfl (by decide) rfl dX4_readTie_14 rfl ?_
  refine x_aloadn (q := 16) 1 rfl rfl rfl dX4_readTie_15 rfl ?_
  refine x_iconst (q := 17) dX4_readTie_16 rfl ?_
  refine x_aloadn (q := 18) 1 rfl rfl rfl dX4_readTie_17 rfl ?_
  refine x_getr (q := 21) dX4_readTie_18 rfl fa_X4_9 sh_31 rfl ?_
  refine x_geti (q := 24) (ji := 0) dX4_readTie_21 rfl fa_X4_89 sh_21 rfl rfl (fun r4 => ?_)
  refine x_iconst (q := 25) dX4_readTie_24 rfl ?_
  refine x_isub (q := 26) dX4_readTie_25 rfl ?_
  refine x_callV (q := 29) (d := d - 1) (as := [vI 0, vI ((m2 21 0) - 1)]) (st := []) dX4_readTie_26 rfl mv_X4_81 sh_31 rfl rfl rfl (by exact Nat.le_of_ble_eq_true rfl) ⟨by show _ ≤ d; omega, by show _ ≤ 40 * d; omega⟩ ⟨Nat.le_refl _, Nat.le_refl _⟩ (Ct.mono H (fun r9 m5 H => ?_))
  obtain ⟨z6, rfl, H⟩ := H
  show E_X4_readTie G d 29 [(1, vI z3), (0, vR 31)] [vI z6] m5 Q
  refine x_istoren (q := 30) (ls' := [(2, vI z6), (1, vI z3), (0, vR 31)]) rfl (by decide) rfl dX4_readTie_29 rfl ?_
  refine x_aloadn (q := 31) 2 rfl rfl rfl dX4_readTie_30 rfl ?_
  refine x_callV (q := 34) (d := d - 1) (as := []) (st := []) dX4_readTie_31 rfl mv_X4_28 sh_31 rfl rfl rfl (by exact Nat.le_of_ble_eq_true rfl) ⟨by show _ ≤ d; omega, by show _ ≤ 40 * d; omega⟩ ⟨Nat.le_refl _, Nat.le_refl _⟩ (ct_isRight ?_)
  show E_X4_readTie G d 34 [(2, vI z6), (1, vI z3), (0, vR 31)] [vI (bz (m5 31 4 = -1))] m5 Q
  obtain ⟨H1, H2⟩ := H
  refine x_if_eq (tgt := 46) (q := 37) dX4_readTie_34 (by decide) rfl (bz_inr _) (fun hB => ?_) (fun hB => ?_)
  · have H := H1 (bz_0.mp hB)
    refine x_aloadn (q := 47) 2 rfl rfl rfl dX4_readTie_46 rfl ?_
    refine x_iconst (q := 48) dX4_readTie_47 rfl ?_
    refine x_bipush (q := 50) rfl dX4_readTie_48 rfl ?_
    refine x_callV (q := 53) (d := d - 1) (as := [vI 1, vI 99]) (st := []) dX4_readTie_50 rfl mv_X4_81 sh_31 rfl rfl rfl (by exact Nat.le_of_ble_eq_true rfl) ⟨by show _ ≤ d; omega, by show _ ≤ 40 * d; omega⟩ ⟨Nat.le_refl _, Nat.le_refl _⟩ (Ct.mono H (fun r9 m9 H => ?_))
    obtain ⟨z10, rfl, H⟩ := H
    show E_X4_readTie G d 53 [(2, vI z6), (1, vI z3), (0, vR 31)] [vI z10] m9 Q
    refine x_istoren (q := 54) (ls' := [(3, vI z10), (2, vI z6), (1, vI z3), (0, vR 31)]) rfl (by decide) rfl dX4_readTie_53 rfl ?_
    refine x_aloadn (q := 55) 3 rfl rfl rfl dX4_readTie_54 rfl ?_
    refine x_callV (q := 58) (d := d - 1) (as := []) (st := []) dX4_readTie_55 rfl mv_X4_28 sh_31 rfl rfl rfl (by exact Nat.le_of_ble_eq_true rfl) ⟨by show _ ≤ d; omega, by show _ ≤ 40 * d; omega⟩ ⟨Nat.le_refl _, Nat.le_refl _⟩ (ct_isRight ?_)
    show E_X4_readTie G d 58 [(3, vI z10), (2, vI z6), (1, vI z3), (0, vR 31)] [vI (bz (m9 31 4 = -1))] m9 Q
    obtain ⟨H1, H2⟩ := H
    refine x_if_eq (tgt := 72) (q := 61) dX4_readTie_58 (by decide) rfl (bz_inr _) (fun hB => ?_) (fun hB => ?_)
    · have H := H1 (bz_0.mp hB)
      exact x_vret rfl dX4_readTie_72 H
    · have H := H2 (Classical.byContradiction (fun z => hB (bz_0.mpr z)))
      refine x_aloadn (q := 62) 3 rfl rfl rfl dX4_readTie_61 rfl ?_
      refine x_getr (q := 65) dX4_readTie_62 rfl fa_X4_9 sh_31 rfl ?_
      refine x_iloadn (q := 66) 2 rfl rfl dX4_readTie_65 rfl ?_
      refine x_iloadn (q := 67) 1 rfl rfl dX4_readTie_66 rfl ?_
      refine x_iloadn (q := 68) 0 rfl rfl dX4_readTie_67 rfl ?_
      obtain ⟨s13, H⟩ := H
      obtain ⟨⟨s14, s15, s16, s17⟩, H⟩ := H
      obtain ⟨m18, em18⟩ : ∃ mx9 : Mem, mx9 = setTieM m9 21 z3 z6 z10 := ⟨_, rfl⟩
      have H := H m18 em18
      refine x_callV (q := 71) (d := d - 1) (as := [vI z3, vI z6, vI z10]) (st := []) dX4_readTie_68 rfl mv_X4_92 sh_21 rfl rfl rfl (by exact Nat.le_of_ble_eq_true rfl) ⟨by show _ ≤ d; omega, by show _ ≤ 40 * d; omega⟩ ⟨Nat.le_refl _, Nat.le_refl _⟩ (ct_setTie (by decide) (by omega) s14 s15 s16 s17 s13 ?_)
      rw [← em18]
      show E_X4_readTie G d 71 [(3, vI z10), (2, vI z6), (1, vI z3), (0, vR 31)] [vI (m9 26 (z3 * 12 + z6))] m18 Q
      refine x_pop (q := 72) (by exact Nat.ne_of_beq_eq_false rfl) dX4_readTie_71 rfl ?_
      exact x_vret rfl dX4_readTie_72 H
  · have H := H2 (Classical.byContradiction (fun z => hB (bz_0.mpr z)))
    refine x_iloadn (q := 38) 1 rfl rfl dX4_readTie_37 rfl ?_
    refine x_iloadn (q := 39) 0 rfl rfl dX4_readTie_38 rfl ?_
    obtain ⟨⟨s19, s20⟩, H⟩ := H
    obtain ⟨H1, H2⟩ := H
    refine x_icmp_ne (tgt := 46) (q := 42) dX4_readTie_39 (by decide) rfl s19 s20 (fun hB => ?_) (fun hB => ?_)
    · have H := H1 (hB)
      refine x_aloadn (q := 47) 2 rfl rfl rfl dX4_readTie_46 rfl ?_
      refine x_iconst (q := 48) dX4_readTie_47 rfl ?_
      refine x_bipush (q := 50) rfl dX4_readTie_48 rfl ?_
      refine x_callV (q := 53) (d := d - 1) (as := [vI 1, vI 99]) (st := []) dX4_readTie_50 rfl mv_X4_81 sh_31 rfl rfl rfl (by exact Nat.le_of_ble_eq_true rfl) ⟨by show _ ≤ d; omega, by show _ ≤ 40 * d; omega⟩ ⟨Nat.le_refl _, Nat.le_refl _⟩ (Ct.mono H (fun r9 m23 H => ?_))
      obtain ⟨z24, rfl, H⟩ := H
      show E_X4_readTie G d 53 [(2, vI z6), (1, vI z3), (0, vR 31)] [vI z24] m23 Q
      refine x_istoren (q := 54) (ls' := [(3, vI z24), (2, vI z6), (1, vI z3), (0, vR 31)]) rfl (by decide) rfl dX4_readTie_53 rfl ?_
      refine x_aloadn (q := 55) 3 rfl rfl rfl dX4_readTie_54 rfl ?_
      refine x_callV (q := 58) (d := d - 1) (as := []) (st := []) dX4_readTie_55 rfl mv_X4_28 sh_31 rfl rfl rfl (by exact Nat.le_of_ble_eq_true rfl) ⟨by show _ ≤ d; omega, by show _ ≤ 40 * d; omega⟩ ⟨Nat.le_refl _, Nat.le_refl _⟩ (ct_isRight ?_)
      show E_X4_readTie G d 58 [(3, vI z24), (2, vI z6), (1, vI z3), (0, vR 31)] [vI (bz (m23 31 4 = -1))] m23 Q
      obtain ⟨H1, H2⟩ := H
      refine x_if_eq (tgt := 72) (q := 61) dX4_readTie_58 (by decide) rfl (bz_inr _) (fun hB => ?_) (fun hB => ?_)
      · have H := H1 (bz_0.mp hB)
        exact x_vret rfl dX4_readTie_72 H
      · have H := H2 (Classical.byContradiction (fun z => hB (bz_0.mpr z)))
        refine x_aloadn (q := 62) 3 rfl rfl rfl dX4_readTie_61 rfl ?_
        refine x_getr (q := 65) dX4_readTie_62 rfl fa_X4_9 sh_31 rfl ?_
        refine x_iloadn (q := 66) 2 rfl rfl dX4_readTie_65 rfl ?_
        refine x_iloadn (q := 67) 1 rfl rfl dX4_readTie_66 rfl ?_
        refine x_iloadn (q := 68) 0 rfl rfl dX4_readTie_67 rfl ?_
        obtain ⟨s27, H⟩ := H
        obtain ⟨⟨s28, s29, s30, s31⟩, H⟩ := H
        obtain ⟨m32, em32⟩ : ∃ m9 : Mem, m9 = setTieM m23 21 z3 z6 z24 := ⟨_, rfl⟩
        have H := H m32 em32
        refine x_callV (q := 71) (d := d - 1) (as := [vI z3, vI z6, vI z24]) (st := []) dX4_readTie_68 rfl mv_X4_92 sh_21 rfl rfl rfl (by exact Nat.le_of_ble_eq_true rfl) ⟨by show _ ≤ d; omega, by show _ ≤ 40 * d; omega⟩ ⟨Nat.le_refl _, Nat.le_refl _⟩ (ct_setTie (by decide) (by omega) s28 s29 s30 s31 s27 ?_)
        rw [← em32]
        show E_X4_readTie G d 71 [(3, vI z24), (2, vI z6), (1, vI z3), (0, vR 31)] [vI (m23 26 (z3 * 12 + z6))] m32 Q
        refine x_pop (q := 72) (by exact Nat.ne_of_beq_eq_false rfl) dX4_readTie_71 rfl ?_
        exact x_vret rfl dX4_readTie_72 H
    · have H := H2 (hB)
      refine x_aloadn (q := 43) 2 rfl rfl rfl dX4_readTie_42 rfl ?_
      obtain ⟨m33, em33⟩ : ∃ m9 : Mem, m9 = flM m5 := ⟨_, rfl⟩
      have H := H m33 em33
      refine x_callV (q := 46) (d := d - 1) (as := []) (st := []) dX4_readTie_43 rfl mv_X4_44 sh_31 rfl rfl rfl (by exact Nat.le_of_ble_eq_true rfl) ⟨by show _ ≤ d; omega, by show _ ≤ 40 * d; omega⟩ ⟨Nat.le_refl _, Nat.le_refl _⟩ (ct_fail (by omega) ?_)
      rw [← em33]
      show E_X4_readTie G d 46 [(2, vI z6), (1, vI z3), (0, vR 31)] [] m33 Q
      refine x_aloadn (q := 47) 2 rfl rfl rfl dX4_readTie_46 rfl ?_
      refine x_iconst (q := 48) dX4_readTie_47 rfl ?_
      refine x_bipush (q := 50) rfl dX4_readTie_48 rfl ?_
      refine x_callV (q := 53) (d := d - 1) (as := [vI 1, vI 99]) (st := []) dX4_readTie_50 rfl mv_X4_81 sh_31 rfl rfl rfl (by exact Nat.le_of_ble_eq_true rfl) ⟨by show _ ≤ d; omega, by show _ ≤ 40 * d; omega⟩ ⟨Nat.le_refl _, Nat.le_refl _⟩ (Ct.mono H (fun r9 m34 H => ?_))
      obtain ⟨z35, rfl, H⟩ := H
      show E_X4_readTie G d 53 [(2, vI z6), (1, vI z3), (0, vR 31)] [vI z35] m34 Q
      refine x_istoren (q := 54) (ls' := [(3, vI z35), (2, vI z6), (1, vI z3), (0, vR 31)]) rfl (by decide) rfl dX4_readTie_53 rfl ?_
      refine x_aloadn (q := 55) 3 rfl rfl rfl dX4_readTie_54 rfl ?_
      refine x_callV (q := 58) (d := d - 1) (as := []) (st := []) dX4_readTie_55 rfl mv_X4_28 sh_31 rfl rfl rfl (by exact Nat.le_of_ble_eq_true rfl) ⟨by show _ ≤ d; omega, by show _ ≤ 40 * d; omega⟩ ⟨Nat.le_refl _, Nat.le_refl _⟩ (ct_isRight ?_)
      show E_X4_readTie G d 58 [(3, vI z35), (2, vI z6), (1, vI z3), (0, vR 31)] [vI (bz (m34 31 4 = -1))] m34 Q
      obtain ⟨H1, H2⟩ := H
      refine x_if_eq (tgt := 72) (q := 61) dX4_readTie_58 (by decide) rfl (bz_inr _) (fun hB => ?_) (fun hB => ?_)
      · have H := H1 (bz_0.mp hB)
        exact x_vret rfl dX4_readTie_72 H
      · have H := H2 (Classical.byContradiction (fun z => hB (bz_0.mpr z)))
        refine x_aloadn (q := 62) 3 rfl rfl rfl dX4_readTie_61 rfl ?_
        refine x_getr (q := 65) dX4_readTie_62 rfl fa_X4_9 sh_31 rfl ?_
        refine x_iloadn (q := 66) 2 rfl rfl dX4_readTie_65 rfl ?_
        refine x_iloadn (q := 67) 1 rfl rfl dX4_readTie_66 rfl ?_
        refine x_iloadn (q := 68) 0 rfl rfl dX4_readTie_67 rfl ?_
        obtain ⟨s38, H⟩ := H
        obtain ⟨⟨s39, s40, s41, s42⟩, H⟩ := H
        obtain ⟨m43, em43⟩ : ∃ m9 : Mem, m9 = setTieM m34 21 z3 z6 z35 := ⟨_, rfl⟩
        have H := H m43 em43
        refine x_callV (q := 71) (d := d - 1) (as := [vI z3, vI z6, vI z35]) (st := []) dX4_readTie_68 rfl mv_X4_92 sh_21 rfl rfl rfl (by exact Nat.le_of_ble_eq_true rfl) ⟨by show _ ≤ d; omega, by show _ ≤ 40 * d; omega⟩ ⟨Nat.le_refl _, Nat.le_refl _⟩ (ct_setTie (by decide) (by omega) s39 s40 s41 s42 s38 ?_)
        rw [← em43]
        show E_X4_readTie G d 71 [(3, vI z35), (2, vI z6), (1, vI z3), (0, vR 31)] [vI (m34 26 (z3 * 12 + z6))] m43 Q
        refine x_pop (q := 72) (by exact Nat.ne_of_beq_eq_false rfl) dX4_readTie_71 rfl ?_
        exact x_vret rfl dX4_readTie_72 H
set_option maxRecDepth 20000 in
set_option maxHeartbeats 4000000 in
theorem B_X4_readSaying {G : GT} {d : Nat}  {mem : Mem} {Q : Option AV → Mem → Prop} (hd : 2 ≤ d) (H : C_X4_readNumber G (d - 1) [vR 31, vI 0, vI ((mem 21 0) - 1)] mem (fun r9 m2 => ∃ z3 : Int, r9 = some (vI z3) ∧ (C_X4_readNumber G (d - 1) [vR 31, vI 0, vI ((m2 21 0) - 1)] m2 (fun r9 m5 => ∃ z6 : Int, r9 = some (vI z6) ∧ ((¬ (m5 31 4 = -1) → (C_X4_advance G (d - 1) [vR 31] m5 (fun r9 m9 => r9 = none ∧ (C_X4_isWord G (d - 1) [vR 31, vS 9] m9 (fun r9 m10 => ∃ z11 : Int, r9 = some (vI z11) ∧ ((inr z11) ∧ (((z11 ≠ 0) → ((¬ (m10 31 4 = -1) → (Q none m10)) ∧ ((m10 31 4 = -1) → ((inr z3 ∧ inr z6) ∧ ((0 ≤ m10 21 6 ∧ m10 21 6 < 60) ∧ (∀ m21 : Mem, m21 = addSyM m10 21 z3 z6 z11 → (Q none m21))))))) ∧ (¬ (z11 ≠ 0) → (C_X4_isWord G (d - 1) [vR 31, vS 10] m10 (fun r9 m22 => ∃ z23 : Int, r9 = some (vI z23) ∧ ((inr z23) ∧ (((z23 ≠ 0) → ((¬ (m22 31 4 = -1) → (Q none m22)) ∧ ((m22 31 4 = -1) → ((inr z3 ∧ inr z6) ∧ ((0 ≤ m22 21 6 ∧ m22 21 6 < 60) ∧ (∀ m33 : Mem, m33 = addSyM m22 21 z3 z6 z11 → (Q none m33))))))) ∧ (¬ (z23 ≠ 0) → (∀ m34 : Mem, m34 = flM m22 → ((¬ (m34 31 4 = -1) → (Q none m34)) ∧ ((m34 31 4 = -1) → ((inr z3 ∧ inr z6) ∧ ((0 ≤ m34 21 6 ∧ m34 21 6 < 60) ∧ (∀ m41 : Mem, m41 = addSyM m34 21 z3 z6 z11 → (Q none m41)))))))))))))))))))) ∧ ((m5 31 4 = -1) → ((inr z3 ∧ inr z6) ∧ ((m5 21 0 ≤ 12) ∧ (((objS m5 21 z3 z6 = 0) → (C_X4_advance G (d - 1) [vR 31] m5 (fun r9 m47 => r9 = none ∧ (C_X4_isWord G (d - 1) [vR 31, vS 9] m47 (fun r9 m48 => ∃ z49 : Int, r9 = some (vI z49) ∧ ((inr z49) ∧ (((z49 ≠ 0) → ((¬ (m48 31 4 = -1) → (Q none m48)) ∧ ((m48 31 4 = -1) → ((0 ≤ m48 21 6 ∧ m48 21 6 < 60) ∧ (∀ m57 : Mem, m57 = addSyM m48 21 z3 z6 z49 → (Q none m57)))))) ∧ (¬ (z49 ≠ 0) → (C_X4_isWord G (d - 1) [vR 31, vS 10] m48 (fun r9 m58 => ∃ z59 : Int, r9 = some (vI z59) ∧ ((inr z59) ∧ (((z59 ≠ 0) → ((¬ (m58 31 4 = -1) → (Q none m58)) ∧ ((m58 31 4 = -1) → ((0 ≤ m58 21 6 ∧ m58 21 6 < 60) ∧ (∀ m67 : Mem, m67 = addSyM m58 21 z3 z6 z49 → (Q none m67)))))) ∧ (¬ (z59 ≠ 0) → (∀ m68 : Mem, m68 = flM m58 → ((¬ (m68 31 4 = -1) → (Q none m68)) ∧ ((m68 31 4 = -1) → ((0 ≤ m68 21 6 ∧ m68 21 6 < 60) ∧ (∀ m73 : Mem, m73 = addSyM m68 21 z3 z6 z49 → (Q none m73))))))))))))))))))) ∧ (¬ (objS m5 21 z3 z6 = 0) → (∀ m74 : Mem, m74 = flM m5 → (C_X4_advance G (d - 1) [vR 31] m74 (fun r9 m75 => r9 = none ∧ (C_X4_isWord G (d - 1) [vR 31, vS 9] m75 (fun r9 m76 => ∃ z77 : Int, r9 = some (vI z77) ∧ ((inr z77) ∧ (((z77 ≠ 0) → ((¬ (m76 31 4 = -1) → (Q none m76)) ∧ ((m76 31 4 = -1) → ((0 ≤ m76 21 6 ∧ m76 21 6 < 60) ∧ (∀ m85 : Mem, m85 = addSyM m76 21 z3 z6 z77 → (Q none m85)))))) ∧ (¬ (z77 ≠ 0) → (C_X4_isWord G (d - 1) [vR 31, vS 10] m76 (fun r9 m86 => ∃ z87 : Int, r9 = some (vI z87) ∧ ((inr z87) ∧ (((z87 ≠ 0) → ((¬ (m86 31 4 = -1) → (Q none m86)) ∧ ((m86 31 4 = -1) → ((0 ≤ m86 21 6 ∧ m86 21 6 < 60) ∧ (∀ m95 : Mem, m95 = addSyM m86 21 z3 z6 z77 → (Q none m95)))))) ∧ (¬ (z87 ≠ 0) → (∀ m96 : Mem, m96 = flM m86 → ((¬ (m96 31 4 = -1) → (Q none m96)) ∧ ((m96 31 4 = -1) → ((0 ≤ m96 21 6 ∧ m96 21 6 < 60) ∧ (∀ m101 : Mem, m101 = addSyM m96 21 z3 z6 z77 → (Q none m101))))))))))))))))))))))))))))) : C_X4_readSaying G d [vR 31] mem Q := by
  refine Ct_of_Ex (by decide +kernel) (by exact Nat.le_of_ble_eq_true rfl) (ls := [(0, vR 31)]) rfl ?_
  show E_X4_readSaying G d 0 [(0, vR 31)] [] mem Q
  refine x_aloadn (q := 1) 0 rfl rfl rfl dX4_readSaying_0 rfl ?_
  refine x_iconst (q := 2) dX4_readSaying_1 rfl ?_
  refine x_aloadn (q := 3) 0 rfl rfl rfl dX4_readSaying_2 rfl ?_
  refine x_getr (q := 6) dX4_readSaying_3 rfl fa_X4_9 sh_31 rfl ?_
  refine x_geti (q := 9) (ji := 0) dX4_readSaying_6 rfl fa_X4_89 sh_21 rfl rfl (fun r1 => ?_)
  refine x_iconst (q := 10) dX4_readSaying_9 rfl ?_
  refine x_isub (q := 11) dX4_readSaying_10 rfl ?_
  refine x_callV (q := 14) (d := d - 1) (as := [vI 0, vI ((mem 21 0) - 1)]) (st := []) dX4_readSaying_11 rfl mv_X4_81 sh_31 rfl rfl rfl (by exact Nat.le_of_ble_eq_true rfl) ⟨by show _ ≤ d; omega, by show _ ≤ 40 * d; omega⟩ ⟨Nat.le_refl _, Nat.le_refl _⟩ (Ct.mono H (fun r9 m2 H => ?_))
  obtain ⟨z3, rfl, H⟩ := H
  show E_X4_readSaying G d 14 [(0, vR 31)] [vI z3] m2 Q
  refine x_istoren (q := 15) (ls' := [(1, vI z3), (0, vR 31)]) rfl (by decide) rfl dX4_readSaying_14 rfl ?_
  refine x_aloadn (q := 16) 1 rfl rfl rfl dX4_readSaying_15 rfl ?_
  refine x_iconst (q := 17) dX4_readSaying_16 rfl ?_
  refine x_aloadn (q := 18) 1 rfl rfl rfl dX4_readSaying_17 rfl ?_
  refine x_getr (q := 21) dX4_readSaying_18 rfl fa_X4_9 sh_31 rfl ?_
  refine x_geti (q := 24) (ji := 0) dX4_readSaying_21 rfl fa_X4_89 sh_21 rfl rfl (fun r4 => ?_)
  refine x_iconst (q := 25) dX4_readSaying_24 rfl ?_
  refine x_isub (q := 26) dX4_readSaying_25 rfl ?_
  refine x_callV (q := 29) (d := d - 1) (as := [vI 0, vI ((m2 21 0) - 1)]) (st := []) dX4_readSaying_26 rfl mv_X4_81 sh_31 rfl rfl rfl (by exact Nat.le_of_ble_eq_true rfl) ⟨by show _ ≤ d; omega, by show _ ≤ 40 * d; omega⟩ ⟨Nat.le_refl _, Nat.le_refl _⟩ (Ct.mono H (fun r9 m5 H => ?_))
  obtain ⟨z6, rfl, H⟩ := H
  show E_X4_readSaying G d 29 [(1, vI z3), (0, vR 31)] [vI z6] m5 Q
  refine x_istoren (q := 30) (ls' := [(2, vI z6), (1, vI z3), (0, vR 31)]) rfl (by decide) rfl dX4_readSaying_29 rfl ?_
  refine x_aloadn (q := 31) 2 rfl rfl rfl dX4_readSaying_30 rfl ?_
  refine x_callV (q := 34) (d := d - 1) (as := []) (st := []) dX4_readSaying_31 rfl mv_X4_28 sh_31 rfl rfl rfl (by exact Nat.le_of_ble_eq_true rfl) ⟨by show _ ≤ d; omega, by show _ ≤ 40 * d; omega⟩ ⟨Nat.le_refl _, Nat.le_refl _⟩ (ct_isRight ?_)
  show E_X4_readSaying G d 34 [(2, vI z6), (1, vI z3), (0, vR 31)] [vI (bz (m5 31 4 = -1))] m5 Q
  obtain ⟨H1, H2⟩ := H
  refine x_if_eq (tgt := 53) (q := 37) dX4_readSaying_34 (by decide) rfl (bz_inr _) (fun hB => ?_) (fun hB => ?_)
  · have H := H1 (bz_0.mp hB)
    refine x_aloadn (q := 54) 2 rfl rfl rfl dX4_readSaying_53 rfl ?_
    refine x_callV (q := 57) (d := d - 1) (as := []) (st := []) dX4_readSaying_54 rfl mv_X4_25 sh_31 rfl rfl rfl (by exact Nat.le_of_ble_eq_true rfl) ⟨by show _ ≤ d; omega, by show _ ≤ 40 * d; omega⟩ ⟨Nat.le_refl _, Nat.le_refl _⟩ (Ct.mono H (fun r9 m9 H => ?_))
    obtain ⟨rfl, H⟩ := H
    show E_X4_readSaying G d 57 [(2, vI z6), (1, vI z3), (0, vR 31)] [] m9 Q
    refine x_aloadn (q := 58) 2 rfl rfl rfl dX4_readSaying_57 rfl ?_
    refine x_ldcS (q := 60) (t := 9) (by decide) ⟨by decide +kernel, by decide +kernel⟩ dX4_readSaying_58 rfl ?_
    refine x_callV (q := 63) (d := d - 1) (as := [vS 9]) (st := []) dX4_readSaying_60 rfl mv_X4_49 sh_31 rfl rfl rfl (by exact Nat.le_of_ble_eq_true rfl) ⟨by show _ ≤ d; omega, by show _ ≤ 40 * d; omega⟩ ⟨Nat.le_refl _, Nat.le_refl _⟩ (Ct.mono H (fun r9 m10 H => ?_))
    obtain ⟨z11, rfl, H⟩ := H
    show E_X4_readSaying G d 63 [(2, vI z6), (1, vI z3), (0, vR 31)] [vI z11] m10 Q
    refine x_istoren (q := 64) (ls' := [(3, vI z11), (2, vI z6), (1, vI z3), (0, vR 31)]) rfl (by decide) rfl dX4_readSaying_63 rfl ?_
    refine x_iloadn (q := 65) 0 rfl rfl dX4_readSaying_64 rfl ?_
    obtain ⟨s12, H⟩ := H
    obtain ⟨H1, H2⟩ := H
    refine x_if_ne (tgt := 81) (q := 68) dX4_readSaying_65 (by decide) rfl s12 (fun hB => ?_) (fun hB => ?_)
    · have H := H1 (hB)
      refine x_aloadn (q := 82) 3 rfl rfl rfl dX4_readSaying_81 rfl ?_
      refine x_callV (q := 85) (d := d - 1) (as := []) (st := []) dX4_readSaying_82 rfl mv_X4_28 sh_31 rfl rfl rfl (by exact Nat.le_of_ble_eq_true rfl) ⟨by show _ ≤ d; omega, by show _ ≤ 40 * d; omega⟩ ⟨Nat.le_refl _, Nat.le_refl _⟩ (ct_isRight ?_)
      show E_X4_readSaying G d 85 [(3, vI z11), (2, vI z6), (1, vI z3), (0, vR 31)] [vI (bz (m10 31 4 = -1))] m10 Q
      obtain ⟨H1, H2⟩ := H
      refine x_if_eq (tgt := 99) (q := 88) dX4_readSaying_85 (by decide) rfl (bz_inr _) (fun hB => ?_) (fun hB => ?_)
      · have H := H1 (bz_0.mp hB)
        exact x_vret rfl dX4_readSaying_99 H
      · have H := H2 (Classical.byContradiction (fun z => hB (bz_0.mpr z)))
        refine x_aloadn (q := 89) 3 rfl rfl rfl dX4_readSaying_88 rfl ?_
        refine x_getr (q := 92) dX4_readSaying_89 rfl fa_X4_9 sh_31 rfl ?_
        refine x_iloadn (q := 93) 2 rfl rfl dX4_readSaying_92 rfl ?_
        refine x_iloadn (q := 94) 1 rfl rfl dX4_readSaying_93 rfl ?_
        refine x_iloadn (q := 95) 0 rfl rfl dX4_readSaying_94 rfl ?_
        obtain ⟨⟨s17, s18⟩, H⟩ := H
        obtain ⟨⟨s19, s20⟩, H⟩ := H
        obtain ⟨m21, em21⟩ : ∃ m9 : Mem, m9 = addSyM m10 21 z3 z6 z11 := ⟨_, rfl⟩
        have H := H m21 em21
        refine x_callV (q := 98) (d := d - 1) (as := [vI z3, vI z6, vI z11]) (st := []) dX4_readSaying_95 rfl mv_X4_102 sh_21 rfl rfl rfl (by exact Nat.le_of_ble_eq_true rfl) ⟨by show _ ≤ d; omega, by show _ ≤ 40 * d; omega⟩ ⟨Nat.le_refl _, Nat.le_refl _⟩ (ct_addSaying (by decide) s19 s20 s17 s18 s12 ?_)
        rw [← em21]
        show E_X4_readSaying G d 98 [(3, vI z11), (2, vI z6), (1, vI z3), (0, vR 31)] [vI (m10 21 6)] m21 Q
        refine x_pop (q := 99) (by exact Nat.ne_of_beq_eq_false rfl) dX4_readSaying_98 rfl ?_
        exact x_vret rfl dX4_readSaying_99 H
    · have H := H2 (hB)
      refine x_aloadn (q := 69) 3 rfl rfl rfl dX4_readSaying_68 rfl ?_
      refine x_ldcS (q := 71) (t := 10) (by decide) ⟨by decide +kernel, by decide +kernel⟩ dX4_readSaying_69 rfl ?_
      refine x_callV (q := 74) (d := d - 1) (as := [vS 10]) (st := []) dX4_readSaying_71 rfl mv_X4_49 sh_31 rfl rfl rfl (by exact Nat.le_of_ble_eq_true rfl) ⟨by show _ ≤ d; omega, by show _ ≤ 40 * d; omega⟩ ⟨Nat.le_refl _, Nat.le_refl _⟩ (Ct.mono H (fun r9 m22 H => ?_))
      obtain ⟨z23, rfl, H⟩ := H
      show E_X4_readSaying G d 74 [(3, vI z11), (2, vI z6), (1, vI z3), (0, vR 31)] [vI z23] m22 Q
      obtain ⟨s24, H⟩ := H
      obtain ⟨H1, H2⟩ := H
      refine x_if_ne (tgt := 81) (q := 77) dX4_readSaying_74 (by decide) rfl s24 (fun hB => ?_) (fun hB => ?_)
      · have H := H1 (hB)
        refine x_aloadn (q := 82) 3 rfl rfl rfl dX4_readSaying_81 rfl ?_
        refine x_callV (q := 85) (d := d - 1) (as := []) (st := []) dX4_readSaying_82 rfl mv_X4_28 sh_31 rfl rfl rfl (by exact Nat.le_of_ble_eq_true rfl) ⟨by show _ ≤ d; omega, by show _ ≤ 40 * d; omega⟩ ⟨Nat.le_refl _, Nat.le_refl _⟩ (ct_isRight ?_)
        show E_X4_readSaying G d 85 [(3, vI z11), (2, vI z6), (1, vI z3), (0, vR 31)] [vI (bz (m22 31 4 = -1))] m22 Q
        obtain ⟨H1, H2⟩ := H
        refine x_if_eq (tgt := 99) (q := 88) dX4_readSaying_85 (by decide) rfl (bz_inr _) (fun hB => ?_) (fun hB => ?_)
        · have H := H1 (bz_0.mp hB)
          exact x_vret rfl dX4_readSaying_99 H
        · have H := H2 (Classical.byContradiction (fun z => hB (bz_0.mpr z)))
          refine x_aloadn (q := 89) 3 rfl rfl rfl dX4_readSaying_88 rfl ?_
          refine x_getr (q := 92) dX4_readSaying_89 rfl fa_X4_9 sh_31 rfl ?_
          refine x_iloadn (q := 93) 2 rfl rfl dX4_readSaying_92 rfl ?_
          refine x_iloadn (q := 94) 1 rfl rfl dX4_readSaying_93 rfl ?_
          refine x_iloadn (q := 95) 0 rfl rfl dX4_readSaying_94 rfl ?_
          obtain ⟨⟨s29, s30⟩, H⟩ := H
          obtain ⟨⟨s31, s32⟩, H⟩ := H
          obtain ⟨m33, em33⟩ : ∃ m9 : Mem, m9 = addSyM m22 21 z3 z6 z11 := ⟨_, rfl⟩
          have H := H m33 em33
          refine x_callV (q := 98) (d := d - 1) (as := [vI z3, vI z6, vI z11]) (st := []) dX4_readSaying_95 rfl mv_X4_102 sh_21 rfl rfl rfl (by exact Nat.le_of_ble_eq_true rfl) ⟨by show _ ≤ d; omega, by show _ ≤ 40 * d; omega⟩ ⟨Nat.le_refl _, Nat.le_refl _⟩ (ct_addSaying (by decide) s31 s32 s29 s30 s12 ?_)
          rw [← em33]
          show E_X4_readSaying G d 98 [(3, vI z11), (2, vI z6), (1, vI z3), (0, vR 31)] [vI (m22 21 6)] m33 Q
          refine x_pop (q := 99) (by exact Nat.ne_of_beq_eq_false rfl) dX4_readSaying_98 rfl ?_
          exact x_vret rfl dX4_readSaying_99 H
      · have H := H2 (hB)
        refine x_aloadn (q := 78) 3 rfl rfl rfl dX4_readSaying_77 rfl ?_
        obtain ⟨m34, em34⟩ : ∃ m9 : Mem, m9 = flM m22 := ⟨_, rfl⟩
        have H := H m34 em34
        refine x_callV (q := 81) (d := d - 1) (as := []) (st := []) dX4_readSaying_78 rfl mv_X4_44 sh_31 rfl rfl rfl (by exact Nat.le_of_ble_eq_true rfl) ⟨by show _ ≤ d; omega, by show _ ≤ 40 * d; omega⟩ ⟨Nat.le_refl _, Nat.le_refl _⟩ (ct_fail (by omega) ?_)
        rw [← em34]
        show E_X4_readSaying G d 81 [(3, vI z11), (2, vI z6), (1, vI z3), (0, vR 31)] [] m34 Q
        refine x_aloadn (q := 82) 3 rfl rfl rfl dX4_readSaying_81 rfl ?_
        refine x_callV (q := 85) (d := d - 1) (as := []) (st := []) dX4_readSaying_82 rfl mv_X4_28 sh_31 rfl rfl rfl (by exact Nat.le_of_ble_eq_true rfl) ⟨by show _ ≤ d; omega, by show _ ≤ 40 * d; omega⟩ ⟨Nat.le_refl _, Nat.le_refl _⟩ (ct_isRight ?_)
        show E_X4_readSaying G d 85 [(3, vI z11), (2, vI z6), (1, vI z3), (0, vR 31)] [vI (bz (m34 31 4 = -1))] m34 Q
        obtain ⟨H1, H2⟩ := H
        refine x_if_eq (tgt := 99) (q := 88) dX4_readSaying_85 (by decide) rfl (bz_inr _) (fun hB => ?_) (fun hB => ?_)
        · have H := H1 (bz_0.mp hB)
          exact x_vret rfl dX4_readSaying_99 H
        · have H := H2 (Classical.byContradiction (fun z => hB (bz_0.mpr z)))
          refine x_aloadn (q := 89) 3 rfl rfl rfl dX4_readSaying_88 rfl ?_
          refine x_getr (q := 92) dX4_readSaying_89 rfl fa_X4_9 sh_31 rfl ?_
          refine x_iloadn (q := 93) 2 rfl rfl dX4_readSaying_92 rfl ?_
          refine x_iloadn (q := 94) 1 rfl rfl dX4_readSaying_93 rfl ?_
          refine x_iloadn (q := 95) 0 rfl rfl dX4_readSaying_94 rfl ?_
          obtain ⟨⟨s37, s38⟩, H⟩ := H
          obtain ⟨⟨s39, s40⟩, H⟩ := H
          obtain ⟨m41, em41⟩ : ∃ m9 : Mem, m9 = addSyM m34 21 z3 z6 z11 := ⟨_, rfl⟩
          have H := H m41 em41
          refine x_callV (q := 98) (d := d - 1) (as := [vI z3, vI z6, vI z11]) (st := []) dX4_readSaying_95 rfl mv_X4_102 sh_21 rfl rfl rfl (by exact Nat.le_of_ble_eq_true rfl) ⟨by show _ ≤ d; omega, by show _ ≤ 40 * d; omega⟩ ⟨Nat.le_refl _, Nat.le_refl _⟩ (ct_addSaying (by decide) s39 s40 s37 s38 s12 ?_)
          rw [← em41]
          show E_X4_readSaying G d 98 [(3, vI z11), (2, vI z6), (1, vI z3), (0, vR 31)] [vI (m34 21 6)] m41 Q
          refine x_pop (q := 99) (by exact Nat.ne_of_beq_eq_false rfl) dX4_readSaying_98 rfl ?_
          exact x_vret rfl dX4_readSaying_99 H
  · have H := H2 (Classical.byContradiction (fun z => hB (bz_0.mpr z)))
    refine x_aloadn (q := 38) 2 rfl rfl rfl dX4_readSaying_37 rfl ?_
    refine x_getr (q := 41) dX4_readSaying_38 rfl fa_X4_9 sh_31 rfl ?_
    refine x_iloadn (q := 42) 1 rfl rfl dX4_readSaying_41 rfl ?_
    refine x_iloadn (q := 43) 0 rfl rfl dX4_readSaying_42 rfl ?_
    obtain ⟨⟨s42, s43⟩, H⟩ := H
    obtain ⟨s44, H⟩ := H
    refine x_callV (q := 46) (d := d - 1) (as := [vI z3, vI z6]) (st := []) dX4_readSaying_43 rfl mv_X4_95 sh_21 rfl rfl rfl (by exact Nat.le_of_ble_eq_true rfl) ⟨by show _ ≤ d; omega, by show _ ≤ 40 * d; omega⟩ ⟨Nat.le_refl _, Nat.le_refl _⟩ (ct_objS (by decide) (by omega) s42 s43 s44 ?_)
    show E_X4_readSaying G d 46 [(2, vI z6), (1, vI z3), (0, vR 31)] [vI (objS m5 21 z3 z6)] m5 Q
    obtain ⟨H1, H2⟩ := H
    refine x_if_eq (tgt := 53) (q := 49) dX4_readSaying_46 (by decide) rfl (objS_inr _ _ _ _) (fun hB => ?_) (fun hB => ?_)
    · have H := H1 (hB)
      refine x_aloadn (q := 54) 2 rfl rfl rfl dX4_readSaying_53 rfl ?_
      refine x_callV (q := 57) (d := d - 1) (as := []) (st := []) dX4_readSaying_54 rfl mv_X4_25 sh_31 rfl rfl rfl (by exact Nat.le_of_ble_eq_true rfl) ⟨by show _ ≤ d; omega, by show _ ≤ 40 * d; omega⟩ ⟨Nat.le_refl _, Nat.le_refl _⟩ (Ct.mono H (fun r9 m47 H => ?_))
      obtain ⟨rfl, H⟩ := H
      show E_X4_readSaying G d 57 [(2, vI z6), (1, vI z3), (0, vR 31)] [] m47 Q
      refine x_aloadn (q := 58) 2 rfl rfl rfl dX4_readSaying_57 rfl ?_
      refine x_ldcS (q := 60) (t := 9) (by decide) ⟨by decide +kernel, by decide +kernel⟩ dX4_readSaying_58 rfl ?_
      refine x_callV (q := 63) (d := d - 1) (as := [vS 9]) (st := []) dX4_readSaying_60 rfl mv_X4_49 sh_31 rfl rfl rfl (by exact Nat.le_of_ble_eq_true rfl) ⟨by show _ ≤ d; omega, by show _ ≤ 40 * d; omega⟩ ⟨Nat.le_refl _, Nat.le_refl _⟩ (Ct.mono H (fun r9 m48 H => ?_))
      obtain ⟨z49, rfl, H⟩ := H
      show E_X4_readSaying G d 63 [(2, vI z6), (1, vI z3), (0, vR 31)] [vI z49] m48 Q
      refine x_istoren (q := 64) (ls' := [(3, vI z49), (2, vI z6), (1, vI z3), (0, vR 31)]) rfl (by decide) rfl dX4_readSaying_63 rfl ?_
      refine x_iloadn (q := 65) 0 rfl rfl dX4_readSaying_64 rfl ?_
      obtain ⟨s50, H⟩ := H
      obtain ⟨H1, H2⟩ := H
      refine x_if_ne (tgt := 81) (q := 68) dX4_readSaying_65 (by decide) rfl s50 (fun hB => ?_) (fun hB => ?_)
      · have H := H1 (hB)
        refine x_aloadn (q := 82) 3 rfl rfl rfl dX4_readSaying_81 rfl ?_
        refine x_callV (q := 85) (d := d - 1) (as := []) (st := []) dX4_readSaying_82 rfl mv_X4_28 sh_31 rfl rfl rfl (by exact Nat.le_of_ble_eq_true rfl) ⟨by show _ ≤ d; omega, by show _ ≤ 40 * d; omega⟩ ⟨Nat.le_refl _, Nat.le_refl _⟩ (ct_isRight ?_)
        show E_X4_readSaying G d 85 [(3, vI z49), (2, vI z6), (1, vI z3), (0, vR 31)] [vI (bz (m48 31 4 = -1))] m48 Q
        obtain ⟨H1, H2⟩ := H
        refine x_if_eq (tgt := 99) (q := 88) dX4_readSaying_85 (by decide) rfl (bz_inr _) (fun hB => ?_) (fun hB => ?_)
        · have H := H1 (bz_0.mp hB)
          exact x_vret rfl dX4_readSaying_99 H
        · have H := H2 (Classical.byContradiction (fun z => hB (bz_0.mpr z)))
          refine x_aloadn (q := 89) 3 rfl rfl rfl dX4_readSaying_88 rfl ?_
          refine x_getr (q := 92) dX4_readSaying_89 rfl fa_X4_9 sh_31 rfl ?_
          refine x_iloadn (q := 93) 2 rfl rfl dX4_readSaying_92 rfl ?_
          refine x_iloadn (q := 94) 1 rfl rfl dX4_readSaying_93 rfl ?_
          refine x_iloadn (q := 95) 0 rfl rfl dX4_readSaying_94 rfl ?_
          obtain ⟨⟨s55, s56⟩, H⟩ := H
          obtain ⟨m57, em57⟩ : ∃ m9 : Mem, m9 = addSyM m48 21 z3 z6 z49 := ⟨_, rfl⟩
          have H := H m57 em57
          refine x_callV (q := 98) (d := d - 1) (as := [vI z3, vI z6, vI z49]) (st := []) dX4_readSaying_95 rfl mv_X4_102 sh_21 rfl rfl rfl (by exact Nat.le_of_ble_eq_true rfl) ⟨by show _ ≤ d; omega, by show _ ≤ 40 * d; omega⟩ ⟨Nat.le_refl _, Nat.le_refl _⟩ (ct_addSaying (by decide) s55 s56 s42 s43 s50 ?_)
          rw [← em57]
          show E_X4_readSaying G d 98 [(3, vI z49), (2, vI z6), (1, vI z3), (0, vR 31)] [vI (m48 21 6)] m57 Q
          refine x_pop (q := 99) (by exact Nat.ne_of_beq_eq_false rfl) dX4_readSaying_98 rfl ?_
          exact x_vret rfl dX4_readSaying_99 H
      · have H := H2 (hB)
        refine x_aloadn (q := 69) 3 rfl rfl rfl dX4_readSaying_68 rfl ?_
        refine x_ldcS (q := 71) (t := 10) (by decide) ⟨by decide +kernel, by decide +kernel⟩ dX4_readSaying_69 rfl ?_
        refine x_callV (q := 74) (d := d - 1) (as := [vS 10]) (st := []) dX4_readSaying_71 rfl mv_X4_49 sh_31 rfl rfl rfl (by exact Nat.le_of_ble_eq_true rfl) ⟨by show _ ≤ d; omega, by show _ ≤ 40 * d; omega⟩ ⟨Nat.le_refl _, Nat.le_refl _⟩ (Ct.mono H (fun r9 m58 H => ?_))
        obtain ⟨z59, rfl, H⟩ := H
        show E_X4_readSaying G d 74 [(3, vI z49), (2, vI z6), (1, vI z3), (0, vR 31)] [vI z59] m58 Q
        obtain ⟨s60, H⟩ := H
        obtain ⟨H1, H2⟩ := H
        refine x_if_ne (tgt := 81) (q := 77) dX4_readSaying_74 (by decide) rfl s60 (fun hB => ?_) (fun hB => ?_)
        · have H := H1 (hB)
          refine x_aloadn (q := 82) 3 rfl rfl rfl dX4_readSaying_81 rfl ?_
          refine x_callV (q := 85) (d := d - 1) (as := []) (st := []) dX4_readSaying_82 rfl mv_X4_28 sh_31 rfl rfl rfl (by exact Nat.le_of_ble_eq_true rfl) ⟨by show _ ≤ d; omega, by show _ ≤ 40 * d; omega⟩ ⟨Nat.le_refl _, Nat.le_refl _⟩ (ct_isRight ?_)
          show E_X4_readSaying G d 85 [(3, vI z49), (2, vI z6), (1, vI z3), (0, vR 31)] [vI (bz (m58 31 4 = -1))] m58 Q
          obtain ⟨H1, H2⟩ := H
          refine x_if_eq (tgt := 99) (q := 88) dX4_readSaying_85 (by decide) rfl (bz_inr _) (fun hB => ?_) (fun hB => ?_)
          · have H := H1 (bz_0.mp hB)
            exact x_vret rfl dX4_readSaying_99 H
          · have H := H2 (Classical.byContradiction (fun z => hB (bz_0.mpr z)))
            refine x_aloadn (q := 89) 3 rfl rfl rfl dX4_readSaying_88 rfl ?_
            refine x_getr (q := 92) dX4_readSaying_89 rfl fa_X4_9 sh_31 rfl ?_
            refine x_iloadn (q := 93) 2 rfl rfl dX4_readSaying_92 rfl ?_
            refine x_iloadn (q := 94) 1 rfl rfl dX4_readSaying_93 rfl ?_
            refine x_iloadn (q := 95) 0 rfl rfl dX4_readSaying_94 rfl ?_
            obtain ⟨⟨s65, s66⟩, H⟩ := H
            obtain ⟨m67, em67⟩ : ∃ m9 : Mem, m9 = addSyM m58 21 z3 z6 z49 := ⟨_, rfl⟩
            have H := H m67 em67
            refine x_callV (q := 98) (d := d - 1) (as := [vI z3, vI z6, vI z49]) (st := []) dX4_readSaying_95 rfl mv_X4_102 sh_21 rfl rfl rfl (by exact Nat.le_of_ble_eq_true rfl) ⟨by show _ ≤ d; omega, by show _ ≤ 40 * d; omega⟩ ⟨Nat.le_refl _, Nat.le_refl _⟩ (ct_addSaying (by decide) s65 s66 s42 s43 s50 ?_)
            rw [← em67]
            show E_X4_readSaying G d 98 [(3, vI z49), (2, vI z6), (1, vI z3), (0, vR 31)] [vI (m58 21 6)] m67 Q
            refine x_pop (q := 99) (by exact Nat.ne_of_beq_eq_false rfl) dX4_readSaying_98 rfl ?_
            exact x_vret rfl dX4_readSaying_99 H
        · have H := H2 (hB)
          refine x_aloadn (q := 78) 3 rfl rfl rfl dX4_readSaying_77 rfl ?_
          obtain ⟨m68, em68⟩ : ∃ m9 : Mem, m9 = flM m58 := ⟨_, rfl⟩
          have H := H m68 em68
          refine x_callV (q := 81) (d := d - 1) (as := []) (st := []) dX4_readSaying_78 rfl mv_X4_44 sh_31 rfl rfl rfl (by exact Nat.le_of_ble_eq_true rfl) ⟨by show _ ≤ d; omega, by show _ ≤ 40 * d; omega⟩ ⟨Nat.le_refl _, Nat.le_refl _⟩ (ct_fail (by omega) ?_)
          rw [← em68]
          show E_X4_readSaying G d 81 [(3, vI z49), (2, vI z6), (1, vI z3), (0, vR 31)] [] m68 Q
          refine x_aloadn (q := 82) 3 rfl rfl rfl dX4_readSaying_81 rfl ?_
          refine x_callV (q := 85) (d := d - 1) (as := []) (st := []) dX4_readSaying_82 rfl mv_X4_28 sh_31 rfl rfl rfl (by exact Nat.le_of_ble_eq_true rfl) ⟨by show _ ≤ d; omega, by show _ ≤ 40 * d; omega⟩ ⟨Nat.le_refl _, Nat.le_refl _⟩ (ct_isRight ?_)
          show E_X4_readSaying G d 85 [(3, vI z49), (2, vI z6), (1, vI z3), (0, vR 31)] [vI (bz (m68 31 4 = -1))] m68 Q
          obtain ⟨H1, H2⟩ := H
          refine x_if_eq (tgt := 99) (q := 88) dX4_readSaying_85 (by decide) rfl (bz_inr _) (fun hB => ?_) (fun hB => ?_)
          · have H := H1 (bz_0.mp hB)
            exact x_vret rfl dX4_readSaying_99 H
          · have H := H2 (Classical.byContradiction (fun z => hB (bz_0.mpr z)))
            refine x_aloadn (q := 89) 3 rfl rfl rfl dX4_readSaying_88 rfl ?_
            refine x_getr (q := 92) dX4_readSaying_89 rfl fa_X4_9 sh_31 rfl ?_
            refine x_iloadn (q := 93) 2 rfl rfl dX4_readSaying_92 rfl ?_
            refine x_iloadn (q := 94) 1 rfl rfl dX4_readSaying_93 rfl ?_
            refine x_iloadn (q := 95) 0 rfl rfl dX4_readSaying_94 rfl ?_
            obtain ⟨⟨s71, s72⟩, H⟩ := H
            obtain ⟨m73, em73⟩ : ∃ m9 : Mem, m9 = addSyM m68 21 z3 z6 z49 := ⟨_, rfl⟩
            have H := H m73 em73
            refine x_callV (q := 98) (d := d - 1) (as := [vI z3, vI z6, vI z49]) (st := []) dX4_readSaying_95 rfl mv_X4_102 sh_21 rfl rfl rfl (by exact Nat.le_of_ble_eq_true rfl) ⟨by show _ ≤ d; omega, by show _ ≤ 40 * d; omega⟩ ⟨Nat.le_refl _, Nat.le_refl _⟩ (ct_addSaying (by decide) s71 s72 s42 s43 s50 ?_)
            rw [← em73]
            show E_X4_readSaying G d 98 [(3, vI z49), (2, vI z6), (1, vI z3), (0, vR 31)] [vI (m68 21 6)] m73 Q
            refine x_pop (q := 99) (by exact Nat.ne_of_beq_eq_false rfl) dX4_readSaying_98 rfl ?_
            exact x_vret rfl dX4_readSaying_99 H
    · have H := H2 (hB)
      refine x_aloadn (q := 50) 2 rfl rfl rfl dX4_readSaying_49 rfl ?_
      obtain ⟨m74, em74⟩ : ∃ m9 : Mem, m9 = flM m5 := ⟨_, rfl⟩
      have H := H m74 em74
      refine x_callV (q := 53) (d := d - 1) (as := []) (st := []) dX4_readSaying_50 rfl mv_X4_44 sh_31 rfl rfl rfl (by exact Nat.le_of_ble_eq_true rfl) ⟨by show _ ≤ d; omega, by show _ ≤ 40 * d; omega⟩ ⟨Nat.le_refl _, Nat.le_refl _⟩ (ct_fail (by omega) ?_)
      rw [← em74]
      show E_X4_readSaying G d 53 [(2, vI z6), (1, vI z3), (0, vR 31)] [] m74 Q
      refine x_aloadn (q := 54) 2 rfl rfl rfl dX4_readSaying_53 rfl ?_
      refine x_callV (q := 57) (d := d - 1) (as := []) (st := []) dX4_readSaying_54 rfl mv_X4_25 sh_31 rfl rfl rfl (by exact Nat.le_of_ble_eq_true rfl) ⟨by show _ ≤ d; omega, by show _ ≤ 40 * d; omega⟩ ⟨Nat.le_refl _, Nat.le_refl _⟩ (Ct.mono H (fun r9 m75 H => ?_))
      obtain ⟨rfl, H⟩ := H
      show E_X4_readSaying G d 57 [(2, vI z6), (1, vI z3), (0, vR 31)] [] m75 Q
      refine x_aloadn (q := 58) 2 rfl rfl rfl dX4_readSaying_57 rfl ?_
      refine x_ldcS (q := 60) (t := 9) (by decide) ⟨by decide +kernel, by decide +kernel⟩ dX4_readSaying_58 rfl ?_
      refine x_callV (q := 63) (d := d - 1) (as := [vS 9]) (st := []) dX4_readSaying_60 rfl mv_X4_49 sh_31 rfl rfl rfl (by exact Nat.le_of_ble_eq_true rfl) ⟨by show _ ≤ d; omega, by show _ ≤ 40 * d; omega⟩ ⟨Nat.le_refl _, Nat.le_refl _⟩ (Ct.mono H (fun r9 m76 H => ?_))
      obtain ⟨z77, rfl, H⟩ := H
      show E_X4_readSaying G d 63 [(2, vI z6), (1, vI z3), (0, vR 31)] [vI z77] m76 Q
      refine x_istoren (q := 64) (ls' := [(3, vI z77), (2, vI z6), (1, vI z3), (0, vR 31)]) rfl (by decide) rfl dX4_readSaying_63 rfl ?_
      refine x_iloadn (q := 65) 0 rfl rfl dX4_readSaying_64 rfl ?_
      obtain ⟨s78, H⟩ := H
      obtain ⟨H1, H2⟩ := H
      refine x_if_ne (tgt := 81) (q := 68) dX4_readSaying_65 (by decide) rfl s78 (fun hB => ?_) (fun hB => ?_)
      · have H := H1 (hB)
        refine x_aloadn (q := 82) 3 rfl rfl rfl dX4_readSaying_81 rfl ?_
        refine x_callV (q := 85) (d := d - 1) (as := []) (st := []) dX4_readSaying_82 rfl mv_X4_28 sh_31 rfl rfl rfl (by exact Nat.le_of_ble_eq_true rfl) ⟨by show _ ≤ d; omega, by show _ ≤ 40 * d; omega⟩ ⟨Nat.le_refl _, Nat.le_refl _⟩ (ct_isRight ?_)
        show E_X4_readSaying G d 85 [(3, vI z77), (2, vI z6), (1, vI z3), (0, vR 31)] [vI (bz (m76 31 4 = -1))] m76 Q
        obtain ⟨H1, H2⟩ := H
        refine x_if_eq (tgt := 99) (q := 88) dX4_readSaying_85 (by decide) rfl (bz_inr _) (fun hB => ?_) (fun hB => ?_)
        · have H := H1 (bz_0.mp hB)
          exact x_vret rfl dX4_readSaying_99 H
        · have H := H2 (Classical.byContradiction (fun z => hB (bz_0.mpr z)))
          refine x_aloadn (q := 89) 3 rfl rfl rfl dX4_readSaying_88 rfl ?_
          refine x_getr (q := 92) dX4_readSaying_89 rfl fa_X4_9 sh_31 rfl ?_
          refine x_iloadn (q := 93) 2 rfl rfl dX4_readSaying_92 rfl ?_
          refine x_iloadn (q := 94) 1 rfl rfl dX4_readSaying_93 rfl ?_
          refine x_iloadn (q := 95) 0 rfl rfl dX4_readSaying_94 rfl ?_
          obtain ⟨⟨s83, s84⟩, H⟩ := H
          obtain ⟨m85, em85⟩ : ∃ m9 : Mem, m9 = addSyM m76 21 z3 z6 z77 := ⟨_, rfl⟩
          have H := H m85 em85
          refine x_callV (q := 98) (d := d - 1) (as := [vI z3, vI z6, vI z77]) (st := []) dX4_readSaying_95 rfl mv_X4_102 sh_21 rfl rfl rfl (by exact Nat.le_of_ble_eq_true rfl) ⟨by show _ ≤ d; omega, by show _ ≤ 40 * d; omega⟩ ⟨Nat.le_refl _, Nat.le_refl _⟩ (ct_addSaying (by decide) s83 s84 s42 s43 s78 ?_)
          rw [← em85]
          show E_X4_readSaying G d 98 [(3, vI z77), (2, vI z6), (1, vI z3), (0, vR 31)] [vI (m76 21 6)] m85 Q
          refine x_pop (q := 99) (by exact Nat.ne_of_beq_eq_false rfl) dX4_readSaying_98 rfl ?_
          exact x_vret rfl dX4_readSaying_99 H
      · have H := H2 (hB)
        refine x_aloadn (q := 69) 3 rfl rfl rfl dX4_readSaying_68 rfl ?_
        refine x_ldcS (q := 71) (t := 10) (by decide) ⟨by decide +kernel, by decide +kernel⟩ dX4_readSaying_69 rfl ?_
        refine x_callV (q := 74) (d := d - 1) (as := [vS 10]) (st := []) dX4_readSaying_71 rfl mv_X4_49 sh_31 rfl rfl rfl (by exact Nat.le_of_ble_eq_true rfl) ⟨by show _ ≤ d; omega, by show _ ≤ 40 * d; omega⟩ ⟨Nat.le_refl _, Nat.le_refl _⟩ (Ct.mono H (fun r9 m86 H => ?_))
        obtain ⟨z87, rfl, H⟩ := H
        show E_X4_readSaying G d 74 [(3, vI z77), (2, vI z6), (1, vI z3), (0, vR 31)] [vI z87] m86 Q
        obtain ⟨s88, H⟩ := H
        obtain ⟨H1, H2⟩ := H
        refine x_if_ne (tgt := 81) (q := 77) dX4_readSaying_74 (by decide) rfl s88 (fun hB => ?_) (fun hB => ?_)
        · have H := H1 (hB)
          refine x_aloadn (q := 82) 3 rfl rfl rfl dX4_readSaying_81 rfl ?_
          refine x_callV (q := 85) (d := d - 1) (as := []) (st := []) dX4_readSaying_82 rfl mv_X4_28 sh_31 rfl rfl rfl (by exact Nat.le_of_ble_eq_true rfl) ⟨by show _ ≤ d; omega, by show _ ≤ 40 * d; omega⟩ ⟨Nat.le_refl _, Nat.le_refl _⟩ (ct_isRight ?_)
          show E_X4_readSaying G d 85 [(3, vI z77), (2, vI z6), (1, vI z3), (0, vR 31)] [vI (bz (m86 31 4 = -1))] m86 Q
          obtain ⟨H1, H2⟩ := H
          refine x_if_eq (tgt := 99) (q := 88) dX4_readSaying_85 (by decide) rfl (bz_inr _) (fun hB => ?_) (fun hB => ?_)
          · have H := H1 (bz_0.mp hB)
            exact x_vret rfl dX4_readSaying_99 H
          · have H := H2 (Classical.byContradiction (fun z => hB (bz_0.mpr z)))
            refine x_aloadn (q := 89) 3 rfl rfl rfl dX4_readSaying_88 rfl ?_
            refine x_getr (q := 92) dX4_readSaying_89 rfl fa_X4_9 sh_31 rfl ?_
            refine x_iloadn (q := 93) 2 rfl rfl dX4_readSaying_92 rfl ?_
            refine x_iloadn (q := 94) 1 rfl rfl dX4_readSaying_93 rfl ?_
            refine x_iloadn (q := 95) 0 rfl rfl dX4_readSaying_94 rfl ?_
            obtain ⟨⟨s93, s94⟩, H⟩ := H
            obtain ⟨m95, em95⟩ : ∃ m9 : Mem, m9 = addSyM m86 21 z3 z6 z77 := ⟨_, rfl⟩
            have H := H m95 em95
            refine x_callV (q := 98) (d := d - 1) (as := [vI z3, vI z6, vI z77]) (st := []) dX4_readSaying_95 rfl mv_X4_102 sh_21 rfl rfl rfl (by exact Nat.le_of_ble_eq_true rfl) ⟨by show _ ≤ d; omega, by show _ ≤ 40 * d; omega⟩ ⟨Nat.le_refl _, Nat.le_refl _⟩ (ct_addSaying (by decide) s93 s94 s42 s43 s78 ?_)
            rw [← em95]
            show E_X4_readSaying G d 98 [(3, vI z77), (2, vI z6), (1, vI z3), (0, vR 31)] [vI (m86 21 6)] m95 Q
            refine x_pop (q := 99) (by exact Nat.ne_of_beq_eq_false rfl) dX4_readSaying_98 rfl ?_
            exact x_vret rfl dX4_readSaying_99 H
        · have H := H2 (hB)
          refine x_aloadn (q := 78) 3 rfl rfl rfl dX4_readSaying_77 rfl ?_
          obtain ⟨m96, em96⟩ : ∃ m9 : Mem, m9 = flM m86 := ⟨_, rfl⟩
          have H := H m96 em96
          refine x_callV (q := 81) (d := d - 1) (as := []) (st := []) dX4_readSaying_78 rfl mv_X4_44 sh_31 rfl rfl rfl (by exact Nat.le_of_ble_eq_true rfl) ⟨by show _ ≤ d; omega, by show _ ≤ 40 * d; omega⟩ ⟨Nat.le_refl _, Nat.le_refl _⟩ (ct_fail (by omega) ?_)
          rw [← em96]
          show E_X4_readSaying G d 81 [(3, vI z77), (2, vI z6), (1, vI z3), (0, vR 31)] [] m96 Q
          refine x_aloadn (q := 82) 3 rfl rfl rfl dX4_readSaying_81 rfl ?_
          refine x_callV (q := 85) (d := d - 1) (as := []) (st := []) dX4_readSaying_82 rfl mv_X4_28 sh_31 rfl rfl rfl (by exact Nat.le_of_ble_eq_true rfl) ⟨by show _ ≤ d; omega, by show _ ≤ 40 * d; omega⟩ ⟨Nat.le_refl _, Nat.le_refl _⟩ (ct_isRight ?_)
          show E_X4_readSaying G d 85 [(3, vI z77), (2, vI z6), (1, vI z3), (0, vR 31)] [vI (bz (m96 31 4 = -1))] m96 Q
          obtain ⟨H1, H2⟩ := H
          refine x_if_eq (tgt := 99) (q := 88) dX4_readSaying_85 (by decide) rfl (bz_inr _) (fun hB => ?_) (fun hB => ?_)
          · have H := H1 (bz_0.mp hB)
            exact x_vret rfl dX4_readSaying_99 H
          · have H := H2 (Classical.byContradiction (fun z => hB (bz_0.mpr z)))
            refine x_aloadn (q := 89) 3 rfl rfl rfl dX4_readSaying_88 rfl ?_
            refine x_getr (q := 92) dX4_readSaying_89 rfl fa_X4_9 sh_31 rfl ?_
            refine x_iloadn (q := 93) 2 rfl rfl dX4_readSaying_92 rfl ?_
            refine x_iloadn (q := 94) 1 rfl rfl dX4_readSaying_93 rfl ?_
            refine x_iloadn (q := 95) 0 rfl rfl dX4_readSaying_94 rfl ?_
            obtain ⟨⟨s99, s100⟩, H⟩ := H
            obtain ⟨m101, em101⟩ : ∃ m9 : Mem, m9 = addSyM m96 21 z3 z6 z77 := ⟨_, rfl⟩
            have H := H m101 em101
            refine x_callV (q := 98) (d := d - 1) (as := [vI z3, vI z6, vI z77]) (st := []) dX4_readSaying_95 rfl mv_X4_102 sh_21 rfl rfl rfl (by exact Nat.le_of_ble_eq_true rfl) ⟨by show _ ≤ d; omega, by show _ ≤ 40 * d; omega⟩ ⟨Nat.le_refl _, Nat.le_refl _⟩ (ct_addSaying (by decide) s99 s100 s42 s43 s78 ?_)
            rw [← em101]
            show E_X4_readSaying G d 98 [(3, vI z77), (2, vI z6), (1, vI z3), (0, vR 31)] [vI (m96 21 6)] m101 Q
            refine x_pop (q := 99) (by exact Nat.ne_of_beq_eq_false rfl) dX4_readSaying_98 rfl ?_
            exact x_vret rfl dX4_readSaying_99 H
set_option maxRecDepth 20000 in
set_option maxHeartbeats 4000000 in
theorem B_X4_readMost {G : GT} {d : Nat}  {mem : Mem} {Q : Option AV → Mem → Prop} (hd : 1 ≤ d) (H : C_X4_readNumber G (d - 1) [vR 31, vI 0, vI 12] mem (fun r9 m1 => ∃ z2 : Int, r9 = some (vI z2) ∧ ((¬ (m1 31 4 = -1) → (Q none m1)) ∧ ((m1 31 4 = -1) → ((inr z2) ∧ (∀ m6 : Mem, m6 = upM (upM m1 21 11 z2) 21 16 1 → (Q none m6))))))) : C_X4_readMost G d [vR 31] mem Q := by
  refine Ct_of_Ex (by decide +kernel) (by exact Nat.le_of_ble_eq_true rfl) (ls := [(0, vR 31)]) rfl ?_
  show E_X4_readMost G d 0 [(0, vR 31)] [] mem Q
  refine x_aloadn (q := 1) 0 rfl rfl rfl dX4_readMost_0 rfl ?_
  refine x_iconst (q := 2) dX4_readMost_1 rfl ?_
  refine x_bipush (q := 4) rfl dX4_readMost_2 rfl ?_
  refine x_callV (q := 7) (d := d - 1) (as := [vI 0, vI 12]) (st := []) dX4_readMost_4 rfl mv_X4_81 sh_31 rfl rfl rfl (by exact Nat.le_of_ble_eq_true rfl) ⟨by show _ ≤ d; omega, by show _ ≤ 40 * d; omega⟩ ⟨Nat.le_refl _, Nat.le_refl _⟩ (Ct.mono H (fun r9 m1 H => ?_))
  obtain ⟨z2, rfl, H⟩ := H
  show E_X4_readMost G d 7 [(0, vR 31)] [vI z2] m1 Q
  refine x_istoren (q := 8) (ls' := [(1, vI z2), (0, vR 31)]) rfl (by decide) rfl dX4_readMost_7 rfl ?_
  refine x_aloadn (q := 9) 1 rfl rfl rfl dX4_readMost_8 rfl ?_
  refine x_callV (q := 12) (d := d - 1) (as := []) (st := []) dX4_readMost_9 rfl mv_X4_28 sh_31 rfl rfl rfl (by exact Nat.le_of_ble_eq_true rfl) ⟨by show _ ≤ d; omega, by show _ ≤ 40 * d; omega⟩ ⟨Nat.le_refl _, Nat.le_refl _⟩ (ct_isRight ?_)
  show E_X4_readMost G d 12 [(1, vI z2), (0, vR 31)] [vI (bz (m1 31 4 = -1))] m1 Q
  obtain ⟨H1, H2⟩ := H
  refine x_if_eq (tgt := 24) (q := 15) dX4_readMost_12 (by decide) rfl (bz_inr _) (fun hB => ?_) (fun hB => ?_)
  · have H := H1 (bz_0.mp hB)
    exact x_vret rfl dX4_readMost_24 H
  · have H := H2 (Classical.byContradiction (fun z => hB (bz_0.mpr z)))
    refine x_aloadn (q := 16) 1 rfl rfl rfl dX4_readMost_15 rfl ?_
    refine x_getr (q := 19) dX4_readMost_16 rfl fa_X4_9 sh_31 rfl ?_
    refine x_iloadn (q := 20) 0 rfl rfl dX4_readMost_19 rfl ?_
    obtain ⟨s5, H⟩ := H
    obtain ⟨m6, em6⟩ : ∃ m9 : Mem, m9 = upM (upM m1 21 11 z2) 21 16 1 := ⟨_, rfl⟩
    have H := H m6 em6
    refine x_callV (q := 23) (d := d - 1) (as := [vI z2]) (st := []) dX4_readMost_20 rfl mv_X4_106 sh_21 rfl rfl rfl (by exact Nat.le_of_ble_eq_true rfl) ⟨by show _ ≤ d; omega, by show _ ≤ 40 * d; omega⟩ ⟨Nat.le_refl _, Nat.le_refl _⟩ (ct_setMost (by decide) s5 ?_)
    rw [← em6]
    show E_X4_readMost G d 23 [(1, vI z2), (0, vR 31)] [vI (m1 21 11)] m6 Q
    refine x_pop (q := 24) (by exact Nat.ne_of_beq_eq_false rfl) dX4_readMost_23 rfl ?_
    exact x_vret rfl dX4_readMost_24 H
set_option maxRecDepth 20000 in
set_option maxHeartbeats 4000000 in
theorem B_X4_readItem {G : GT} {d : Nat}  {mem : Mem} {Q : Option AV → Mem → Prop} (hd : 2 ≤ d) (H : C_X4_advance G (d - 1) [vR 31] mem (fun r9 m1 => r9 = none ∧ (C_X4_isWord G (d - 1) [vR 31, vS 0] m1 (fun r9 m2 => ∃ z3 : Int, r9 = some (vI z3) ∧ ((inr z3) ∧ (((z3 = 0) → (C_X4_isWord G (d - 1) [vR 31, vS 7] m2 (fun r9 m7 => ∃ z8 : Int, r9 = some (vI z8) ∧ ((inr z8) ∧ (((z8 = 0) → (C_X4_isWord G (d - 1) [vR 31, vS 8] m7 (fun r9 m12 => ∃ z13 : Int, r9 = some (vI z13) ∧ ((inr z13) ∧ (((z13 = 0) → (C_X4_isWord G (d - 1) [vR 31, vS 11] m12 (fun r9 m17 => ∃ z18 : Int, r9 = some (vI z18) ∧ ((inr z18) ∧ (((z18 = 0) → (∀ m22 : Mem, m22 = flM m17 → (Q none m22))) ∧ (¬ (z18 = 0) → (C_X4_readMost G (d - 1) [vR 31] m17 (fun r9 m23 => r9 = none ∧ (Q none m23))))))))) ∧ (¬ (z13 = 0) → ((¬ (m12 21 6 < 60) → (C_X4_isWord G (d - 1) [vR 31, vS 11] m12 (fun r9 m26 => ∃ z27 : Int, r9 = some (vI z27) ∧ ((inr z27) ∧ (((z27 = 0) → (∀ m31 : Mem, m31 = flM m26 → (Q none m31))) ∧ (¬ (z27 = 0) → (C_X4_readMost G (d - 1) [vR 31] m26 (fun r9 m32 => r9 = none ∧ (Q none m32))))))))) ∧ ((m12 21 6 < 60) → (C_X4_readSaying G (d - 1) [vR 31] m12 (fun r9 m33 => r9 = none ∧ (Q none m33))))))))))) ∧ (¬ (z8 = 0) → (C_X4_readTie G (d - 1) [vR 31] m7 (fun r9 m34 => r9 = none ∧ (Q none m34))))))))) ∧ (¬ (z3 = 0) → ((¬ (m2 21 0 < 12) → (C_X4_isWord G (d - 1) [vR 31, vS 7] m2 (fun r9 m37 => ∃ z38 : Int, r9 = some (vI z38) ∧ ((inr z38) ∧ (((z38 = 0) → (C_X4_isWord G (d - 1) [vR 31, vS 8] m37 (fun r9 m42 => ∃ z43 : Int, r9 = some (vI z43) ∧ ((inr z43) ∧ (((z43 = 0) → (C_X4_isWord G (d - 1) [vR 31, vS 11] m42 (fun r9 m47 => ∃ z48 : Int, r9 = some (vI z48) ∧ ((inr z48) ∧ (((z48 = 0) → (∀ m52 : Mem, m52 = flM m47 → (Q none m52))) ∧ (¬ (z48 = 0) → (C_X4_readMost G (d - 1) [vR 31] m47 (fun r9 m53 => r9 = none ∧ (Q none m53))))))))) ∧ (¬ (z43 = 0) → ((¬ (m42 21 6 < 60) → (C_X4_isWord G (d - 1) [vR 31, vS 11] m42 (fun r9 m56 => ∃ z57 : Int, r9 = some (vI z57) ∧ ((inr z57) ∧ (((z57 = 0) → (∀ m61 : Mem, m61 = flM m56 → (Q none m61))) ∧ (¬ (z57 = 0) → (C_X4_readMost G (d - 1) [vR 31] m56 (fun r9 m62 => r9 = none ∧ (Q none m62))))))))) ∧ ((m42 21 6 < 60) → (C_X4_readSaying G (d - 1) [vR 31] m42 (fun r9 m63 => r9 = none ∧ (Q none m63))))))))))) ∧ (¬ (z38 = 0) → (C_X4_readTie G (d - 1) [vR 31] m37 (fun r9 m64 => r9 = none ∧ (Q none m64))))))))) ∧ ((m2 21 0 < 12) → (C_X4_readMachine G (d - 1) [vR 31] m2 (fun r9 m65 => r9 = none ∧ (Q none m65)))))))))))) : C_X4_readItem G d [vR 31] mem Q := by
  refine Ct_of_Ex (by decide +kernel) (by exact Nat.le_of_ble_eq_true rfl) (ls := [(0, vR 31)]) rfl ?_
  show E_X4_readItem G d 0 [(0, vR 31)] [] mem Q
  refine x_aloadn (q := 1) 0 rfl rfl rfl dX4_readItem_0 rfl ?_
  refine x_callV (q := 4) (d := d - 1) (as := []) (st := []) dX4_readItem_1 rfl mv_X4_25 sh_31 rfl rfl rfl (by exact Nat.le_of_ble_eq_true rfl) ⟨by show _ ≤ d; omega, by show _ ≤ 40 * d; omega⟩ ⟨Nat.le_refl _, Nat.le_refl _⟩ (Ct.mono H (fun r9 m1 H => ?_))
  obtain ⟨rfl, H⟩ := H
  show E_X4_readItem G d 4 [(0, vR 31)] [] m1 Q
  refine x_aloadn (q := 5) 0 rfl rfl rfl dX4_readItem_4 rfl ?_
  refine x_ldcS (q := 7) (t := 0) (by decide) ⟨by decide +kernel, by decide +kernel⟩ dX4_readItem_5 rfl ?_
  refine x_callV (q := 10) (d := d - 1) (as := [vS 0]) (st := []) dX4_readItem_7 rfl mv_X4_49 sh_31 rfl rfl rfl (by exact Nat.le_of_ble_eq_true rfl) ⟨by show _ ≤ d; omega, by show _ ≤ 40 * d; omega⟩ ⟨Nat.le_refl _, Nat.le_refl _⟩ (Ct.mono H (fun r9 m2 H => ?_))
  obtain ⟨z3, rfl, H⟩ := H
  show E_X4_readItem G d 10 [(0, vR 31)] [vI z3] m2 Q
  obtain ⟨s4, H⟩ := H
  obtain ⟨H1, H2⟩ := H
  refine x_if_eq (tgt := 30) (q := 13) dX4_readItem_10 (by decide) rfl s4 (fun hB => ?_) (fun hB => ?_)
  · have H := H1 (hB)
    refine x_aloadn (q := 31) 0 rfl rfl rfl dX4_readItem_30 rfl ?_
    refine x_ldcS (q := 33) (t := 7) (by decide) ⟨by decide +kernel, by decide +kernel⟩ dX4_readItem_31 rfl ?_
    refine x_callV (q := 36) (d := d - 1) (as := [vS 7]) (st := []) dX4_readItem_33 rfl mv_X4_49 sh_31 rfl rfl rfl (by exact Nat.le_of_ble_eq_true rfl) ⟨by show _ ≤ d; omega, by show _ ≤ 40 * d; omega⟩ ⟨Nat.le_refl _, Nat.le_refl _⟩ (Ct.mono H (fun r9 m7 H => ?_))
    obtain ⟨z8, rfl, H⟩ := H
    show E_X4_readItem G d 36 [(0, vR 31)] [vI z8] m7 Q
    obtain ⟨s9, H⟩ := H
    obtain ⟨H1, H2⟩ := H
    refine x_if_eq (tgt := 46) (q := 39) dX4_readItem_36 (by decide) rfl s9 (fun hB => ?_) (fun hB => ?_)
    · have H := H1 (hB)
      refine x_aloadn (q := 47) 0 rfl rfl rfl dX4_readItem_46 rfl ?_
      refine x_ldcS (q := 49) (t := 8) (by decide) ⟨by decide +kernel, by decide +kernel⟩ dX4_readItem_47 rfl ?_
      refine x_callV (q := 52) (d := d - 1) (as := [vS 8]) (st := []) dX4_readItem_49 rfl mv_X4_49 sh_31 rfl rfl rfl (by exact Nat.le_of_ble_eq_true rfl) ⟨by show _ ≤ d; omega, by show _ ≤ 40 * d; omega⟩ ⟨Nat.le_refl _, Nat.le_refl _⟩ (Ct.mono H (fun r9 m12 H => ?_))
      obtain ⟨z13, rfl, H⟩ := H
      show E_X4_readItem G d 52 [(0, vR 31)] [vI z13] m12 Q
      obtain ⟨s14, H⟩ := H
      obtain ⟨H1, H2⟩ := H
      refine x_if_eq (tgt := 72) (q := 55) dX4_readItem_52 (by decide) rfl s14 (fun hB => ?_) (fun hB => ?_)
      · have H := H1 (hB)
        refine x_aloadn (q := 73) 0 rfl rfl rfl dX4_readItem_72 rfl ?_
        refine x_ldcS (q := 75) (t := 11) (by decide) ⟨by decide +kernel, by decide +kernel⟩ dX4_readItem_73 rfl ?_
        refine x_callV (q := 78) (d := d - 1) (as := [vS 11]) (st := []) dX4_readItem_75 rfl mv_X4_49 sh_31 rfl rfl rfl (by exact Nat.le_of_ble_eq_true rfl) ⟨by show _ ≤ d; omega, by show _ ≤ 40 * d; omega⟩ ⟨Nat.le_refl _, Nat.le_refl _⟩ (Ct.mono H (fun r9 m17 H => ?_))
        obtain ⟨z18, rfl, H⟩ := H
        show E_X4_readItem G d 78 [(0, vR 31)] [vI z18] m17 Q
        obtain ⟨s19, H⟩ := H
        obtain ⟨H1, H2⟩ := H
        refine x_if_eq (tgt := 88) (q := 81) dX4_readItem_78 (by decide) rfl s19 (fun hB => ?_) (fun hB => ?_)
        · have H := H1 (hB)
          refine x_aloadn (q := 89) 0 rfl rfl rfl dX4_readItem_88 rfl ?_
          obtain ⟨m22, em22⟩ : ∃ m9 : Mem, m9 = flM m17 := ⟨_, rfl⟩
          have H := H m22 em22
          refine x_callV (q := 92) (d := d - 1) (as := []) (st := []) dX4_readItem_89 rfl mv_X4_44 sh_31 rfl rfl rfl (by exact Nat.le_of_ble_eq_true rfl) ⟨by show _ ≤ d; omega, by show _ ≤ 40 * d; omega⟩ ⟨Nat.le_refl _, Nat.le_refl _⟩ (ct_fail (by omega) ?_)
          rw [← em22]
          show E_X4_readItem G d 92 [(0, vR 31)] [] m22 Q
          exact x_vret rfl dX4_readItem_92 H
        · have H := H2 (hB)
          refine x_aloadn (q := 82) 0 rfl rfl rfl dX4_readItem_81 rfl ?_
          refine x_callV (q := 85) (d := d - 1) (as := []) (st := []) dX4_readItem_82 rfl mv_X4_74 sh_31 rfl rfl rfl (by exact Nat.le_of_ble_eq_true rfl) ⟨by show _ ≤ d; omega, by show _ ≤ 40 * d; omega⟩ ⟨Nat.le_refl _, Nat.le_refl _⟩ (Ct.mono H (fun r9 m23 H => ?_))
          obtain ⟨rfl, H⟩ := H
          show E_X4_readItem G d 85 [(0, vR 31)] [] m23 Q
          refine x_goto (tgt := 92) dX4_readItem_85 (by decide) ?_
          exact x_vret rfl dX4_readItem_92 H
      · have H := H2 (hB)
        refine x_aloadn (q := 56) 0 rfl rfl rfl dX4_readItem_55 rfl ?_
        refine x_getr (q := 59) dX4_readItem_56 rfl fa_X4_9 sh_31 rfl ?_
        refine x_callV (q := 62) (d := d - 1) (as := []) (st := []) dX4_readItem_59 rfl mv_X4_66 sh_21 rfl rfl rfl (by exact Nat.le_of_ble_eq_true rfl) ⟨by show _ ≤ d; omega, by show _ ≤ 40 * d; omega⟩ ⟨Nat.le_refl _, Nat.le_refl _⟩ (ct_roomS (by decide) ?_)
        show E_X4_readItem G d 62 [(0, vR 31)] [vI (bz (m12 21 6 < 60))] m12 Q
        obtain ⟨H1, H2⟩ := H
        refine x_if_eq (tgt := 72) (q := 65) dX4_readItem_62 (by decide) rfl (bz_inr _) (fun hB => ?_) (fun hB => ?_)
        · have H := H1 (bz_0.mp hB)
          refine x_aloadn (q := 73) 0 rfl rfl rfl dX4_readItem_72 rfl ?_
          refine x_ldcS (q := 75) (t := 11) (by decide) ⟨by decide +kernel, by decide +kernel⟩ dX4_readItem_73 rfl ?_
          refine x_callV (q := 78) (d := d - 1) (as := [vS 11]) (st := []) dX4_readItem_75 rfl mv_X4_49 sh_31 rfl rfl rfl (by exact Nat.le_of_ble_eq_true rfl) ⟨by show _ ≤ d; omega, by show _ ≤ 40 * d; omega⟩ ⟨Nat.le_refl _, Nat.le_refl _⟩ (Ct.mono H (fun r9 m26 H => ?_))
          obtain ⟨z27, rfl, H⟩ := H
          show E_X4_readItem G d 78 [(0, vR 31)] [vI z27] m26 Q
          obtain ⟨s28, H⟩ := H
          obtain ⟨H1, H2⟩ := H
          refine x_if_eq (tgt := 88) (q := 81) dX4_readItem_78 (by decide) rfl s28 (fun hB => ?_) (fun hB => ?_)
          · have H := H1 (hB)
            refine x_aloadn (q := 89) 0 rfl rfl rfl dX4_readItem_88 rfl ?_
            obtain ⟨m31, em31⟩ : ∃ m9 : Mem, m9 = flM m26 := ⟨_, rfl⟩
            have H := H m31 em31
            refine x_callV (q := 92) (d := d - 1) (as := []) (st := []) dX4_readItem_89 rfl mv_X4_44 sh_31 rfl rfl rfl (by exact Nat.le_of_ble_eq_true rfl) ⟨by show _ ≤ d; omega, by show _ ≤ 40 * d; omega⟩ ⟨Nat.le_refl _, Nat.le_refl _⟩ (ct_fail (by omega) ?_)
            rw [← em31]
            show E_X4_readItem G d 92 [(0, vR 31)] [] m31 Q
            exact x_vret rfl dX4_readItem_92 H
          · have H := H2 (hB)
            refine x_aloadn (q := 82) 0 rfl rfl rfl dX4_readItem_81 rfl ?_
            refine x_callV (q := 85) (d := d - 1) (as := []) (st := []) dX4_readItem_82 rfl mv_X4_74 sh_31 rfl rfl rfl (by exact Nat.le_of_ble_eq_true rfl) ⟨by show _ ≤ d; omega, by show _ ≤ 40 * d; omega⟩ ⟨Nat.le_refl _, Nat.le_refl _⟩ (Ct.mono H (fun r9 m32 H => ?_))
            obtain ⟨rfl, H⟩ := H
            show E_X4_readItem G d 85 [(0, vR 31)] [] m32 Q
            refine x_goto (tgt := 92) dX4_readItem_85 (by decide) ?_
            exact x_vret rfl dX4_readItem_92 H
        · have H := H2 (Classical.byContradiction (fun z => hB (bz_0.mpr z)))
          refine x_aloadn (q := 66) 0 rfl rfl rfl dX4_readItem_65 rfl ?_
          refine x_callV (q := 69) (d := d - 1) (as := []) (st := []) dX4_readItem_66 rfl mv_X4_69 sh_31 rfl rfl rfl (by exact Nat.le_of_ble_eq_true rfl) ⟨by show _ ≤ d; omega, by show _ ≤ 40 * d; omega⟩ ⟨Nat.le_refl _, Nat.le_refl _⟩ (Ct.mono H (fun r9 m33 H => ?_))
          obtain ⟨rfl, H⟩ := H
          show E_X4_readItem G d 69 [(0, vR 31)] [] m33 Q
          refine x_goto (tgt := 92) dX4_readItem_69 (by decide) ?_
          exact x_vret rfl dX4_readItem_92 H
    · have H := H2 (hB)
      refine x_aloadn (q := 40) 0 rfl rfl rfl dX4_readItem_39 rfl ?_
      refine x_callV (q := 43) (d := d - 1) (as := []) (st := []) dX4_readItem_40 rfl mv_X4_61 sh_31 rfl rfl rfl (by exact Nat.le_of_ble_eq_true rfl) ⟨by show _ ≤ d; omega, by show _ ≤ 40 * d; omega⟩ ⟨Nat.le_refl _, Nat.le_refl _⟩ (Ct.mono H (fun r9 m34 H => ?_))
      obtain ⟨rfl, H⟩ := H
      show E_X4_readItem G d 43 [(0, vR 31)] [] m34 Q
      refine x_goto (tgt := 92) dX4_readItem_43 (by decide) ?_
      exact x_vret rfl dX4_readItem_92 H
  · have H := H2 (hB)
    refine x_aloadn (q := 14) 0 rfl rfl rfl dX4_readItem_13 rfl ?_
    refine x_getr (q := 17) dX4_readItem_14 rfl fa_X4_9 sh_31 rfl ?_
    refine x_callV (q := 20) (d := d - 1) (as := []) (st := []) dX4_readItem_17 rfl mv_X4_53 sh_21 rfl rfl rfl (by exact Nat.le_of_ble_eq_true rfl) ⟨by show _ ≤ d; omega, by show _ ≤ 40 * d; omega⟩ ⟨Nat.le_refl _, Nat.le_refl _⟩ (ct_roomM (by decide) ?_)
    show E_X4_readItem G d 20 [(0, vR 31)] [vI (bz (m2 21 0 < 12))] m2 Q
    obtain ⟨H1, H2⟩ := H
    refine x_if_eq (tgt := 30) (q := 23) dX4_readItem_20 (by decide) rfl (bz_inr _) (fun hB => ?_) (fun hB => ?_)
    · have H := H1 (bz_0.mp hB)
      refine x_aloadn (q := 31) 0 rfl rfl rfl dX4_readItem_30 rfl ?_
      refine x_ldcS (q := 33) (t := 7) (by decide) ⟨by decide +kernel, by decide +kernel⟩ dX4_readItem_31 rfl ?_
      refine x_callV (q := 36) (d := d - 1) (as := [vS 7]) (st := []) dX4_readItem_33 rfl mv_X4_49 sh_31 rfl rfl rfl (by exact Nat.le_of_ble_eq_true rfl) ⟨by show _ ≤ d; omega, by show _ ≤ 40 * d; omega⟩ ⟨Nat.le_refl _, Nat.le_refl _⟩ (Ct.mono H (fun r9 m37 H => ?_))
      obtain ⟨z38, rfl, H⟩ := H
      show E_X4_readItem G d 36 [(0, vR 31)] [vI z38] m37 Q
      obtain ⟨s39, H⟩ := H
      obtain ⟨H1, H2⟩ := H
      refine x_if_eq (tgt := 46) (q := 39) dX4_readItem_36 (by decide) rfl s39 (fun hB => ?_) (fun hB => ?_)
      · have H := H1 (hB)
        refine x_aloadn (q := 47) 0 rfl rfl rfl dX4_readItem_46 rfl ?_
        refine x_ldcS (q := 49) (t := 8) (by decide) ⟨by decide +kernel, by decide +kernel⟩ dX4_readItem_47 rfl ?_
        refine x_callV (q := 52) (d := d - 1) (as := [vS 8]) (st := []) dX4_readItem_49 rfl mv_X4_49 sh_31 rfl rfl rfl (by exact Nat.le_of_ble_eq_true rfl) ⟨by show _ ≤ d; omega, by show _ ≤ 40 * d; omega⟩ ⟨Nat.le_refl _, Nat.le_refl _⟩ (Ct.mono H (fun r9 m42 H => ?_))
        obtain ⟨z43, rfl, H⟩ := H
        show E_X4_readItem G d 52 [(0, vR 31)] [vI z43] m42 Q
        obtain ⟨s44, H⟩ := H
        obtain ⟨H1, H2⟩ := H
        refine x_if_eq (tgt := 72) (q := 55) dX4_readItem_52 (by decide) rfl s44 (fun hB => ?_) (fun hB => ?_)
        · have H := H1 (hB)
          refine x_aloadn (q := 73) 0 rfl rfl rfl dX4_readItem_72 rfl ?_
          refine x_ldcS (q := 75) (t := 11) (by decide) ⟨by decide +kernel, by decide +kernel⟩ dX4_readItem_73 rfl ?_
          refine x_callV (q := 78) (d := d - 1) (as := [vS 11]) (st := []) dX4_readItem_75 rfl mv_X4_49 sh_31 rfl rfl rfl (by exact Nat.le_of_ble_eq_true rfl) ⟨by show _ ≤ d; omega, by show _ ≤ 40 * d; omega⟩ ⟨Nat.le_refl _, Nat.le_refl _⟩ (Ct.mono H (fun r9 m47 H => ?_))
          obtain ⟨z48, rfl, H⟩ := H
          show E_X4_readItem G d 78 [(0, vR 31)] [vI z48] m47 Q
          obtain ⟨s49, H⟩ := H
          obtain ⟨H1, H2⟩ := H
          refine x_if_eq (tgt := 88) (q := 81) dX4_readItem_78 (by decide) rfl s49 (fun hB => ?_) (fun hB => ?_)
          · have H := H1 (hB)
            refine x_aloadn (q := 89) 0 rfl rfl rfl dX4_readItem_88 rfl ?_
            obtain ⟨m52, em52⟩ : ∃ m9 : Mem, m9 = flM m47 := ⟨_, rfl⟩
            have H := H m52 em52
            refine x_callV (q := 92) (d := d - 1) (as := []) (st := []) dX4_readItem_89 rfl mv_X4_44 sh_31 rfl rfl rfl (by exact Nat.le_of_ble_eq_true rfl) ⟨by show _ ≤ d; omega, by show _ ≤ 40 * d; omega⟩ ⟨Nat.le_refl _, Nat.le_refl _⟩ (ct_fail (by omega) ?_)
            rw [← em52]
            show E_X4_readItem G d 92 [(0, vR 31)] [] m52 Q
            exact x_vret rfl dX4_readItem_92 H
          · have H := H2 (hB)
            refine x_aloadn (q := 82) 0 rfl rfl rfl dX4_readItem_81 rfl ?_
            refine x_callV (q := 85) (d := d - 1) (as := []) (st := []) dX4_readItem_82 rfl mv_X4_74 sh_31 rfl rfl rfl (by exact Nat.le_of_ble_eq_true rfl) ⟨by show _ ≤ d; omega, by show _ ≤ 40 * d; omega⟩ ⟨Nat.le_refl _, Nat.le_refl _⟩ (Ct.mono H (fun r9 m53 H => ?_))
            obtain ⟨rfl, H⟩ := H
            show E_X4_readItem G d 85 [(0, vR 31)] [] m53 Q
            refine x_goto (tgt := 92) dX4_readItem_85 (by decide) ?_
            exact x_vret rfl dX4_readItem_92 H
        · have H := H2 (hB)
          refine x_aloadn (q := 56) 0 rfl rfl rfl dX4_readItem_55 rfl ?_
          refine x_getr (q := 59) dX4_readItem_56 rfl fa_X4_9 sh_31 rfl ?_
          refine x_callV (q := 62) (d := d - 1) (as := []) (st := []) dX4_readItem_59 rfl mv_X4_66 sh_21 rfl rfl rfl (by exact Nat.le_of_ble_eq_true rfl) ⟨by show _ ≤ d; omega, by show _ ≤ 40 * d; omega⟩ ⟨Nat.le_refl _, Nat.le_refl _⟩ (ct_roomS (by decide) ?_)
          show E_X4_readItem G d 62 [(0, vR 31)] [vI (bz (m42 21 6 < 60))] m42 Q
          obtain ⟨H1, H2⟩ := H
          refine x_if_eq (tgt := 72) (q := 65) dX4_readItem_62 (by decide) rfl (bz_inr _) (fun hB => ?_) (fun hB => ?_)
          · have H := H1 (bz_0.mp hB)
            refine x_aloadn (q := 73) 0 rfl rfl rfl dX4_readItem_72 rfl ?_
            refine x_ldcS (q := 75) (t := 11) (by decide) ⟨by decide +kernel, by decide +kernel⟩ dX4_readItem_73 rfl ?_
            refine x_callV (q := 78) (d := d - 1) (as := [vS 11]) (st := []) dX4_readItem_75 rfl mv_X4_49 sh_31 rfl rfl rfl (by exact Nat.le_of_ble_eq_true rfl) ⟨by show _ ≤ d; omega, by show _ ≤ 40 * d; omega⟩ ⟨Nat.le_refl _, Nat.le_refl _⟩ (Ct.mono H (fun r9 m56 H => ?_))
            obtain ⟨z57, rfl, H⟩ := H
            show E_X4_readItem G d 78 [(0, vR 31)] [vI z57] m56 Q
            obtain ⟨s58, H⟩ := H
            obtain ⟨H1, H2⟩ := H
            refine x_if_eq (tgt := 88) (q := 81) dX4_readItem_78 (by decide) rfl s58 (fun hB => ?_) (fun hB => ?_)
            · have H := H1 (hB)
              refine x_aloadn (q := 89) 0 rfl rfl rfl dX4_readItem_88 rfl ?_
              obtain ⟨m61, em61⟩ : ∃ m9 : Mem, m9 = flM m56 := ⟨_, rfl⟩
              have H := H m61 em61
              refine x_callV (q := 92) (d := d - 1) (as := []) (st := []) dX4_readItem_89 rfl mv_X4_44 sh_31 rfl rfl rfl (by exact Nat.le_of_ble_eq_true rfl) ⟨by show _ ≤ d; omega, by show _ ≤ 40 * d; omega⟩ ⟨Nat.le_refl _, Nat.le_refl _⟩ (ct_fail (by omega) ?_)
              rw [← em61]
              show E_X4_readItem G d 92 [(0, vR 31)] [] m61 Q
              exact x_vret rfl dX4_readItem_92 H
            · have H := H2 (hB)
              refine x_aloadn (q := 82) 0 rfl rfl rfl dX4_readItem_81 rfl ?_
              refine x_callV (q := 85) (d := d - 1) (as := []) (st := []) dX4_readItem_82 rfl mv_X4_74 sh_31 rfl rfl rfl (by exact Nat.le_of_ble_eq_true rfl) ⟨by show _ ≤ d; omega, by show _ ≤ 40 * d; omega⟩ ⟨Nat.le_refl _, Nat.le_refl _⟩ (Ct.mono H (fun r9 m62 H => ?_))
              obtain ⟨rfl, H⟩ := H
              show E_X4_readItem G d 85 [(0, vR 31)] [] m62 Q
              refine x_goto (tgt := 92) dX4_readItem_85 (by decide) ?_
              exact x_vret rfl dX4_readItem_92 H
          · have H := H2 (Classical.byContradiction (fun z => hB (bz_0.mpr z)))
            refine x_aloadn (q := 66) 0 rfl rfl rfl dX4_readItem_65 rfl ?_
            refine x_callV (q := 69) (d := d - 1) (as := []) (st := []) dX4_readItem_66 rfl mv_X4_69 sh_31 rfl rfl rfl (by exact Nat.le_of_ble_eq_true rfl) ⟨by show _ ≤ d; omega, by show _ ≤ 40 * d; omega⟩ ⟨Nat.le_refl _, Nat.le_refl _⟩ (Ct.mono H (fun r9 m63 H => ?_))
            obtain ⟨rfl, H⟩ := H
            show E_X4_readItem G d 69 [(0, vR 31)] [] m63 Q
            refine x_goto (tgt := 92) dX4_readItem_69 (by decide) ?_
            exact x_vret rfl dX4_readItem_92 H
      · have H := H2 (hB)
        refine x_aloadn (q := 40) 0 rfl rfl rfl dX4_readItem_39 rfl ?_
        refine x_callV (q := 43) (d := d - 1) (as := []) (st := []) dX4_readItem_40 rfl mv_X4_61 sh_31 rfl rfl rfl (by exact Nat.le_of_ble_eq_true rfl) ⟨by show _ ≤ d; omega, by show _ ≤ 40 * d; omega⟩ ⟨Nat.le_refl _, Nat.le_refl _⟩ (Ct.mono H (fun r9 m64 H => ?_))
        obtain ⟨rfl, H⟩ := H
        show E_X4_readItem G d 43 [(0, vR 31)] [] m64 Q
        refine x_goto (tgt := 92) dX4_readItem_43 (by decide) ?_
        exact x_vret rfl dX4_readItem_92 H
    · have H := H2 (Classical.byContradiction (fun z => hB (bz_0.mpr z)))
      refine x_aloadn (q := 24) 0 rfl rfl rfl dX4_readItem_23 rfl ?_
      refine x_callV (q := 27) (d := d - 1) (as := []) (st := []) dX4_readItem_24 rfl mv_X4_56 sh_31 rfl rfl rfl (by exact Nat.le_of_ble_eq_true rfl) ⟨by show _ ≤ d; omega, by show _ ≤ 40 * d; omega⟩ ⟨Nat.le_refl _, Nat.le_refl _⟩ (Ct.mono H (fun r9 m65 H => ?_))
      obtain ⟨rfl, H⟩ := H
      show E_X4_readItem G d 27 [(0, vR 31)] [] m65 Q
      refine x_goto (tgt := 92) dX4_readItem_27 (by decide) ?_
      exact x_vret rfl dX4_readItem_92 H
set_option maxRecDepth 20000 in
set_option maxHeartbeats 4000000 in
theorem B_X4_read {G : GT} {d : Nat}  {mem : Mem} {Q : Option AV → Mem → Prop} (hd : 1 ≤ d) (H : ∀ m1 : Mem, m1 = upM mem 31 1 0 → (∀ m2 : Mem, m2 = upM m1 31 4 (-1) → (E_X4_read G d 14 [(0, vR 31), (1, vI 0), (2, vI 1)] [] m2 Q))) : C_X4_read G d [vR 31] mem Q := by
  refine Ct_of_Ex (by decide +kernel) (by exact Nat.le_of_ble_eq_true rfl) (ls := [(0, vR 31)]) rfl ?_
  show E_X4_read G d 0 [(0, vR 31)] [] mem Q
  refine x_aloadn (q := 1) 0 rfl rfl rfl dX4_read_0 rfl ?_
  refine x_iconst (q := 2) dX4_read_1 rfl ?_
  refine x_puti (q := 5) (ji := 1) dX4_read_2 rfl fp_X4_15 sh_31 rfl rfl (by decide) (fun m1 em1 => ?_)
  have H := H m1 em1
  refine x_aloadn (q := 6) 0 rfl rfl rfl dX4_read_5 rfl ?_
  refine x_iconst (q := 7) dX4_read_6 rfl ?_
  refine x_puti (q := 10) (ji := 4) dX4_read_7 rfl fp_X4_19 sh_31 rfl rfl (by decide) (fun m2 em2 => ?_)
  have H := H m2 em2
  refine x_iconst (q := 11) dX4_read_10 rfl ?_
  refine x_istoren (q := 12) (ls' := [(1, vI 0), (0, vR 31)]) rfl (by decide) rfl dX4_read_11 rfl ?_
  refine x_iconst (q := 13) dX4_read_12 rfl ?_
  refine x_istoren (q := 14) (ls' := [(2, vI 1), (1, vI 0), (0, vR 31)]) rfl (by decide) rfl dX4_read_13 rfl ?_
  refine x_sub [2, 1, 0] rfl ?_
  exact H
set_option maxRecDepth 20000 in
set_option maxHeartbeats 4000000 in
theorem B_X4_read_14 {G : GT} {d : Nat} {l1 : Int} {l2 : Int} {mem : Mem} {Q : Option AV → Mem → Prop} (hd : 2 ≤ d) (H : (inr l2) ∧ (((l2 = 0) → ((¬ (mem 31 4 = -1) → (Q (some (vI ((-10) - (mem 31 4)))) mem)) ∧ ((mem 31 4 = -1) → (Q (some (vI l1)) mem)))) ∧ (¬ (l2 = 0) → ((inr l1) ∧ (((80 ≤ l1) → ((¬ (mem 31 4 = -1) → (Q (some (vI ((-10) - (mem 31 4)))) mem)) ∧ ((mem 31 4 = -1) → (Q (some (vI l1)) mem)))) ∧ (¬ (80 ≤ l1) → (C_X4_readItem G (d - 1) [vR 31] mem (fun r9 m15 => r9 = none ∧ (C_X4_advance G (d - 1) [vR 31] m15 (fun r9 m16 => r9 = none ∧ ((¬ (m16 31 4 = -1) → (((m16 31 3 = 0) → (E_X4_read G d 14 [(0, vR 31), (1, vI (l1 + 1)), (2, vI 0)] [] m16 Q)) ∧ (¬ (m16 31 3 = 0) → (∀ m22 : Mem, m22 = flM m16 → (E_X4_read G d 14 [(0, vR 31), (1, vI (l1 + 1)), (2, vI 0)] [] m22 Q))))) ∧ ((m16 31 4 = -1) → (((m16 31 3 ≠ 3) → (((m16 31 3 = 0) → (E_X4_read G d 14 [(0, vR 31), (1, vI (l1 + 1)), (2, vI 0)] [] m16 Q)) ∧ (¬ (m16 31 3 = 0) → (∀ m29 : Mem, m29 = flM m16 → (E_X4_read G d 14 [(0, vR 31), (1, vI (l1 + 1)), (2, vI 0)] [] m29 Q))))) ∧ (¬ (m16 31 3 ≠ 3) → ((0 ≤ m16 31 2 ∧ m16 31 2 < 80) ∧ (((m16 29 (m16 31 2) ≠ 59) → (((m16 31 3 = 0) → (E_X4_read G d 14 [(0, vR 31), (1, vI (l1 + 1)), (2, vI 0)] [] m16 Q)) ∧ (¬ (m16 31 3 = 0) → (∀ m39 : Mem, m39 = flM m16 → (E_X4_read G d 14 [(0, vR 31), (1, vI (l1 + 1)), (2, vI 0)] [] m39 Q))))) ∧ (¬ (m16 29 (m16 31 2) ≠ 59) → (E_X4_read G d 14 [(0, vR 31), (1, vI (l1 + 1)), (2, vI 1)] [] m16 Q)))))))))))))))))) : E_X4_read G d 14 [(0, vR 31), (1, vI l1), (2, vI l2)] [] mem Q := by
  refine x_iloadn (q := 15) 2 rfl rfl dX4_read_14 rfl ?_
  obtain ⟨s3, H⟩ := H
  obtain ⟨H1, H2⟩ := H
  refine x_if_eq (tgt := 91) (q := 18) dX4_read_15 (by decide) rfl s3 (fun hB => ?_) (fun hB => ?_)
  · have H := H1 (hB)
    refine x_aloadn (q := 92) 0 rfl rfl rfl dX4_read_91 rfl ?_
    refine x_callV (q := 95) (d := d - 1) (as := []) (st := []) dX4_read_92 rfl mv_X4_28 sh_31 rfl rfl rfl (by exact Nat.le_of_ble_eq_true rfl) ⟨by show _ ≤ d; omega, by show _ ≤ 40 * d; omega⟩ ⟨Nat.le_refl _, Nat.le_refl _⟩ (ct_isRight ?_)
    show E_X4_read G d 95 [(0, vR 31), (1, vI l1), (2, vI l2)] [vI (bz (mem 31 4 = -1))] mem Q
    obtain ⟨H1, H2⟩ := H
    refine x_if_eq (tgt := 102) (q := 98) dX4_read_95 (by decide) rfl (bz_inr _) (fun hB => ?_) (fun hB => ?_)
    · have H := H1 (bz_0.mp hB)
      refine x_bipush (q := 104) rfl dX4_read_102 rfl ?_
      refine x_aloadn (q := 105) 0 rfl rfl rfl dX4_read_104 rfl ?_
      refine x_geti (q := 108) (ji := 4) dX4_read_105 rfl fa_X4_19 sh_31 rfl rfl (fun r8 => ?_)
      refine x_isub (q := 109) dX4_read_108 rfl ?_
      exact x_iret rfl dX4_read_109 H
    · have H := H2 (Classical.byContradiction (fun z => hB (bz_0.mpr z)))
      refine x_iloadn (q := 99) 1 rfl rfl dX4_read_98 rfl ?_
      refine x_goto (tgt := 109) dX4_read_99 (by decide) ?_
      exact x_iret rfl dX4_read_109 H
  · have H := H2 (hB)
    refine x_iloadn (q := 19) 1 rfl rfl dX4_read_18 rfl ?_
    refine x_bipush (q := 21) rfl dX4_read_19 rfl ?_
    obtain ⟨s9, H⟩ := H
    obtain ⟨H1, H2⟩ := H
    refine x_icmp_ge (tgt := 91) (q := 24) dX4_read_21 (by decide) rfl s9 (by decide) (fun hB => ?_) (fun hB => ?_)
    · have H := H1 (hB)
      refine x_aloadn (q := 92) 0 rfl rfl rfl dX4_read_91 rfl ?_
      refine x_callV (q := 95) (d := d - 1) (as := []) (st := []) dX4_read_92 rfl mv_X4_28 sh_31 rfl rfl rfl (by exact Nat.le_of_ble_eq_true rfl) ⟨by show _ ≤ d; omega, by show _ ≤ 40 * d; omega⟩ ⟨Nat.le_refl _, Nat.le_refl _⟩ (ct_isRight ?_)
      show E_X4_read G d 95 [(0, vR 31), (1, vI l1), (2, vI l2)] [vI (bz (mem 31 4 = -1))] mem Q
      obtain ⟨H1, H2⟩ := H
      refine x_if_eq (tgt := 102) (q := 98) dX4_read_95 (by decide) rfl (bz_inr _) (fun hB => ?_) (fun hB => ?_)
      · have H := H1 (bz_0.mp hB)
        refine x_bipush (q := 104) rfl dX4_read_102 rfl ?_
        refine x_aloadn (q := 105) 0 rfl rfl rfl dX4_read_104 rfl ?_
        refine x_geti (q := 108) (ji := 4) dX4_read_105 rfl fa_X4_19 sh_31 rfl rfl (fun r14 => ?_)
        refine x_isub (q := 109) dX4_read_108 rfl ?_
        exact x_iret rfl dX4_read_109 H
      · have H := H2 (Classical.byContradiction (fun z => hB (bz_0.mpr z)))
        refine x_iloadn (q := 99) 1 rfl rfl dX4_read_98 rfl ?_
        refine x_goto (tgt := 109) dX4_read_99 (by decide) ?_
        exact x_iret rfl dX4_read_109 H
    · have H := H2 (hB)
      refine x_aloadn (q := 25) 0 rfl rfl rfl dX4_read_24 rfl ?_
      refine x_callV (q := 28) (d := d - 1) (as := []) (st := []) dX4_read_25 rfl mv_X4_22 sh_31 rfl rfl rfl (by exact Nat.le_of_ble_eq_true rfl) ⟨by show _ ≤ d; omega, by show _ ≤ 40 * d; omega⟩ ⟨Nat.le_refl _, Nat.le_refl _⟩ (Ct.mono H (fun r9 m15 H => ?_))
      obtain ⟨rfl, H⟩ := H
      show E_X4_read G d 28 [(0, vR 31), (1, vI l1), (2, vI l2)] [] m15 Q
      refine x_iinc (q := 31) (ls' := [(1, vI (l1 + 1)), (0, vR 31), (2, vI l2)]) 1 rfl (by decide) rfl dX4_read_28 rfl ?_
      refine x_aloadn (q := 32) 1 rfl rfl rfl dX4_read_31 rfl ?_
      refine x_callV (q := 35) (d := d - 1) (as := []) (st := []) dX4_read_32 rfl mv_X4_25 sh_31 rfl rfl rfl (by exact Nat.le_of_ble_eq_true rfl) ⟨by show _ ≤ d; omega, by show _ ≤ 40 * d; omega⟩ ⟨Nat.le_refl _, Nat.le_refl _⟩ (Ct.mono H (fun r9 m16 H => ?_))
      obtain ⟨rfl, H⟩ := H
      show E_X4_read G d 35 [(1, vI (l1 + 1)), (0, vR 31), (2, vI l2)] [] m16 Q
      refine x_aloadn (q := 36) 1 rfl rfl rfl dX4_read_35 rfl ?_
      refine x_callV (q := 39) (d := d - 1) (as := []) (st := []) dX4_read_36 rfl mv_X4_28 sh_31 rfl rfl rfl (by exact Nat.le_of_ble_eq_true rfl) ⟨by show _ ≤ d; omega, by show _ ≤ 40 * d; omega⟩ ⟨Nat.le_refl _, Nat.le_refl _⟩ (ct_isRight ?_)
      show E_X4_read G d 39 [(1, vI (l1 + 1)), (0, vR 31), (2, vI l2)] [vI (bz (m16 31 4 = -1))] m16 Q
      obtain ⟨H1, H2⟩ := H
      refine x_if_eq (tgt := 71) (q := 42) dX4_read_39 (by decide) rfl (bz_inr _) (fun hB => ?_) (fun hB => ?_)
      · have H := H1 (bz_0.mp hB)
        refine x_iconst (q := 72) dX4_read_71 rfl ?_
        refine x_istoren (q := 73) (ls' := [(2, vI 0), (1, vI (l1 + 1)), (0, vR 31)]) rfl (by decide) rfl dX4_read_72 rfl ?_
        refine x_iloadn (q := 74) 0 rfl rfl dX4_read_73 rfl ?_
        refine x_if_ne (tgt := 14) (q := 77) dX4_read_74 (by decide) rfl (by decide) (fun h => absurd h (by decide)) (fun _ => ?_)
        refine x_aloadn (q := 78) 2 rfl rfl rfl dX4_read_77 rfl ?_
        refine x_geti (q := 81) (ji := 3) dX4_read_78 rfl fa_X4_32 sh_31 rfl rfl (fun r19 => ?_)
        obtain ⟨H1, H2⟩ := H
        refine x_if_eq (tgt := 14) (q := 84) dX4_read_81 (by decide) rfl r19 (fun hB => ?_) (fun hB => ?_)
        · have H := H1 (hB)
          refine x_sub [2, 1, 0] rfl ?_
          exact H
        · have H := H2 (hB)
          refine x_aloadn (q := 85) 2 rfl rfl rfl dX4_read_84 rfl ?_
          obtain ⟨m22, em22⟩ : ∃ m9 : Mem, m9 = flM m16 := ⟨_, rfl⟩
          have H := H m22 em22
          refine x_callV (q := 88) (d := d - 1) (as := []) (st := []) dX4_read_85 rfl mv_X4_44 sh_31 rfl rfl rfl (by exact Nat.le_of_ble_eq_true rfl) ⟨by show _ ≤ d; omega, by show _ ≤ 40 * d; omega⟩ ⟨Nat.le_refl _, Nat.le_refl _⟩ (ct_fail (by omega) ?_)
          rw [← em22]
          show E_X4_read G d 88 [(2, vI 0), (1, vI (l1 + 1)), (0, vR 31)] [] m22 Q
          refine x_goto (tgt := 14) dX4_read_88 (by decide) ?_
          refine x_sub [2, 1, 0] rfl ?_
          exact H
      · have H := H2 (Classical.byContradiction (fun z => hB (bz_0.mpr z)))
        refine x_aloadn (q := 43) 1 rfl rfl rfl dX4_read_42 rfl ?_
        refine x_geti (q := 46) (ji := 3) dX4_read_43 rfl fa_X4_32 sh_31 rfl rfl (fun r23 => ?_)
        refine x_iconst (q := 47) dX4_read_46 rfl ?_
        obtain ⟨H1, H2⟩ := H
        refine x_icmp_ne (tgt := 71) (q := 50) dX4_read_47 (by decide) rfl r23 (by decide) (fun hB => ?_) (fun hB => ?_)
        · have H := H1 (hB)
          refine x_iconst (q := 72) dX4_read_71 rfl ?_
          refine x_istoren (q := 73) (ls' := [(2, vI 0), (1, vI (l1 + 1)), (0, vR 31)]) rfl (by decide) rfl dX4_read_72 rfl ?_
          refine x_iloadn (q := 74) 0 rfl rfl dX4_read_73 rfl ?_
          refine x_if_ne (tgt := 14) (q := 77) dX4_read_74 (by decide) rfl (by decide) (fun h => absurd h (by decide)) (fun _ => ?_)
          refine x_aloadn (q := 78) 2 rfl rfl rfl dX4_read_77 rfl ?_
          refine x_geti (q := 81) (ji := 3) dX4_read_78 rfl fa_X4_32 sh_31 rfl rfl (fun r26 => ?_)
          obtain ⟨H1, H2⟩ := H
          refine x_if_eq (tgt := 14) (q := 84) dX4_read_81 (by decide) rfl r26 (fun hB => ?_) (fun hB => ?_)
          · have H := H1 (hB)
            refine x_sub [2, 1, 0] rfl ?_
            exact H
          · have H := H2 (hB)
            refine x_aloadn (q := 85) 2 rfl rfl rfl dX4_read_84 rfl ?_
            obtain ⟨m29, em29⟩ : ∃ m9 : Mem, m9 = flM m16 := ⟨_, rfl⟩
            have H := H m29 em29
            refine x_callV (q := 88) (d := d - 1) (as := []) (st := []) dX4_read_85 rfl mv_X4_44 sh_31 rfl rfl rfl (by exact Nat.le_of_ble_eq_true rfl) ⟨by show _ ≤ d; omega, by show _ ≤ 40 * d; omega⟩ ⟨Nat.le_refl _, Nat.le_refl _⟩ (ct_fail (by omega) ?_)
            rw [← em29]
            show E_X4_read G d 88 [(2, vI 0), (1, vI (l1 + 1)), (0, vR 31)] [] m29 Q
            refine x_goto (tgt := 14) dX4_read_88 (by decide) ?_
            refine x_sub [2, 1, 0] rfl ?_
            exact H
        · have H := H2 (hB)
          refine x_aloadn (q := 51) 1 rfl rfl rfl dX4_read_50 rfl ?_
          refine x_getr (q := 54) dX4_read_51 rfl fa_X4_9 sh_31 rfl ?_
          refine x_getr (q := 57) dX4_read_54 rfl fa_X4_35 sh_21 rfl ?_
          refine x_aloadn (q := 58) 1 rfl rfl rfl dX4_read_57 rfl ?_
          refine x_geti (q := 61) (ji := 2) dX4_read_58 rfl fa_X4_41 sh_31 rfl rfl (fun r30 => ?_)
          obtain ⟨⟨s31, s32⟩, H⟩ := H
          refine x_bald (q := 62) dX4_read_61 rfl sh_29 s31 s32 (fun r33 => ?_)
          refine x_bipush (q := 64) rfl dX4_read_62 rfl ?_
          obtain ⟨H1, H2⟩ := H
          refine x_icmp_ne (tgt := 71) (q := 67) dX4_read_64 (by decide) rfl r33 (by decide) (fun hB => ?_) (fun hB => ?_)
          · have H := H1 (hB)
            refine x_iconst (q := 72) dX4_read_71 rfl ?_
            refine x_istoren (q := 73) (ls' := [(2, vI 0), (1, vI (l1 + 1)), (0, vR 31)]) rfl (by decide) rfl dX4_read_72 rfl ?_
            refine x_iloadn (q := 74) 0 rfl rfl dX4_read_73 rfl ?_
            refine x_if_ne (tgt := 14) (q := 77) dX4_read_74 (by decide) rfl (by decide) (fun h => absurd h (by decide)) (fun _ => ?_)
            refine x_aloadn (q := 78) 2 rfl rfl rfl dX4_read_77 rfl ?_
            refine x_geti (q := 81) (ji := 3) dX4_read_78 rfl fa_X4_32 sh_31 rfl rfl (fun r36 => ?_)
            obtain ⟨H1, H2⟩ := H
            refine x_if_eq (tgt := 14) (q := 84) dX4_read_81 (by decide) rfl r36 (fun hB => ?_) (fun hB => ?_)
            · have H := H1 (hB)
              refine x_sub [2, 1, 0] rfl ?_
              exact H
            · have H := H2 (hB)
              refine x_aloadn (q := 85) 2 rfl rfl rfl dX4_read_84 rfl ?_
              obtain ⟨m39, em39⟩ : ∃ m9 : Mem, m9 = flM m16 := ⟨_, rfl⟩
              have H := H m39 em39
              refine x_callV (q := 88) (d := d - 1) (as := []) (st := []) dX4_read_85 rfl mv_X4_44 sh_31 rfl rfl rfl (by exact Nat.le_of_ble_eq_true rfl) ⟨by show _ ≤ d; omega, by show _ ≤ 40 * d; omega⟩ ⟨Nat.le_refl _, Nat.le_refl _⟩ (ct_fail (by omega) ?_)
              rw [← em39]
              show E_X4_read G d 88 [(2, vI 0), (1, vI (l1 + 1)), (0, vR 31)] [] m39 Q
              refine x_goto (tgt := 14) dX4_read_88 (by decide) ?_
              refine x_sub [2, 1, 0] rfl ?_
              exact H
          · have H := H2 (hB)
            refine x_iconst (q := 68) dX4_read_67 rfl ?_
            refine x_goto (tgt := 72) dX4_read_68 (by decide) ?_
            refine x_istoren (q := 73) (ls' := [(2, vI 1), (1, vI (l1 + 1)), (0, vR 31)]) rfl (by decide) rfl dX4_read_72 rfl ?_
            refine x_iloadn (q := 74) 0 rfl rfl dX4_read_73 rfl ?_
            refine x_if_ne (tgt := 14) (q := 77) dX4_read_74 (by decide) rfl (by decide) (fun _ => ?_) (fun h => absurd (by decide) h)
            refine x_sub [2, 1, 0] rfl ?_
            exact H
