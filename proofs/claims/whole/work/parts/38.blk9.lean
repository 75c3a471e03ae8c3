abbrev E_X5_lies (G : GT) (d pc : Nat) (ls : List (Nat × AV)) (st : List AV) (mem : Mem) (Q : Option AV → Mem → Prop) : Prop := Ex G RX5 cX5_lies 3 (some .boolean) d pc ls st mem Q
abbrev C_X5_lies (G : GT) (d : Nat) (as : List AV) (mem : Mem) (Q : Option AV → Mem → Prop) : Prop := Ct G yX5_lies cX5_lies 3 (some .boolean) d as mem Q
set_option maxRecDepth 20000 in
set_option maxHeartbeats 4000000 in
theorem B_X5_lies {G : GT} {d : Nat} {l1 : Int} {l2 : Int} {mem : Mem} {Q : Option AV → Mem → Prop} (H : ((iand (ishr l2 l1) 1 = 0) → (Q (some (vI 0)) mem)) ∧ (¬ (iand (ishr l2 l1) 1 = 0) → ((0 ≤ l1 ∧ l1 < 12) ∧ (((mem 2 l1 = 5) → (Q (some (vI 0)) mem)) ∧ (¬ (mem 2 l1 = 5) → (Q (some (vI 1)) mem)))))) : C_X5_lies G d [vR 49, vI l1, vI l2] mem Q := by
  refine Ct_of_Ex (by decide +kernel) (by exact Nat.le_of_ble_eq_true rfl) (ls := [(0, vR 49), (1, vI l1), (2, vI l2)]) rfl ?_
  show E_X5_lies G d 0 [(0, vR 49), (1, vI l1), (2, vI l2)] [] mem Q
  refine x_iloadn (q := 1) 2 rfl rfl dX5_lies_0 rfl ?_
  refine x_iloadn (q := 2) 1 rfl rfl dX5_lies_1 rfl ?_
  refine x_ishr (q := 3) dX5_lies_2 rfl ?_
  refine x_iconst (q := 4) dX5_lies_3 rfl ?_
  refine x_iand (q := 5) dX5_lies_4 rfl ?_
  obtain ⟨H1, H2⟩ := H
  refine x_if_eq (tgt := 25) (q := 8) dX5_lies_5 (by decide) rfl (iand_inr _ _) (fun hB => ?_) (fun hB => ?_)
  · have H := H1 (hB)
    refine x_iconst (q := 26) dX5_lies_25 rfl ?_
    exact x_zret rfl dX5_lies_26 (by decide) H
  · have H := H2 (hB)
    refine x_aloadn (q := 9) 0 rfl rfl rfl dX5_lies_8 rfl ?_
    refine x_getr (q := 12) dX5_lies_9 rfl fa_X5_34 sh_49 rfl ?_
    refine x_getr (q := 15) dX5_lies_12 rfl fa_X5_38 sh_1 rfl ?_
    refine x_iloadn (q := 16) 1 rfl rfl dX5_lies_15 rfl ?_
    obtain ⟨⟨s3, s4⟩, H⟩ := H
    refine x_iald (q := 17) dX5_lies_16 rfl sh_2 s3 s4 (fun r5 => ?_)
    refine x_iconst (q := 18) dX5_lies_17 rfl ?_
    obtain ⟨H1, H2⟩ := H
    refine x_icmp_eq (tgt := 25) (q := 21) dX5_lies_18 (by decide) rfl r5 (by decide) (fun hB => ?_) (fun hB => ?_)
    · have H := H1 (hB)
      refine x_iconst (q := 26) dX5_lies_25 rfl ?_
      exact x_zret rfl dX5_lies_26 (by decide) H
    · have H := H2 (hB)
      refine x_iconst (q := 22) dX5_lies_21 rfl ?_
      refine x_goto (tgt := 26) dX5_lies_22 (by decide) ?_
      exact x_zret rfl dX5_lies_26 (by decide) H
