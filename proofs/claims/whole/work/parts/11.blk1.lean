abbrev E_J6_bitCount_0f7a4 (G : GT) (d pc : Nat) (ls : List (Nat × AV)) (st : List AV) (mem : Mem) (Q : Option AV → Mem → Prop) : Prop := Ex G RJ6 cJ6_bitCount_0f7a4 1 (some .int) d pc ls st mem Q
abbrev C_J6_bitCount_0f7a4 (G : GT) (d : Nat) (as : List AV) (mem : Mem) (Q : Option AV → Mem → Prop) : Prop := Ct G yJ6_bitCount_0f7a4 cJ6_bitCount_0f7a4 1 (some .int) d as mem Q
set_option maxRecDepth 20000 in
set_option maxHeartbeats 4000000 in
theorem B_J6_bitCount_0f7a4 {G : GT} {d : Nat} {l0 : Int} {mem : Mem} {Q : Option AV → Mem → Prop} (H : Q (some (vI (iand (((iand (((iand (l0 - (iand (iushr l0 1) 1431655765)) 858993459) + (iand (iushr (l0 - (iand (iushr l0 1) 1431655765)) 2) 858993459)) + (iushr ((iand (l0 - (iand (iushr l0 1) 1431655765)) 858993459) + (iand (iushr (l0 - (iand (iushr l0 1) 1431655765)) 2) 858993459)) 4)) 252645135) + (iushr (iand (((iand (l0 - (iand (iushr l0 1) 1431655765)) 858993459) + (iand (iushr (l0 - (iand (iushr l0 1) 1431655765)) 2) 858993459)) + (iushr ((iand (l0 - (iand (iushr l0 1) 1431655765)) 858993459) + (iand (iushr (l0 - (iand (iushr l0 1) 1431655765)) 2) 858993459)) 4)) 252645135) 8)) + (iushr ((iand (((iand (l0 - (iand (iushr l0 1) 1431655765)) 858993459) + (iand (iushr (l0 - (iand (iushr l0 1) 1431655765)) 2) 858993459)) + (iushr ((iand (l0 - (iand (iushr l0 1) 1431655765)) 858993459) + (iand (iushr (l0 - (iand (iushr l0 1) 1431655765)) 2) 858993459)) 4)) 252645135) + (iushr (iand (((iand (l0 - (iand (iushr l0 1) 1431655765)) 858993459) + (iand (iushr (l0 - (iand (iushr l0 1) 1431655765)) 2) 858993459)) + (iushr ((iand (l0 - (iand (iushr l0 1) 1431655765)) 858993459) + (iand (iushr (l0 - (iand (iushr l0 1) 1431655765)) 2) 858993459)) 4)) 252645135) 8)) 16)) 63))) mem) : C_J6_bitCount_0f7a4 G d [vI l0] mem Q := by
  refine Ct_of_Ex (by decide +kernel) (by exact Nat.le_of_ble_eq_true rfl) (ls := [(0, vI l0)]) rfl ?_
  show E_J6_bitCount_0f7a4 G d 0 [(0, vI l0)] [] mem Q
  refine x_iloadn (q := 1) 0 rfl rfl dJ6_bitCount_0f7a4_0 rfl ?_
  refine x_iloadn (q := 2) 0 rfl rfl dJ6_bitCount_0f7a4_1 rfl ?_
  refine x_iconst (q := 3) dJ6_bitCount_0f7a4_2 rfl ?_
  refine x_iushr (q := 4) dJ6_bitCount_0f7a4_3 rfl ?_
  refine x_ldcw (q := 7) (z := 1431655765) cn_J6_265 (by decide) dJ6_bitCount_0f7a4_4 rfl ?_
  refine x_iand (q := 8) dJ6_bitCount_0f7a4_7 rfl ?_
  refine x_isub (q := 9) dJ6_bitCount_0f7a4_8 rfl ?_
  refine x_istoren (q := 10) (ls' := [(0, vI (l0 - (iand (iushr l0 1) 1431655765)))]) rfl (by decide) rfl dJ6_bitCount_0f7a4_9 rfl ?_
  refine x_iloadn (q := 11) 0 rfl rfl dJ6_bitCount_0f7a4_10 rfl ?_
  refine x_ldcw (q := 14) (z := 858993459) cn_J6_266 (by decide) dJ6_bitCount_0f7a4_11 rfl ?_
  refine x_iand (q := 15) dJ6_bitCount_0f7a4_14 rfl ?_
  refine x_iloadn (q := 16) 0 rfl rfl dJ6_bitCount_0f7a4_15 rfl ?_
  refine x_iconst (q := 17) dJ6_bitCount_0f7a4_16 rfl ?_
  refine x_iushr (q := 18) dJ6_bitCount_0f7a4_17 rfl ?_
  refine x_ldcw (q := 21) (z := 858993459) cn_J6_266 (by decide) dJ6_bitCount_0f7a4_18 rfl ?_
  refine x_iand (q := 22) dJ6_bitCount_0f7a4_21 rfl ?_
  refine x_iadd (q := 23) dJ6_bitCount_0f7a4_22 rfl ?_
  refine x_istoren (q := 24) (ls' := [(0, vI ((iand (l0 - (iand (iushr l0 1) 1431655765)) 858993459) + (iand (iushr (l0 - (iand (iushr l0 1) 1431655765)) 2) 858993459)))]) rfl (by decide) rfl dJ6_bitCount_0f7a4_23 rfl ?_
  refine x_iloadn (q := 25) 0 rfl rfl dJ6_bitCount_0f7a4_24 rfl ?_
  refine x_iloadn (q := 26) 0 rfl rfl dJ6_bitCount_0f7a4_25 rfl ?_
  refine x_iconst (q := 27) dJ6_bitCount_0f7a4_26 rfl ?_
  refine x_iushr (q := 28) dJ6_bitCount_0f7a4_27 rfl ?_
  refine x_iadd (q := 29) dJ6_bitCount_0f7a4_28 rfl ?_
  refine x_ldcw (q := 32) (z := 252645135) cn_J6_267 (by decide) dJ6_bitCount_0f7a4_29 rfl ?_
  refine x_iand (q := 33) dJ6_bitCount_0f7a4_32 rfl ?_
  refine x_istoren (q := 34) (ls' := [(0, vI (iand (((iand (l0 - (iand (iushr l0 1) 1431655765)) 858993459) + (iand (iushr (l0 - (iand (iushr l0 1) 1431655765)) 2) 858993459)) + (iushr ((iand (l0 - (iand (iushr l0 1) 1431655765)) 858993459) + (iand (iushr (l0 - (iand (iushr l0 1) 1431655765)) 2) 858993459)) 4)) 252645135))]) rfl (by decide) rfl dJ6_bitCount_0f7a4_33 rfl ?_
  refine x_iloadn (q := 35) 0 rfl rfl dJ6_bitCount_0f7a4_34 rfl ?_
  refine x_iloadn (q := 36) 0 rfl rfl dJ6_bitCount_0f7a4_35 rfl ?_
  refine x_bipush (q := 38) rfl dJ6_bitCount_0f7a4_36 rfl ?_
  refine x_iushr (q := 39) dJ6_bitCount_0f7a4_38 rfl ?_
  refine x_iadd (q := 40) dJ6_bitCount_0f7a4_39 rfl ?_
  refine x_istoren (q := 41) (ls' := [(0, vI ((iand (((iand (l0 - (iand (iushr l0 1) 1431655765)) 858993459) + (iand (iushr (l0 - (iand (iushr l0 1) 1431655765)) 2) 858993459)) + (iushr ((iand (l0 - (iand (iushr l0 1) 1431655765)) 858993459) + (iand (iushr (l0 - (iand (iushr l0 1) 1431655765)) 2) 858993459)) 4)) 252645135) + (iushr (iand (((iand (l0 - (iand (iushr l0 1) 1431655765)) 858993459) + (iand (iushr (l0 - (iand (iushr l0 1) 1431655765)) 2) 858993459)) + (iushr ((iand (l0 - (iand (iushr l0 1) 1431655765)) 858993459) + (iand (iushr (l0 - (iand (iushr l0 1) 1431655765)) 2) 858993459)) 4)) 252645135) 8)))]) rfl (by decide) rfl dJ6_bitCount_0f7a4_40 rfl ?_
  refine x_iloadn (q := 42) 0 rfl rfl dJ6_bitCount_0f7a4_41 rfl ?_
  refine x_iloadn (q := 43) 0 rfl rfl dJ6_bitCount_0f7a4_42 rfl ?_
  refine x_bipush (q := 45) rfl dJ6_bitCount_0f7a4_43 rfl ?_
  refine x_iushr (q := 46) dJ6_bitCount_0f7a4_45 rfl ?_
  refine x_iadd (q := 47) dJ6_bitCount_0f7a4_46 rfl ?_
  refine x_istoren (q := 48) (ls' := [(0, vI (((iand (((iand (l0 - (iand (iushr l0 1) 1431655765)) 858993459) + (iand (iushr (l0 - (iand (iushr l0 1) 1431655765)) 2) 858993459)) + (iushr ((iand (l0 - (iand (iushr l0 1) 1431655765)) 858993459) + (iand (iushr (l0 - (iand (iushr l0 1) 1431655765)) 2) 858993459)) 4)) 252645135) + (iushr (iand (((iand (l0 - (iand (iushr l0 1) 1431655765)) 858993459) + (iand (iushr (l0 - (iand (iushr l0 1) 1431655765)) 2) 858993459)) + (iushr ((iand (l0 - (iand (iushr l0 1) 1431655765)) 858993459) + (iand (iushr (l0 - (iand (iushr l0 1) 1431655765)) 2) 858993459)) 4)) 252645135) 8)) + (iushr ((iand (((iand (l0 - (iand (iushr l0 1) 1431655765)) 858993459) + (iand (iushr (l0 - (iand (iushr l0 1) 1431655765)) 2) 858993459)) + (iushr ((iand (l0 - (iand (iushr l0 1) 1431655765)) 858993459) + (iand (iushr (l0 - (iand (iushr l0 1) 1431655765)) 2) 858993459)) 4)) 252645135) + (iushr (iand (((iand (l0 - (iand (iushr l0 1) 1431655765)) 858993459) + (iand (iushr (l0 - (iand (iushr l0 1) 1431655765)) 2) 858993459)) + (iushr ((iand (l0 - (iand (iushr l0 1) 1431655765)) 858993459) + (iand (iushr (l0 - (iand (iushr l0 1) 1431655765)) 2) 858993459)) 4)) 252645135) 8)) 16)))]) rfl (by decide) rfl dJ6_bitCount_0f7a4_47 rfl ?_
  refine x_iloadn (q := 49) 0 rfl rfl dJ6_bitCount_0f7a4_48 rfl ?_
  refine x_bipush (q := 51) rfl dJ6_bitCount_0f7a4_49 rfl ?_
  refine x_iand (q := 52) dJ6_bitCount_0f7a4_51 rfl ?_
  exact x_iret rfl dJ6_bitCount_0f7a4_52 H
abbrev E_J13_bitCount_95d88 (G : GT) (d pc : Nat) (ls : List (Nat × AV)) (st : List AV) (mem : Mem) (Q : Option AV → Mem → Prop) : Prop := Ex G RJ13 cJ13_bitCount_95d88 2 (some .int) d pc ls st mem Q
abbrev C_J13_bitCount_95d88 (G : GT) (d : Nat) (as : List AV) (mem : Mem) (Q : Option AV → Mem → Prop) : Prop := Ct G yJ13_bitCount_95d88 cJ13_bitCount_95d88 2 (some .int) d as mem Q
set_option maxRecDepth 20000 in
set_option maxHeartbeats 4000000 in
theorem B_J13_bitCount_95d88 {G : GT} {d : Nat} {l0 : Int} {mem : Mem} {Q : Option AV → Mem → Prop} (H : Q (some (vI (iand ((((land (((land (l0 - (land (lushr l0 1) 6148914691236517205)) 3689348814741910323) + (land (lushr (l0 - (land (lushr l0 1) 6148914691236517205)) 2) 3689348814741910323)) + (lushr ((land (l0 - (land (lushr l0 1) 6148914691236517205)) 3689348814741910323) + (land (lushr (l0 - (land (lushr l0 1) 6148914691236517205)) 2) 3689348814741910323)) 4)) 1085102592571150095) + (lushr (land (((land (l0 - (land (lushr l0 1) 6148914691236517205)) 3689348814741910323) + (land (lushr (l0 - (land (lushr l0 1) 6148914691236517205)) 2) 3689348814741910323)) + (lushr ((land (l0 - (land (lushr l0 1) 6148914691236517205)) 3689348814741910323) + (land (lushr (l0 - (land (lushr l0 1) 6148914691236517205)) 2) 3689348814741910323)) 4)) 1085102592571150095) 8)) + (lushr ((land (((land (l0 - (land (lushr l0 1) 6148914691236517205)) 3689348814741910323) + (land (lushr (l0 - (land (lushr l0 1) 6148914691236517205)) 2) 3689348814741910323)) + (lushr ((land (l0 - (land (lushr l0 1) 6148914691236517205)) 3689348814741910323) + (land (lushr (l0 - (land (lushr l0 1) 6148914691236517205)) 2) 3689348814741910323)) 4)) 1085102592571150095) + (lushr (land (((land (l0 - (land (lushr l0 1) 6148914691236517205)) 3689348814741910323) + (land (lushr (l0 - (land (lushr l0 1) 6148914691236517205)) 2) 3689348814741910323)) + (lushr ((land (l0 - (land (lushr l0 1) 6148914691236517205)) 3689348814741910323) + (land (lushr (l0 - (land (lushr l0 1) 6148914691236517205)) 2) 3689348814741910323)) 4)) 1085102592571150095) 8)) 16)) + (lushr (((land (((land (l0 - (land (lushr l0 1) 6148914691236517205)) 3689348814741910323) + (land (lushr (l0 - (land (lushr l0 1) 6148914691236517205)) 2) 3689348814741910323)) + (lushr ((land (l0 - (land (lushr l0 1) 6148914691236517205)) 3689348814741910323) + (land (lushr (l0 - (land (lushr l0 1) 6148914691236517205)) 2) 3689348814741910323)) 4)) 1085102592571150095) + (lushr (land (((land (l0 - (land (lushr l0 1) 6148914691236517205)) 3689348814741910323) + (land (lushr (l0 - (land (lushr l0 1) 6148914691236517205)) 2) 3689348814741910323)) + (lushr ((land (l0 - (land (lushr l0 1) 6148914691236517205)) 3689348814741910323) + (land (lushr (l0 - (land (lushr l0 1) 6148914691236517205)) 2) 3689348814741910323)) 4)) 1085102592571150095) 8)) + (lushr ((land (((land (l0 - (land (lushr l0 1) 6148914691236517205)) 3689348814741910323) + (land (lushr (l0 - (land (lushr l0 1) 6148914691236517205)) 2) 3689348814741910323)) + (lushr ((land (l0 - (land (lushr l0 1) 6148914691236517205)) 3689348814741910323) + (land (lushr (l0 - (land (lushr l0 1) 6148914691236517205)) 2) 3689348814741910323)) 4)) 1085102592571150095) + (lushr (land (((land (l0 - (land (lushr l0 1) 6148914691236517205)) 3689348814741910323) + (land (lushr (l0 - (land (lushr l0 1) 6148914691236517205)) 2) 3689348814741910323)) + (lushr ((land (l0 - (land (lushr l0 1) 6148914691236517205)) 3689348814741910323) + (land (lushr (l0 - (land (lushr l0 1) 6148914691236517205)) 2) 3689348814741910323)) 4)) 1085102592571150095) 8)) 16)) 32)) 127))) mem) : C_J13_bitCount_95d88 G d [vL l0] mem Q := by
  refine Ct_of_Ex (by decide +kernel) (by exact Nat.le_of_ble_eq_true rfl) (ls := [(0, vL l0)]) rfl ?_
  show E_J13_bitCount_95d88 G d 0 [(0, vL l0)] [] mem Q
  refine x_lloadn (q := 1) 0 rfl rfl dJ13_bitCount_95d88_0 rfl ?_
  refine x_lloadn (q := 2) 0 rfl rfl dJ13_bitCount_95d88_1 rfl ?_
  refine x_iconst (q := 3) dJ13_bitCount_95d88_2 rfl ?_
  refine x_lushr (q := 4) dJ13_bitCount_95d88_3 rfl ?_
  refine x_ldc2 (q := 7) (z := 6148914691236517205) cn_J13_314 (by decide) dJ13_bitCount_95d88_4 rfl ?_
  refine x_land (q := 8) dJ13_bitCount_95d88_7 rfl ?_
  refine x_lsub (q := 9) dJ13_bitCount_95d88_8 rfl ?_
  refine x_lstoren (q := 10) (ls' := [(0, vL (l0 - (land (lushr l0 1) 6148914691236517205)))]) rfl (by decide) rfl dJ13_bitCount_95d88_9 rfl ?_
  refine x_lloadn (q := 11) 0 rfl rfl dJ13_bitCount_95d88_10 rfl ?_
  refine x_ldc2 (q := 14) (z := 3689348814741910323) cn_J13_316 (by decide) dJ13_bitCount_95d88_11 rfl ?_
  refine x_land (q := 15) dJ13_bitCount_95d88_14 rfl ?_
  refine x_lloadn (q := 16) 0 rfl rfl dJ13_bitCount_95d88_15 rfl ?_
  refine x_iconst (q := 17) dJ13_bitCount_95d88_16 rfl ?_
  refine x_lushr (q := 18) dJ13_bitCount_95d88_17 rfl ?_
  refine x_ldc2 (q := 21) (z := 3689348814741910323) cn_J13_316 (by decide) dJ13_bitCount_95d88_18 rfl ?_
  refine x_land (q := 22) dJ13_bitCount_95d88_21 rfl ?_
  refine x_ladd (q := 23) dJ13_bitCount_95d88_22 rfl ?_
  refine x_lstoren (q := 24) (ls' := [(0, vL ((land (l0 - (land (lushr l0 1) 6148914691236517205)) 3689348814741910323) + (land (lushr (l0 - (land (lushr l0 1) 6148914691236517205)) 2) 3689348814741910323)))]) rfl (by decide) rfl dJ13_bitCount_95d88_23 rfl ?_
  refine x_lloadn (q := 25) 0 rfl rfl dJ13_bitCount_95d88_24 rfl ?_
  refine x_lloadn (q := 26) 0 rfl rfl dJ13_bitCount_95d88_25 rfl ?_
  refine x_iconst (q := 27) dJ13_bitCount_95d88_26 rfl ?_
  refine x_lushr (q := 28) dJ13_bitCount_95d88_27 rfl ?_
  refine x_ladd (q := 29) dJ13_bitCount_95d88_28 rfl ?_
  refine x_ldc2 (q := 32) (z := 1085102592571150095) cn_J13_318 (by decide) dJ13_bitCount_95d88_29 rfl ?_
  refine x_land (q := 33) dJ13_bitCount_95d88_32 rfl ?_
  refine x_lstoren (q := 34) (ls' := [(0, vL (land (((land (l0 - (land (lushr l0 1) 6148914691236517205)) 3689348814741910323) + (land (lushr (l0 - (land (lushr l0 1) 6148914691236517205)) 2) 3689348814741910323)) + (lushr ((land (l0 - (land (lushr l0 1) 6148914691236517205)) 3689348814741910323) + (land (lushr (l0 - (land (lushr l0 1) 6148914691236517205)) 2) 3689348814741910323)) 4)) 1085102592571150095))]) rfl (by decide) rfl dJ13_bitCount_95d88_33 rfl ?_
  refine x_lloadn (q := 35) 0 rfl rfl dJ13_bitCount_95d88_34 rfl ?_
  refine x_lloadn (q := 36) 0 rfl rfl dJ13_bitCount_95d88_35 rfl ?_
  refine x_bipush (q := 38) rfl dJ13_bitCount_95d88_36 rfl ?_
  refine x_lushr (q := 39) dJ13_bitCount_95d88_38 rfl ?_
  refine x_ladd (q := 40) dJ13_bitCount_95d88_39 rfl ?_
  refine x_lstoren (q := 41) (ls' := [(0, vL ((land (((land (l0 - (land (lushr l0 1) 6148914691236517205)) 3689348814741910323) + (land (lushr (l0 - (land (lushr l0 1) 6148914691236517205)) 2) 3689348814741910323)) + (lushr ((land (l0 - (land (lushr l0 1) 6148914691236517205)) 3689348814741910323) + (land (lushr (l0 - (land (lushr l0 1) 6148914691236517205)) 2) 3689348814741910323)) 4)) 1085102592571150095) + (lushr (land (((land (l0 - (land (lushr l0 1) 6148914691236517205)) 3689348814741910323) + (land (lushr (l0 - (land (lushr l0 1) 6148914691236517205)) 2) 3689348814741910323)) + (lushr ((land (l0 - (land (lushr l0 1) 6148914691236517205)) 3689348814741910323) + (land (lushr (l0 - (land (lushr l0 1) 6148914691236517205)) 2) 3689348814741910323)) 4)) 1085102592571150095) 8)))]) rfl (by decide) rfl dJ13_bitCount_95d88_40 rfl ?_
  refine x_lloadn (q := 42) 0 rfl rfl dJ13_bitCount_95d88_41 rfl ?_
  refine x_lloadn (q := 43) 0 rfl rfl dJ13_bitCount_95d88_42 rfl ?_
  refine x_bipush (q := 45) rfl dJ13_bitCount_95d88_43 rfl ?_
  refine x_lushr (q := 46) dJ13_bitCount_95d88_45 rfl ?_
  refine x_ladd (q := 47) dJ13_bitCount_95d88_46 rfl ?_
  refine x_lstoren (q := 48) (ls' := [(0, vL (((land (((land (l0 - (land (lushr l0 1) 6148914691236517205)) 3689348814741910323) + (land (lushr (l0 - (land (lushr l0 1) 6148914691236517205)) 2) 3689348814741910323)) + (lushr ((land (l0 - (land (lushr l0 1) 6148914691236517205)) 3689348814741910323) + (land (lushr (l0 - (land (lushr l0 1) 6148914691236517205)) 2) 3689348814741910323)) 4)) 1085102592571150095) + (lushr (land (((land (l0 - (land (lushr l0 1) 6148914691236517205)) 3689348814741910323) + (land (lushr (l0 - (land (lushr l0 1) 6148914691236517205)) 2) 3689348814741910323)) + (lushr ((land (l0 - (land (lushr l0 1) 6148914691236517205)) 3689348814741910323) + (land (lushr (l0 - (land (lushr l0 1) 6148914691236517205)) 2) 3689348814741910323)) 4)) 1085102592571150095) 8)) + (lushr ((land (((land (l0 - (land (lushr l0 1) 6148914691236517205)) 3689348814741910323) + (land (lushr (l0 - (land (lushr l0 1) 6148914691236517205)) 2) 3689348814741910323)) + (lushr ((land (l0 - (land (lushr l0 1) 6148914691236517205)) 3689348814741910323) + (land (lushr (l0 - (land (lushr l0 1) 6148914691236517205)) 2) 3689348814741910323)) 4)) 1085102592571150095) + (lushr (land (((land (l0 - (land (lushr l0 1) 6148914691236517205)) 3689348814741910323) + (land (lushr (l0 - (land (lushr l0 1) 6148914691236517205)) 2) 3689348814741910323)) + (lushr ((land (l0 - (land (lushr l0 1) 6148914691236517205)) 3689348814741910323) + (land (lushr (l0 - (land (lushr l0 1) 6148914691236517205)) 2) 3689348814741910323)) 4)) 1085102592571150095) 8)) 16)))]) rfl (by decide) rfl dJ13_bitCount_95d88_47 rfl ?_
  refine x_lloadn (q := 49) 0 rfl rfl dJ13_bitCount_95d88_48 rfl ?_
  refine x_lloadn (q := 50) 0 rfl rfl dJ13_bitCount_95d88_49 rfl ?_
  refine x_bipush (q := 52) rfl dJ13_bitCount_95d88_50 rfl ?_
  refine x_lushr (q := 53) dJ13_bitCount_95d88_52 rfl ?_
  refine x_ladd (q := 54) dJ13_bitCount_95d88_53 rfl ?_
  refine x_lstoren (q := 55) (ls' := [(0, vL ((((land (((land (l0 - (land (lushr l0 1) 6148914691236517205)) 3689348814741910323) + (land (lushr (l0 - (land (lushr l0 1) 6148914691236517205)) 2) 3689348814741910323)) + (lushr ((land (l0 - (land (lushr l0 1) 6148914691236517205)) 3689348814741910323) + (land (lushr (l0 - (land (lushr l0 1) 6148914691236517205)) 2) 3689348814741910323)) 4)) 1085102592571150095) + (lushr (land (((land (l0 - (land (lushr l0 1) 6148914691236517205)) 3689348814741910323) + (land (lushr (l0 - (land (lushr l0 1) 6148914691236517205)) 2) 3689348814741910323)) + (lushr ((land (l0 - (land (lushr l0 1) 6148914691236517205)) 3689348814741910323) + (land (lushr (l0 - (land (lushr l0 1) 6148914691236517205)) 2) 3689348814741910323)) 4)) 1085102592571150095) 8)) + (lushr ((land (((land (l0 - (land (lushr l0 1) 6148914691236517205)) 3689348814741910323) + (land (lushr (l0 - (land (lushr l0 1) 6148914691236517205)) 2) 3689348814741910323)) + (lushr ((land (l0 - (land (lushr l0 1) 6148914691236517205)) 3689348814741910323) + (land (lushr (l0 - (land (lushr l0 1) 6148914691236517205)) 2) 3689348814741910323)) 4)) 1085102592571150095) + (lushr (land (((land (l0 - (land (lushr l0 1) 6148914691236517205)) 3689348814741910323) + (land (lushr (l0 - (land (lushr l0 1) 6148914691236517205)) 2) 3689348814741910323)) + (lushr ((land (l0 - (land (lushr l0 1) 6148914691236517205)) 3689348814741910323) + (land (lushr (l0 - (land (lushr l0 1) 6148914691236517205)) 2) 3689348814741910323)) 4)) 1085102592571150095) 8)) 16)) + (lushr (((land (((land (l0 - (land (lushr l0 1) 6148914691236517205)) 3689348814741910323) + (land (lushr (l0 - (land (lushr l0 1) 6148914691236517205)) 2) 3689348814741910323)) + (lushr ((land (l0 - (land (lushr l0 1) 6148914691236517205)) 3689348814741910323) + (land (lushr (l0 - (land (lushr l0 1) 6148914691236517205)) 2) 3689348814741910323)) 4)) 1085102592571150095) + (lushr (land (((land (l0 - (land (lushr l0 1) 6148914691236517205)) 3689348814741910323) + (land (lushr (l0 - (land (lushr l0 1) 6148914691236517205)) 2) 3689348814741910323)) + (lushr ((land (l0 - (land (lushr l0 1) 6148914691236517205)) 3689348814741910323) + (land (lushr (l0 - (land (lushr l0 1) 6148914691236517205)) 2) 3689348814741910323)) 4)) 1085102592571150095) 8)) + (lushr ((land (((land (l0 - (land (lushr l0 1) 6148914691236517205)) 3689348814741910323) + (land (lushr (l0 - (land (lushr l0 1) 6148914691236517205)) 2) 3689348814741910323)) + (lushr ((land (l0 - (land (lushr l0 1) 6148914691236517205)) 3689348814741910323) + (land (lushr (l0 - (land (lushr l0 1) 6148914691236517205)) 2) 3689348814741910323)) 4)) 1085102592571150095) + (lushr (land (((land (l0 - (land (lushr l0 1) 6148914691236517205)) 3689348814741910323) + (land (lushr (l0 - (land (lushr l0 1) 6148914691236517205)) 2) 3689348814741910323)) + (lushr ((land (l0 - (land (lushr l0 1) 6148914691236517205)) 3689348814741910323) + (land (lushr (l0 - (land (lushr l0 1) 6148914691236517205)) 2) 3689348814741910323)) 4)) 1085102592571150095) 8)) 16)) 32)))]) rfl (by decide) rfl dJ13_bitCount_95d88_54 rfl ?_
  refine x_lloadn (q := 56) 0 rfl rfl dJ13_bitCount_95d88_55 rfl ?_
  refine x_l2i (q := 57) dJ13_bitCount_95d88_56 rfl ?_
  refine x_bipush (q := 59) rfl dJ13_bitCount_95d88_57 rfl ?_
  refine x_iand (q := 60) dJ13_bitCount_95d88_59 rfl ?_
  exact x_iret rfl dJ13_bitCount_95d88_60 H
abbrev E_X10_outside (G : GT) (d pc : Nat) (ls : List (Nat × AV)) (st : List AV) (mem : Mem) (Q : Option AV → Mem → Prop) : Prop := Ex G RX10 cX10_outside 3 (some .boolean) d pc ls st mem Q
abbrev C_X10_outside (G : GT) (d : Nat) (as : List AV) (mem : Mem) (Q : Option AV → Mem → Prop) : Prop := Ct G yX10_outside cX10_outside 3 (some .boolean) d as mem Q
set_option maxRecDepth 20000 in
set_option maxHeartbeats 4000000 in
theorem B_X10_outside {G : GT} {d : Nat} {l0 : Int} {l1 : Int} {l2 : Int} {mem : Mem} {Q : Option AV → Mem → Prop} (H : (inr l0 ∧ inr l1) ∧ (((l0 < l1) → (Q (some (vI 1)) mem)) ∧ (¬ (l0 < l1) → ((inr l2) ∧ (((l0 ≤ l2) → (Q (some (vI 0)) mem)) ∧ (¬ (l0 ≤ l2) → (Q (some (vI 1)) mem))))))) : C_X10_outside G d [vI l0, vI l1, vI l2] mem Q := by
  refine Ct_of_Ex (by decide +kernel) (by exact Nat.le_of_ble_eq_true rfl) (ls := [(0, vI l0), (1, vI l1), (2, vI l2)]) rfl ?_
  show E_X10_outside G d 0 [(0, vI l0), (1, vI l1), (2, vI l2)] [] mem Q
  refine x_iloadn (q := 1) 0 rfl rfl dX10_outside_0 rfl ?_
  refine x_iloadn (q := 2) 1 rfl rfl dX10_outside_1 rfl ?_
  obtain ⟨⟨s1, s2⟩, H⟩ := H
  obtain ⟨H1, H2⟩ := H
  refine x_icmp_lt (tgt := 10) (q := 5) dX10_outside_2 (by decide) rfl s1 s2 (fun hB => ?_) (fun hB => ?_)
  · have H := H1 (hB)
    refine x_iconst (q := 11) dX10_outside_10 rfl ?_
    refine x_goto (tgt := 15) dX10_outside_11 (by decide) ?_
    exact x_zret rfl dX10_outside_15 (by decide) H
  · have H := H2 (hB)
    refine x_iloadn (q := 6) 0 rfl rfl dX10_outside_5 rfl ?_
    refine x_iloadn (q := 7) 2 rfl rfl dX10_outside_6 rfl ?_
    obtain ⟨s5, H⟩ := H
    obtain ⟨H1, H2⟩ := H
    refine x_icmp_le (tgt := 14) (q := 10) dX10_outside_7 (by decide) rfl s1 s5 (fun hB => ?_) (fun hB => ?_)
    · have H := H1 (hB)
      refine x_iconst (q := 15) dX10_outside_14 rfl ?_
      exact x_zret rfl dX10_outside_15 (by decide) H
    · have H := H2 (hB)
      refine x_iconst (q := 11) dX10_outside_10 rfl ?_
      refine x_goto (tgt := 15) dX10_outside_11 (by decide) ?_
      exact x_zret rfl dX10_outside_15 (by decide) H
abbrev E_X2_has (G : GT) (d pc : Nat) (ls : List (Nat × AV)) (st : List AV) (mem : Mem) (Q : Option AV → Mem → Prop) : Prop := Ex G RX2 cX2_has 2 (some .boolean) d pc ls st mem Q
abbrev C_X2_has (G : GT) (d : Nat) (as : List AV) (mem : Mem) (Q : Option AV → Mem → Prop) : Prop := Ct G yX2_has cX2_has 2 (some .boolean) d as mem Q
set_option maxRecDepth 20000 in
set_option maxHeartbeats 4000000 in
theorem B_X2_has {G : GT} {d : Nat} {h : Nat} (hh : isH h) {l1 : Int} {mem : Mem} {Q : Option AV → Mem → Prop} (H : (inr l1) ∧ (((l1 < 0) → (Q (some (vI 0)) mem)) ∧ (¬ (l1 < 0) → (((mem h 0 ≤ l1) → (Q (some (vI 0)) mem)) ∧ (¬ (mem h 0 ≤ l1) → (Q (some (vI 1)) mem)))))) : C_X2_has G d [vR h, vI l1] mem Q := by
  refine Ct_of_Ex (by decide +kernel) (by exact Nat.le_of_ble_eq_true rfl) (ls := [(0, vR h), (1, vI l1)]) rfl ?_
  show E_X2_has G d 0 [(0, vR h), (1, vI l1)] [] mem Q
  refine x_iloadn (q := 1) 1 rfl rfl dX2_has_0 rfl ?_
  obtain ⟨s1, H⟩ := H
  obtain ⟨H1, H2⟩ := H
  refine x_if_lt (tgt := 16) (q := 4) dX2_has_1 (by decide) rfl s1 (fun hB => ?_) (fun hB => ?_)
  · have H := H1 (hB)
    refine x_iconst (q := 17) dX2_has_16 rfl ?_
    exact x_zret rfl dX2_has_17 (by decide) H
  · have H := H2 (hB)
    refine x_iloadn (q := 5) 1 rfl rfl dX2_has_4 rfl ?_
    refine x_aloadn (q := 6) 0 rfl rfl rfl dX2_has_5 rfl ?_
    refine x_geti (q := 9) (ji := 0) dX2_has_6 rfl fa_X2_48 (sh_H0 hh) rfl rfl (fun r4 => ?_)
    obtain ⟨H1, H2⟩ := H
    refine x_icmp_ge (tgt := 16) (q := 12) dX2_has_9 (by decide) rfl s1 r4 (fun hB => ?_) (fun hB => ?_)
    · have H := H1 (hB)
      refine x_iconst (q := 17) dX2_has_16 rfl ?_
      exact x_zret rfl dX2_has_17 (by decide) H
    · have H := H2 (hB)
      refine x_iconst (q := 13) dX2_has_12 rfl ?_
      refine x_goto (tgt := 17) dX2_has_13 (by decide) ?_
      exact x_zret rfl dX2_has_17 (by decide) H
abbrev E_X2_everyone (G : GT) (d pc : Nat) (ls : List (Nat × AV)) (st : List AV) (mem : Mem) (Q : Option AV → Mem → Prop) : Prop := Ex G RX2 cX2_everyone 1 (some .int) d pc ls st mem Q
abbrev C_X2_everyone (G : GT) (d : Nat) (as : List AV) (mem : Mem) (Q : Option AV → Mem → Prop) : Prop := Ct G yX2_everyone cX2_everyone 1 (some .int) d as mem Q
set_option maxRecDepth 20000 in
set_option maxHeartbeats 4000000 in
theorem B_X2_everyone {G : GT} {d : Nat} {h : Nat} (hh : isH h) {mem : Mem} {Q : Option AV → Mem → Prop} (H : Q (some (vI ((ishl 1 (mem h 0)) - 1))) mem) : C_X2_everyone G d [vR h] mem Q := by
  refine Ct_of_Ex (by decide +kernel) (by exact Nat.le_of_ble_eq_true rfl) (ls := [(0, vR h)]) rfl ?_
  show E_X2_everyone G d 0 [(0, vR h)] [] mem Q
  refine x_iconst (q := 1) dX2_everyone_0 rfl ?_
  refine x_aloadn (q := 2) 0 rfl rfl rfl dX2_everyone_1 rfl ?_
  refine x_geti (q := 5) (ji := 0) dX2_everyone_2 rfl fa_X2_48 (sh_H0 hh) rfl rfl (fun r1 => ?_)
  refine x_ishl (q := 6) dX2_everyone_5 rfl ?_
  refine x_iconst (q := 7) dX2_everyone_6 rfl ?_
  refine x_isub (q := 8) dX2_everyone_7 rfl ?_
  exact x_iret rfl dX2_everyone_8 H
abbrev E_X2_hasRoomForMachine (G : GT) (d pc : Nat) (ls : List (Nat × AV)) (st : List AV) (mem : Mem) (Q : Option AV → Mem → Prop) : Prop := Ex G RX2 cX2_hasRoomForMachine 1 (some .boolean) d pc ls st mem Q
abbrev C_X2_hasRoomForMachine (G : GT) (d : Nat) (as : List AV) (mem : Mem) (Q : Option AV → Mem → Prop) : Prop := Ct G yX2_hasRoomForMachine cX2_hasRoomForMachine 1 (some .boolean) d as mem Q
set_option maxRecDepth 20000 in
set_option maxHeartbeats 4000000 in
theorem B_X2_hasRoomForMachine {G : GT} {d : Nat} {h : Nat} (hh : isH h) {mem : Mem} {Q : Option AV → Mem → Prop} (H : ((12 ≤ mem h 0) → (Q (some (vI 0)) mem)) ∧ (¬ (12 ≤ mem h 0) → (Q (some (vI 1)) mem))) : C_X2_hasRoomForMachine G d [vR h] mem Q := by
  refine Ct_of_Ex (by decide +kernel) (by exact Nat.le_of_ble_eq_true rfl) (ls := [(0, vR h)]) rfl ?_
  show E_X2_hasRoomForMachine G d 0 [(0, vR h)] [] mem Q
  refine x_aloadn (q := 1) 0 rfl rfl rfl dX2_hasRoomForMachine_0 rfl ?_
  refine x_geti (q := 4) (ji := 0) dX2_hasRoomForMachine_1 rfl fa_X2_48 (sh_H0 hh) rfl rfl (fun r1 => ?_)
  refine x_bipush (q := 6) rfl dX2_hasRoomForMachine_4 rfl ?_
  obtain ⟨H1, H2⟩ := H
  refine x_icmp_ge (tgt := 13) (q := 9) dX2_hasRoomForMachine_6 (by decide) rfl r1 (by decide) (fun hB => ?_) (fun hB => ?_)
  · have H := H1 (hB)
    refine x_iconst (q := 14) dX2_hasRoomForMachine_13 rfl ?_
    exact x_zret rfl dX2_hasRoomForMachine_14 (by decide) H
  · have H := H2 (hB)
    refine x_iconst (q := 10) dX2_hasRoomForMachine_9 rfl ?_
    refine x_goto (tgt := 14) dX2_hasRoomForMachine_10 (by decide) ?_
    exact x_zret rfl dX2_hasRoomForMachine_14 (by decide) H
abbrev E_X2_tied (G : GT) (d pc : Nat) (ls : List (Nat × AV)) (st : List AV) (mem : Mem) (Q : Option AV → Mem → Prop) : Prop := Ex G RX2 cX2_tied 3 (some .boolean) d pc ls st mem Q
abbrev C_X2_tied (G : GT) (d : Nat) (as : List AV) (mem : Mem) (Q : Option AV → Mem → Prop) : Prop := Ct G yX2_tied cX2_tied 3 (some .boolean) d as mem Q
set_option maxRecDepth 20000 in
set_option maxHeartbeats 4000000 in
theorem B_X2_tied {G : GT} {d : Nat} {h : Nat} (hh : isH h) {l1 : Int} {l2 : Int} {mem : Mem} {Q : Option AV → Mem → Prop} (H : (0 ≤ l1 ∧ l1 < 12) ∧ (((iand (ishr (mem (h + 4) l1) l2) 1 = 0) → (Q (some (vI 0)) mem)) ∧ (¬ (iand (ishr (mem (h + 4) l1) l2) 1 = 0) → (Q (some (vI 1)) mem)))) : C_X2_tied G d [vR h, vI l1, vI l2] mem Q := by
  refine Ct_of_Ex (by decide +kernel) (by exact Nat.le_of_ble_eq_true rfl) (ls := [(0, vR h), (1, vI l1), (2, vI l2)]) rfl ?_
  show E_X2_tied G d 0 [(0, vR h), (1, vI l1), (2, vI l2)] [] mem Q
  refine x_aloadn (q := 1) 0 rfl rfl rfl dX2_tied_0 rfl ?_
  refine x_getr (q := 4) dX2_tied_1 rfl fa_X2_21 (sh_H0 hh) rfl ?_
  refine x_iloadn (q := 5) 1 rfl rfl dX2_tied_4 rfl ?_
  obtain ⟨⟨s1, s2⟩, H⟩ := H
  refine x_iald (q := 6) dX2_tied_5 rfl (sh_H4 hh) s1 s2 (fun r3 => ?_)
  refine x_iloadn (q := 7) 2 rfl rfl dX2_tied_6 rfl ?_
  refine x_ishr (q := 8) dX2_tied_7 rfl ?_
  refine x_iconst (q := 9) dX2_tied_8 rfl ?_
  refine x_iand (q := 10) dX2_tied_9 rfl ?_
  obtain ⟨H1, H2⟩ := H
  refine x_if_eq (tgt := 17) (q := 13) dX2_tied_10 (by decide) rfl (iand_inr _ _) (fun hB => ?_) (fun hB => ?_)
  · have H := H1 (hB)
    refine x_iconst (q := 18) dX2_tied_17 rfl ?_
    exact x_zret rfl dX2_tied_18 (by decide) H
  · have H := H2 (hB)
    refine x_iconst (q := 14) dX2_tied_13 rfl ?_
    refine x_goto (tgt := 18) dX2_tied_14 (by decide) ?_
    exact x_zret rfl dX2_tied_18 (by decide) H
abbrev E_X2_costOf (G : GT) (d pc : Nat) (ls : List (Nat × AV)) (st : List AV) (mem : Mem) (Q : Option AV → Mem → Prop) : Prop := Ex G RX2 cX2_costOf 3 (some .int) d pc ls st mem Q
abbrev C_X2_costOf (G : GT) (d : Nat) (as : List AV) (mem : Mem) (Q : Option AV → Mem → Prop) : Prop := Ct G yX2_costOf cX2_costOf 3 (some .int) d as mem Q
set_option maxRecDepth 20000 in
set_option maxHeartbeats 4000000 in
theorem B_X2_costOf {G : GT} {d : Nat} {h : Nat} (hh : isH h) {l1 : Int} {l2 : Int} {mem : Mem} {Q : Option AV → Mem → Prop} (H : (0 ≤ (l1 * 12) + l2 ∧ (l1 * 12) + l2 < 144) ∧ (Q (some (vI (mem (h + 5) ((l1 * 12) + l2)))) mem)) : C_X2_costOf G d [vR h, vI l1, vI l2] mem Q := by
  refine Ct_of_Ex (by decide +kernel) (by exact Nat.le_of_ble_eq_true rfl) (ls := [(0, vR h), (1, vI l1), (2, vI l2)]) rfl ?_
  show E_X2_costOf G d 0 [(0, vR h), (1, vI l1), (2, vI l2)] [] mem Q
  refine x_aloadn (q := 1) 0 rfl rfl rfl dX2_costOf_0 rfl ?_
  refine x_getr (q := 4) dX2_costOf_1 rfl fa_X2_24 (sh_H0 hh) rfl ?_
  refine x_iloadn (q := 5) 1 rfl rfl dX2_costOf_4 rfl ?_
  refine x_bipush (q := 7) rfl dX2_costOf_5 rfl ?_
  refine x_imul (q := 8) dX2_costOf_7 rfl ?_
  refine x_iloadn (q := 9) 2 rfl rfl dX2_costOf_8 rfl ?_
  refine x_iadd (q := 10) dX2_costOf_9 rfl ?_
  obtain ⟨⟨s1, s2⟩, H⟩ := H
  refine x_iald (q := 11) dX2_costOf_10 rfl (sh_H5 hh) s1 s2 (fun r3 => ?_)
  exact x_iret rfl dX2_costOf_11 H
abbrev E_X2_hasRoomForSaying (G : GT) (d pc : Nat) (ls : List (Nat × AV)) (st : List AV) (mem : Mem) (Q : Option AV → Mem → Prop) : Prop := Ex G RX2 cX2_hasRoomForSaying 1 (some .boolean) d pc ls st mem Q
abbrev C_X2_hasRoomForSaying (G : GT) (d : Nat) (as : List AV) (mem : Mem) (Q : Option AV → Mem → Prop) : Prop := Ct G yX2_hasRoomForSaying cX2_hasRoomForSaying 1 (some .boolean) d as mem Q
set_option maxRecDepth 20000 in
set_option maxHeartbeats 4000000 in
theorem B_X2_hasRoomForSaying {G : GT} {d : Nat} {h : Nat} (hh : isH h) {mem : Mem} {Q : Option AV → Mem → Prop} (H : ((60 ≤ mem h 6) → (Q (some (vI 0)) mem)) ∧ (¬ (60 ≤ mem h 6) → (Q (some (vI 1)) mem))) : C_X2_hasRoomForSaying G d [vR h] mem Q := by
  refine Ct_of_Ex (by decide +kernel) (by exact Nat.le_of_ble_eq_true rfl) (ls := [(0, vR h)]) rfl ?_
  show E_X2_hasRoomForSaying G d 0 [(0, vR h)] [] mem Q
  refine x_aloadn (q := 1) 0 rfl rfl rfl dX2_hasRoomForSaying_0 rfl ?_
  refine x_geti (q := 4) (ji := 6) dX2_hasRoomForSaying_1 rfl fa_X2_57 (sh_H0 hh) rfl rfl (fun r1 => ?_)
  refine x_bipush (q := 6) rfl dX2_hasRoomForSaying_4 rfl ?_
  obtain ⟨H1, H2⟩ := H
  refine x_icmp_ge (tgt := 13) (q := 9) dX2_hasRoomForSaying_6 (by decide) rfl r1 (by decide) (fun hB => ?_) (fun hB => ?_)
  · have H := H1 (hB)
    refine x_iconst (q := 14) dX2_hasRoomForSaying_13 rfl ?_
    exact x_zret rfl dX2_hasRoomForSaying_14 (by decide) H
  · have H := H2 (hB)
    refine x_iconst (q := 10) dX2_hasRoomForSaying_9 rfl ?_
    refine x_goto (tgt := 14) dX2_hasRoomForSaying_10 (by decide) ?_
    exact x_zret rfl dX2_hasRoomForSaying_14 (by decide) H
abbrev E_X2_hasSaying (G : GT) (d pc : Nat) (ls : List (Nat × AV)) (st : List AV) (mem : Mem) (Q : Option AV → Mem → Prop) : Prop := Ex G RX2 cX2_hasSaying 2 (some .boolean) d pc ls st mem Q
abbrev C_X2_hasSaying (G : GT) (d : Nat) (as : List AV) (mem : Mem) (Q : Option AV → Mem → Prop) : Prop := Ct G yX2_hasSaying cX2_hasSaying 2 (some .boolean) d as mem Q
set_option maxRecDepth 20000 in
set_option maxHeartbeats 4000000 in
theorem B_X2_hasSaying {G : GT} {d : Nat} {h : Nat} (hh : isH h) {l1 : Int} {mem : Mem} {Q : Option AV → Mem → Prop} (H : (inr l1) ∧ (((l1 < 0) → (Q (some (vI 0)) mem)) ∧ (¬ (l1 < 0) → (((mem h 6 ≤ l1) → (Q (some (vI 0)) mem)) ∧ (¬ (mem h 6 ≤ l1) → (Q (some (vI 1)) mem)))))) : C_X2_hasSaying G d [vR h, vI l1] mem Q := by
  refine Ct_of_Ex (by decide +kernel) (by exact Nat.le_of_ble_eq_true rfl) (ls := [(0, vR h), (1, vI l1)]) rfl ?_
  show E_X2_hasSaying G d 0 [(0, vR h), (1, vI l1)] [] mem Q
  refine x_iloadn (q := 1) 1 rfl rfl dX2_hasSaying_0 rfl ?_
  obtain ⟨s1, H⟩ := H
  obtain ⟨H1, H2⟩ := H
  refine x_if_lt (tgt := 16) (q := 4) dX2_hasSaying_1 (by decide) rfl s1 (fun hB => ?_) (fun hB => ?_)
  · have H := H1 (hB)
    refine x_iconst (q := 17) dX2_hasSaying_16 rfl ?_
    exact x_zret rfl dX2_hasSaying_17 (by decide) H
  · have H := H2 (hB)
    refine x_iloadn (q := 5) 1 rfl rfl dX2_hasSaying_4 rfl ?_
    refine x_aloadn (q := 6) 0 rfl rfl rfl dX2_hasSaying_5 rfl ?_
    refine x_geti (q := 9) (ji := 6) dX2_hasSaying_6 rfl fa_X2_57 (sh_H0 hh) rfl rfl (fun r4 => ?_)
    obtain ⟨H1, H2⟩ := H
    refine x_icmp_ge (tgt := 16) (q := 12) dX2_hasSaying_9 (by decide) rfl s1 r4 (fun hB => ?_) (fun hB => ?_)
    · have H := H1 (hB)
      refine x_iconst (q := 17) dX2_hasSaying_16 rfl ?_
      exact x_zret rfl dX2_hasSaying_17 (by decide) H
    · have H := H2 (hB)
      refine x_iconst (q := 13) dX2_hasSaying_12 rfl ?_
      refine x_goto (tgt := 17) dX2_hasSaying_13 (by decide) ?_
      exact x_zret rfl dX2_hasSaying_17 (by decide) H
abbrev E_X2_saidWhole (G : GT) (d pc : Nat) (ls : List (Nat × AV)) (st : List AV) (mem : Mem) (Q : Option AV → Mem → Prop) : Prop := Ex G RX2 cX2_saidWhole 2 (some .boolean) d pc ls st mem Q
abbrev C_X2_saidWhole (G : GT) (d : Nat) (as : List AV) (mem : Mem) (Q : Option AV → Mem → Prop) : Prop := Ct G yX2_saidWhole cX2_saidWhole 2 (some .boolean) d as mem Q
set_option maxRecDepth 20000 in
set_option maxHeartbeats 4000000 in
theorem B_X2_saidWhole {G : GT} {d : Nat} {h : Nat} (hh : isH h) {l1 : Int} {mem : Mem} {Q : Option AV → Mem → Prop} (H : ((lcmp (land (lshr (mem h 9) l1) 1) 0 = 0) → (Q (some (vI 0)) mem)) ∧ (¬ (lcmp (land (lshr (mem h 9) l1) 1) 0 = 0) → (Q (some (vI 1)) mem))) : C_X2_saidWhole G d [vR h, vI l1] mem Q := by
  refine Ct_of_Ex (by decide +kernel) (by exact Nat.le_of_ble_eq_true rfl) (ls := [(0, vR h), (1, vI l1)]) rfl ?_
  show E_X2_saidWhole G d 0 [(0, vR h), (1, vI l1)] [] mem Q
  refine x_aloadn (q := 1) 0 rfl rfl rfl dX2_saidWhole_0 rfl ?_
  refine x_getl (q := 4) (ji := 9) dX2_saidWhole_1 rfl fa_X2_60 (sh_H0 hh) rfl rfl (fun r1 => ?_)
  refine x_iloadn (q := 5) 1 rfl rfl dX2_saidWhole_4 rfl ?_
  refine x_lshr (q := 6) dX2_saidWhole_5 rfl ?_
  refine x_lconst (q := 7) (v := 1) rfl dX2_saidWhole_6 rfl ?_
  refine x_land (q := 8) dX2_saidWhole_7 rfl ?_
  refine x_lconst (q := 9) (v := 0) rfl dX2_saidWhole_8 rfl ?_
  refine x_lcmp (q := 10) (land_inl _ _) (by decide) dX2_saidWhole_9 rfl ?_
  obtain ⟨H1, H2⟩ := H
  refine x_if_eq (tgt := 17) (q := 13) dX2_saidWhole_10 (by decide) rfl (lcmp_inr _ _) (fun hB => ?_) (fun hB => ?_)
  · have H := H1 (hB)
    refine x_iconst (q := 18) dX2_saidWhole_17 rfl ?_
    exact x_zret rfl dX2_saidWhole_18 (by decide) H
  · have H := H2 (hB)
    refine x_iconst (q := 14) dX2_saidWhole_13 rfl ?_
    refine x_goto (tgt := 18) dX2_saidWhole_14 (by decide) ?_
    exact x_zret rfl dX2_saidWhole_18 (by decide) H
abbrev E_X2_isValid (G : GT) (d pc : Nat) (ls : List (Nat × AV)) (st : List AV) (mem : Mem) (Q : Option AV → Mem → Prop) : Prop := Ex G RX2 cX2_isValid 2 (some .boolean) d pc ls st mem Q
abbrev C_X2_isValid (G : GT) (d : Nat) (as : List AV) (mem : Mem) (Q : Option AV → Mem → Prop) : Prop := Ct G yX2_isValid cX2_isValid 2 (some .boolean) d as mem Q
set_option maxRecDepth 20000 in
set_option maxHeartbeats 4000000 in
theorem B_X2_isValid {G : GT} {d : Nat} {h : Nat} (hh : isH h) {l1 : Int} {mem : Mem} {Q : Option AV → Mem → Prop} (H : ((lcmp (land (lshr (mem h 10) l1) 1) 0 = 0) → (Q (some (vI 0)) mem)) ∧ (¬ (lcmp (land (lshr (mem h 10) l1) 1) 0 = 0) → (Q (some (vI 1)) mem))) : C_X2_isValid G d [vR h, vI l1] mem Q := by
  refine Ct_of_Ex (by decide +kernel) (by exact Nat.le_of_ble_eq_true rfl) (ls := [(0, vR h), (1, vI l1)]) rfl ?_
  show E_X2_isValid G d 0 [(0, vR h), (1, vI l1)] [] mem Q
  refine x_aloadn (q := 1) 0 rfl rfl rfl dX2_isValid_0 rfl ?_
  refine x_getl (q := 4) (ji := 10) dX2_isValid_1 rfl fa_X2_64 (sh_H0 hh) rfl rfl (fun r1 => ?_)
  refine x_iloadn (q := 5) 1 rfl rfl dX2_isValid_4 rfl ?_
  refine x_lshr (q := 6) dX2_isValid_5 rfl ?_
  refine x_lconst (q := 7) (v := 1) rfl dX2_isValid_6 rfl ?_
  refine x_land (q := 8) dX2_isValid_7 rfl ?_
  refine x_lconst (q := 9) (v := 0) rfl dX2_isValid_8 rfl ?_
  refine x_lcmp (q := 10) (land_inl _ _) (by decide) dX2_isValid_9 rfl ?_
  obtain ⟨H1, H2⟩ := H
  refine x_if_eq (tgt := 17) (q := 13) dX2_isValid_10 (by decide) rfl (lcmp_inr _ _) (fun hB => ?_) (fun hB => ?_)
  · have H := H1 (hB)
    refine x_iconst (q := 18) dX2_isValid_17 rfl ?_
    exact x_zret rfl dX2_isValid_18 (by decide) H
  · have H := H2 (hB)
    refine x_iconst (q := 14) dX2_isValid_13 rfl ?_
    refine x_goto (tgt := 18) dX2_isValid_14 (by decide) ?_
    exact x_zret rfl dX2_isValid_18 (by decide) H
abbrev E_X3_areLet (G : GT) (d pc : Nat) (ls : List (Nat × AV)) (st : List AV) (mem : Mem) (Q : Option AV → Mem → Prop) : Prop := Ex G RX3 cX3_areLet 6 (some .boolean) d pc ls st mem Q
abbrev C_X3_areLet (G : GT) (d : Nat) (as : List AV) (mem : Mem) (Q : Option AV → Mem → Prop) : Prop := Ct G yX3_areLet cX3_areLet 6 (some .boolean) d as mem Q
set_option maxRecDepth 20000 in
set_option maxHeartbeats 4000000 in
theorem B_X3_areLet {G : GT} {d : Nat} {l0 : Int} {l1 : Int} {l2 : Int} {l3 : Int} {mem : Mem} {Q : Option AV → Mem → Prop} (H : ((iand (ishr l0 ((2 * (iand (ishr l1 l2) 1)) + (iand (ishr l1 l3) 1))) 1 = 0) → (Q (some (vI 0)) mem)) ∧ (¬ (iand (ishr l0 ((2 * (iand (ishr l1 l2) 1)) + (iand (ishr l1 l3) 1))) 1 = 0) → (Q (some (vI 1)) mem))) : C_X3_areLet G d [vI l0, vI l1, vI l2, vI l3] mem Q := by
  refine Ct_of_Ex (by decide +kernel) (by exact Nat.le_of_ble_eq_true rfl) (ls := [(0, vI l0), (1, vI l1), (2, vI l2), (3, vI l3)]) rfl ?_
  show E_X3_areLet G d 0 [(0, vI l0), (1, vI l1), (2, vI l2), (3, vI l3)] [] mem Q
  refine x_iloadn (q := 1) 1 rfl rfl dX3_areLet_0 rfl ?_
  refine x_iloadn (q := 2) 2 rfl rfl dX3_areLet_1 rfl ?_
  refine x_ishr (q := 3) dX3_areLet_2 rfl ?_
  refine x_iconst (q := 4) dX3_areLet_3 rfl ?_
  refine x_iand (q := 5) dX3_areLet_4 rfl ?_
  refine x_istore (q := 7) (ls' := [(4, vI (iand (ishr l1 l2) 1)), (0, vI l0), (1, vI l1), (2, vI l2), (3, vI l3)]) (by decide) rfl dX3_areLet_5 rfl ?_
  refine x_iloadn (q := 8) 2 rfl rfl dX3_areLet_7 rfl ?_
  refine x_iloadn (q := 9) 4 rfl rfl dX3_areLet_8 rfl ?_
  refine x_ishr (q := 10) dX3_areLet_9 rfl ?_
  refine x_iconst (q := 11) dX3_areLet_10 rfl ?_
  refine x_iand (q := 12) dX3_areLet_11 rfl ?_
  refine x_istore (q := 14) (ls' := [(5, vI (iand (ishr l1 l3) 1)), (4, vI (iand (ishr l1 l2) 1)), (0, vI l0), (1, vI l1), (2, vI l2), (3, vI l3)]) (by decide) rfl dX3_areLet_12 rfl ?_
  refine x_iloadn (q := 15) 2 rfl rfl dX3_areLet_14 rfl ?_
  refine x_iconst (q := 16) dX3_areLet_15 rfl ?_
  refine x_iload (q := 18) 1 rfl dX3_areLet_16 rfl ?_
  refine x_imul (q := 19) dX3_areLet_18 rfl ?_
  refine x_iload (q := 21) 0 rfl dX3_areLet_19 rfl ?_
  refine x_iadd (q := 22) dX3_areLet_21 rfl ?_
  refine x_ishr (q := 23) dX3_areLet_22 rfl ?_
  refine x_iconst (q := 24) dX3_areLet_23 rfl ?_
  refine x_iand (q := 25) dX3_areLet_24 rfl ?_
  obtain ⟨H1, H2⟩ := H
  refine x_if_eq (tgt := 32) (q := 28) dX3_areLet_25 (by decide) rfl (iand_inr _ _) (fun hB => ?_) (fun hB => ?_)
  · have H := H1 (hB)
    refine x_iconst (q := 33) dX3_areLet_32 rfl ?_
    exact x_zret rfl dX3_areLet_33 (by decide) H
  · have H := H2 (hB)
    refine x_iconst (q := 29) dX3_areLet_28 rfl ?_
    refine x_goto (tgt := 33) dX3_areLet_29 (by decide) ?_
    exact x_zret rfl dX3_areLet_33 (by decide) H
abbrev E_X6_isWidth (G : GT) (d pc : Nat) (ls : List (Nat × AV)) (st : List AV) (mem : Mem) (Q : Option AV → Mem → Prop) : Prop := Ex G RX6 cX6_isWidth 1 (some .boolean) d pc ls st mem Q
abbrev C_X6_isWidth (G : GT) (d : Nat) (as : List AV) (mem : Mem) (Q : Option AV → Mem → Prop) : Prop := Ct G yX6_isWidth cX6_isWidth 1 (some .boolean) d as mem Q
set_option maxRecDepth 20000 in
set_option maxHeartbeats 4000000 in
theorem B_X6_isWidth {G : GT} {d : Nat} {l0 : Int} {mem : Mem} {Q : Option AV → Mem → Prop} (H : (inr l0) ∧ (((l0 = 0) → (Q (some (vI 1)) mem)) ∧ (¬ (l0 = 0) → (((l0 = 8) → (Q (some (vI 1)) mem)) ∧ (¬ (l0 = 8) → (((l0 = 16) → (Q (some (vI 1)) mem)) ∧ (¬ (l0 = 16) → (((l0 ≠ 32) → (Q (some (vI 0)) mem)) ∧ (¬ (l0 ≠ 32) → (Q (some (vI 1)) mem)))))))))) : C_X6_isWidth G d [vI l0] mem Q := by
  refine Ct_of_Ex (by decide +kernel) (by exact Nat.le_of_ble_eq_true rfl) (ls := [(0, vI l0)]) rfl ?_
  show E_X6_isWidth G d 0 [(0, vI l0)] [] mem Q
  refine x_iloadn (q := 1) 0 rfl rfl dX6_isWidth_0 rfl ?_
  obtain ⟨s1, H⟩ := H
  obtain ⟨H1, H2⟩ := H
  refine x_if_eq (tgt := 22) (q := 4) dX6_isWidth_1 (by decide) rfl s1 (fun hB => ?_) (fun hB => ?_)
  · have H := H1 (hB)
    refine x_iconst (q := 23) dX6_isWidth_22 rfl ?_
    refine x_goto (tgt := 27) dX6_isWidth_23 (by decide) ?_
    exact x_zret rfl dX6_isWidth_27 (by decide) H
  · have H := H2 (hB)
    refine x_iloadn (q := 5) 0 rfl rfl dX6_isWidth_4 rfl ?_
    refine x_bipush (q := 7) rfl dX6_isWidth_5 rfl ?_
    obtain ⟨H1, H2⟩ := H
    refine x_icmp_eq (tgt := 22) (q := 10) dX6_isWidth_7 (by decide) rfl s1 (by decide) (fun hB => ?_) (fun hB => ?_)
    · have H := H1 (hB)
      refine x_iconst (q := 23) dX6_isWidth_22 rfl ?_
      refine x_goto (tgt := 27) dX6_isWidth_23 (by decide) ?_
      exact x_zret rfl dX6_isWidth_27 (by decide) H
    · have H := H2 (hB)
      refine x_iloadn (q := 11) 0 rfl rfl dX6_isWidth_10 rfl ?_
      refine x_bipush (q := 13) rfl dX6_isWidth_11 rfl ?_
      obtain ⟨H1, H2⟩ := H
      refine x_icmp_eq (tgt := 22) (q := 16) dX6_isWidth_13 (by decide) rfl s1 (by decide) (fun hB => ?_) (fun hB => ?_)
      · have H := H1 (hB)
        refine x_iconst (q := 23) dX6_isWidth_22 rfl ?_
        refine x_goto (tgt := 27) dX6_isWidth_23 (by decide) ?_
        exact x_zret rfl dX6_isWidth_27 (by decide) H
      · have H := H2 (hB)
        refine x_iloadn (q := 17) 0 rfl rfl dX6_isWidth_16 rfl ?_
        refine x_bipush (q := 19) rfl dX6_isWidth_17 rfl ?_
        obtain ⟨H1, H2⟩ := H
        refine x_icmp_ne (tgt := 26) (q := 22) dX6_isWidth_19 (by decide) rfl s1 (by decide) (fun hB => ?_) (fun hB => ?_)
        · have H := H1 (hB)
          refine x_iconst (q := 27) dX6_isWidth_26 rfl ?_
          exact x_zret rfl dX6_isWidth_27 (by decide) H
        · have H := H2 (hB)
          refine x_iconst (q := 23) dX6_isWidth_22 rfl ?_
          refine x_goto (tgt := 27) dX6_isWidth_23 (by decide) ?_
          exact x_zret rfl dX6_isWidth_27 (by decide) H
abbrev E_X6_isMissing (G : GT) (d pc : Nat) (ls : List (Nat × AV)) (st : List AV) (mem : Mem) (Q : Option AV → Mem → Prop) : Prop := Ex G RX6 cX6_isMissing 1 (some .boolean) d pc ls st mem Q
abbrev C_X6_isMissing (G : GT) (d : Nat) (as : List AV) (mem : Mem) (Q : Option AV → Mem → Prop) : Prop := Ct G yX6_isMissing cX6_isMissing 1 (some .boolean) d as mem Q
set_option maxRecDepth 20000 in
set_option maxHeartbeats 4000000 in
theorem B_X6_isMissing {G : GT} {d : Nat} {k : Nat} (hk : isSh k) {mem : Mem} {Q : Option AV → Mem → Prop} (H : ((mem k 1 ≠ 0) → (Q (some (vI 0)) mem)) ∧ (¬ (mem k 1 ≠ 0) → (Q (some (vI 1)) mem))) : C_X6_isMissing G d [vR k] mem Q := by
  refine Ct_of_Ex (by decide +kernel) (by exact Nat.le_of_ble_eq_true rfl) (ls := [(0, vR k)]) rfl ?_
  show E_X6_isMissing G d 0 [(0, vR k)] [] mem Q
  refine x_aloadn (q := 1) 0 rfl rfl rfl dX6_isMissing_0 rfl ?_
  refine x_geti (q := 4) (ji := 1) dX6_isMissing_1 rfl fa_X6_15 (sh_S0 hk) rfl rfl (fun r1 => ?_)
  obtain ⟨H1, H2⟩ := H
  refine x_if_ne (tgt := 11) (q := 7) dX6_isMissing_4 (by decide) rfl r1 (fun hB => ?_) (fun hB => ?_)
  · have H := H1 (hB)
    refine x_iconst (q := 12) dX6_isMissing_11 rfl ?_
    exact x_zret rfl dX6_isMissing_12 (by decide) H
  · have H := H2 (hB)
    refine x_iconst (q := 8) dX6_isMissing_7 rfl ?_
    refine x_goto (tgt := 12) dX6_isMissing_8 (by decide) ?_
    exact x_zret rfl dX6_isMissing_12 (by decide) H
abbrev E_X6_hasRun (G : GT) (d pc : Nat) (ls : List (Nat × AV)) (st : List AV) (mem : Mem) (Q : Option AV → Mem → Prop) : Prop := Ex G RX6 cX6_hasRun 3 (some .boolean) d pc ls st mem Q
abbrev C_X6_hasRun (G : GT) (d : Nat) (as : List AV) (mem : Mem) (Q : Option AV → Mem → Prop) : Prop := Ct G yX6_hasRun cX6_hasRun 3 (some .boolean) d as mem Q
set_option maxRecDepth 20000 in
set_option maxHeartbeats 4000000 in
theorem B_X6_hasRun {G : GT} {d : Nat} {k : Nat} (hk : isSh k) {l1 : Int} {l2 : Int} {mem : Mem} {Q : Option AV → Mem → Prop} (H : (inr l1) ∧ (((l1 < 0) → (Q (some (vI 0)) mem)) ∧ (¬ (l1 < 0) → ((inr l2) ∧ (((l2 < 0) → (Q (some (vI 0)) mem)) ∧ (¬ (l2 < 0) → (((mem k 2 < l2) → (Q (some (vI 0)) mem)) ∧ (¬ (mem k 2 < l2) → ((inr ((mem k 2) - l2)) ∧ ((((mem k 2) - l2 < l1) → (Q (some (vI 0)) mem)) ∧ (¬ ((mem k 2) - l2 < l1) → (Q (some (vI 1)) mem)))))))))))) : C_X6_hasRun G d [vR k, vI l1, vI l2] mem Q := by
  refine Ct_of_Ex (by decide +kernel) (by exact Nat.le_of_ble_eq_true rfl) (ls := [(0, vR k), (1, vI l1), (2, vI l2)]) rfl ?_
  show E_X6_hasRun G d 0 [(0, vR k), (1, vI l1), (2, vI l2)] [] mem Q
  refine x_iloadn (q := 1) 1 rfl rfl dX6_hasRun_0 rfl ?_
  obtain ⟨s1, H⟩ := H
  obtain ⟨H1, H2⟩ := H
  refine x_if_lt (tgt := 30) (q := 4) dX6_hasRun_1 (by decide) rfl s1 (fun hB => ?_) (fun hB => ?_)
  · have H := H1 (hB)
    refine x_iconst (q := 31) dX6_hasRun_30 rfl ?_
    exact x_zret rfl dX6_hasRun_31 (by decide) H
  · have H := H2 (hB)
    refine x_iloadn (q := 5) 2 rfl rfl dX6_hasRun_4 rfl ?_
    obtain ⟨s4, H⟩ := H
    obtain ⟨H1, H2⟩ := H
    refine x_if_lt (tgt := 30) (q := 8) dX6_hasRun_5 (by decide) rfl s4 (fun hB => ?_) (fun hB => ?_)
    · have H := H1 (hB)
      refine x_iconst (q := 31) dX6_hasRun_30 rfl ?_
      exact x_zret rfl dX6_hasRun_31 (by decide) H
    · have H := H2 (hB)
      refine x_iloadn (q := 9) 2 rfl rfl dX6_hasRun_8 rfl ?_
      refine x_aloadn (q := 10) 0 rfl rfl rfl dX6_hasRun_9 rfl ?_
      refine x_geti (q := 13) (ji := 2) dX6_hasRun_10 rfl fa_X6_19 (sh_S0 hk) rfl rfl (fun r7 => ?_)
      obtain ⟨H1, H2⟩ := H
      refine x_icmp_gt (tgt := 30) (q := 16) dX6_hasRun_13 (by decide) rfl s4 r7 (fun hB => ?_) (fun hB => ?_)
      · have H := H1 (hB)
        refine x_iconst (q := 31) dX6_hasRun_30 rfl ?_
        exact x_zret rfl dX6_hasRun_31 (by decide) H
      · have H := H2 (hB)
        refine x_iloadn (q := 17) 1 rfl rfl dX6_hasRun_16 rfl ?_
        refine x_aloadn (q := 18) 0 rfl rfl rfl dX6_hasRun_17 rfl ?_
        refine x_geti (q := 21) (ji := 2) dX6_hasRun_18 rfl fa_X6_19 (sh_S0 hk) rfl rfl (fun r10 => ?_)
        refine x_iloadn (q := 22) 2 rfl rfl dX6_hasRun_21 rfl ?_
        refine x_isub (q := 23) dX6_hasRun_22 rfl ?_
        obtain ⟨s11, H⟩ := H
        obtain ⟨H1, H2⟩ := H
        refine x_icmp_gt (tgt := 30) (q := 26) dX6_hasRun_23 (by decide) rfl s1 s11 (fun hB => ?_) (fun hB => ?_)
        · have H := H1 (hB)
          refine x_iconst (q := 31) dX6_hasRun_30 rfl ?_
          exact x_zret rfl dX6_hasRun_31 (by decide) H
        · have H := H2 (hB)
          refine x_iconst (q := 27) dX6_hasRun_26 rfl ?_
          refine x_goto (tgt := 31) dX6_hasRun_27 (by decide) ?_
          exact x_zret rfl dX6_hasRun_31 (by decide) H
abbrev E_X11_within (G : GT) (d pc : Nat) (ls : List (Nat × AV)) (st : List AV) (mem : Mem) (Q : Option AV → Mem → Prop) : Prop := Ex G RX11 cX11_within 3 (some .boolean) d pc ls st mem Q
abbrev C_X11_within (G : GT) (d : Nat) (as : List AV) (mem : Mem) (Q : Option AV → Mem → Prop) : Prop := Ct G yX11_within cX11_within 3 (some .boolean) d as mem Q
set_option maxRecDepth 20000 in
set_option maxHeartbeats 4000000 in
theorem B_X11_within {G : GT} {d : Nat} {l0 : Int} {l1 : Int} {l2 : Int} {mem : Mem} {Q : Option AV → Mem → Prop} (H : (inr l0 ∧ inr l1) ∧ (((l0 < l1) → (Q (some (vI 0)) mem)) ∧ (¬ (l0 < l1) → ((inr l2) ∧ (((l2 < l0) → (Q (some (vI 0)) mem)) ∧ (¬ (l2 < l0) → (Q (some (vI 1)) mem))))))) : C_X11_within G d [vI l0, vI l1, vI l2] mem Q := by
  refine Ct_of_Ex (by decide +kernel) (by exact Nat.le_of_ble_eq_true rfl) (ls := [(0, vI l0), (1, vI l1), (2, vI l2)]) rfl ?_
  show E_X11_within G d 0 [(0, vI l0), (1, vI l1), (2, vI l2)] [] mem Q
  refine x_iloadn (q := 1) 0 rfl rfl dX11_within_0 rfl ?_
  refine x_iloadn (q := 2) 1 rfl rfl dX11_within_1 rfl ?_
  obtain ⟨⟨s1, s2⟩, H⟩ := H
  obtain ⟨H1, H2⟩ := H
  refine x_icmp_lt (tgt := 14) (q := 5) dX11_within_2 (by decide) rfl s1 s2 (fun hB => ?_) (fun hB => ?_)
  · have H := H1 (hB)
    refine x_iconst (q := 15) dX11_within_14 rfl ?_
    exact x_zret rfl dX11_within_15 (by decide) H
  · have H := H2 (hB)
    refine x_iloadn (q := 6) 0 rfl rfl dX11_within_5 rfl ?_
    refine x_iloadn (q := 7) 2 rfl rfl dX11_within_6 rfl ?_
    obtain ⟨s5, H⟩ := H
    obtain ⟨H1, H2⟩ := H
    refine x_icmp_gt (tgt := 14) (q := 10) dX11_within_7 (by decide) rfl s1 s5 (fun hB => ?_) (fun hB => ?_)
    · have H := H1 (hB)
      refine x_iconst (q := 15) dX11_within_14 rfl ?_
      exact x_zret rfl dX11_within_15 (by decide) H
    · have H := H2 (hB)
      refine x_iconst (q := 11) dX11_within_10 rfl ?_
      refine x_goto (tgt := 15) dX11_within_11 (by decide) ?_
      exact x_zret rfl dX11_within_15 (by decide) H
abbrev E_X11_has (G : GT) (d pc : Nat) (ls : List (Nat × AV)) (st : List AV) (mem : Mem) (Q : Option AV → Mem → Prop) : Prop := Ex G RX11 cX11_has 2 (some .boolean) d pc ls st mem Q
abbrev C_X11_has (G : GT) (d : Nat) (as : List AV) (mem : Mem) (Q : Option AV → Mem → Prop) : Prop := Ct G yX11_has cX11_has 2 (some .boolean) d as mem Q
set_option maxRecDepth 20000 in
set_option maxHeartbeats 4000000 in
theorem B_X11_has {G : GT} {d : Nat} {l0 : Int} {l1 : Int} {mem : Mem} {Q : Option AV → Mem → Prop} (H : ((iand (ishr l0 l1) 1 ≠ 1) → (Q (some (vI 0)) mem)) ∧ (¬ (iand (ishr l0 l1) 1 ≠ 1) → (Q (some (vI 1)) mem))) : C_X11_has G d [vI l0, vI l1] mem Q := by
  refine Ct_of_Ex (by decide +kernel) (by exact Nat.le_of_ble_eq_true rfl) (ls := [(0, vI l0), (1, vI l1)]) rfl ?_
  show E_X11_has G d 0 [(0, vI l0), (1, vI l1)] [] mem Q
  refine x_iloadn (q := 1) 0 rfl rfl dX11_has_0 rfl ?_
  refine x_iloadn (q := 2) 1 rfl rfl dX11_has_1 rfl ?_
  refine x_ishr (q := 3) dX11_has_2 rfl ?_
  refine x_iconst (q := 4) dX11_has_3 rfl ?_
  refine x_iand (q := 5) dX11_has_4 rfl ?_
  refine x_iconst (q := 6) dX11_has_5 rfl ?_
  obtain ⟨H1, H2⟩ := H
  refine x_icmp_ne (tgt := 13) (q := 9) dX11_has_6 (by decide) rfl (iand_inr _ _) (by decide) (fun hB => ?_) (fun hB => ?_)
  · have H := H1 (hB)
    refine x_iconst (q := 14) dX11_has_13 rfl ?_
    exact x_zret rfl dX11_has_14 (by decide) H
  · have H := H2 (hB)
    refine x_iconst (q := 10) dX11_has_9 rfl ?_
    refine x_goto (tgt := 14) dX11_has_10 (by decide) ?_
    exact x_zret rfl dX11_has_14 (by decide) H
abbrev E_X11_above (G : GT) (d pc : Nat) (ls : List (Nat × AV)) (st : List AV) (mem : Mem) (Q : Option AV → Mem → Prop) : Prop := Ex G RX11 cX11_above 1 (some .int) d pc ls st mem Q
abbrev C_X11_above (G : GT) (d : Nat) (as : List AV) (mem : Mem) (Q : Option AV → Mem → Prop) : Prop := Ct G yX11_above cX11_above 1 (some .int) d as mem Q
set_option maxRecDepth 20000 in
set_option maxHeartbeats 4000000 in
theorem B_X11_above {G : GT} {d : Nat} {l0 : Int} {mem : Mem} {Q : Option AV → Mem → Prop} (H : (inr l0) ∧ (((l0 ≠ 0) → (((l0 ≠ 4) → (((l0 ≠ 5) → (Q (some (vI 0)) mem)) ∧ (¬ (l0 ≠ 5) → (Q (some (vI 3)) mem)))) ∧ (¬ (l0 ≠ 4) → (Q (some (vI 2)) mem)))) ∧ (¬ (l0 ≠ 0) → (Q (some (vI (-1))) mem)))) : C_X11_above G d [vI l0] mem Q := by
  refine Ct_of_Ex (by decide +kernel) (by exact Nat.le_of_ble_eq_true rfl) (ls := [(0, vI l0)]) rfl ?_
  show E_X11_above G d 0 [(0, vI l0)] [] mem Q
  refine x_iloadn (q := 1) 0 rfl rfl dX11_above_0 rfl ?_
  obtain ⟨s1, H⟩ := H
  obtain ⟨H1, H2⟩ := H
  refine x_if_ne (tgt := 8) (q := 4) dX11_above_1 (by decide) rfl s1 (fun hB => ?_) (fun hB => ?_)
  · have H := H1 (hB)
    refine x_iloadn (q := 9) 0 rfl rfl dX11_above_8 rfl ?_
    refine x_iconst (q := 10) dX11_above_9 rfl ?_
    obtain ⟨H1, H2⟩ := H
    refine x_icmp_ne (tgt := 17) (q := 13) dX11_above_10 (by decide) rfl s1 (by decide) (fun hB => ?_) (fun hB => ?_)
    · have H := H1 (hB)
      refine x_iloadn (q := 18) 0 rfl rfl dX11_above_17 rfl ?_
      refine x_iconst (q := 19) dX11_above_18 rfl ?_
      obtain ⟨H1, H2⟩ := H
      refine x_icmp_ne (tgt := 26) (q := 22) dX11_above_19 (by decide) rfl s1 (by decide) (fun hB => ?_) (fun hB => ?_)
      · have H := H1 (hB)
        refine x_iconst (q := 27) dX11_above_26 rfl ?_
        exact x_iret rfl dX11_above_27 H
      · have H := H2 (hB)
        refine x_iconst (q := 23) dX11_above_22 rfl ?_
        refine x_goto (tgt := 27) dX11_above_23 (by decide) ?_
        exact x_iret rfl dX11_above_27 H
    · have H := H2 (hB)
      refine x_iconst (q := 14) dX11_above_13 rfl ?_
      refine x_goto (tgt := 27) dX11_above_14 (by decide) ?_
      exact x_iret rfl dX11_above_27 H
  · have H := H2 (hB)
    refine x_iconst (q := 5) dX11_above_4 rfl ?_
    refine x_goto (tgt := 27) dX11_above_5 (by decide) ?_
    exact x_iret rfl dX11_above_27 H
abbrev E_X11_machine (G : GT) (d pc : Nat) (ls : List (Nat × AV)) (st : List AV) (mem : Mem) (Q : Option AV → Mem → Prop) : Prop := Ex G RX11 cX11_machine 3 (some .int) d pc ls st mem Q
abbrev C_X11_machine (G : GT) (d : Nat) (as : List AV) (mem : Mem) (Q : Option AV → Mem → Prop) : Prop := Ct G yX11_machine cX11_machine 3 (some .int) d as mem Q
set_option maxRecDepth 20000 in
set_option maxHeartbeats 4000000 in
theorem B_X11_machine {G : GT} {d : Nat} {l1 : Int} {l2 : Int} {mem : Mem} {Q : Option AV → Mem → Prop} (H : (0 ≤ (5 + (3 * l1)) + l2 ∧ (5 + (3 * l1)) + l2 < 553) ∧ (Q (some (vI (mem 72 ((5 + (3 * l1)) + l2)))) mem)) : C_X11_machine G d [vR 71, vI l1, vI l2] mem Q := by
  refine Ct_of_Ex (by decide +kernel) (by exact Nat.le_of_ble_eq_true rfl) (ls := [(0, vR 71), (1, vI l1), (2, vI l2)]) rfl ?_
  show E_X11_machine G d 0 [(0, vR 71), (1, vI l1), (2, vI l2)] [] mem Q
  refine x_aloadn (q := 1) 0 rfl rfl rfl dX11_machine_0 rfl ?_
  refine x_getr (q := 4) dX11_machine_1 rfl fa_X11_9 sh_71 rfl ?_
  refine x_iconst (q := 5) dX11_machine_4 rfl ?_
  refine x_iconst (q := 6) dX11_machine_5 rfl ?_
  refine x_iloadn (q := 7) 1 rfl rfl dX11_machine_6 rfl ?_
  refine x_imul (q := 8) dX11_machine_7 rfl ?_
  refine x_iadd (q := 9) dX11_machine_8 rfl ?_
  refine x_iloadn (q := 10) 2 rfl rfl dX11_machine_9 rfl ?_
  refine x_iadd (q := 11) dX11_machine_10 rfl ?_
  obtain ⟨⟨s1, s2⟩, H⟩ := H
  refine x_iald (q := 12) dX11_machine_11 rfl sh_72 s1 s2 (fun r3 => ?_)
  exact x_iret rfl dX11_machine_12 H
abbrev E_X11_tieOf (G : GT) (d pc : Nat) (ls : List (Nat × AV)) (st : List AV) (mem : Mem) (Q : Option AV → Mem → Prop) : Prop := Ex G RX11 cX11_tieOf 3 (some .int) d pc ls st mem Q
abbrev C_X11_tieOf (G : GT) (d : Nat) (as : List AV) (mem : Mem) (Q : Option AV → Mem → Prop) : Prop := Ct G yX11_tieOf cX11_tieOf 3 (some .int) d as mem Q
set_option maxRecDepth 20000 in
set_option maxHeartbeats 4000000 in
theorem B_X11_tieOf {G : GT} {d : Nat} {l1 : Int} {l2 : Int} {mem : Mem} {Q : Option AV → Mem → Prop} (H : (0 ≤ (41 + (12 * l1)) + l2 ∧ (41 + (12 * l1)) + l2 < 553) ∧ (Q (some (vI (mem 72 ((41 + (12 * l1)) + l2)))) mem)) : C_X11_tieOf G d [vR 71, vI l1, vI l2] mem Q := by
  refine Ct_of_Ex (by decide +kernel) (by exact Nat.le_of_ble_eq_true rfl) (ls := [(0, vR 71), (1, vI l1), (2, vI l2)]) rfl ?_
  show E_X11_tieOf G d 0 [(0, vR 71), (1, vI l1), (2, vI l2)] [] mem Q
  refine x_aloadn (q := 1) 0 rfl rfl rfl dX11_tieOf_0 rfl ?_
  refine x_getr (q := 4) dX11_tieOf_1 rfl fa_X11_9 sh_71 rfl ?_
  refine x_bipush (q := 6) rfl dX11_tieOf_4 rfl ?_
  refine x_bipush (q := 8) rfl dX11_tieOf_6 rfl ?_
  refine x_iloadn (q := 9) 1 rfl rfl dX11_tieOf_8 rfl ?_
  refine x_imul (q := 10) dX11_tieOf_9 rfl ?_
  refine x_iadd (q := 11) dX11_tieOf_10 rfl ?_
  refine x_iloadn (q := 12) 2 rfl rfl dX11_tieOf_11 rfl ?_
  refine x_iadd (q := 13) dX11_tieOf_12 rfl ?_
  obtain ⟨⟨s1, s2⟩, H⟩ := H
  refine x_iald (q := 14) dX11_tieOf_13 rfl sh_72 s1 s2 (fun r3 => ?_)
  exact x_iret rfl dX11_tieOf_14 H
abbrev E_X11_saying (G : GT) (d pc : Nat) (ls : List (Nat × AV)) (st : List AV) (mem : Mem) (Q : Option AV → Mem → Prop) : Prop := Ex G RX11 cX11_saying 3 (some .int) d pc ls st mem Q
abbrev C_X11_saying (G : GT) (d : Nat) (as : List AV) (mem : Mem) (Q : Option AV → Mem → Prop) : Prop := Ct G yX11_saying cX11_saying 3 (some .int) d as mem Q
set_option maxRecDepth 20000 in
set_option maxHeartbeats 4000000 in
theorem B_X11_saying {G : GT} {d : Nat} {l1 : Int} {l2 : Int} {mem : Mem} {Q : Option AV → Mem → Prop} (H : (0 ≤ (185 + (4 * l1)) + l2 ∧ (185 + (4 * l1)) + l2 < 553) ∧ (Q (some (vI (mem 72 ((185 + (4 * l1)) + l2)))) mem)) : C_X11_saying G d [vR 71, vI l1, vI l2] mem Q := by
  refine Ct_of_Ex (by decide +kernel) (by exact Nat.le_of_ble_eq_true rfl) (ls := [(0, vR 71), (1, vI l1), (2, vI l2)]) rfl ?_
  show E_X11_saying G d 0 [(0, vR 71), (1, vI l1), (2, vI l2)] [] mem Q
  refine x_aloadn (q := 1) 0 rfl rfl rfl dX11_saying_0 rfl ?_
  refine x_getr (q := 4) dX11_saying_1 rfl fa_X11_9 sh_71 rfl ?_
  refine x_sipush (q := 7) rfl dX11_saying_4 rfl ?_
  refine x_iconst (q := 8) dX11_saying_7 rfl ?_
  refine x_iloadn (q := 9) 1 rfl rfl dX11_saying_8 rfl ?_
  refine x_imul (q := 10) dX11_saying_9 rfl ?_
  refine x_iadd (q := 11) dX11_saying_10 rfl ?_
  refine x_iloadn (q := 12) 2 rfl rfl dX11_saying_11 rfl ?_
  refine x_iadd (q := 13) dX11_saying_12 rfl ?_
  obtain ⟨⟨s1, s2⟩, H⟩ := H
  refine x_iald (q := 14) dX11_saying_13 rfl sh_72 s1 s2 (fun r3 => ?_)
  exact x_iret rfl dX11_saying_14 H
abbrev E_X11_all (G : GT) (d pc : Nat) (ls : List (Nat × AV)) (st : List AV) (mem : Mem) (Q : Option AV → Mem → Prop) : Prop := Ex G RX11 cX11_all 1 (some .int) d pc ls st mem Q
abbrev C_X11_all (G : GT) (d : Nat) (as : List AV) (mem : Mem) (Q : Option AV → Mem → Prop) : Prop := Ct G yX11_all cX11_all 1 (some .int) d as mem Q
set_option maxRecDepth 20000 in
set_option maxHeartbeats 4000000 in
theorem B_X11_all {G : GT} {d : Nat}  {mem : Mem} {Q : Option AV → Mem → Prop} (H : Q (some (vI ((ishl 1 (mem 72 0)) - 1))) mem) : C_X11_all G d [vR 71] mem Q := by
  refine Ct_of_Ex (by decide +kernel) (by exact Nat.le_of_ble_eq_true rfl) (ls := [(0, vR 71)]) rfl ?_
  show E_X11_all G d 0 [(0, vR 71)] [] mem Q
  refine x_iconst (q := 1) dX11_all_0 rfl ?_
  refine x_aloadn (q := 2) 0 rfl rfl rfl dX11_all_1 rfl ?_
  refine x_getr (q := 5) dX11_all_2 rfl fa_X11_9 sh_71 rfl ?_
  refine x_iconst (q := 6) dX11_all_5 rfl ?_
  refine x_iald (q := 7) dX11_all_6 rfl sh_72 (by decide) (by decide) (fun r1 => ?_)
  refine x_ishl (q := 8) dX11_all_7 rfl ?_
  refine x_iconst (q := 9) dX11_all_8 rfl ?_
  refine x_isub (q := 10) dX11_all_9 rfl ?_
  exact x_iret rfl dX11_all_10 H
abbrev E_X11_hasOwn (G : GT) (d pc : Nat) (ls : List (Nat × AV)) (st : List AV) (mem : Mem) (Q : Option AV → Mem → Prop) : Prop := Ex G RX11 cX11_hasOwn 2 (some .boolean) d pc ls st mem Q
abbrev C_X11_hasOwn (G : GT) (d : Nat) (as : List AV) (mem : Mem) (Q : Option AV → Mem → Prop) : Prop := Ct G yX11_hasOwn cX11_hasOwn 2 (some .boolean) d as mem Q
set_option maxRecDepth 20000 in
set_option maxHeartbeats 4000000 in
theorem B_X11_hasOwn {G : GT} {d : Nat} {l0 : Int} {l1 : Int} {mem : Mem} {Q : Option AV → Mem → Prop} (H : (inr l0) ∧ ((l0 = 0 → (Q (some (vI 1)) mem)) ∧ (l0 = 1 → ((inr l1) ∧ (((l1 = 0) → (Q (some (vI 1)) mem)) ∧ (¬ (l1 = 0) → (((l1 ≠ 2) → (Q (some (vI 0)) mem)) ∧ (¬ (l1 ≠ 2) → (Q (some (vI 1)) mem))))))) ∧ (l0 = 2 → ((inr l1) ∧ (((l1 = 1) → (Q (some (vI 1)) mem)) ∧ (¬ (l1 = 1) → (((l1 ≠ 3) → (Q (some (vI 0)) mem)) ∧ (¬ (l1 ≠ 3) → (Q (some (vI 1)) mem))))))) ∧ (l0 = 3 → ((inr l1) ∧ (((l1 = 0) → (Q (some (vI 1)) mem)) ∧ (¬ (l1 = 0) → (((l1 ≠ 2) → (Q (some (vI 0)) mem)) ∧ (¬ (l1 ≠ 2) → (Q (some (vI 1)) mem))))))) ∧ (l0 = 4 → ((inr l1) ∧ (((l1 = 1) → (Q (some (vI 1)) mem)) ∧ (¬ (l1 = 1) → (((l1 ≠ 2) → (Q (some (vI 0)) mem)) ∧ (¬ (l1 ≠ 2) → (Q (some (vI 1)) mem))))))) ∧ ((l0 < 0 ∨ 4 < l0) → ((inr l1) ∧ (((l1 = 0) → (Q (some (vI 1)) mem)) ∧ (¬ (l1 = 0) → (((l1 ≠ 3) → (Q (some (vI 0)) mem)) ∧ (¬ (l1 ≠ 3) → (Q (some (vI 1)) mem))))))))) : C_X11_hasOwn G d [vI l0, vI l1] mem Q := by
  refine Ct_of_Ex (by decide +kernel) (by exact Nat.le_of_ble_eq_true rfl) (ls := [(0, vI l0), (1, vI l1)]) rfl ?_
  show E_X11_hasOwn G d 0 [(0, vI l0), (1, vI l1)] [] mem Q
  refine x_iloadn (q := 1) 0 rfl rfl dX11_hasOwn_0 rfl ?_
  obtain ⟨s1, H⟩ := H
  obtain ⟨H0, H1, H2, H3, H4, H5⟩ := H
  rcases (show l0 = 0 ∨ l0 = 1 ∨ l0 = 2 ∨ l0 = 3 ∨ l0 = 4 ∨ (l0 < 0 ∨ 4 < l0) by omega) with hB | hB | hB | hB | hB | hB
  · have H := H0 hB
    refine x_tswIn (z := 0) (tgt := 36) dX11_hasOwn_1 hB (by decide) (by decide) (by decide) rfl (by decide) ?_
    refine x_iconst (q := 37) dX11_hasOwn_36 rfl ?_
    exact x_zret rfl dX11_hasOwn_37 (by decide) H
  · have H := H1 hB
    refine x_tswIn (z := 1) (tgt := 38) dX11_hasOwn_1 hB (by decide) (by decide) (by decide) rfl (by decide) ?_
    refine x_iloadn (q := 39) 1 rfl rfl dX11_hasOwn_38 rfl ?_
    obtain ⟨s2, H⟩ := H
    obtain ⟨H1, H2⟩ := H
    refine x_if_eq (tgt := 47) (q := 42) dX11_hasOwn_39 (by decide) rfl s2 (fun hB => ?_) (fun hB => ?_)
    · have H := H1 (hB)
      refine x_iconst (q := 48) dX11_hasOwn_47 rfl ?_
      refine x_goto (tgt := 52) dX11_hasOwn_48 (by decide) ?_
      exact x_zret rfl dX11_hasOwn_52 (by decide) H
    · have H := H2 (hB)
      refine x_iloadn (q := 43) 1 rfl rfl dX11_hasOwn_42 rfl ?_
      refine x_iconst (q := 44) dX11_hasOwn_43 rfl ?_
      obtain ⟨H1, H2⟩ := H
      refine x_icmp_ne (tgt := 51) (q := 47) dX11_hasOwn_44 (by decide) rfl s2 (by decide) (fun hB => ?_) (fun hB => ?_)
      · have H := H1 (hB)
        refine x_iconst (q := 52) dX11_hasOwn_51 rfl ?_
        exact x_zret rfl dX11_hasOwn_52 (by decide) H
      · have H := H2 (hB)
        refine x_iconst (q := 48) dX11_hasOwn_47 rfl ?_
        refine x_goto (tgt := 52) dX11_hasOwn_48 (by decide) ?_
        exact x_zret rfl dX11_hasOwn_52 (by decide) H
  · have H := H2 hB
    refine x_tswIn (z := 2) (tgt := 53) dX11_hasOwn_1 hB (by decide) (by decide) (by decide) rfl (by decide) ?_
    refine x_iloadn (q := 54) 1 rfl rfl dX11_hasOwn_53 rfl ?_
    refine x_iconst (q := 55) dX11_hasOwn_54 rfl ?_
    obtain ⟨s7, H⟩ := H
    obtain ⟨H1, H2⟩ := H
    refine x_icmp_eq (tgt := 63) (q := 58) dX11_hasOwn_55 (by decide) rfl s7 (by decide) (fun hB => ?_) (fun hB => ?_)
    · have H := H1 (hB)
      refine x_iconst (q := 64) dX11_hasOwn_63 rfl ?_
      refine x_goto (tgt := 68) dX11_hasOwn_64 (by decide) ?_
      exact x_zret rfl dX11_hasOwn_68 (by decide) H
    · have H := H2 (hB)
      refine x_iloadn (q := 59) 1 rfl rfl dX11_hasOwn_58 rfl ?_
      refine x_iconst (q := 60) dX11_hasOwn_59 rfl ?_
      obtain ⟨H1, H2⟩ := H
      refine x_icmp_ne (tgt := 67) (q := 63) dX11_hasOwn_60 (by decide) rfl s7 (by decide) (fun hB => ?_) (fun hB => ?_)
      · have H := H1 (hB)
        refine x_iconst (q := 68) dX11_hasOwn_67 rfl ?_
        exact x_zret rfl dX11_hasOwn_68 (by decide) H
      · have H := H2 (hB)
        refine x_iconst (q := 64) dX11_hasOwn_63 rfl ?_
        refine x_goto (tgt := 68) dX11_hasOwn_64 (by decide) ?_
        exact x_zret rfl dX11_hasOwn_68 (by decide) H
  · have H := H3 hB
    refine x_tswIn (z := 3) (tgt := 38) dX11_hasOwn_1 hB (by decide) (by decide) (by decide) rfl (by decide) ?_
    refine x_iloadn (q := 39) 1 rfl rfl dX11_hasOwn_38 rfl ?_
    obtain ⟨s12, H⟩ := H
    obtain ⟨H1, H2⟩ := H
    refine x_if_eq (tgt := 47) (q := 42) dX11_hasOwn_39 (by decide) rfl s12 (fun hB => ?_) (fun hB => ?_)
    · have H := H1 (hB)
      refine x_iconst (q := 48) dX11_hasOwn_47 rfl ?_
      refine x_goto (tgt := 52) dX11_hasOwn_48 (by decide) ?_
      exact x_zret rfl dX11_hasOwn_52 (by decide) H
    · have H := H2 (hB)
      refine x_iloadn (q := 43) 1 rfl rfl dX11_hasOwn_42 rfl ?_
      refine x_iconst (q := 44) dX11_hasOwn_43 rfl ?_
      obtain ⟨H1, H2⟩ := H
      refine x_icmp_ne (tgt := 51) (q := 47) dX11_hasOwn_44 (by decide) rfl s12 (by decide) (fun hB => ?_) (fun hB => ?_)
      · have H := H1 (hB)
        refine x_iconst (q := 52) dX11_hasOwn_51 rfl ?_
        exact x_zret rfl dX11_hasOwn_52 (by decide) H
      · have H := H2 (hB)
        refine x_iconst (q := 48) dX11_hasOwn_47 rfl ?_
        refine x_goto (tgt := 52) dX11_hasOwn_48 (by decide) ?_
        exact x_zret rfl dX11_hasOwn_52 (by decide) H
  · have H := H4 hB
    refine x_tswIn (z := 4) (tgt := 69) dX11_hasOwn_1 hB (by decide) (by decide) (by decide) rfl (by decide) ?_
    refine x_iloadn (q := 70) 1 rfl rfl dX11_hasOwn_69 rfl ?_
    refine x_iconst (q := 71) dX11_hasOwn_70 rfl ?_
    obtain ⟨s17, H⟩ := H
    obtain ⟨H1, H2⟩ := H
    refine x_icmp_eq (tgt := 79) (q := 74) dX11_hasOwn_71 (by decide) rfl s17 (by decide) (fun hB => ?_) (fun hB => ?_)
    · have H := H1 (hB)
      refine x_iconst (q := 80) dX11_hasOwn_79 rfl ?_
      refine x_goto (tgt := 84) dX11_hasOwn_80 (by decide) ?_
      exact x_zret rfl dX11_hasOwn_84 (by decide) H
    · have H := H2 (hB)
      refine x_iloadn (q := 75) 1 rfl rfl dX11_hasOwn_74 rfl ?_
      refine x_iconst (q := 76) dX11_hasOwn_75 rfl ?_
      obtain ⟨H1, H2⟩ := H
      refine x_icmp_ne (tgt := 83) (q := 79) dX11_hasOwn_76 (by decide) rfl s17 (by decide) (fun hB => ?_) (fun hB => ?_)
      · have H := H1 (hB)
        refine x_iconst (q := 84) dX11_hasOwn_83 rfl ?_
        exact x_zret rfl dX11_hasOwn_84 (by decide) H
      · have H := H2 (hB)
        refine x_iconst (q := 80) dX11_hasOwn_79 rfl ?_
        refine x_goto (tgt := 84) dX11_hasOwn_80 (by decide) ?_
        exact x_zret rfl dX11_hasOwn_84 (by decide) H
  · have H := H5 hB
    refine x_tswOut (tgt := 85) dX11_hasOwn_1 s1 hB (by decide) ?_
    refine x_iloadn (q := 86) 1 rfl rfl dX11_hasOwn_85 rfl ?_
    obtain ⟨s22, H⟩ := H
    obtain ⟨H1, H2⟩ := H
    refine x_if_eq (tgt := 94) (q := 89) dX11_hasOwn_86 (by decide) rfl s22 (fun hB => ?_) (fun hB => ?_)
    · have H := H1 (hB)
      refine x_iconst (q := 95) dX11_hasOwn_94 rfl ?_
      refine x_goto (tgt := 99) dX11_hasOwn_95 (by decide) ?_
      exact x_zret rfl dX11_hasOwn_99 (by decide) H
    · have H := H2 (hB)
      refine x_iloadn (q := 90) 1 rfl rfl dX11_hasOwn_89 rfl ?_
      refine x_iconst (q := 91) dX11_hasOwn_90 rfl ?_
      obtain ⟨H1, H2⟩ := H
      refine x_icmp_ne (tgt := 98) (q := 94) dX11_hasOwn_91 (by decide) rfl s22 (by decide) (fun hB => ?_) (fun hB => ?_)
      · have H := H1 (hB)
        refine x_iconst (q := 99) dX11_hasOwn_98 rfl ?_
        exact x_zret rfl dX11_hasOwn_99 (by decide) H
      · have H := H2 (hB)
        refine x_iconst (q := 95) dX11_hasOwn_94 rfl ?_
        refine x_goto (tgt := 99) dX11_hasOwn_95 (by decide) ?_
        exact x_zret rfl dX11_hasOwn_99 (by decide) H
abbrev E_X3_isOrIsUnder (G : GT) (d pc : Nat) (ls : List (Nat × AV)) (st : List AV) (mem : Mem) (Q : Option AV → Mem → Prop) : Prop := Ex G RX3 cX3_isOrIsUnder 4 (some .boolean) d pc ls st mem Q
abbrev C_X3_isOrIsUnder (G : GT) (d : Nat) (as : List AV) (mem : Mem) (Q : Option AV → Mem → Prop) : Prop := Ct G yX3_isOrIsUnder cX3_isOrIsUnder 4 (some .boolean) d as mem Q
set_option maxRecDepth 20000 in
set_option maxHeartbeats 4000000 in
theorem B_X3_isOrIsUnder {G : GT} {d : Nat} {l0 : Int} {l1 : Int} {mem : Mem} {Q : Option AV → Mem → Prop} (H : E_X3_isOrIsUnder G d 4 [(1, vI l1), (2, vI l0), (3, vI 0)] [] mem Q) : C_X3_isOrIsUnder G d [vI l0, vI l1] mem Q := by
  refine Ct_of_Ex (by decide +kernel) (by exact Nat.le_of_ble_eq_true rfl) (ls := [(0, vI l0), (1, vI l1)]) rfl ?_
  show E_X3_isOrIsUnder G d 0 [(0, vI l0), (1, vI l1)] [] mem Q
  refine x_iloadn (q := 1) 0 rfl rfl dX3_isOrIsUnder_0 rfl ?_
  refine x_istoren (q := 2) (ls' := [(2, vI l0), (0, vI l0), (1, vI l1)]) rfl (by decide) rfl dX3_isOrIsUnder_1 rfl ?_
  refine x_iconst (q := 3) dX3_isOrIsUnder_2 rfl ?_
  refine x_istoren (q := 4) (ls' := [(3, vI 0), (2, vI l0), (0, vI l0), (1, vI l1)]) rfl (by decide) rfl dX3_isOrIsUnder_3 rfl ?_
  refine x_sub [3, 1, 0] rfl ?_
  exact H
set_option maxRecDepth 20000 in
set_option maxHeartbeats 4000000 in
theorem B_X3_isOrIsUnder_4 {G : GT} {d : Nat} {l1 : Int} {l2 : Int} {l3 : Int} {mem : Mem} {Q : Option AV → Mem → Prop} (H : (inr l3) ∧ (((6 ≤ l3) → (Q (some (vI 0)) mem)) ∧ (¬ (6 ≤ l3) → ((inr l2) ∧ (((l2 < 0) → (Q (some (vI 0)) mem)) ∧ (¬ (l2 < 0) → ((inr l1) ∧ (((l2 ≠ l1) → ((0 ≤ l2 ∧ l2 < 6) ∧ (E_X3_isOrIsUnder G d 4 [(1, vI l1), (2, vI ((tbl 0).getD (Int.toNat l2) 0)), (3, vI (l3 + 1))] [] mem Q))) ∧ (¬ (l2 ≠ l1) → (Q (some (vI 1)) mem)))))))))) : E_X3_isOrIsUnder G d 4 [(1, vI l1), (2, vI l2), (3, vI l3)] [] mem Q := by
  refine x_iloadn (q := 5) 2 rfl rfl dX3_isOrIsUnder_4 rfl ?_
  refine x_getT (q := 8) 0 (by decide) dX3_isOrIsUnder_5 rfl gs_X3_9 ?_
  refine x_tlen (q := 9) (v := 6) (by decide) dX3_isOrIsUnder_8 rfl rfl ?_
  obtain ⟨s1, H⟩ := H
  obtain ⟨H1, H2⟩ := H
  refine x_icmp_ge (tgt := 35) (q := 12) dX3_isOrIsUnder_9 (by decide) rfl s1 (by decide) (fun hB => ?_) (fun hB => ?_)
  · have H := H1 (hB)
    refine x_iconst (q := 36) dX3_isOrIsUnder_35 rfl ?_
    exact x_zret rfl dX3_isOrIsUnder_36 (by decide) H
  · have H := H2 (hB)
    refine x_iloadn (q := 13) 1 rfl rfl dX3_isOrIsUnder_12 rfl ?_
    obtain ⟨s4, H⟩ := H
    obtain ⟨H1, H2⟩ := H
    refine x_if_lt (tgt := 35) (q := 16) dX3_isOrIsUnder_13 (by decide) rfl s4 (fun hB => ?_) (fun hB => ?_)
    · have H := H1 (hB)
      refine x_iconst (q := 36) dX3_isOrIsUnder_35 rfl ?_
      exact x_zret rfl dX3_isOrIsUnder_36 (by decide) H
    · have H := H2 (hB)
      refine x_iloadn (q := 17) 1 rfl rfl dX3_isOrIsUnder_16 rfl ?_
      refine x_iloadn (q := 18) 0 rfl rfl dX3_isOrIsUnder_17 rfl ?_
      obtain ⟨s7, H⟩ := H
      obtain ⟨H1, H2⟩ := H
      refine x_icmp_ne (tgt := 23) (q := 21) dX3_isOrIsUnder_18 (by decide) rfl s4 s7 (fun hB => ?_) (fun hB => ?_)
      · have H := H1 (hB)
        refine x_getT (q := 26) 0 (by decide) dX3_isOrIsUnder_23 rfl gs_X3_9 ?_
        refine x_iloadn (q := 27) 1 rfl rfl dX3_isOrIsUnder_26 rfl ?_
        obtain ⟨⟨s10, s11⟩, H⟩ := H
        refine x_tald (q := 28) (by decide) dX3_isOrIsUnder_27 rfl s10 (show l2 < ((6 : Nat) : Int) from s11) ?_
        refine x_istoren (q := 29) (ls' := [(2, vI ((tbl 0).getD (Int.toNat l2) 0)), (1, vI l1), (3, vI l3)]) rfl (by decide) rfl dX3_isOrIsUnder_28 rfl ?_
        refine x_iinc (q := 32) (ls' := [(3, vI (l3 + 1)), (2, vI ((tbl 0).getD (Int.toNat l2) 0)), (1, vI l1)]) 2 rfl (by decide) rfl dX3_isOrIsUnder_29 rfl ?_
        refine x_goto (tgt := 4) dX3_isOrIsUnder_32 (by decide) ?_
        refine x_sub [2, 1, 0] rfl ?_
        exact H
      · have H := H2 (hB)
        refine x_iconst (q := 22) dX3_isOrIsUnder_21 rfl ?_
        exact x_zret rfl dX3_isOrIsUnder_22 (by decide) H
abbrev E_X3_brokenMaySay (G : GT) (d pc : Nat) (ls : List (Nat × AV)) (st : List AV) (mem : Mem) (Q : Option AV → Mem → Prop) : Prop := Ex G RX3 cX3_brokenMaySay 3 (some .boolean) d pc ls st mem Q
abbrev C_X3_brokenMaySay (G : GT) (d : Nat) (as : List AV) (mem : Mem) (Q : Option AV → Mem → Prop) : Prop := Ct G yX3_brokenMaySay cX3_brokenMaySay 3 (some .boolean) d as mem Q
set_option maxRecDepth 20000 in
set_option maxHeartbeats 4000000 in
theorem B_X3_brokenMaySay {G : GT} {d : Nat} {l0 : Int} {l1 : Int} {l2 : Int} {mem : Mem} {Q : Option AV → Mem → Prop} (H : (inr l0) ∧ ((l0 = 1 → ((l2 = 0 ∨ l2 = 1) ∧ (Q (some (vI l2)) mem))) ∧ (l0 = 2 → ((inr l2 ∧ inr l1) ∧ (((l2 ≠ l1) → (Q (some (vI 0)) mem)) ∧ (¬ (l2 ≠ l1) → (Q (some (vI 1)) mem))))) ∧ (l0 = 3 → (Q (some (vI 1)) mem)) ∧ (l0 = 4 → ((inr l2) ∧ (((l2 ≠ 0) → (Q (some (vI 1)) mem)) ∧ (¬ (l2 ≠ 0) → ((inr l1) ∧ (((l1 ≠ 0) → (Q (some (vI 0)) mem)) ∧ (¬ (l1 ≠ 0) → (Q (some (vI 1)) mem)))))))) ∧ (l0 = 5 → (Q (some (vI 0)) mem)) ∧ ((l0 < 1 ∨ 5 < l0) → (Q (some (vI 1)) mem)))) : C_X3_brokenMaySay G d [vI l0, vI l1, vI l2] mem Q := by
  refine Ct_of_Ex (by decide +kernel) (by exact Nat.le_of_ble_eq_true rfl) (ls := [(0, vI l0), (1, vI l1), (2, vI l2)]) rfl ?_
  show E_X3_brokenMaySay G d 0 [(0, vI l0), (1, vI l1), (2, vI l2)] [] mem Q
  refine x_iloadn (q := 1) 0 rfl rfl dX3_brokenMaySay_0 rfl ?_
  obtain ⟨s1, H⟩ := H
  obtain ⟨H0, H1, H2, H3, H4, H5⟩ := H
  rcases (show l0 = 1 ∨ l0 = 2 ∨ l0 = 3 ∨ l0 = 4 ∨ l0 = 5 ∨ (l0 < 1 ∨ 5 < l0) by omega) with hB | hB | hB | hB | hB | hB
  · have H := H0 hB
    refine x_tswIn (z := 1) (tgt := 36) dX3_brokenMaySay_1 hB (by decide) (by decide) (by decide) rfl (by decide) ?_
    refine x_iloadn (q := 37) 2 rfl rfl dX3_brokenMaySay_36 rfl ?_
    obtain ⟨s2, H⟩ := H
    exact x_zret rfl dX3_brokenMaySay_37 s2 H
  · have H := H1 hB
    refine x_tswIn (z := 2) (tgt := 38) dX3_brokenMaySay_1 hB (by decide) (by decide) (by decide) rfl (by decide) ?_
    refine x_iloadn (q := 39) 2 rfl rfl dX3_brokenMaySay_38 rfl ?_
    refine x_iloadn (q := 40) 1 rfl rfl dX3_brokenMaySay_39 rfl ?_
    obtain ⟨⟨s3, s4⟩, H⟩ := H
    obtain ⟨H1, H2⟩ := H
    refine x_icmp_ne (tgt := 47) (q := 43) dX3_brokenMaySay_40 (by decide) rfl s3 s4 (fun hB => ?_) (fun hB => ?_)
    · have H := H1 (hB)
      refine x_iconst (q := 48) dX3_brokenMaySay_47 rfl ?_
      exact x_zret rfl dX3_brokenMaySay_48 (by decide) H
    · have H := H2 (hB)
      refine x_iconst (q := 44) dX3_brokenMaySay_43 rfl ?_
      refine x_goto (tgt := 48) dX3_brokenMaySay_44 (by decide) ?_
      exact x_zret rfl dX3_brokenMaySay_48 (by decide) H
  · have H := H2 hB
    refine x_tswIn (z := 3) (tgt := 65) dX3_brokenMaySay_1 hB (by decide) (by decide) (by decide) rfl (by decide) ?_
    refine x_iconst (q := 66) dX3_brokenMaySay_65 rfl ?_
    exact x_zret rfl dX3_brokenMaySay_66 (by decide) H
  · have H := H3 hB
    refine x_tswIn (z := 4) (tgt := 49) dX3_brokenMaySay_1 hB (by decide) (by decide) (by decide) rfl (by decide) ?_
    refine x_iloadn (q := 50) 2 rfl rfl dX3_brokenMaySay_49 rfl ?_
    obtain ⟨s7, H⟩ := H
    obtain ⟨H1, H2⟩ := H
    refine x_if_ne (tgt := 57) (q := 53) dX3_brokenMaySay_50 (by decide) rfl s7 (fun hB => ?_) (fun hB => ?_)
    · have H := H1 (hB)
      refine x_iconst (q := 58) dX3_brokenMaySay_57 rfl ?_
      refine x_goto (tgt := 62) dX3_brokenMaySay_58 (by decide) ?_
      exact x_zret rfl dX3_brokenMaySay_62 (by decide) H
    · have H := H2 (hB)
      refine x_iloadn (q := 54) 1 rfl rfl dX3_brokenMaySay_53 rfl ?_
      obtain ⟨s10, H⟩ := H
      obtain ⟨H1, H2⟩ := H
      refine x_if_ne (tgt := 61) (q := 57) dX3_brokenMaySay_54 (by decide) rfl s10 (fun hB => ?_) (fun hB => ?_)
      · have H := H1 (hB)
        refine x_iconst (q := 62) dX3_brokenMaySay_61 rfl ?_
        exact x_zret rfl dX3_brokenMaySay_62 (by decide) H
      · have H := H2 (hB)
        refine x_iconst (q := 58) dX3_brokenMaySay_57 rfl ?_
        refine x_goto (tgt := 62) dX3_brokenMaySay_58 (by decide) ?_
        exact x_zret rfl dX3_brokenMaySay_62 (by decide) H
  · have H := H4 hB
    refine x_tswIn (z := 5) (tgt := 63) dX3_brokenMaySay_1 hB (by decide) (by decide) (by decide) rfl (by decide) ?_
    refine x_iconst (q := 64) dX3_brokenMaySay_63 rfl ?_
    exact x_zret rfl dX3_brokenMaySay_64 (by decide) H
  · have H := H5 hB
    refine x_tswOut (tgt := 65) dX3_brokenMaySay_1 s1 hB (by decide) ?_
    refine x_iconst (q := 66) dX3_brokenMaySay_65 rfl ?_
    exact x_zret rfl dX3_brokenMaySay_66 (by decide) H
abbrev E_X11_bits (G : GT) (d pc : Nat) (ls : List (Nat × AV)) (st : List AV) (mem : Mem) (Q : Option AV → Mem → Prop) : Prop := Ex G RX11 cX11_bits 3 (some .int) d pc ls st mem Q
abbrev C_X11_bits (G : GT) (d : Nat) (as : List AV) (mem : Mem) (Q : Option AV → Mem → Prop) : Prop := Ct G yX11_bits cX11_bits 3 (some .int) d as mem Q
set_option maxRecDepth 20000 in
set_option maxHeartbeats 4000000 in
theorem B_X11_bits {G : GT} {d : Nat} {l0 : Int} {mem : Mem} {Q : Option AV → Mem → Prop} (H : E_X11_bits G d 4 [(0, vI l0), (1, vI 0), (2, vI 0)] [] mem Q) : C_X11_bits G d [vI l0] mem Q := by
  refine Ct_of_Ex (by decide +kernel) (by exact Nat.le_of_ble_eq_true rfl) (ls := [(0, vI l0)]) rfl ?_
  show E_X11_bits G d 0 [(0, vI l0)] [] mem Q
  refine x_iconst (q := 1) dX11_bits_0 rfl ?_
  refine x_istoren (q := 2) (ls' := [(1, vI 0), (0, vI l0)]) rfl (by decide) rfl dX11_bits_1 rfl ?_
  refine x_iconst (q := 3) dX11_bits_2 rfl ?_
  refine x_istoren (q := 4) (ls' := [(2, vI 0), (1, vI 0), (0, vI l0)]) rfl (by decide) rfl dX11_bits_3 rfl ?_
  refine x_sub [2, 1, 0] rfl ?_
  exact H
set_option maxRecDepth 20000 in
set_option maxHeartbeats 4000000 in
theorem B_X11_bits_4 {G : GT} {d : Nat} {l0 : Int} {l1 : Int} {l2 : Int} {mem : Mem} {Q : Option AV → Mem → Prop} (H : (inr l2) ∧ (((12 ≤ l2) → (Q (some (vI l1)) mem)) ∧ (¬ (12 ≤ l2) → (E_X11_bits G d 4 [(0, vI l0), (1, vI (l1 + (iand (ishr l0 l2) 1))), (2, vI (l2 + 1))] [] mem Q)))) : E_X11_bits G d 4 [(0, vI l0), (1, vI l1), (2, vI l2)] [] mem Q := by
  refine x_iloadn (q := 5) 2 rfl rfl dX11_bits_4 rfl ?_
  refine x_bipush (q := 7) rfl dX11_bits_5 rfl ?_
  obtain ⟨s1, H⟩ := H
  obtain ⟨H1, H2⟩ := H
  refine x_icmp_ge (tgt := 24) (q := 10) dX11_bits_7 (by decide) rfl s1 (by decide) (fun hB => ?_) (fun hB => ?_)
  · have H := H1 (hB)
    refine x_iloadn (q := 25) 1 rfl rfl dX11_bits_24 rfl ?_
    exact x_iret rfl dX11_bits_25 H
  · have H := H2 (hB)
    refine x_iloadn (q := 11) 1 rfl rfl dX11_bits_10 rfl ?_
    refine x_iloadn (q := 12) 0 rfl rfl dX11_bits_11 rfl ?_
    refine x_iloadn (q := 13) 2 rfl rfl dX11_bits_12 rfl ?_
    refine x_ishr (q := 14) dX11_bits_13 rfl ?_
    refine x_iconst (q := 15) dX11_bits_14 rfl ?_
    refine x_iand (q := 16) dX11_bits_15 rfl ?_
    refine x_iadd (q := 17) dX11_bits_16 rfl ?_
    refine x_istoren (q := 18) (ls' := [(1, vI (l1 + (iand (ishr l0 l2) 1))), (0, vI l0), (2, vI l2)]) rfl (by decide) rfl dX11_bits_17 rfl ?_
    refine x_iinc (q := 21) (ls' := [(2, vI (l2 + 1)), (1, vI (l1 + (iand (ishr l0 l2) 1))), (0, vI l0)]) 2 rfl (by decide) rfl dX11_bits_18 rfl ?_
    refine x_goto (tgt := 4) dX11_bits_21 (by decide) ?_
    refine x_sub [2, 1, 0] rfl ?_
    exact H
abbrev E_X10_refuse (G : GT) (d pc : Nat) (ls : List (Nat × AV)) (st : List AV) (mem : Mem) (Q : Option AV → Mem → Prop) : Prop := Ex G RX10 cX10_refuse 3 (some .int) d pc ls st mem Q
abbrev C_X10_refuse (G : GT) (d : Nat) (as : List AV) (mem : Mem) (Q : Option AV → Mem → Prop) : Prop := Ct G yX10_refuse cX10_refuse 3 (some .int) d as mem Q
set_option maxRecDepth 20000 in
set_option maxHeartbeats 4000000 in
theorem B_X10_refuse {G : GT} {d : Nat} {l1 : Int} {mem : Mem} {Q : Option AV → Mem → Prop} (hd : 1 ≤ d) (H : C_X10_outside G (d - 1) [vI ((-1000000) - l1), vI 1, vI 6] mem (fun r9 m1 => ∃ z2 : Int, r9 = some (vI z2) ∧ ((inr z2) ∧ (((z2 ≠ 0) → (Q (some (vI l1)) m1)) ∧ (¬ (z2 ≠ 0) → ((0 ≤ (-1000000) - l1 ∧ (-1000000) - l1 < 7) ∧ (∀ m9 : Mem, m9 = upM m1 62 ((-1000000) - l1) (sx ((m1 62 ((-1000000) - l1)) + 1)) → (Q (some (vI l1)) m9)))))))) : C_X10_refuse G d [vR 0, vI l1] mem Q := by
  refine Ct_of_Ex (by decide +kernel) (by exact Nat.le_of_ble_eq_true rfl) (ls := [(0, vR 0), (1, vI l1)]) rfl ?_
  show E_X10_refuse G d 0 [(0, vR 0), (1, vI l1)] [] mem Q
  refine x_ldcw (q := 3) (z := (-1000000)) cn_X10_351 (by decide) dX10_refuse_0 rfl ?_
  refine x_iloadn (q := 4) 1 rfl rfl dX10_refuse_3 rfl ?_
  refine x_isub (q := 5) dX10_refuse_4 rfl ?_
  refine x_istoren (q := 6) (ls' := [(2, vI ((-1000000) - l1)), (0, vR 0), (1, vI l1)]) rfl (by decide) rfl dX10_refuse_5 rfl ?_
  refine x_iloadn (q := 7) 0 rfl rfl dX10_refuse_6 rfl ?_
  refine x_iconst (q := 8) dX10_refuse_7 rfl ?_
  refine x_bipush (q := 10) rfl dX10_refuse_8 rfl ?_
  refine x_callS (q := 13) (d := d - 1) (as := [vI ((-1000000) - l1), vI 1, vI 6]) (st := []) dX10_refuse_10 rfl ms_X10_79 rfl rfl (by exact Nat.le_of_ble_eq_true rfl) ⟨by show _ ≤ d; omega, by show _ ≤ 40 * d; omega⟩ ⟨Nat.le_refl _, Nat.le_refl _⟩ (Ct.mono H (fun r9 m1 H => ?_))
  obtain ⟨z2, rfl, H⟩ := H
  show E_X10_refuse G d 13 [(2, vI ((-1000000) - l1)), (0, vR 0), (1, vI l1)] [vI z2] m1 Q
  obtain ⟨s3, H⟩ := H
  obtain ⟨H1, H2⟩ := H
  refine x_if_ne (tgt := 26) (q := 16) dX10_refuse_13 (by decide) rfl s3 (fun hB => ?_) (fun hB => ?_)
  · have H := H1 (hB)
    refine x_iloadn (q := 27) 2 rfl rfl dX10_refuse_26 rfl ?_
    exact x_iret rfl dX10_refuse_27 H
  · have H := H2 (hB)
    refine x_aloadn (q := 17) 1 rfl rfl rfl dX10_refuse_16 rfl ?_
    refine x_getr (q := 20) dX10_refuse_17 rfl fa_X10_74 sh_0 rfl ?_
    refine x_iloadn (q := 21) 0 rfl rfl dX10_refuse_20 rfl ?_
    refine x_dup2 (q := 22) (by exact Nat.ne_of_beq_eq_false rfl) (by exact Nat.ne_of_beq_eq_false rfl) dX10_refuse_21 rfl ?_
    obtain ⟨⟨s6, s7⟩, H⟩ := H
    refine x_iald (q := 23) dX10_refuse_22 rfl sh_62 s6 s7 (fun r8 => ?_)
    refine x_iconst (q := 24) dX10_refuse_23 rfl ?_
    refine x_iadd (q := 25) dX10_refuse_24 rfl ?_
    refine x_iastX (q := 26) dX10_refuse_25 rfl sh_62 s6 s7  (fun m9 em9 => ?_)
    have H := H m9 em9
    refine x_iloadn (q := 27) 2 rfl rfl dX10_refuse_26 rfl ?_
    exact x_iret rfl dX10_refuse_27 H
abbrev E_X11_finding (G : GT) (d pc : Nat) (ls : List (Nat × AV)) (st : List AV) (mem : Mem) (Q : Option AV → Mem → Prop) : Prop := Ex G RX11 cX11_finding 2 (some .int) d pc ls st mem Q
abbrev C_X11_finding (G : GT) (d : Nat) (as : List AV) (mem : Mem) (Q : Option AV → Mem → Prop) : Prop := Ct G yX11_finding cX11_finding 2 (some .int) d as mem Q
set_option maxRecDepth 20000 in
set_option maxHeartbeats 4000000 in
theorem B_X11_finding {G : GT} {d : Nat} {l1 : Int} {mem : Mem} {Q : Option AV → Mem → Prop} (H : (0 ≤ (-1000000) - l1 ∧ (-1000000) - l1 < 7) ∧ (∀ m4 : Mem, m4 = upM mem 75 ((-1000000) - l1) (sx ((mem 75 ((-1000000) - l1)) + 1)) → (Q (some (vI l1)) m4))) : C_X11_finding G d [vR 71, vI l1] mem Q := by
  refine Ct_of_Ex (by decide +kernel) (by exact Nat.le_of_ble_eq_true rfl) (ls := [(0, vR 71), (1, vI l1)]) rfl ?_
  show E_X11_finding G d 0 [(0, vR 71), (1, vI l1)] [] mem Q
  refine x_aloadn (q := 1) 0 rfl rfl rfl dX11_finding_0 rfl ?_
  refine x_getr (q := 4) dX11_finding_1 rfl fa_X11_19 sh_71 rfl ?_
  refine x_ldc (q := 6) (z := (-1000000)) cn_X11_82 (by decide) dX11_finding_4 rfl ?_
  refine x_iloadn (q := 7) 1 rfl rfl dX11_finding_6 rfl ?_
  refine x_isub (q := 8) dX11_finding_7 rfl ?_
  refine x_dup2 (q := 9) (by exact Nat.ne_of_beq_eq_false rfl) (by exact Nat.ne_of_beq_eq_false rfl) dX11_finding_8 rfl ?_
  obtain ⟨⟨s1, s2⟩, H⟩ := H
  refine x_iald (q := 10) dX11_finding_9 rfl sh_75 s1 s2 (fun r3 => ?_)
  refine x_iconst (q := 11) dX11_finding_10 rfl ?_
  refine x_iadd (q := 12) dX11_finding_11 rfl ?_
  refine x_iastX (q := 13) dX11_finding_12 rfl sh_75 s1 s2  (fun m4 em4 => ?_)
  have H := H m4 em4
  refine x_iloadn (q := 14) 1 rfl rfl dX11_finding_13 rfl ?_
  exact x_iret rfl dX11_finding_14 H
