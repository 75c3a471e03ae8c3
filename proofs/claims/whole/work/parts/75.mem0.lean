/-! ===== the first memory ===== -/
def hz0 (j : Int) : Int := if j = 11 then 12 else if j = 16 then 1 else 0
def sz0 (j : Int) : Int := if j = 2 then 12 else 0
def mem0 : Mem := fun k j => match k with
  | 1 => hz0 j
  | 11 => hz0 j
  | 21 => hz0 j
  | 72 => sz0 j
  | _ => 0
theorem mem0_rng (k : Nat) (j : Int) : 0 ≤ mem0 k j ∧ mem0 k j ≤ 12 := by
  have h1 : 0 ≤ hz0 j ∧ hz0 j ≤ 12 := by
    unfold hz0
    split
    · decide
    · split <;> decide
  have h2 : 0 ≤ sz0 j ∧ sz0 j ≤ 12 := by unfold sz0; split <;> decide
  unfold mem0
  split <;> first | exact h1 | exact h2 | decide
theorem mem0_ok : MemOK mem0 := by
  intro k j
  have := mem0_rng k j
  exact ⟨⟨by omega, by omega⟩, fun _ => ⟨by omega, by omega⟩⟩
theorem sz0_o {x : Int} (h : x ≠ 2) : sz0 x = 0 := by unfold sz0; rw [if_neg h]
theorem hz0_o {x : Int} (h : x ≠ 11) (h2 : x ≠ 16) : hz0 x = 0 := by unfold hz0; rw [if_neg h, if_neg h2]
theorem sz0_VN : VN sz0 := by
  have e2 : sz0 2 = 12 := rfl
  refine ⟨?_, ?_, ?_, ?_, ?_, fun i h0 h1 => ?_, fun i h0 h1 => ?_, fun i j h0 h1 h2 h3 => ?_, fun s h0 h1 => ?_, fun i h0 h1 => ?_⟩
  · rw [sz0_o (by decide)]; decide
  · rw [sz0_o (by decide)]; decide
  · rw [e2]; decide
  · rw [sz0_o (by decide)]; decide
  · rw [sz0_o (by decide)]; decide
  · rw [sz0_o (by omega)]; decide
  · rw [sz0_o (by decide)] at h1; omega
  · rw [sz0_o (by omega)]
    exact ⟨by decide, by decide, fun h => absurd rfl h⟩
  · rw [sz0_o (x := 185 + 4 * s) (by omega), sz0_o (x := 185 + 4 * s + 1) (by omega), sz0_o (x := 185 + 4 * s + 2) (by omega), sz0_o (x := 185 + 4 * s + 3) (by omega), sz0_o (x := 1) (by decide)]
    exact ⟨fun h => absurd h (by omega), Or.inl rfl, Or.inl rfl, fun _ => rfl⟩
  · rw [sz0_o (by omega)]; decide
theorem sz0_HR : HR 1 sz0 mem0 := by
  refine ⟨⟨rfl, rfl, rfl, rfl, rfl⟩, fun i h0 h1 => ?_, fun i j h0 h1 h2 h3 => ?_, fun i hi => ?_, fun s h0 h1 => ?_, ?_, ?_, fun i h0 h1 => ?_, fun i h0 h1 => ?_⟩
  · rw [sz0_o (x := 5 + 3 * i) (by omega), sz0_o (x := 5 + 3 * i + 1) (by omega), sz0_o (x := 5 + 3 * i + 2) (by omega)]; exact ⟨rfl, rfl, rfl⟩
  · rw [sz0_o (by omega)]; rfl
  · refine ⟨0, rfl, by decide, fun j hj => ?_⟩
    rw [sz0_o (by omega), Nat.zero_testBit]; rfl
  · rw [sz0_o (x := 185 + 4 * s) (by omega), sz0_o (x := 185 + 4 * s + 1) (by omega)]; exact ⟨rfl, rfl⟩
  · refine ⟨0, rfl, by decide, fun s hs _ => ?_⟩
    rw [sz0_o (by omega), Nat.zero_testBit]; rfl
  · refine ⟨0, rfl, by decide, fun s hs => ?_⟩
    rw [sz0_o (by omega), Nat.zero_testBit]; rfl
  · rw [sz0_o (by omega)]; rfl
  · rw [sz0_o (by omega)]; rfl
theorem mem0_Rl : Rl 0 mem0 := by
  refine ⟨⟨sz0_VN, sz0_HR, fun h => absurd h (by decide), rfl⟩, ⟨rfl, by decide, by decide, fun h => absurd rfl h⟩, fun k _ _ => rfl, ⟨rfl, by decide, by decide, fun z _ _ => rfl⟩, fun s hs => ?_⟩
  match s, hs with
  | 0, _ => exact ⟨rfl, rfl, by decide, fun k _ _ => rfl⟩
  | 1, _ => exact ⟨rfl, rfl, by decide, fun k _ _ => rfl⟩
  | 2, _ => exact ⟨rfl, rfl, by decide, fun k _ _ => rfl⟩
  | 3, _ => exact ⟨rfl, rfl, by decide, fun k _ _ => rfl⟩
theorem arrV_c {cA : ClassId} {n : Nat} {f g : Nat → Value} (h : ∀ j, j < n → f j = g j) : arrV cA n f = arrV cA n g := by
  unfold arrV
  congr 2
  funext j
  exact h j.val j.isLt
def cells0 (G : GT) : List va_E := [] ++ classL G 0 ++ modelL G 71
def CE (G : GT) (k : Nat) : Prop := ∃ e, (cells0 G)[k]? = some e ∧ ∀ H, va_at (gD G) vwCl (gB G + k, e) H → va_at (gD G) vwCl (gB G + k, cellOf G mem0 k) H

theorem ce_0 {G : GT} : CE G 0 := ⟨cellOf G mem0 0, rfl, fun _ h => h⟩
theorem ce_1 {G : GT} : CE G 1 := ⟨cellOf G mem0 1, rfl, fun _ h => h⟩
theorem ce_2 {G : GT} : CE G 2 := ⟨cellOf G mem0 2, rfl, fun _ h => h⟩
theorem ce_3 {G : GT} : CE G 3 := ⟨cellOf G mem0 3, rfl, fun _ h => h⟩
theorem ce_4 {G : GT} : CE G 4 := ⟨cellOf G mem0 4, rfl, fun _ h => h⟩
theorem ce_5 {G : GT} : CE G 5 := ⟨cellOf G mem0 5, rfl, fun _ h => h⟩
theorem ce_6 {G : GT} : CE G 6 := ⟨cellOf G mem0 6, rfl, fun _ h => h⟩
theorem ce_7 {G : GT} : CE G 7 := ⟨cellOf G mem0 7, rfl, fun _ h => h⟩
theorem ce_8 {G : GT} : CE G 8 := ⟨cellOf G mem0 8, rfl, fun _ h => h⟩
theorem ce_9 {G : GT} : CE G 9 := ⟨cellOf G mem0 9, rfl, fun _ h => h⟩
theorem ce_10 {G : GT} : CE G 10 := ⟨cellOf G mem0 10, rfl, fun _ h => h⟩
theorem ce_11 {G : GT} : CE G 11 := ⟨cellOf G mem0 11, rfl, fun _ h => h⟩
theorem ce_12 {G : GT} : CE G 12 := ⟨cellOf G mem0 12, rfl, fun _ h => h⟩
theorem ce_13 {G : GT} : CE G 13 := ⟨cellOf G mem0 13, rfl, fun _ h => h⟩
theorem ce_14 {G : GT} : CE G 14 := ⟨cellOf G mem0 14, rfl, fun _ h => h⟩
theorem ce_15 {G : GT} : CE G 15 := ⟨cellOf G mem0 15, rfl, fun _ h => h⟩
theorem ce_16 {G : GT} : CE G 16 := ⟨cellOf G mem0 16, rfl, fun _ h => h⟩
theorem ce_17 {G : GT} : CE G 17 := ⟨cellOf G mem0 17, rfl, fun _ h => h⟩
theorem ce_18 {G : GT} : CE G 18 := ⟨cellOf G mem0 18, rfl, fun _ h => h⟩
theorem ce_19 {G : GT} : CE G 19 := ⟨cellOf G mem0 19, rfl, fun _ h => h⟩
theorem ce_20 {G : GT} : CE G 20 := ⟨cellOf G mem0 20, rfl, fun _ h => h⟩
theorem ce_21 {G : GT} : CE G 21 := ⟨cellOf G mem0 21, rfl, fun _ h => h⟩
theorem ce_22 {G : GT} : CE G 22 := ⟨cellOf G mem0 22, rfl, fun _ h => h⟩
theorem ce_23 {G : GT} : CE G 23 := ⟨cellOf G mem0 23, rfl, fun _ h => h⟩
theorem ce_24 {G : GT} : CE G 24 := ⟨cellOf G mem0 24, rfl, fun _ h => h⟩
theorem ce_25 {G : GT} : CE G 25 := ⟨cellOf G mem0 25, rfl, fun _ h => h⟩
theorem ce_26 {G : GT} : CE G 26 := ⟨cellOf G mem0 26, rfl, fun _ h => h⟩
theorem ce_27 {G : GT} : CE G 27 := ⟨cellOf G mem0 27, rfl, fun _ h => h⟩
theorem ce_28 {G : GT} : CE G 28 := ⟨cellOf G mem0 28, rfl, fun _ h => h⟩
theorem ce_29 {G : GT} : CE G 29 := ⟨cellOf G mem0 29, rfl, fun _ h => h⟩
theorem ce_30 {G : GT} : CE G 30 := ⟨cellOf G mem0 30, rfl, fun _ h => h⟩
theorem ce_31 {G : GT} : CE G 31 := ⟨cellOf G mem0 31, rfl, fun _ h => h⟩
theorem ce_32 {G : GT} : CE G 32 := ⟨cellOf G mem0 32, rfl, fun _ h => h⟩
theorem ce_33 {G : GT} : CE G 33 := ⟨cellOf G mem0 33, rfl, fun _ h => h⟩
theorem ce_34 {G : GT} : CE G 34 := ⟨cellOf G mem0 34, rfl, fun _ h => h⟩
theorem ce_35 {G : GT} : CE G 35 := ⟨cellOf G mem0 35, rfl, fun _ h => h⟩
theorem ce_36 {G : GT} : CE G 36 := ⟨cellOf G mem0 36, rfl, fun _ h => h⟩
theorem ce_37 {G : GT} : CE G 37 := ⟨cellOf G mem0 37, rfl, fun _ h => h⟩
theorem ce_38 {G : GT} : CE G 38 := ⟨cellOf G mem0 38, rfl, fun _ h => h⟩
theorem ce_39 {G : GT} : CE G 39 := ⟨cellOf G mem0 39, rfl, fun _ h => h⟩
theorem ce_40 {G : GT} : CE G 40 := ⟨cellOf G mem0 40, rfl, fun _ h => h⟩
theorem ce_41 {G : GT} : CE G 41 := ⟨cellOf G mem0 41, rfl, fun _ h => h⟩
theorem ce_42 {G : GT} : CE G 42 := ⟨cellOf G mem0 42, rfl, fun _ h => h⟩
theorem ce_43 {G : GT} : CE G 43 := ⟨cellOf G mem0 43, rfl, fun _ h => h⟩
theorem ce_44 {G : GT} : CE G 44 := ⟨cellOf G mem0 44, rfl, fun _ h => h⟩
theorem ce_45 {G : GT} : CE G 45 := ⟨cellOf G mem0 45, rfl, fun _ h => h⟩
theorem ce_46 {G : GT} : CE G 46 := ⟨cellOf G mem0 46, rfl, fun _ h => h⟩
theorem ce_47 {G : GT} : CE G 47 := ⟨cellOf G mem0 47, rfl, fun _ h => h⟩
theorem ce_48 {G : GT} : CE G 48 := ⟨cellOf G mem0 48, rfl, fun _ h => h⟩
theorem ce_49 {G : GT} : CE G 49 := ⟨cellOf G mem0 49, rfl, fun _ h => h⟩
theorem ce_50 {G : GT} : CE G 50 := ⟨cellOf G mem0 50, rfl, fun _ h => h⟩
theorem ce_51 {G : GT} : CE G 51 := ⟨cellOf G mem0 51, rfl, fun _ h => h⟩
theorem ce_52 {G : GT} : CE G 52 := ⟨cellOf G mem0 52, rfl, fun _ h => h⟩
theorem ce_53 {G : GT} : CE G 53 := ⟨cellOf G mem0 53, rfl, fun _ h => h⟩
theorem ce_54 {G : GT} : CE G 54 := ⟨cellOf G mem0 54, rfl, fun _ h => h⟩
theorem ce_55 {G : GT} : CE G 55 := ⟨cellOf G mem0 55, rfl, fun _ h => h⟩
theorem ce_56 {G : GT} : CE G 56 := ⟨cellOf G mem0 56, rfl, fun _ h => h⟩
theorem ce_57 {G : GT} : CE G 57 := ⟨cellOf G mem0 57, rfl, fun _ h => h⟩
theorem ce_58 {G : GT} : CE G 58 := ⟨cellOf G mem0 58, rfl, fun _ h => h⟩
theorem ce_59 {G : GT} : CE G 59 := ⟨cellOf G mem0 59, rfl, fun _ h => h⟩
theorem ce_60 {G : GT} : CE G 60 := ⟨cellOf G mem0 60, rfl, fun _ h => h⟩
theorem ce_61 {G : GT} : CE G 61 := by
  refine ⟨shArr G (va_up (va_up (va_up (va_up (fun _ => none) 0 (some (gB G + (0 + 63)))) 1 (some (gB G + (0 + 65)))) 2 (some (gB G + (0 + 67)))) 3 (some (gB G + (0 + 69)))), rfl, fun H h => ?_⟩
  have h9 : H[gB G + 61]? = some (vp_cell (gC G 3) (4, .inr (.inr (.inr (.inr (va_up (va_up (va_up (va_up (fun _ => none) 0 (some (gB G + (0 + 63)))) 1 (some (gB G + (0 + 65)))) 2 (some (gB G + (0 + 67)))) 3 (some (gB G + (0 + 69))))))))) := h
  show H[gB G + 61]? = some (vp_cell (gC G 3) (4, .inr (.inr (.inr (.inr (fun j => some (gB G + (63 + 2 * j))))))))
  rw [h9, vp_cell_q, vp_cell_q]
  refine congrArg some (arrV_c (fun j hj => ?_))
  match j, hj with
  | 0, _ => rfl
  | 1, _ => rfl
  | 2, _ => rfl
  | 3, _ => rfl
theorem ce_62 {G : GT} : CE G 62 := ⟨cellOf G mem0 62, rfl, fun _ h => h⟩
theorem ce_63 {G : GT} : CE G 63 := ⟨cellOf G mem0 63, rfl, fun _ h => h⟩
theorem ce_64 {G : GT} : CE G 64 := ⟨cellOf G mem0 64, rfl, fun _ h => h⟩
theorem ce_65 {G : GT} : CE G 65 := ⟨cellOf G mem0 65, rfl, fun _ h => h⟩
theorem ce_66 {G : GT} : CE G 66 := ⟨cellOf G mem0 66, rfl, fun _ h => h⟩
theorem ce_67 {G : GT} : CE G 67 := ⟨cellOf G mem0 67, rfl, fun _ h => h⟩
theorem ce_68 {G : GT} : CE G 68 := ⟨cellOf G mem0 68, rfl, fun _ h => h⟩
theorem ce_69 {G : GT} : CE G 69 := ⟨cellOf G mem0 69, rfl, fun _ h => h⟩
theorem ce_70 {G : GT} : CE G 70 := ⟨cellOf G mem0 70, rfl, fun _ h => h⟩
theorem ce_71 {G : GT} : CE G 71 := ⟨cellOf G mem0 71, rfl, fun _ h => h⟩
theorem ce_72 {G : GT} : CE G 72 := by
  refine ⟨.inl (gC G 0, 553, .inl (upd (fun _ => 0) 2 (Int32.ofInt 12))), rfl, fun H h => ?_⟩
  have h9 : H[gB G + 72]? = some (vp_cell (gC G 0) (553, .inl (upd (fun _ => 0) 2 (Int32.ofInt 12)))) := h
  show H[gB G + 72]? = some (vp_cell (gC G 0) (553, .inl (fun j => Int32.ofInt (sz0 (j : Int)))))
  rw [h9, vp_cell_i, vp_cell_i]
  refine congrArg some (arrV_c (fun j hj => ?_))
  unfold upd sz0
  by_cases h2 : j = 2
  · subst h2; rfl
  · rw [if_neg h2, if_neg (by omega)]; rfl
theorem ce_73 {G : GT} : CE G 73 := ⟨cellOf G mem0 73, rfl, fun _ h => h⟩
theorem ce_74 {G : GT} : CE G 74 := ⟨cellOf G mem0 74, rfl, fun _ h => h⟩
theorem ce_75 {G : GT} : CE G 75 := ⟨cellOf G mem0 75, rfl, fun _ h => h⟩
theorem ce_76 {G : GT} : CE G 76 := by
  refine ⟨.inl (gC G 4, 6, .inr (.inr (.inr (.inr (va_up (va_up (va_up (va_up (va_up (va_up (fun _ => none) 0 (some (gK G 12))) 1 (some (gK G 13))) 2 (some (gK G 14))) 3 (some (gK G 15))) 4 (some (gK G 16))) 5 (some (gK G 17))))))), rfl, fun H h => ?_⟩
  have h9 : H[gB G + 76]? = some (vp_cell (gC G 4) (6, .inr (.inr (.inr (.inr (va_up (va_up (va_up (va_up (va_up (va_up (fun _ => none) 0 (some (gK G 12))) 1 (some (gK G 13))) 2 (some (gK G 14))) 3 (some (gK G 15))) 4 (some (gK G 16))) 5 (some (gK G 17)))))))) := h
  show H[gB G + 76]? = some (vp_cell (gC G 4) (6, .inr (.inr (.inr (.inr (fun j => some (gK G (strK j))))))))
  rw [h9, vp_cell_q, vp_cell_q]
  refine congrArg some (arrV_c (fun j hj => ?_))
  match j, hj with
  | 0, _ => rfl
  | 1, _ => rfl
  | 2, _ => rfl
  | 3, _ => rfl
  | 4, _ => rfl
  | 5, _ => rfl
theorem ce_77 {G : GT} : CE G 77 := ⟨cellOf G mem0 77, rfl, fun _ h => h⟩
theorem ce_78 {G : GT} : CE G 78 := ⟨cellOf G mem0 78, rfl, fun _ h => h⟩
theorem ce_79 {G : GT} : CE G 79 := ⟨cellOf G mem0 79, rfl, fun _ h => h⟩
theorem ce_80 {G : GT} : CE G 80 := ⟨cellOf G mem0 80, rfl, fun _ h => h⟩
theorem ce_81 {G : GT} : CE G 81 := ⟨cellOf G mem0 81, rfl, fun _ h => h⟩
theorem ce_82 {G : GT} : CE G 82 := ⟨cellOf G mem0 82, rfl, fun _ h => h⟩
theorem ce_83 {G : GT} : CE G 83 := ⟨cellOf G mem0 83, rfl, fun _ h => h⟩
theorem ce_84 {G : GT} : CE G 84 := ⟨cellOf G mem0 84, rfl, fun _ h => h⟩
theorem ce_85 {G : GT} : CE G 85 := ⟨cellOf G mem0 85, rfl, fun _ h => h⟩
theorem ce_86 {G : GT} : CE G 86 := ⟨cellOf G mem0 86, rfl, fun _ h => h⟩
theorem ce_87 {G : GT} : CE G 87 := ⟨cellOf G mem0 87, rfl, fun _ h => h⟩
theorem ce_88 {G : GT} : CE G 88 := ⟨cellOf G mem0 88, rfl, fun _ h => h⟩
theorem ce_89 {G : GT} : CE G 89 := ⟨cellOf G mem0 89, rfl, fun _ h => h⟩
theorem ce_90 {G : GT} : CE G 90 := ⟨cellOf G mem0 90, rfl, fun _ h => h⟩
theorem ce_all {G : GT} : ∀ k, k < 91 → CE G k := (lt_s (lt_s (lt_s (lt_s (lt_s (lt_s (lt_s (lt_s (lt_s (lt_s (lt_s (lt_s (lt_s (lt_s (lt_s (lt_s (lt_s (lt_s (lt_s (lt_s (lt_s (lt_s (lt_s (lt_s (lt_s (lt_s (lt_s (lt_s (lt_s (lt_s (lt_s (lt_s (lt_s (lt_s (lt_s (lt_s (lt_s (lt_s (lt_s (lt_s (lt_s (lt_s (lt_s (lt_s (lt_s (lt_s (lt_s (lt_s (lt_s (lt_s (lt_s (lt_s (lt_s (lt_s (lt_s (lt_s (lt_s (lt_s (lt_s (lt_s (lt_s (lt_s (lt_s (lt_s (lt_s (lt_s (lt_s (lt_s (lt_s (lt_s (lt_s (lt_s (lt_s (lt_s (lt_s (lt_s (lt_s (lt_s (lt_s (lt_s (lt_s (lt_s (lt_s (lt_s (lt_s (lt_s (lt_s (lt_s (lt_s (lt_s (lt_s lt_0 ce_0) ce_1) ce_2) ce_3) ce_4) ce_5) ce_6) ce_7) ce_8) ce_9) ce_10) ce_11) ce_12) ce_13) ce_14) ce_15) ce_16) ce_17) ce_18) ce_19) ce_20) ce_21) ce_22) ce_23) ce_24) ce_25) ce_26) ce_27) ce_28) ce_29) ce_30) ce_31) ce_32) ce_33) ce_34) ce_35) ce_36) ce_37) ce_38) ce_39) ce_40) ce_41) ce_42) ce_43) ce_44) ce_45) ce_46) ce_47) ce_48) ce_49) ce_50) ce_51) ce_52) ce_53) ce_54) ce_55) ce_56) ce_57) ce_58) ce_59) ce_60) ce_61) ce_62) ce_63) ce_64) ce_65) ce_66) ce_67) ce_68) ce_69) ce_70) ce_71) ce_72) ce_73) ce_74) ce_75) ce_76) ce_77) ce_78) ce_79) ce_80) ce_81) ce_82) ce_83) ce_84) ce_85) ce_86) ce_87) ce_88) ce_89) ce_90)
theorem W_mem0 {G : GT} {H : Heap} (h : WC G (cells0 G) H) : World G mem0 H := by
  refine ⟨fun k q hk => ?_, mem0_ok⟩
  have hk9 := ws_lt hk
  rw [ws_get hk9] at hk
  cases hk
  obtain ⟨e, he, hq⟩ := ce_all (G := G) k hk9
  exact hq H (h.1 k _ (wc_get he))
