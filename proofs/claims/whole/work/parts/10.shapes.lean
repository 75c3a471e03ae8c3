/-! ===== shapes of the cells ===== -/
theorem sh_0 : shp 0 = .inr (9, [(2, 1), (2, 11), (2, 21), (2, 31), (2, 32), (2, 42), (2, 45), (2, 49), (2, 59), (2, 61), (2, 62), (0, 0)]) := rfl
theorem sh_1 : shp 1 = .inr (2, hallFl 1) := rfl
theorem sh_2 : shp 2 = .inl (0, 12) := rfl
theorem sh_3 : shp 3 = .inl (0, 12) := rfl
theorem sh_4 : shp 4 = .inl (0, 12) := rfl
theorem sh_5 : shp 5 = .inl (0, 12) := rfl
theorem sh_6 : shp 6 = .inl (0, 144) := rfl
theorem sh_7 : shp 7 = .inl (0, 60) := rfl
theorem sh_8 : shp 8 = .inl (0, 60) := rfl
theorem sh_9 : shp 9 = .inl (2, 80) := rfl
theorem sh_10 : shp 10 = .inl (0, 48) := rfl
theorem sh_11 : shp 11 = .inr (2, hallFl 11) := rfl
theorem sh_12 : shp 12 = .inl (0, 12) := rfl
theorem sh_13 : shp 13 = .inl (0, 12) := rfl
theorem sh_14 : shp 14 = .inl (0, 12) := rfl
theorem sh_15 : shp 15 = .inl (0, 12) := rfl
theorem sh_16 : shp 16 = .inl (0, 144) := rfl
theorem sh_17 : shp 17 = .inl (0, 60) := rfl
theorem sh_18 : shp 18 = .inl (0, 60) := rfl
theorem sh_19 : shp 19 = .inl (2, 80) := rfl
theorem sh_20 : shp 20 = .inl (0, 48) := rfl
theorem sh_21 : shp 21 = .inr (2, hallFl 21) := rfl
theorem sh_22 : shp 22 = .inl (0, 12) := rfl
theorem sh_23 : shp 23 = .inl (0, 12) := rfl
theorem sh_24 : shp 24 = .inl (0, 12) := rfl
theorem sh_25 : shp 25 = .inl (0, 12) := rfl
theorem sh_26 : shp 26 = .inl (0, 144) := rfl
theorem sh_27 : shp 27 = .inl (0, 60) := rfl
theorem sh_28 : shp 28 = .inl (0, 60) := rfl
theorem sh_29 : shp 29 = .inl (2, 80) := rfl
theorem sh_30 : shp 30 = .inl (0, 48) := rfl
theorem sh_31 : shp 31 = .inr (3, [(2, 21), (0, 0), (0, 0), (0, 0), (0, 0)]) := rfl
theorem sh_32 : shp 32 = .inr (1, [(2, 1), (2, 33), (2, 37), (2, 38), (2, 39), (2, 40), (2, 41), (0, 0)]) := rfl
theorem sh_33 : shp 33 = .inr (6, tallyFl 33) := rfl
theorem sh_34 : shp 34 = .inl (0, 4096) := rfl
theorem sh_35 : shp 35 = .inl (0, 12) := rfl
theorem sh_36 : shp 36 = .inl (0, 144) := rfl
theorem sh_37 : shp 37 = .inl (0, 4096) := rfl
theorem sh_38 : shp 38 = .inl (0, 14) := rfl
theorem sh_39 : shp 39 = .inl (0, 4096) := rfl
theorem sh_40 : shp 40 = .inl (0, 4096) := rfl
theorem sh_41 : shp 41 = .inl (1, 4096) := rfl
theorem sh_42 : shp 42 = .inr (0, [(2, 1), (2, 43), (2, 44), (0, 0), (0, 0), (0, 0)]) := rfl
theorem sh_43 : shp 43 = .inl (0, 12) := rfl
theorem sh_44 : shp 44 = .inl (0, 4096) := rfl
theorem sh_45 : shp 45 = .inr (7, [(2, 1), (2, 32), (2, 46), (2, 47), (2, 48), (0, 0)]) := rfl
theorem sh_46 : shp 46 = .inl (0, 12) := rfl
theorem sh_47 : shp 47 = .inl (0, 12) := rfl
theorem sh_48 : shp 48 = .inl (0, 256) := rfl
theorem sh_49 : shp 49 = .inr (4, [(2, 1), (2, 50), (2, 54), (2, 55), (2, 56), (2, 57), (2, 58), (0, 0), (0, 0), (0, 0)]) := rfl
theorem sh_50 : shp 50 = .inr (6, tallyFl 50) := rfl
theorem sh_51 : shp 51 = .inl (0, 4096) := rfl
theorem sh_52 : shp 52 = .inl (0, 12) := rfl
theorem sh_53 : shp 53 = .inl (0, 144) := rfl
theorem sh_54 : shp 54 = .inl (0, 8) := rfl
theorem sh_55 : shp 55 = .inl (0, 8) := rfl
theorem sh_56 : shp 56 = .inl (0, 8) := rfl
theorem sh_57 : shp 57 = .inl (0, 8) := rfl
theorem sh_58 : shp 58 = .inl (0, 6561) := rfl
theorem sh_59 : shp 59 = .inr (8, [(2, 60), (0, 0), (0, 0), (0, 0), (0, 0), (0, 0), (0, 0)]) := rfl
theorem sh_60 : shp 60 = .inl (0, 30) := rfl
theorem sh_61 : shp 61 = .inl (3, 4) := rfl
theorem sh_62 : shp 62 = .inl (0, 7) := rfl
theorem sh_63 : shp 63 = .inr (5, sheetFl 63) := rfl
theorem sh_64 : shp 64 = .inl (0, 24) := rfl
theorem sh_65 : shp 65 = .inr (5, sheetFl 65) := rfl
theorem sh_66 : shp 66 = .inl (0, 24) := rfl
theorem sh_67 : shp 67 = .inr (5, sheetFl 67) := rfl
theorem sh_68 : shp 68 = .inl (0, 24) := rfl
theorem sh_69 : shp 69 = .inr (5, sheetFl 69) := rfl
theorem sh_70 : shp 70 = .inl (0, 24) := rfl
theorem sh_71 : shp 71 = .inr (10, [(2, 72), (2, 73), (2, 74), (0, 0), (2, 75), (2, 76), (0, 0), (0, 0), (0, 0), (2, 77), (2, 78), (2, 79), (0, 0), (2, 80), (0, 0), (2, 81), (2, 82), (2, 83), (2, 84), (2, 85), (2, 86), (0, 0), (0, 0), (0, 0), (2, 87), (2, 88), (2, 89), (2, 90)]) := rfl
theorem sh_72 : shp 72 = .inl (0, 553) := rfl
theorem sh_73 : shp 73 = .inl (0, 553) := rfl
theorem sh_74 : shp 74 = .inl (0, 553) := rfl
theorem sh_75 : shp 75 = .inl (0, 7) := rfl
theorem sh_76 : shp 76 = .inl (4, 6) := rfl
theorem sh_77 : shp 77 = .inl (0, 4096) := rfl
theorem sh_78 : shp 78 = .inl (0, 4096) := rfl
theorem sh_79 : shp 79 = .inl (0, 14) := rfl
theorem sh_80 : shp 80 = .inl (0, 4096) := rfl
theorem sh_81 : shp 81 = .inl (0, 768) := rfl
theorem sh_82 : shp 82 = .inl (0, 3) := rfl
theorem sh_83 : shp 83 = .inl (0, 8) := rfl
theorem sh_84 : shp 84 = .inl (0, 256) := rfl
theorem sh_85 : shp 85 = .inl (0, 4096) := rfl
theorem sh_86 : shp 86 = .inl (0, 30) := rfl
theorem sh_87 : shp 87 = .inl (0, 4) := rfl
theorem sh_88 : shp 88 = .inl (0, 4) := rfl
theorem sh_89 : shp 89 = .inl (0, 96) := rfl
theorem sh_90 : shp 90 = .inl (0, 24) := rfl
abbrev isH (h : Nat) : Prop := h = 1 ∨ h = 11 ∨ h = 21
theorem sh_H0 {h : Nat} (hh : isH h) : shp h = .inr (2, hallFl h) := by rcases hh with rfl | rfl | rfl <;> rfl
theorem sh_H1 {h : Nat} (hh : isH h) : shp (h + 1) = .inl (0, 12) := by rcases hh with rfl | rfl | rfl <;> rfl
theorem sh_H2 {h : Nat} (hh : isH h) : shp (h + 2) = .inl (0, 12) := by rcases hh with rfl | rfl | rfl <;> rfl
theorem sh_H3 {h : Nat} (hh : isH h) : shp (h + 3) = .inl (0, 12) := by rcases hh with rfl | rfl | rfl <;> rfl
theorem sh_H4 {h : Nat} (hh : isH h) : shp (h + 4) = .inl (0, 12) := by rcases hh with rfl | rfl | rfl <;> rfl
theorem sh_H5 {h : Nat} (hh : isH h) : shp (h + 5) = .inl (0, 144) := by rcases hh with rfl | rfl | rfl <;> rfl
theorem sh_H6 {h : Nat} (hh : isH h) : shp (h + 6) = .inl (0, 60) := by rcases hh with rfl | rfl | rfl <;> rfl
theorem sh_H7 {h : Nat} (hh : isH h) : shp (h + 7) = .inl (0, 60) := by rcases hh with rfl | rfl | rfl <;> rfl
theorem sh_H8 {h : Nat} (hh : isH h) : shp (h + 8) = .inl (2, 80) := by rcases hh with rfl | rfl | rfl <;> rfl
theorem sh_H9 {h : Nat} (hh : isH h) : shp (h + 9) = .inl (0, 48) := by rcases hh with rfl | rfl | rfl <;> rfl
abbrev isT (t : Nat) : Prop := t = 33 ∨ t = 50
theorem sh_T0 {t : Nat} (ht : isT t) : shp t = .inr (6, tallyFl t) := by rcases ht with rfl | rfl <;> rfl
theorem sh_T1 {t : Nat} (ht : isT t) : shp (t + 1) = .inl (0, 4096) := by rcases ht with rfl | rfl <;> rfl
theorem sh_T2 {t : Nat} (ht : isT t) : shp (t + 2) = .inl (0, 12) := by rcases ht with rfl | rfl <;> rfl
theorem sh_T3 {t : Nat} (ht : isT t) : shp (t + 3) = .inl (0, 144) := by rcases ht with rfl | rfl <;> rfl
abbrev isSh (k : Nat) : Prop := k = 63 ∨ k = 65 ∨ k = 67 ∨ k = 69
theorem sh_S0 {k : Nat} (hk : isSh k) : shp k = .inr (5, sheetFl k) := by rcases hk with rfl | rfl | rfl | rfl <;> rfl
theorem sh_S1 {k : Nat} (hk : isSh k) : shp (k + 1) = .inl (0, 24) := by rcases hk with rfl | rfl | rfl | rfl <;> rfl
theorem isSh_at {z : Int} (h0 : 0 ≤ z) (h1 : z < ((4 : Nat) : Int)) : isSh (63 + 2 * z.toNat) := by unfold isSh; omega
abbrev isN (k : Nat) : Prop := k = 72 ∨ k = 73 ∨ k = 74
theorem sh_N {k : Nat} (hk : isN k) : shp k = .inl (0, 553) := by rcases hk with rfl | rfl | rfl <;> rfl
/-- a condition as a number -/
noncomputable def bz (c : Prop) : Int := @ite Int c (Classical.propDecidable c) 1 0
theorem bz_t {c : Prop} (h : c) : bz c = 1 := by unfold bz; exact if_pos h
theorem bz_f {c : Prop} (h : ¬ c) : bz c = 0 := by unfold bz; exact if_neg h
theorem bz_01 (c : Prop) : bz c = 0 ∨ bz c = 1 := by
  by_cases h : c
  · exact Or.inr (bz_t h)
  · exact Or.inl (bz_f h)
theorem bz_inr (c : Prop) : inr (bz c) := by rcases bz_01 c with h | h <;> rw [h] <;> decide
theorem bz_0 {c : Prop} : bz c = 0 ↔ ¬ c := by
  constructor
  · intro h q
    rw [bz_t q] at h
    cases h
  · exact bz_f
theorem bz_1 {c : Prop} : bz c = 1 ↔ c := by
  constructor
  · intro h
    by_cases q : c
    · exact q
    · rw [bz_f q] at h
      cases h
  · exact bz_t
theorem bz_n0 {c : Prop} : bz c ≠ 0 ↔ c := by
  rw [Ne, bz_0, Classical.not_not]
theorem bz_iff {a b : Prop} (h : a ↔ b) : bz a = bz b := by rw [propext h]
theorem tbl_inr (t : Nat) (ht : t < 2) (n : Nat) : inr ((tbl t).getD n 0) := by
  have h : ∀ t, t < 2 → ((tbl t).all fun x => decide (inr x)) = true := by decide +kernel
  have h1 := h t ht
  rw [List.getD_eq_getElem?_getD]
  cases hn : (tbl t)[n]? with
  | none => decide
  | some y => simpa using List.all_eq_true.mp h1 y (List.mem_of_getElem? hn)
theorem lit_rng {t : Nat} (ht : t < 25) (n : Nat) : 0 ≤ (litB t).getD n 0 ∧ (litB t).getD n 0 < 128 := by
  have h : ∀ t, t < 25 → ((litB t).all fun x => decide (0 ≤ x ∧ x < 128)) = true := by decide +kernel
  have h1 := h t ht
  rw [List.getD_eq_getElem?_getD]
  cases hn : (litB t)[n]? with
  | none => decide
  | some y => simpa using List.all_eq_true.mp h1 y (List.mem_of_getElem? hn)
theorem lit_len2 {t : Nat} (ht : t < 25) : ((litB t).length : Int) ≤ 8 := by
  have h : ∀ t, t < 25 → ((litB t).length : Int) ≤ 8 := by decide +kernel
  exact h t ht
theorem tmax_inr {a b : Int} (ha : inr a) (hb : inr b) : inr (tmax a b) := by unfold tmax; split <;> assumption
theorem tmin_inr {a b : Int} (ha : inr a) (hb : inr b) : inr (tmin a b) := by unfold tmin; split <;> assumption
