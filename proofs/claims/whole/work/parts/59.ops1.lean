/-! ===== operations ===== -/
section OP
variable {G : GT} {d : Nat} {mem : Mem} {J : Int}
theorem f_addMc1 {mem : Mem} {k p c : Int} {a : Nat} {b : Int} (h : ¬ (1 ≤ a ∧ a ≤ 10)) : addMcM mem 1 k p c a b = mem a b := by
  unfold addMcM
  rw [upM_ne (by omega), upM_ne (by omega), upM_ne (by omega), upM_ne (by omega), upM_ne (by omega)]
theorem f_setTie1 {mem : Mem} {k p c : Int} {a : Nat} {b : Int} (h : ¬ (1 ≤ a ∧ a ≤ 10)) : setTieM mem 1 k p c a b = mem a b := by
  unfold setTieM
  rw [upM_ne (by omega), upM_ne (by omega)]
theorem f_addSy1 {mem : Mem} {k p c : Int} {a : Nat} {b : Int} (h : ¬ (1 ≤ a ∧ a ≤ 10)) : addSyM mem 1 k p c a b = mem a b := by
  unfold addSyM
  rw [upM_ne (by omega), upM_ne (by omega), upM_ne (by omega), upM_ne (by omega), upM_ne (by omega), upM_ne (by omega)]
theorem f_sil1 {mem : Mem} {k : Int} {a : Nat} {b : Int} (h : ¬ (1 ≤ a ∧ a ≤ 10)) : silM mem 1 k a b = mem a b := by
  unfold silM
  rw [upM_ne (by omega), upM_ne (by omega)]
theorem op_machine (hd : 40 ≤ d) (h : Rl J mem) {a b c : Int} (ha : inr a) (hb : inr b) (hc : inr c) : C_X10_machine G d [vR 0, vI a, vI b, vI c] mem (fun r m1 => ∃ z : Int, r = some (vI z) ∧ C_X11_machine_ G d [vR 71, vI a, vI b, vI c] m1 (An J z)) := by
  have v0 := h.1.1.1
  have r0 := h.1.2.1.1.1
  by_cases k : ((0 ≤ a ∧ a ≤ 5) ∧ (1 ≤ b ∧ b ≤ 99) ∧ (1 ≤ c ∧ c ≤ 9)) ∧ mem 72 0 < 12
  · refine B_X10_machine (by omega) ?_
    rw [r0]
    (repeat' first | apply And.intro | intro) <;> first | omega | skip
    rename_i m1 e1
    have g72 : m1 72 = mem 72 := funext (fun z => by rw [e1, f_addMc1 (by omega)])
    refine ⟨_, rfl, B_X11_machine_ (by omega) ?_⟩
    rw [g72]
    (repeat' first | apply And.intro | intro) <;> first | omega | skip
    rename_i m2 e2
    have k72 : m2 72 = aM (mem 72) a b c := by rw [e2, mkM_72, g72]
    refine an_mk (Rl_new h ?_ (fun x y p q _ => by rw [e2, mk_f q, e1, f_addMc1 p])) (by rw [k72, aM_0]; omega)
    rw [k72]
    refine ⟨aM_VN h.1.1 k.2 k.1.1 k.1.2.1 k.1.2.2, ?_, fun z => ?_, ?_⟩
    · have := aM_HR h.1.2.1 h.1.1 k.2 a b c
      rw [← e1] at this
      exact this.congr (fun x y p _ => by rw [e2, mk_f (by omega)])
    · exfalso
      rw [e2, mk_f (by omega), e1] at z
      unfold addMcM at z
      rw [upM_same] at z
      omega
    · rw [e2, mk_f (by omega), e1, f_addMc1 (by omega)]; exact h.1.2.2.2
  · refine B_X10_machine (by omega) ?_
    rw [r0]
    (repeat' first | apply And.intro | intro) <;> first | omega | (
      rename_i m1 e1
      have g72 := ref72 e1
      refine ⟨_, rfl, B_X11_machine_ (by omega) ?_⟩
      (try rw [g72])
      (repeat' first | apply And.intro | intro) <;> first | omega | (exact an_ref h (by decide) (by decide) e1 (by assumption)))
theorem op_most (hd : 40 ≤ d) (h : Rl J mem) {a : Int} (ha : inr a) : C_X10_most G d [vR 0, vI a] mem (fun r m1 => ∃ z : Int, r = some (vI z) ∧ C_X11_most G d [vR 71, vI a] m1 (An J z)) := by
  have r2 := h.1.2.1.1.2.2.1
  by_cases k : 0 ≤ a ∧ a ≤ 12
  · refine B_X10_most (by omega) ?_
    (repeat' first | apply And.intro | intro) <;> first | omega | skip
    rename_i m1 e1
    have g72 : m1 72 = mem 72 := by rw [e1, upM_cell (by omega), upM_cell (by omega)]
    refine ⟨_, rfl, B_X11_most (by omega) ?_⟩
    rw [g72]
    (repeat' first | apply And.intro | intro) <;> first | omega | skip
    rename_i m2 e2
    have k72 : m2 72 = sU (mem 72) 2 a := by rw [e2, upM_self, g72]
    refine an_mk (Rl_new h ?_ (fun x y p q _ => by rw [e2, upM_ne (by omega), e1, upM_ne (by omega), upM_ne (by omega)])) r2.symm
    rw [k72]
    refine ⟨VN_most h.1.1 k.1 k.2, ?_, fun z => ?_, ?_⟩
    · have := HR_most h.1.2.1 h.1.1 a
      rw [← e1] at this
      exact this.congr (fun x y p _ => by rw [e2, upM_ne (by omega)])
    · exfalso
      rw [e2, upM_ne (by omega), e1, upM_same] at z
      omega
    · rw [e2, upM_ne (by omega), e1, upM_ne (by omega), upM_ne (by omega)]; exact h.1.2.2.2
  · refine B_X10_most (by omega) ?_
    (repeat' first | apply And.intro | intro) <;> first | omega | (
      rename_i m1 e1
      have g72 := ref72 e1
      refine ⟨_, rfl, B_X11_most (by omega) ?_⟩
      (try rw [g72])
      (repeat' first | apply And.intro | intro) <;> first | omega | (exact an_ref h (by decide) (by decide) e1 (by assumption)))
theorem op_told (hd : 40 ≤ d) (h : Rl J mem) {a : Int} (ha : inr a) : C_X10_told G d [vR 0, vI a] mem (fun r m1 => ∃ z : Int, r = some (vI z) ∧ C_X11_told G d [vR 71, vI a] m1 (An J z)) := by
  by_cases k : 1 ≤ a ∧ a ≤ 6
  · refine B_X10_told (by omega) ?_
    (repeat' first | apply And.intro | intro) <;> first | omega | skip
    refine ⟨_, rfl, B_X11_told (by omega) ?_⟩
    (repeat' first | apply And.intro | intro) <;> first | omega | skip
    exact an_mk h (h.2.2.1 a (by omega) (by omega)).symm
  · refine B_X10_told (by omega) ?_
    (repeat' first | apply And.intro | intro) <;> first | omega | (
      rename_i m1 e1
      have g72 := ref72 e1
      refine ⟨_, rfl, B_X11_told (by omega) ?_⟩
      (try rw [g72])
      (repeat' first | apply And.intro | intro) <;> first | omega | (exact an_ref h (by decide) (by decide) e1 (by assumption)))
theorem op_tell (hd : 40 ≤ d) (h : Rl J mem) {a : Int} (ha : inr a) : C_X10_tell G d [vR 0, vI a] mem (fun r m1 => ∃ z : Int, r = some (vI z) ∧ C_X11_tell G d [vR 71, vI a] m1 (An J z)) := by
  have r15 := h.1.2.1.1.2.2.2.2
  have v4 := h.1.1.2.2.2.2.1
  by_cases k : mem 72 4 < 48
  · refine B_X10_tell (by omega) ?_
    rw [r15]
    (repeat' first | apply And.intro | intro) <;> first | omega | skip
    rename_i m1 e1
    have g72 : m1 72 = mem 72 := by rw [e1, upM_cell (by omega), upM_cell (by omega)]
    refine ⟨_, rfl, B_X11_tell (by omega) ?_⟩
    rw [g72]
    refine ⟨fun _ => ⟨by omega, ha, fun m2 e2 => ?_⟩, fun z => by omega⟩
    have e4 : m2 72 4 = mem 72 4 := by rw [e2, upM_ne (by omega), g72]
    rw [e4]
    refine ⟨by omega, fun m3 e3 => ?_⟩
    have k72 : m3 72 = sU (sU (mem 72) (505 + mem 72 4) a) 4 (mem 72 4 + 1) := by rw [e3, upM_self, e2, upM_self, g72]
    refine an_mk (Rl_new h ?_ (fun x y p q _ => by rw [e3, upM_ne (by omega), e2, upM_ne (by omega), e1, upM_ne (by omega), upM_ne (by omega)])) (by rw [e3, upM_same])
    rw [k72]
    refine ⟨VN_waits (VN_wait h.1.1 (by omega)) (by omega) (by omega), ?_, fun z => ?_, ?_⟩
    · have := HR_tell h.1.2.1 h.1.1 a k
      rw [r15, ← e1] at this
      exact this.congr (fun x y p _ => by rw [e3, upM_ne (by omega), e2, upM_ne (by omega)])
    · rw [e3, upM_ne (by omega), e2, upM_ne (by omega), e1, upM_ne (by omega), upM_ne (by omega)] at z
      refine FT_c h.1.1 ⟨?_, ?_, ?_, fun x p q => ?_, fun x p q => ?_⟩ (h.1.2.2.1 z) (fun x => ?_) (fun x => ?_) ?_
      · rw [sU_ne (by omega), sU_ne (by omega)]
      · rw [sU_ne (by omega), sU_ne (by omega)]
      · rw [sU_ne (by omega), sU_ne (by omega)]
      · rw [sU_ne (by omega), sU_ne (by omega)]
      · rw [sU_ne (by omega), sU_ne (by omega)]
      · rw [e3, upM_ne (by omega), e2, upM_ne (by omega), e1, upM_ne (by omega), upM_ne (by omega)]
      · rw [e3, upM_ne (by omega), e2, upM_ne (by omega), e1, upM_ne (by omega), upM_ne (by omega)]
      · rw [e3, upM_ne (by omega), e2, upM_ne (by omega), e1, upM_ne (by omega), upM_ne (by omega)]
    · rw [e3, upM_ne (by omega), e2, upM_ne (by omega), e1, upM_ne (by omega), upM_ne (by omega)]; exact h.1.2.2.2
  · refine B_X10_tell (by omega) ?_
    rw [r15]
    (repeat' first | apply And.intro | intro) <;> first | omega | (
      rename_i m1 e1
      have g72 := ref72 e1
      refine ⟨_, rfl, B_X11_tell (by omega) ?_⟩
      (try rw [g72])
      (repeat' first | apply And.intro | intro) <;> first | omega | (exact an_ref h (by decide) (by decide) e1 (by assumption)))
theorem op_tie (hd : 40 ≤ d) (h : Rl J mem) {a b c : Int} (ha : inr a) (hb : inr b) (hc : inr c) : C_X10_tie G d [vR 0, vI a, vI b, vI c] mem (fun r m1 => ∃ z : Int, r = some (vI z) ∧ C_X11_tie G d [vR 71, vI a, vI b, vI c] m1 (An J z)) := by
  have v0 := h.1.1.1
  have r0 := h.1.2.1.1.1
  by_cases k : ((0 ≤ a ∧ a < mem 72 0) ∧ (0 ≤ b ∧ b < mem 72 0) ∧ (0 ≤ c ∧ c ≤ 99)) ∧ a ≠ b
  · refine B_X10_tie (by omega) ?_
    rw [r0]
    (repeat' first | apply And.intro | intro) <;> first | omega | skip
    rename_i m1 e1
    have g72 : m1 72 = mem 72 := funext (fun z => by rw [e1, f_setTie1 (by omega)])
    refine ⟨_, rfl, B_X11_tie (by omega) ?_⟩
    rw [g72]
    (repeat' first | apply And.intro | intro) <;> first | omega | skip
    rename_i m2 e2
    have k72 : m2 72 = sU (mem 72) (41 + 12 * a + b) c := by rw [e2, upM_self, g72]
    have cost := h.1.2.1.2.2.1 a b (by omega) (by omega) (by omega) (by omega)
    refine an_mk (Rl_new h ?_ (fun x y p q _ => by rw [e2, upM_ne (by omega), e1, f_setTie1 p])) cost.symm
    rw [k72]
    obtain ⟨x, rfl⟩ : ∃ x : Nat, a = x := ⟨a.toNat, by omega⟩
    obtain ⟨y, rfl⟩ : ∃ y : Nat, b = y := ⟨b.toNat, by omega⟩
    refine ⟨VN_tie h.1.1 (by omega) (by omega) (by omega) (by omega) k.2 (by omega) (by omega), ?_, fun z => ?_, ?_⟩
    · have := HR_tie h.1.2.1 h.1.1 (x := x) (y := y) (by omega) (by omega) (v := c) (by omega)
      rw [← e1] at this
      exact this.congr (fun x y p _ => by rw [e2, upM_ne (by omega)])
    · rw [e2, upM_ne (by omega), e1] at z
      unfold setTieM at z
      rw [upM_ne (by omega), upM_ne (by omega)] at z
      refine FT_c h.1.1 ⟨?_, ?_, ?_, fun x p q => ?_, fun x p q => ?_⟩ (h.1.2.2.1 z) (fun x => ?_) (fun x => ?_) ?_
      · rw [sU_ne (by omega)]
      · rw [sU_ne (by omega)]
      · rw [sU_ne (by omega)]
      · rw [sU_ne (by omega)]
      · rw [sU_ne (by omega)]
      · rw [e2, upM_ne (by omega), e1, f_setTie1 (by omega)]
      · rw [e2, upM_ne (by omega), e1, f_setTie1 (by omega)]
      · rw [e2, upM_ne (by omega), e1, f_setTie1 (by omega)]
    · rw [e2, upM_ne (by omega), e1, f_setTie1 (by omega)]; exact h.1.2.2.2
  · refine B_X10_tie (by omega) ?_
    rw [r0]
    (repeat' first | apply And.intro | intro) <;> first | omega | (
      rename_i m1 e1
      have g72 := ref72 e1
      refine ⟨_, rfl, B_X11_tie (by omega) ?_⟩
      (try rw [g72])
      (repeat' first | apply And.intro | intro) <;> first | omega | (exact an_ref h (by decide) (by decide) e1 (by assumption)))
theorem op_unsay (hd : 40 ≤ d) (h : Rl J mem) {a : Int} (ha : inr a) : C_X10_unsay G d [vR 0, vI a] mem (fun r m1 => ∃ z : Int, r = some (vI z) ∧ C_X11_unsay G d [vR 71, vI a] m1 (An J z)) := by
  have v1 := h.1.1.2.1
  have r6 := h.1.2.1.1.2.1
  by_cases k : 0 ≤ a ∧ a < mem 72 1
  · obtain ⟨x, rfl⟩ : ∃ x : Nat, a = x := ⟨a.toNat, by omega⟩
    have vl := h.1.2.1.valid (s := x) (by omega)
    have vc : (land (lshr (mem 1 10) x) 1 ≠ 0) ↔ mem 72 (185 + 4 * (x : Int) + 3) = 1 := by
      rw [vl, bI_ne0]
      unfold cnt
      rw [decide_eq_true_iff]
    by_cases c : mem 72 (185 + 4 * (x : Int) + 3) = 1
    · refine B_X10_unsay (by omega) ?_
      rw [r6]
      refine ⟨ha, fun _ => ⟨fun _ m1 e1 => ?_, fun z => absurd (vc.mpr c) z⟩, fun z => absurd k z⟩
      have g72 : m1 72 = mem 72 := funext (fun z => by rw [e1, f_sil1 (by omega)])
      refine ⟨_, rfl, B_X11_unsay (by omega) ?_⟩
      rw [g72]
      refine ⟨ha, by omega, fun _ => ⟨by omega, fun _ => ⟨by omega, fun m2 e2 => ?_⟩, fun z => absurd c z⟩, fun z => absurd k z⟩
      have k72 : m2 72 = sU (mem 72) (185 + 4 * (x : Int) + 3) 0 := by rw [e2, upM_self, g72]
      refine an_mk (Rl_new h ?_ (fun x y p q _ => by rw [e2, upM_ne (by omega), e1, f_sil1 p])) rfl
      rw [k72]
      refine ⟨VN_cnt0 h.1.1 (by omega) (by omega), ?_, fun z => ?_, ?_⟩
      · have := HR_cnt0 h.1.2.1 h.1.1 (x := x) (by omega)
        rw [← e1] at this
        exact this.congr (fun x y p _ => by rw [e2, upM_ne (by omega)])
      · exfalso
        rw [e2, upM_ne (by omega), e1] at z
        unfold silM at z
        rw [upM_same] at z
        omega
      · rw [e2, upM_ne (by omega), e1, f_sil1 (by omega)]; exact h.1.2.2.2
    · refine B_X10_unsay (by omega) ?_
      rw [r6]
      refine ⟨ha, fun _ => ⟨fun z => absurd (vc.mp z) c, fun _ m1 e1 => ?_⟩, fun z => absurd k z⟩
      refine ⟨_, rfl, B_X11_unsay (by omega) ?_⟩
      rw [ref72 e1]
      exact ⟨ha, by omega, fun _ => ⟨by omega, fun z => absurd z c, fun _ m2 e2 => an_ref h (by decide) (by decide) e1 e2⟩, fun z => absurd k z⟩
  · refine B_X10_unsay (by omega) ?_
    rw [r6]
    (repeat' first | apply And.intro | intro) <;> first | omega | (
      rename_i m1 e1
      have g72 := ref72 e1
      refine ⟨_, rfl, B_X11_unsay (by omega) ?_⟩
      (try rw [g72])
      (repeat' first | apply And.intro | intro) <;> first | omega | (exact an_ref h (by decide) (by decide) e1 (by assumption)))
theorem op_sayingIs (hd : 40 ≤ d) (h : Rl J mem) {a b : Int} (ha : inr a) (hb : inr b) : C_X10_sayingIs G d [vR 0, vI a, vI b] mem (fun r m1 => ∃ z : Int, r = some (vI z) ∧ C_X11_sayingIs G d [vR 71, vI a, vI b] m1 (An J z)) := by
  have v1 := h.1.1.2.1
  have r6 := h.1.2.1.1.2.1
  by_cases k : (0 ≤ a ∧ a < mem 72 1) ∧ 0 ≤ b ∧ b ≤ 3
  · have q : ∀ z : Int, z = mem 72 (185 + 4 * a + b) → ∃ z' : Int, some (vI z) = some (vI z') ∧ C_X11_sayingIs G d [vR 71, vI a, vI b] mem (An J z') := fun z hz => by
      refine ⟨_, rfl, B_X11_sayingIs (by omega) ?_⟩
      (repeat' first | apply And.intro | intro) <;> first | omega | skip
      exact an_mk h hz.symm
    obtain ⟨x, rfl⟩ : ∃ x : Nat, a = x := ⟨a.toNat, by omega⟩
    have vl := h.1.2.1.valid (s := x) (by omega)
    have vw := h.1.2.1.whole (s := x) (by omega) k.1.2
    have sv := h.1.1.2.2.2.2.2.2.2.2.1 x (by omega) (by omega)
    have sr := h.1.2.1.2.2.2.2.1 x (by omega) (by omega)
    refine B_X10_sayingIs (by omega) ?_
    rw [r6, vl, vw, bI_ne0, bI_ne0]
    unfold cnt
    rw [decide_eq_true_iff, decide_eq_true_iff]
    refine ⟨ha, fun z => absurd k.1 z, fun _ => ⟨hb, fun _ => ⟨fun z => ⟨by omega, q _ ?_⟩, fun z => ⟨by omega, q _ ?_⟩, fun z => ⟨fun y => q _ ?_, fun y => q _ ?_⟩, fun z => ⟨fun y => q _ ?_, fun y => q _ ?_⟩⟩, fun z => by omega⟩⟩
    · rw [z, Int.add_zero]; exact sr.1
    · rw [z]; exact sr.2
    · rw [z]; omega
    · rw [z]; omega
    · rw [show b = 3 by omega]; omega
    · rw [show b = 3 by omega]; omega
  · by_cases c : 0 ≤ a ∧ a < mem 72 1
    · refine B_X10_sayingIs (by omega) ?_
      rw [r6]
      refine ⟨ha, fun z => absurd c z, fun _ => ⟨hb, fun z => by omega, fun _ m1 e1 => ⟨_, rfl, B_X11_sayingIs (by omega) ?_⟩⟩⟩
      rw [ref72 e1]
      exact ⟨ha, by omega, fun z => absurd c z, fun _ => ⟨hb, fun _ m2 e2 => an_ref h (by decide) (by decide) e1 e2, fun z => by omega⟩⟩
    · refine B_X10_sayingIs (by omega) ?_
      rw [r6]
      refine ⟨ha, fun _ m1 e1 => ⟨_, rfl, B_X11_sayingIs (by omega) ?_⟩, fun z => absurd z c⟩
      rw [ref72 e1]
      exact ⟨ha, by omega, fun _ m2 e2 => an_ref h (by decide) (by decide) e1 e2, fun z => absurd z c⟩
end OP
