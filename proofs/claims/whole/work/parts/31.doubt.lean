/-! ===== small contracts of Doubt; the divisor ===== -/
def grO (s a : Int) : Int := bitc s - Int.tdiv (bitc a) 2
theorem iand63 (y : Int) : 0 ≤ iand y 63 ∧ iand y 63 ≤ 63 := by
  unfold iand
  have h2 : (Int32.ofInt y &&& Int32.ofInt 63).toInt = ((Int32.ofInt y).toBitVec &&& 63#32).toInt := rfl
  rw [h2]
  generalize (Int32.ofInt y).toBitVec = v
  have h3 : (v &&& 63#32).toNat ≤ 63 := by
    rw [BitVec.toNat_and]
    exact Nat.and_le_right
  rw [BitVec.toInt_eq_toNat_of_lt (by omega)]
  omega
theorem bitc_b (x : Int) : 0 ≤ bitc x ∧ bitc x ≤ 63 := by
  show 0 ≤ iand _ 63 ∧ iand _ 63 ≤ 63
  exact iand63 _
theorem tdiv2 {x : Int} (h : 0 ≤ x) : Int.tdiv x 2 = x / 2 := Int.tdiv_eq_ediv_of_nonneg h
theorem grO_inr (s a : Int) : inr (grO s a) := by
  have h1 := bitc_b s
  have h2 := bitc_b a
  unfold grO
  rw [tdiv2 h2.1]
  omega
def chG (s a f t : Int) : Int := if iand (ishr s f) 1 = 0 then (if iand a (ixor (ishl 1 t) (-1)) = 0 then 13 else grO s (iand a (ixor (ishl 1 t) (-1)))) else (if a = 0 then 13 else grO s a)
theorem chG_inr (s a f t : Int) : inr (chG s a f t) := by
  unfold chG
  split
  · split
    · decide
    · exact grO_inr _ _
  · split
    · decide
    · exact grO_inr _ _
section DB
variable {G : GT} {d : Nat} {mem : Mem} {Q : Option AV → Mem → Prop}
theorem ct_apartIn {s : Int} (hd : 1 ≤ d) (h0 : 0 ≤ iand (ishl 1 (mem 1 0) - 1) (ixor s (-1))) (h1 : iand (ishl 1 (mem 1 0) - 1) (ixor s (-1)) < 4096) (hq : Q (some (vI (iand s (ixor (mem 44 (iand (ishl 1 (mem 1 0) - 1) (ixor s (-1)))) (-1))))) mem) : C_X0_apartIn G d [vR 42, vI s] mem Q := B_X0_apartIn hd ⟨⟨h0, h1⟩, hq⟩
theorem ct_greaterOf {s a : Int} (hd : 1 ≤ d) (hq : Q (some (vI (grO s a))) mem) : C_X0_greaterOf G d [vI s, vI a] mem Q := B_X0_greaterOf hd hq
theorem ct_changedGreater {s a f t : Int} (hd : 2 ≤ d) (ha : inr a) (hq : Q (some (vI (chG s a f t))) mem) : C_X0_changedGreater G d [vI s, vI a, vI f, vI t] mem Q := by
  unfold chG at hq
  refine B_X0_changedGreater (by omega) ⟨fun z => ⟨fun y => ct_greaterOf (by omega) ⟨_, rfl, ?_⟩, fun y => ?_⟩, fun z => ⟨ha, fun y => ct_greaterOf (by omega) ⟨_, rfl, ?_⟩, fun y => ?_⟩⟩
  · rw [if_pos z, if_neg y] at hq; exact hq
  · rw [if_pos z, if_pos (Classical.not_not.mp y)] at hq; exact hq
  · rw [if_neg z, if_neg y] at hq; exact hq
  · rw [if_neg z, if_pos (Classical.not_not.mp y)] at hq; exact hq
theorem ct_knowable (hq : Q (some (vI (mem 42 5 - 1))) mem) : C_X0_knowable G d [vR 42] mem Q := B_X0_knowable hq
theorem ct_divisor : ∀ (f : Nat) {d : Nat} {a b : Int} {Q : Option AV → Mem → Prop}, f + 1 ≤ d → 0 ≤ a → a < 9223372036854775808 → 0 ≤ b → b < 9223372036854775808 → eucT f a b → Q (some (vL (euc f a b))) mem → C_X11_divisor G d [vL a, vL b] mem Q := by
  intro f
  induction f with
  | zero =>
    intro d a b Q hd h0 h1 h2 h3 hT hq
    have hb : b = 0 := hT
    refine B_X11_divisor (by omega) ⟨by omega, fun z => absurd (lcmp_0.mpr hb) z, fun _ => hq⟩
  | succ f ih =>
    intro d a b Q hd h0 h1 h2 h3 hT hq
    unfold euc at hq
    refine B_X11_divisor (by omega) ⟨by omega, fun z => ?_, fun z => ?_⟩
    · have hb : b ≠ 0 := fun w => z (lcmp_0.mpr w)
      rw [if_neg hb] at hq
      have r := tmod_r (a := a) (b := b) h0 (by omega)
      refine ⟨by omega, hb, ?_⟩
      refine ih (by omega) h2 h3 r.1 (by omega) ?_ ⟨_, rfl, hq⟩
      rcases hT with h | h
      · exact absurd h hb
      · exact h
    · rw [if_pos (lcmp_0.mp (Classical.not_not.mp z))] at hq
      exact hq
end DB
