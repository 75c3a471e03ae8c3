/-! ===== a hall holds the state still, behind each write ===== -/
theorem HR_most {h : Nat} {S : NS} {mem : Mem} (hR : HR h S mem) (hV : VN S) (v : Int) : HR h (sU S 2 v) (upM (upM mem h 11 v) h 16 1) := by
  obtain ⟨z0, z1, z2, z3, z4, z5, z6, z7, z8, z9⟩ := id hV
  obtain ⟨⟨a1, a2, a3, a4, a5⟩, b, cc, dd, f, g, kk, l, m⟩ := id hR
  have hm : ∀ (a : Nat) (b : Int), ¬ (a = h ∧ (b = 11 ∨ b = 16)) → (upM (upM mem h 11 v) h 16 1) a b = mem a b := by
    intro a b q
    rw [upM_ne (by omega), upM_ne (by omega)]
  have so : ∀ x : Int, x ≠ 2 → (sU S 2 v) x = S x := by
    intro x q
    exact sU_ne q
  refine ⟨⟨?_, ?_, ?_, ?_, ?_⟩, fun i h0 h1 => ?_, fun i j h0 h1 h2 h3 => ?_, fun i hi => ?_, fun s h0 h1 => ?_, ?_, ?_, fun i h0 h1 => ?_, fun i h0 h1 => ?_⟩
  · rw [hm _ _ (by omega), so _ (by omega), a1]
  · rw [hm _ _ (by omega), so _ (by omega), a2]
  · rw [sU_same, upM_ne (by omega), upM_same]
  · rw [hm _ _ (by omega), so _ (by omega), a4]
  · rw [hm _ _ (by omega), so _ (by omega), a5]
  · rw [hm _ _ (by omega), hm _ _ (by omega), hm _ _ (by omega), so _ (by omega), so _ (by omega), so _ (by omega)]; exact b i h0 h1
  · rw [hm _ _ (by omega), so _ (by omega)]; exact cc i j h0 h1 h2 h3
  · rw [hm _ _ (by omega)]
    obtain ⟨q, q1, q2, q3⟩ := dd i hi
    exact ⟨q, q1, q2, fun j hj => by rw [so _ (by omega)]; exact q3 j hj⟩
  · rw [hm _ _ (by omega), hm _ _ (by omega), so _ (by omega), so _ (by omega)]; exact f s h0 h1
  · rw [hm _ _ (by omega)]
    obtain ⟨q, q1, q2, q3⟩ := g
    exact ⟨q, q1, q2, fun s hs hs2 => by rw [so _ (by omega)] at hs2 ⊢; exact q3 s hs hs2⟩
  · rw [hm _ _ (by omega)]
    obtain ⟨q, q1, q2, q3⟩ := kk
    exact ⟨q, q1, q2, fun s hs => by rw [so _ (by omega)]; exact q3 s hs⟩
  · rw [hm _ _ (by omega), so _ (by omega)]; exact l i h0 h1
  · rw [hm _ _ (by omega), so _ (by omega)]; exact m i h0 h1
theorem HR_waits {h : Nat} {S : NS} {mem : Mem} (hR : HR h S mem) (hV : VN S) (v : Int) : HR h (sU S 4 v) (upM mem h 15 v) := by
  obtain ⟨z0, z1, z2, z3, z4, z5, z6, z7, z8, z9⟩ := id hV
  obtain ⟨⟨a1, a2, a3, a4, a5⟩, b, cc, dd, f, g, kk, l, m⟩ := id hR
  have hm : ∀ (a : Nat) (b : Int), ¬ (a = h ∧ b = 15) → (upM mem h 15 v) a b = mem a b := by
    intro a b q
    rw [upM_ne (by omega)]
  have so : ∀ x : Int, x ≠ 4 → (sU S 4 v) x = S x := by
    intro x q
    exact sU_ne q
  refine ⟨⟨?_, ?_, ?_, ?_, ?_⟩, fun i h0 h1 => ?_, fun i j h0 h1 h2 h3 => ?_, fun i hi => ?_, fun s h0 h1 => ?_, ?_, ?_, fun i h0 h1 => ?_, fun i h0 h1 => ?_⟩
  · rw [hm _ _ (by omega), so _ (by omega), a1]
  · rw [hm _ _ (by omega), so _ (by omega), a2]
  · rw [hm _ _ (by omega), so _ (by omega), a3]
  · rw [hm _ _ (by omega), so _ (by omega), a4]
  · rw [sU_same, upM_same]
  · rw [hm _ _ (by omega), hm _ _ (by omega), hm _ _ (by omega), so _ (by omega), so _ (by omega), so _ (by omega)]; exact b i h0 h1
  · rw [hm _ _ (by omega), so _ (by omega)]; exact cc i j h0 h1 h2 h3
  · rw [hm _ _ (by omega)]
    obtain ⟨q, q1, q2, q3⟩ := dd i hi
    exact ⟨q, q1, q2, fun j hj => by rw [so _ (by omega)]; exact q3 j hj⟩
  · rw [hm _ _ (by omega), hm _ _ (by omega), so _ (by omega), so _ (by omega)]; exact f s h0 h1
  · rw [hm _ _ (by omega)]
    obtain ⟨q, q1, q2, q3⟩ := g
    exact ⟨q, q1, q2, fun s hs hs2 => by rw [so _ (by omega)] at hs2 ⊢; exact q3 s hs hs2⟩
  · rw [hm _ _ (by omega)]
    obtain ⟨q, q1, q2, q3⟩ := kk
    exact ⟨q, q1, q2, fun s hs => by rw [so _ (by omega)]; exact q3 s hs⟩
  · rw [hm _ _ (by omega), so _ (by omega)]; exact l i h0 h1
  · rw [hm _ _ (by omega), so _ (by omega)]; exact m i h0 h1
theorem HR_taped {h : Nat} {S : NS} {mem : Mem} (hR : HR h S mem) (hV : VN S) (v : Int) : HR h (sU S 3 v) (upM mem h 13 v) := by
  obtain ⟨z0, z1, z2, z3, z4, z5, z6, z7, z8, z9⟩ := id hV
  obtain ⟨⟨a1, a2, a3, a4, a5⟩, b, cc, dd, f, g, kk, l, m⟩ := id hR
  have hm : ∀ (a : Nat) (b : Int), ¬ (a = h ∧ b = 13) → (upM mem h 13 v) a b = mem a b := by
    intro a b q
    rw [upM_ne (by omega)]
  have so : ∀ x : Int, x ≠ 3 → (sU S 3 v) x = S x := by
    intro x q
    exact sU_ne q
  refine ⟨⟨?_, ?_, ?_, ?_, ?_⟩, fun i h0 h1 => ?_, fun i j h0 h1 h2 h3 => ?_, fun i hi => ?_, fun s h0 h1 => ?_, ?_, ?_, fun i h0 h1 => ?_, fun i h0 h1 => ?_⟩
  · rw [hm _ _ (by omega), so _ (by omega), a1]
  · rw [hm _ _ (by omega), so _ (by omega), a2]
  · rw [hm _ _ (by omega), so _ (by omega), a3]
  · rw [sU_same, upM_same]
  · rw [hm _ _ (by omega), so _ (by omega), a5]
  · rw [hm _ _ (by omega), hm _ _ (by omega), hm _ _ (by omega), so _ (by omega), so _ (by omega), so _ (by omega)]; exact b i h0 h1
  · rw [hm _ _ (by omega), so _ (by omega)]; exact cc i j h0 h1 h2 h3
  · rw [hm _ _ (by omega)]
    obtain ⟨q, q1, q2, q3⟩ := dd i hi
    exact ⟨q, q1, q2, fun j hj => by rw [so _ (by omega)]; exact q3 j hj⟩
  · rw [hm _ _ (by omega), hm _ _ (by omega), so _ (by omega), so _ (by omega)]; exact f s h0 h1
  · rw [hm _ _ (by omega)]
    obtain ⟨q, q1, q2, q3⟩ := g
    exact ⟨q, q1, q2, fun s hs hs2 => by rw [so _ (by omega)] at hs2 ⊢; exact q3 s hs hs2⟩
  · rw [hm _ _ (by omega)]
    obtain ⟨q, q1, q2, q3⟩ := kk
    exact ⟨q, q1, q2, fun s hs => by rw [so _ (by omega)]; exact q3 s hs⟩
  · rw [hm _ _ (by omega), so _ (by omega)]; exact l i h0 h1
  · rw [hm _ _ (by omega), so _ (by omega)]; exact m i h0 h1
theorem HR_tell {h : Nat} {S : NS} {mem : Mem} (hR : HR h S mem) (hV : VN S) (v : Int) (hn : S 4 < 48) : HR h (sU (sU S (505 + S 4) v) 4 (S 4 + 1)) (upM (upM mem (h + 9) (mem h 15) v) h 15 (mem h 15 + 1)) := by
  obtain ⟨z0, z1, z2, z3, z4, z5, z6, z7, z8, z9⟩ := id hV
  obtain ⟨⟨a1, a2, a3, a4, a5⟩, b, cc, dd, f, g, kk, l, m⟩ := id hR
  have hm : ∀ (a : Nat) (b : Int), ¬ (a = h ∧ b = 15) ∧ ¬ (a = h + 9 ∧ b = S 4) → (upM (upM mem (h + 9) (mem h 15) v) h 15 (mem h 15 + 1)) a b = mem a b := by
    intro a b q
    rw [a5, upM_ne (by omega), upM_ne (by omega)]
  have so : ∀ x : Int, x ≠ 4 ∧ x ≠ 505 + S 4 → (sU (sU S (505 + S 4) v) 4 (S 4 + 1)) x = S x := by
    intro x q
    rw [sU_ne q.1, sU_ne q.2]
  refine ⟨⟨?_, ?_, ?_, ?_, ?_⟩, fun i h0 h1 => ?_, fun i j h0 h1 h2 h3 => ?_, fun i hi => ?_, fun s h0 h1 => ?_, ?_, ?_, fun i h0 h1 => ?_, fun i h0 h1 => ?_⟩
  · rw [hm _ _ (by omega), so _ (by omega), a1]
  · rw [hm _ _ (by omega), so _ (by omega), a2]
  · rw [hm _ _ (by omega), so _ (by omega), a3]
  · rw [hm _ _ (by omega), so _ (by omega), a4]
  · rw [sU_same, upM_same, a5]
  · rw [hm _ _ (by omega), hm _ _ (by omega), hm _ _ (by omega), so _ (by omega), so _ (by omega), so _ (by omega)]; exact b i h0 h1
  · rw [hm _ _ (by omega), so _ (by omega)]; exact cc i j h0 h1 h2 h3
  · rw [hm _ _ (by omega)]
    obtain ⟨q, q1, q2, q3⟩ := dd i hi
    exact ⟨q, q1, q2, fun j hj => by rw [so _ (by omega)]; exact q3 j hj⟩
  · rw [hm _ _ (by omega), hm _ _ (by omega), so _ (by omega), so _ (by omega)]; exact f s h0 h1
  · rw [hm _ _ (by omega)]
    obtain ⟨q, q1, q2, q3⟩ := g
    exact ⟨q, q1, q2, fun s hs hs2 => by rw [so _ (by omega)] at hs2 ⊢; exact q3 s hs hs2⟩
  · rw [hm _ _ (by omega)]
    obtain ⟨q, q1, q2, q3⟩ := kk
    exact ⟨q, q1, q2, fun s hs => by rw [so _ (by omega)]; exact q3 s hs⟩
  · rw [hm _ _ (by omega), so _ (by omega)]; exact l i h0 h1
  · by_cases hi : i = S 4
    · rw [hi, sU_ne (by omega), sU_same, a5, upM_ne (by omega), upM_same]
    · rw [hm _ _ (by omega), so _ (by omega)]; exact m i h0 h1
theorem p2 {y n : Nat} (hy : y < n) : 2 ^ y < 2 ^ n := Nat.pow_lt_pow_right (by decide) hy
theorem tie_bits {c y : Nat} (hc : c < 4096) (hy : y < 12) (v : Int) : ∃ c2 : Nat, (if v = 0 then iand c (ixor (ishl 1 y) (-1)) else ior c (ishl 1 y)) = (c2 : Int) ∧ c2 < 4096 ∧ ∀ j : Nat, j < 12 → c2.testBit j = if j = y then decide (v ≠ 0) else c.testBit j := by
  have hp : 2 ^ y < 4096 := p2 hy
  rw [ishl_1 (by omega)]
  by_cases hv : v = 0
  · rw [if_pos hv, iand_wo (by omega) (by omega)]
    refine ⟨_, rfl, wo_lt (n := 12) hc, fun j hj => ?_⟩
    rw [wo_tb, Nat.testBit_two_pow]
    by_cases hjy : j = y
    · rw [if_pos hjy, decide_eq_true hjy.symm, decide_eq_false (by simp [hv])]; simp
    · rw [if_neg hjy, decide_eq_false (fun q => hjy q.symm)]; simp
  · rw [if_neg hv, ior_nn (by omega) (by omega)]
    refine ⟨_, rfl, Nat.or_lt_two_pow (n := 12) hc hp, fun j hj => ?_⟩
    rw [Nat.testBit_or, Nat.testBit_two_pow]
    by_cases hjy : j = y
    · rw [if_pos hjy, decide_eq_true hjy.symm, decide_eq_true hv]; simp
    · rw [if_neg hjy, decide_eq_false (fun q => hjy q.symm)]; simp
theorem HR_tie {h : Nat} {S : NS} {mem : Mem} (hR : HR h S mem) (hV : VN S) {x y : Nat} (hx : x < 12) (hy : y < 12) {v : Int} (hv : 0 ≤ v) : HR h (sU S (41 + 12 * x + y) v) (setTieM mem h x y v) := by
  obtain ⟨z0, z1, z2, z3, z4, z5, z6, z7, z8, z9⟩ := id hV
  obtain ⟨⟨a1, a2, a3, a4, a5⟩, b, cc, dd, f, g, kk, l, m⟩ := id hR
  have hm : ∀ (a : Nat) (b : Int), ¬ (a = h + 5 ∧ b = (x : Int) * 12 + y) ∧ ¬ (a = h + 4 ∧ b = x) → (setTieM mem h x y v) a b = mem a b := by
    intro a b q
    unfold setTieM
    rw [upM_ne (by omega), upM_ne (by omega)]
  have so : ∀ x9 : Int, x9 ≠ 41 + 12 * (x : Int) + y → (sU S (41 + 12 * x + y) v) x9 = S x9 := by
    intro x9 q
    exact sU_ne q
  refine ⟨⟨?_, ?_, ?_, ?_, ?_⟩, fun i h0 h1 => ?_, fun i j h0 h1 h2 h3 => ?_, fun i hi => ?_, fun s h0 h1 => ?_, ?_, ?_, fun i h0 h1 => ?_, fun i h0 h1 => ?_⟩
  · rw [hm _ _ (by omega), so _ (by omega), a1]
  · rw [hm _ _ (by omega), so _ (by omega), a2]
  · rw [hm _ _ (by omega), so _ (by omega), a3]
  · rw [hm _ _ (by omega), so _ (by omega), a4]
  · rw [hm _ _ (by omega), so _ (by omega), a5]
  · rw [hm _ _ (by omega), hm _ _ (by omega), hm _ _ (by omega), so _ (by omega), so _ (by omega), so _ (by omega)]; exact b i h0 h1
  · by_cases hij : i = x ∧ j = y
    · rw [hij.1, hij.2, sU_same]
      unfold setTieM
      rw [upM_ne (by omega), upM_same]
    · rw [hm _ _ (by omega), so _ (by omega)]; exact cc i j h0 h1 h2 h3
  · by_cases hix : i = x
    · subst hix
      obtain ⟨q, q1, q2, q3⟩ := dd i hi
      obtain ⟨c2, e1, e2, e3⟩ := tie_bits q2 hy v
      refine ⟨c2, ?_, e2, fun j hj => ?_⟩
      · unfold setTieM
        rw [upM_same, q1]
        exact e1
      · rw [e3 j hj]
        by_cases hjy : j = y
        · subst hjy
          rw [if_pos rfl, sU_same]
          simp only [decide_eq_decide]
          omega
        · rw [if_neg hjy, so _ (by omega)]; exact q3 j hj
    · rw [hm _ _ (by omega)]
      obtain ⟨q, q1, q2, q3⟩ := dd i hi
      exact ⟨q, q1, q2, fun j hj => by rw [so _ (by omega)]; exact q3 j hj⟩
  · rw [hm _ _ (by omega), hm _ _ (by omega), so _ (by omega), so _ (by omega)]; exact f s h0 h1
  · rw [hm _ _ (by omega)]
    obtain ⟨q, q1, q2, q3⟩ := g
    exact ⟨q, q1, q2, fun s hs hs2 => by rw [so _ (by omega)] at hs2 ⊢; exact q3 s hs hs2⟩
  · rw [hm _ _ (by omega)]
    obtain ⟨q, q1, q2, q3⟩ := kk
    exact ⟨q, q1, q2, fun s hs => by rw [so _ (by omega)]; exact q3 s hs⟩
  · rw [hm _ _ (by omega), so _ (by omega)]; exact l i h0 h1
  · rw [hm _ _ (by omega), so _ (by omega)]; exact m i h0 h1
theorem HR_cnt0 {h : Nat} {S : NS} {mem : Mem} (hR : HR h S mem) (hV : VN S) {x : Nat} (hx : x < 60) : HR h (sU S (185 + 4 * x + 3) 0) (silM mem h x) := by
  obtain ⟨z0, z1, z2, z3, z4, z5, z6, z7, z8, z9⟩ := id hV
  obtain ⟨⟨a1, a2, a3, a4, a5⟩, b, cc, dd, f, g, kk, l, m⟩ := id hR
  have hm : ∀ (a : Nat) (b : Int), ¬ (a = h ∧ (b = 10 ∨ b = 16)) → (silM mem h x) a b = mem a b := by
    intro a b q
    unfold silM
    rw [upM_ne (by omega), upM_ne (by omega)]
  have so : ∀ x9 : Int, x9 ≠ 185 + 4 * (x : Int) + 3 → (sU S (185 + 4 * x + 3) 0) x9 = S x9 := by
    intro x9 q
    exact sU_ne q
  refine ⟨⟨?_, ?_, ?_, ?_, ?_⟩, fun i h0 h1 => ?_, fun i j h0 h1 h2 h3 => ?_, fun i hi => ?_, fun s h0 h1 => ?_, ?_, ?_, fun i h0 h1 => ?_, fun i h0 h1 => ?_⟩
  · rw [hm _ _ (by omega), so _ (by omega), a1]
  · rw [hm _ _ (by omega), so _ (by omega), a2]
  · rw [hm _ _ (by omega), so _ (by omega), a3]
  · rw [hm _ _ (by omega), so _ (by omega), a4]
  · rw [hm _ _ (by omega), so _ (by omega), a5]
  · rw [hm _ _ (by omega), hm _ _ (by omega), hm _ _ (by omega), so _ (by omega), so _ (by omega), so _ (by omega)]; exact b i h0 h1
  · rw [hm _ _ (by omega), so _ (by omega)]; exact cc i j h0 h1 h2 h3
  · rw [hm _ _ (by omega)]
    obtain ⟨q, q1, q2, q3⟩ := dd i hi
    exact ⟨q, q1, q2, fun j hj => by rw [so _ (by omega)]; exact q3 j hj⟩
  · rw [hm _ _ (by omega), hm _ _ (by omega), so _ (by omega), so _ (by omega)]; exact f s h0 h1
  · rw [hm _ _ (by omega)]
    obtain ⟨q, q1, q2, q3⟩ := g
    exact ⟨q, q1, q2, fun s hs hs2 => by rw [so _ (by omega)] at hs2 ⊢; exact q3 s hs hs2⟩
  · obtain ⟨q, q1, q2, q3⟩ := kk
    have hp : 2 ^ x < 2 ^ 60 := p2 hx
    refine ⟨wo q (2 ^ x), ?_, wo_lt q2, fun s hs => ?_⟩
    · unfold silM
      rw [upM_ne (by omega), upM_same, q1, lshl_1 (by omega), land_wo (by omega) (by omega)]
    · rw [wo_tb, Nat.testBit_two_pow, q3 s hs]
      by_cases hsx : s = x
      · subst hsx
        rw [sU_same]
        simp
      · rw [so _ (by omega), decide_eq_false (p := x = s) (fun q => hsx q.symm)]
        simp
  · rw [hm _ _ (by omega), so _ (by omega)]; exact l i h0 h1
  · rw [hm _ _ (by omega), so _ (by omega)]; exact m i h0 h1
def aS (S : NS) (i j w : Int) : NS := sU (sU (sU (sU (sU S (185 + 4 * S 1 + 0) i) (185 + 4 * S 1 + 1) j) (185 + 4 * S 1 + 2) (if w = 0 then 0 else 1)) (185 + 4 * S 1 + 3) 1) 1 (S 1 + 1)
theorem ssM_72 {mem : Mem} {i j w : Int} : (ssM mem i j w) 72 = aS (mem 72) i j w := by
  unfold ssM aS
  rw [upM_self, upM_self, upM_self, upM_self, upM_self]
theorem aS_1 {S : NS} {i j w : Int} : aS S i j w 1 = S 1 + 1 := by unfold aS; rw [sU_same]
theorem aS_o {S : NS} {i j w x : Int} (h0 : x ≠ 1) (h1 : x < 185 + 4 * S 1 ∨ 185 + 4 * S 1 + 3 < x) : aS S i j w x = S x := by
  unfold aS
  rw [sU_ne h0, sU_ne (by omega), sU_ne (by omega), sU_ne (by omega), sU_ne (by omega)]
theorem aS_f {S : NS} {i j w : Int} (hn : 0 ≤ S 1) : aS S i j w (185 + 4 * S 1) = i := by
  unfold aS
  rw [sU_ne (by omega), sU_ne (by omega), sU_ne (by omega), sU_ne (by omega), Int.add_zero, sU_same]
theorem aS_t {S : NS} {i j w : Int} (hn : 0 ≤ S 1) : aS S i j w (185 + 4 * S 1 + 1) = j := by
  unfold aS
  rw [sU_ne (by omega), sU_ne (by omega), sU_ne (by omega), sU_same]
theorem aS_w {S : NS} {i j w : Int} (hn : 0 ≤ S 1) : aS S i j w (185 + 4 * S 1 + 2) = if w = 0 then 0 else 1 := by
  unfold aS
  rw [sU_ne (by omega), sU_ne (by omega), sU_same]
theorem aS_c {S : NS} {i j w : Int} (hn : 0 ≤ S 1) : aS S i j w (185 + 4 * S 1 + 3) = 1 := by
  unfold aS
  rw [sU_ne (by omega), sU_same]
theorem aS_VN {S : NS} (hV : VN S) {i j w : Int} (hn : S 1 < 60) (hi : 0 ≤ i ∧ i < S 0) (hj : 0 ≤ j ∧ j < S 0) (hij : i ≠ j) : VN (aS S i j w) := by
  obtain ⟨v0, v1, v2, v3, v4, v5, v6, v7, v8, v9⟩ := hV
  have z := v1.1
  refine ⟨?_, ?_, ?_, ?_, ?_, ?_, ?_, ?_, ?_, ?_⟩
  · rw [aS_o (by omega) (by omega)]; exact v0
  · rw [aS_1]; omega
  · rw [aS_o (by omega) (by omega)]; exact v2
  · rw [aS_o (by omega) (by omega)]; exact v3
  · rw [aS_o (by omega) (by omega)]; exact v4
  · intro i h0 h1
    rw [aS_o (by omega) (by omega)]; exact v5 i h0 h1
  · intro i h0 h1
    rw [aS_o (x := 0) (by omega) (by omega)] at h1
    rw [aS_o (by omega) (by omega), aS_o (by omega) (by omega)]; exact v6 i h0 (by omega)
  · intro i j h0 h1 h2 h3
    rw [aS_o (x := 0) (by omega) (by omega), aS_o (by omega) (by omega)]
    exact v7 i j h0 h1 h2 h3
  · intro s h0 h1
    rw [aS_1, aS_o (x := 0) (by omega) (by omega)]
    by_cases hs : s = S 1
    · subst hs
      rw [aS_f z, aS_t z, aS_w z, aS_c z]
      exact ⟨fun _ => ⟨hi.1, hi.2, hj.1, hj.2, hij⟩, by split <;> simp, Or.inr rfl, fun q => by omega⟩
    · rw [aS_o (x := 185 + 4 * s) (by omega) (by omega), aS_o (x := 185 + 4 * s + 1) (by omega) (by omega), aS_o (x := 185 + 4 * s + 2) (by omega) (by omega), aS_o (x := 185 + 4 * s + 3) (by omega) (by omega)]
      have q := v8 s h0 h1
      exact ⟨fun y => q.1 (by omega), q.2.1, q.2.2.1, fun y => q.2.2.2 (by omega)⟩
  · intro i h0 h1
    rw [aS_o (by omega) (by omega)]
    exact v9 i h0 h1
theorem HR_say {h : Nat} {S : NS} {mem : Mem} (hR : HR h S mem) (hV : VN S) (i9 j9 w : Int) (hn : S 1 < 60) : HR h (aS S i9 j9 w) (addSyM mem h i9 j9 w) := by
  obtain ⟨z0, z1, z2, z3, z4, z5, z6, z7, z8, z9⟩ := id hV
  obtain ⟨⟨a1, a2, a3, a4, a5⟩, b, cc, dd, f, g, kk, l, m⟩ := id hR
  have hm : ∀ (a : Nat) (b : Int), ¬ (a = h ∧ (b = 6 ∨ b = 9 ∨ b = 10 ∨ b = 16)) ∧ ¬ ((a = h + 6 ∨ a = h + 7) ∧ b = S 1) → (addSyM mem h i9 j9 w) a b = mem a b := by
    intro a b q
    unfold addSyM
    rw [a2, upM_ne (by omega), upM_ne (by omega), upM_ne (by omega), upM_ne (by omega), upM_ne (by omega), upM_ne (by omega)]
  have so : ∀ x : Int, x ≠ 1 ∧ (x < 185 + 4 * S 1 ∨ 185 + 4 * S 1 + 3 < x) → (aS S i9 j9 w) x = S x := by
    intro x q
    exact aS_o q.1 q.2
  refine ⟨⟨?_, ?_, ?_, ?_, ?_⟩, fun i h0 h1 => ?_, fun i j h0 h1 h2 h3 => ?_, fun i hi => ?_, fun s h0 h1 => ?_, ?_, ?_, fun i h0 h1 => ?_, fun i h0 h1 => ?_⟩
  · rw [hm _ _ (by omega), so _ (by omega), a1]
  · rw [aS_1]
    unfold addSyM
    rw [upM_ne (by omega), upM_same, a2]
  · rw [hm _ _ (by omega), so _ (by omega), a3]
  · rw [hm _ _ (by omega), so _ (by omega), a4]
  · rw [hm _ _ (by omega), so _ (by omega), a5]
  · rw [hm _ _ (by omega), hm _ _ (by omega), hm _ _ (by omega), so _ (by omega), so _ (by omega), so _ (by omega)]; exact b i h0 h1
  · rw [hm _ _ (by omega), so _ (by omega)]; exact cc i j h0 h1 h2 h3
  · rw [hm _ _ (by omega)]
    obtain ⟨q, q1, q2, q3⟩ := dd i hi
    exact ⟨q, q1, q2, fun j hj => by rw [so _ (by omega)]; exact q3 j hj⟩
  · by_cases hs : s = S 1
    · subst hs
      rw [aS_f z1.1, aS_t z1.1]
      unfold addSyM
      rw [a2]
      refine ⟨?_, ?_⟩
      · rw [upM_ne (by omega), upM_ne (by omega), upM_ne (by omega), upM_ne (by omega), upM_ne (by omega), upM_same]
      · rw [upM_ne (by omega), upM_ne (by omega), upM_ne (by omega), upM_ne (by omega), upM_same]
    · rw [hm _ _ (by omega), hm _ _ (by omega), so _ (by omega), so _ (by omega)]; exact f s h0 h1
  · obtain ⟨q, q1, q2, q3⟩ := g
    obtain ⟨n, hn9⟩ : ∃ n : Nat, S 1 = n := ⟨(S 1).toNat, by omega⟩
    have hp : 2 ^ n < 2 ^ 60 := p2 (by omega)
    have e9 : (addSyM mem h i9 j9 w) h 9 = if w = 0 then land q (lxor (((2 ^ n : Nat) : Int)) (-1)) else lor q ((2 ^ n : Nat) : Int) := by
      unfold addSyM
      rw [upM_ne (by omega), upM_ne (by omega), upM_ne (by omega), upM_same, a2, q1, hn9, lshl_1 (by omega)]
    rw [e9]
    by_cases hw : w = 0
    · rw [if_pos hw]
      refine ⟨wo q (2 ^ n), land_wo (by omega) (by omega), wo_lt q2, fun s hs hs2 => ?_⟩
      rw [aS_1] at hs2
      rw [wo_tb, Nat.testBit_two_pow]
      by_cases hsn : s = n
      · rw [hsn, ← hn9, aS_w z1.1, if_pos hw]; simp
      · rw [so _ (by omega), q3 s hs (by omega), decide_eq_false (p := n = s) (fun q => hsn q.symm)]; simp
    · rw [if_neg hw]
      refine ⟨q ||| 2 ^ n, lor_nn (by omega) (by omega), Nat.or_lt_two_pow q2 hp, fun s hs hs2 => ?_⟩
      rw [aS_1] at hs2
      rw [Nat.testBit_or, Nat.testBit_two_pow]
      by_cases hsn : s = n
      · rw [hsn, ← hn9, aS_w z1.1, if_neg hw]; simp
      · rw [so _ (by omega), q3 s hs (by omega), decide_eq_false (p := n = s) (fun q => hsn q.symm)]; simp
  · obtain ⟨q, q1, q2, q3⟩ := kk
    obtain ⟨n, hn9⟩ : ∃ n : Nat, S 1 = n := ⟨(S 1).toNat, by omega⟩
    have hp : 2 ^ n < 2 ^ 60 := p2 (by omega)
    refine ⟨q ||| 2 ^ n, ?_, Nat.or_lt_two_pow q2 hp, fun s hs => ?_⟩
    · unfold addSyM
      rw [upM_ne (by omega), upM_ne (by omega), upM_same, a2, q1, hn9, lshl_1 (by omega), lor_nn (by omega) (by omega)]
    · rw [Nat.testBit_or, Nat.testBit_two_pow]
      by_cases hsn : s = n
      · rw [hsn, ← hn9, aS_c z1.1]; simp
      · rw [so _ (by omega), q3 s hs, decide_eq_false (p := n = s) (fun q => hsn q.symm)]; simp
  · rw [hm _ _ (by omega), so _ (by omega)]; exact l i h0 h1
  · rw [hm _ _ (by omega), so _ (by omega)]; exact m i h0 h1
theorem HR_copy {h g : Nat} {S : NS} {mem mem' : Mem} (hR : HR g S mem) (hc : cfP mem mem' h g) : HR h S mem' := by
  obtain ⟨⟨a1, a2, a3, a4, a5⟩, b, cc, dd, f, g9, kk, l, m⟩ := hR
  obtain ⟨c0, d1, d2, d3, d4, d5, c6, d6, d7, c9, c10, c11, d8, c13, d9, c15, -, -⟩ := hc
  refine ⟨⟨?_, ?_, ?_, ?_, ?_⟩, fun i h0 h1 => ?_, fun i j h0 h1 h2 h3 => ?_, fun i hi => ?_, fun s h0 h1 => ?_, ?_, ?_, fun i h0 h1 => ?_, fun i h0 h1 => ?_⟩
  · rw [c0, a1]
  · rw [c6, a2]
  · rw [c11, a3]
  · rw [c13, a4]
  · rw [c15, a5]
  · rw [d1 i h0 h1, d2 i h0 h1, d3 i h0 h1]; exact b i h0 h1
  · rw [d5 _ (by omega) (by omega)]; exact cc i j h0 h1 h2 h3
  · rw [d4 _ (by omega) (by omega)]; exact dd i hi
  · rw [d6 s h0 h1, d7 s h0 h1]; exact f s h0 h1
  · rw [c9]; exact g9
  · rw [c10]; exact kk
  · rw [d8 i h0 h1]; exact l i h0 h1
  · rw [d9 i h0 h1]; exact m i h0 h1
theorem HR.tape {h : Nat} {S : NS} {mem : Mem} (hR : HR h S mem) (hV : VN S) : ∀ i : Int, 0 ≤ i → i < 80 → -128 ≤ mem (h + 8) i ∧ mem (h + 8) i < 128 := by
  intro i h0 h1
  have e := hR.2.2.2.2.2.2.2.1 i h0 h1
  have v := hV.2.2.2.2.2.2.2.2.2 i h0 h1
  rw [e]
  unfold sgb
  split <;> omega
