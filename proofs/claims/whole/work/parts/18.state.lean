/-! ===== what a hall is: S, as the reference's row has it ===== -/
abbrev NS : Type := Int → Int
def sU (S : NS) (j v : Int) : NS := fun x => if x = j then v else S x
theorem sU_same {S : NS} {j v : Int} : sU S j v j = v := by simp [sU]
theorem sU_ne {S : NS} {j v x : Int} (h : x ≠ j) : sU S j v x = S x := by simp [sU, h]
theorem upM_self {mem : Mem} {k : Nat} {j v : Int} : (upM mem k j v) k = sU (mem k) j v := by
  funext x
  simp [upM, sU]
theorem upM_cell {mem : Mem} {k a : Nat} {j v : Int} (h : a ≠ k) : (upM mem k j v) a = mem a := by
  funext x
  simp [upM, h]
/-- what holds of every state -/
def VN (S : NS) : Prop :=
  (0 ≤ S 0 ∧ S 0 ≤ 12) ∧ (0 ≤ S 1 ∧ S 1 ≤ 60) ∧ (0 ≤ S 2 ∧ S 2 ≤ 12) ∧ (0 ≤ S 3 ∧ S 3 ≤ 80) ∧ (0 ≤ S 4 ∧ S 4 ≤ 48) ∧
  (∀ i : Int, 0 ≤ i → i < 12 → 0 ≤ S (5 + 3 * i) ∧ S (5 + 3 * i) ≤ 5) ∧
  (∀ i : Int, 0 ≤ i → i < S 0 → 1 ≤ S (5 + 3 * i + 1) ∧ S (5 + 3 * i + 1) ≤ 99 ∧ 1 ≤ S (5 + 3 * i + 2) ∧ S (5 + 3 * i + 2) ≤ 9) ∧
  (∀ i j : Int, 0 ≤ i → i < 12 → 0 ≤ j → j < 12 → 0 ≤ S (41 + 12 * i + j) ∧ S (41 + 12 * i + j) ≤ 99 ∧ (S (41 + 12 * i + j) ≠ 0 → i < S 0 ∧ j < S 0 ∧ i ≠ j)) ∧
  (∀ s : Int, 0 ≤ s → s < 60 → (s < S 1 → 0 ≤ S (185 + 4 * s) ∧ S (185 + 4 * s) < S 0 ∧ 0 ≤ S (185 + 4 * s + 1) ∧ S (185 + 4 * s + 1) < S 0 ∧ S (185 + 4 * s) ≠ S (185 + 4 * s + 1)) ∧ (S (185 + 4 * s + 2) = 0 ∨ S (185 + 4 * s + 2) = 1) ∧ (S (185 + 4 * s + 3) = 0 ∨ S (185 + 4 * s + 3) = 1) ∧ (S 1 ≤ s → S (185 + 4 * s + 3) = 0)) ∧
  (∀ i : Int, 0 ≤ i → i < 80 → 0 ≤ S (425 + i) ∧ S (425 + i) ≤ 255)
/-- a byte with its sign -/
def sgb (v : Int) : Int := if v < 128 then v else v - 256
/-- hall h holds the state S -/
def HR (h : Nat) (S : NS) (mem : Mem) : Prop :=
  (mem h 0 = S 0 ∧ mem h 6 = S 1 ∧ mem h 11 = S 2 ∧ mem h 13 = S 3 ∧ mem h 15 = S 4) ∧
  (∀ i : Int, 0 ≤ i → i < 12 → mem (h + 1) i = S (5 + 3 * i) ∧ mem (h + 2) i = S (5 + 3 * i + 1) ∧ mem (h + 3) i = S (5 + 3 * i + 2)) ∧
  (∀ i j : Int, 0 ≤ i → i < 12 → 0 ≤ j → j < 12 → mem (h + 5) (i * 12 + j) = S (41 + 12 * i + j)) ∧
  (∀ i : Nat, i < 12 → ∃ c : Nat, mem (h + 4) i = c ∧ c < 4096 ∧ ∀ j : Nat, j < 12 → c.testBit j = decide (0 < S (41 + 12 * i + j))) ∧
  (∀ s : Int, 0 ≤ s → s < 60 → mem (h + 6) s = S (185 + 4 * s) ∧ mem (h + 7) s = S (185 + 4 * s + 1)) ∧
  (∃ w : Nat, mem h 9 = w ∧ w < 2 ^ 60 ∧ ∀ s : Nat, s < 60 → (s : Int) < S 1 → w.testBit s = decide (S (185 + 4 * s + 2) = 1)) ∧
  (∃ v : Nat, mem h 10 = v ∧ v < 2 ^ 60 ∧ ∀ s : Nat, s < 60 → v.testBit s = decide (S (185 + 4 * s + 3) = 1)) ∧
  (∀ i : Int, 0 ≤ i → i < 80 → mem (h + 8) i = sgb (S (425 + i))) ∧
  (∀ i : Int, 0 ≤ i → i < 48 → mem (h + 9) i = S (505 + i))
theorem HR.congr {h : Nat} {S : NS} {mem mem' : Mem} (hR : HR h S mem) (e : ∀ (c : Nat) (b : Int), c < 10 → ¬ (c = 0 ∧ b = 16) → mem' (h + c) b = mem (h + c) b) : HR h S mem' := by
  have e0 : ∀ b : Int, b ≠ 16 → mem' h b = mem h b := fun b hb => e 0 b (by decide) (by omega)
  obtain ⟨⟨a1, a2, a3, a4, a5⟩, b, c, dd, f, g, k, l, m⟩ := hR
  refine ⟨⟨?_, ?_, ?_, ?_, ?_⟩, fun i h0 h1 => ?_, fun i j h0 h1 h2 h3 => ?_, fun i hi => ?_, fun s h0 h1 => ?_, ?_, ?_, fun i h0 h1 => ?_, fun i h0 h1 => ?_⟩
  · rw [e0 _ (by decide), a1]
  · rw [e0 _ (by decide), a2]
  · rw [e0 _ (by decide), a3]
  · rw [e0 _ (by decide), a4]
  · rw [e0 _ (by decide), a5]
  · rw [e 1 _ (by decide) (by omega), e 2 _ (by decide) (by omega), e 3 _ (by decide) (by omega)]; exact b i h0 h1
  · rw [e 5 _ (by decide) (by omega)]; exact c i j h0 h1 h2 h3
  · rw [e 4 _ (by decide) (by omega)]; exact dd i hi
  · rw [e 6 _ (by decide) (by omega), e 7 _ (by decide) (by omega)]; exact f s h0 h1
  · rw [e0 _ (by decide)]; exact g
  · rw [e0 _ (by decide)]; exact k
  · rw [e 8 _ (by decide) (by omega)]; exact l i h0 h1
  · rw [e 9 _ (by decide) (by omega)]; exact m i h0 h1
def aM (S : NS) (k p c : Int) : NS := sU (sU (sU (sU S (5 + 3 * S 0 + 0) k) (5 + 3 * S 0 + 1) p) (5 + 3 * S 0 + 2) c) 0 (S 0 + 1)
theorem mkM_72 {mem : Mem} {k p c : Int} : (mkM mem k p c) 72 = aM (mem 72) k p c := by
  unfold mkM aM
  rw [upM_self, upM_self, upM_self, upM_self]
theorem aM_0 {S : NS} {k p c : Int} : aM S k p c 0 = S 0 + 1 := by unfold aM; rw [sU_same]
theorem aM_o {S : NS} {k p c x : Int} (h0 : x ≠ 0) (h1 : x < 5 + 3 * S 0 ∨ 5 + 3 * S 0 + 2 < x) : aM S k p c x = S x := by
  unfold aM
  rw [sU_ne h0, sU_ne (by omega), sU_ne (by omega), sU_ne (by omega)]
theorem aM_k {S : NS} {k p c : Int} (hn : 0 ≤ S 0) : aM S k p c (5 + 3 * S 0) = k := by
  unfold aM
  rw [sU_ne (by omega), sU_ne (by omega), sU_ne (by omega), Int.add_zero, sU_same]
theorem aM_p {S : NS} {k p c : Int} (hn : 0 ≤ S 0) : aM S k p c (5 + 3 * S 0 + 1) = p := by
  unfold aM
  rw [sU_ne (by omega), sU_ne (by omega), sU_same]
theorem aM_c {S : NS} {k p c : Int} (hn : 0 ≤ S 0) : aM S k p c (5 + 3 * S 0 + 2) = c := by
  unfold aM
  rw [sU_ne (by omega), sU_same]
theorem aM_VN {S : NS} (hV : VN S) {k p c : Int} (hn : S 0 < 12) (hk : 0 ≤ k ∧ k ≤ 5) (hp : 1 ≤ p ∧ p ≤ 99) (hc : 1 ≤ c ∧ c ≤ 9) : VN (aM S k p c) := by
  obtain ⟨v0, v1, v2, v3, v4, v5, v6, v7, v8, v9⟩ := hV
  have z := v0.1
  refine ⟨?_, ?_, ?_, ?_, ?_, ?_, ?_, ?_, ?_, ?_⟩
  · rw [aM_0]; omega
  · rw [aM_o (by omega) (by omega)]; exact v1
  · rw [aM_o (by omega) (by omega)]; exact v2
  · rw [aM_o (by omega) (by omega)]; exact v3
  · rw [aM_o (by omega) (by omega)]; exact v4
  · intro i h0 h1
    by_cases hi : i = S 0
    · rw [hi, aM_k z]; exact hk
    · rw [aM_o (by omega) (by omega)]; exact v5 i h0 h1
  · intro i h0 h1
    rw [aM_0] at h1
    by_cases hi : i = S 0
    · rw [hi, aM_p z, aM_c z]; exact ⟨hp.1, hp.2, hc.1, hc.2⟩
    · rw [aM_o (by omega) (by omega), aM_o (by omega) (by omega)]; exact v6 i h0 (by omega)
  · intro i j h0 h1 h2 h3
    rw [aM_0, aM_o (by omega) (by omega)]
    have q := v7 i j h0 h1 h2 h3
    exact ⟨q.1, q.2.1, fun y => by have := q.2.2 y; omega⟩
  · intro s h0 h1
    rw [aM_0, aM_o (x := 185 + 4 * s) (by omega) (by omega), aM_o (x := 185 + 4 * s + 1) (by omega) (by omega), aM_o (x := 185 + 4 * s + 2) (by omega) (by omega), aM_o (x := 185 + 4 * s + 3) (by omega) (by omega), aM_o (x := 1) (by omega) (by omega)]
    have q := v8 s h0 h1
    exact ⟨fun y => by have := q.1 y; omega, q.2⟩
  · intro i h0 h1
    rw [aM_o (by omega) (by omega)]
    exact v9 i h0 h1
theorem aM_HR {h : Nat} {S : NS} {mem : Mem} (hR : HR h S mem) (hV : VN S) (hn : S 0 < 12) (k p c : Int) : HR h (aM S k p c) (addMcM mem h k p c) := by
  have z := hV.1.1
  have hm : ∀ (a : Nat) (b : Int), (a = h → b ≠ 0 ∧ b ≠ 16) → (a = h + 1 ∨ a = h + 2 ∨ a = h + 3 → b ≠ S 0) → addMcM mem h k p c a b = mem a b := by
    intro a b q1 q2
    unfold addMcM
    rw [hR.1.1, upM_ne (by omega), upM_ne (by omega), upM_ne (by omega), upM_ne (by omega), upM_ne (by omega)]
  obtain ⟨⟨a1, a2, a3, a4, a5⟩, b, cc, dd, f, g, kk, l, m⟩ := hR
  refine ⟨⟨?_, ?_, ?_, ?_, ?_⟩, fun i h0 h1 => ?_, fun i j h0 h1 h2 h3 => ?_, fun i hi => ?_, fun s h0 h1 => ?_, ?_, ?_, fun i h0 h1 => ?_, fun i h0 h1 => ?_⟩
  · rw [aM_0]; unfold addMcM; rw [upM_ne (by omega), upM_same, a1]
  · rw [hm _ _ (by omega) (by omega), aM_o (by omega) (by omega), a2]
  · rw [hm _ _ (by omega) (by omega), aM_o (by omega) (by omega), a3]
  · rw [hm _ _ (by omega) (by omega), aM_o (by omega) (by omega), a4]
  · rw [hm _ _ (by omega) (by omega), aM_o (by omega) (by omega), a5]
  · by_cases hi : i = S 0
    · subst hi
      rw [aM_k z, aM_p z, aM_c z]
      unfold addMcM
      rw [a1]
      refine ⟨?_, ?_, ?_⟩
      · rw [upM_ne (by omega), upM_ne (by omega), upM_ne (by omega), upM_ne (by omega), upM_same]
      · rw [upM_ne (by omega), upM_ne (by omega), upM_ne (by omega), upM_same]
      · rw [upM_ne (by omega), upM_ne (by omega), upM_same]
    · rw [hm _ _ (by omega) (by omega), hm _ _ (by omega) (by omega), hm _ _ (by omega) (by omega), aM_o (by omega) (by omega), aM_o (by omega) (by omega), aM_o (by omega) (by omega)]
      exact b i h0 h1
  · rw [hm _ _ (by omega) (by omega), aM_o (by omega) (by omega)]; exact cc i j h0 h1 h2 h3
  · rw [hm _ _ (by omega) (by omega)]
    obtain ⟨q, q1, q2, q3⟩ := dd i hi
    exact ⟨q, q1, q2, fun j hj => by rw [aM_o (by omega) (by omega)]; exact q3 j hj⟩
  · rw [hm _ _ (by omega) (by omega), hm _ _ (by omega) (by omega), aM_o (by omega) (by omega), aM_o (by omega) (by omega)]; exact f s h0 h1
  · rw [hm _ _ (by omega) (by omega)]
    obtain ⟨q, q1, q2, q3⟩ := g
    exact ⟨q, q1, q2, fun s hs hs2 => by rw [aM_o (by omega) (by omega)] at hs2 ⊢; exact q3 s hs hs2⟩
  · rw [hm _ _ (by omega) (by omega)]
    obtain ⟨q, q1, q2, q3⟩ := kk
    exact ⟨q, q1, q2, fun s hs => by rw [aM_o (by omega) (by omega)]; exact q3 s hs⟩
  · rw [hm _ _ (by omega) (by omega), aM_o (by omega) (by omega)]; exact l i h0 h1
  · rw [hm _ _ (by omega) (by omega), aM_o (by omega) (by omega)]; exact m i h0 h1
theorem VN_most {S : NS} (hV : VN S) {v : Int} (h0 : 0 ≤ v) (h1 : v ≤ 12) : VN (sU S 2 v) := by
  obtain ⟨v0, v1, v2, v3, v4, v5, v6, v7, v8, v9⟩ := hV
  refine ⟨?_, ?_, ?_, ?_, ?_, ?_, ?_, ?_, ?_, ?_⟩
  · simp only [sU]; (repeat rw [if_neg (by omega)]); exact v0
  · simp only [sU]; (repeat rw [if_neg (by omega)]); exact v1
  · rw [sU_same]; exact ⟨h0, h1⟩
  · simp only [sU]; (repeat rw [if_neg (by omega)]); exact v3
  · simp only [sU]; (repeat rw [if_neg (by omega)]); exact v4
  · intro i h0 h1
    simp only [sU]
    (repeat rw [if_neg (by omega)])
    exact v5 i h0 h1
  · intro i h0 h1
    simp only [sU] at *
    (repeat rw [if_neg (by omega)] at h1)
    (repeat rw [if_neg (by omega)])
    exact v6 i h0 h1
  · intro i j h0 h1 h2 h3
    simp only [sU]
    (repeat rw [if_neg (by omega)])
    exact v7 i j h0 h1 h2 h3
  · intro s h0 h1
    simp only [sU]
    (repeat rw [if_neg (by omega)])
    exact v8 s h0 h1
  · intro i h0 h1
    simp only [sU]
    (repeat rw [if_neg (by omega)])
    exact v9 i h0 h1
theorem VN_taped {S : NS} (hV : VN S) {v : Int} (h0 : 0 ≤ v) (h1 : v ≤ 80) : VN (sU S 3 v) := by
  obtain ⟨v0, v1, v2, v3, v4, v5, v6, v7, v8, v9⟩ := hV
  refine ⟨?_, ?_, ?_, ?_, ?_, ?_, ?_, ?_, ?_, ?_⟩
  · simp only [sU]; (repeat rw [if_neg (by omega)]); exact v0
  · simp only [sU]; (repeat rw [if_neg (by omega)]); exact v1
  · simp only [sU]; (repeat rw [if_neg (by omega)]); exact v2
  · rw [sU_same]; exact ⟨h0, h1⟩
  · simp only [sU]; (repeat rw [if_neg (by omega)]); exact v4
  · intro i h0 h1
    simp only [sU]
    (repeat rw [if_neg (by omega)])
    exact v5 i h0 h1
  · intro i h0 h1
    simp only [sU] at *
    (repeat rw [if_neg (by omega)] at h1)
    (repeat rw [if_neg (by omega)])
    exact v6 i h0 h1
  · intro i j h0 h1 h2 h3
    simp only [sU]
    (repeat rw [if_neg (by omega)])
    exact v7 i j h0 h1 h2 h3
  · intro s h0 h1
    simp only [sU]
    (repeat rw [if_neg (by omega)])
    exact v8 s h0 h1
  · intro i h0 h1
    simp only [sU]
    (repeat rw [if_neg (by omega)])
    exact v9 i h0 h1
theorem VN_waits {S : NS} (hV : VN S) {v : Int} (h0 : 0 ≤ v) (h1 : v ≤ 48) : VN (sU S 4 v) := by
  obtain ⟨v0, v1, v2, v3, v4, v5, v6, v7, v8, v9⟩ := hV
  refine ⟨?_, ?_, ?_, ?_, ?_, ?_, ?_, ?_, ?_, ?_⟩
  · simp only [sU]; (repeat rw [if_neg (by omega)]); exact v0
  · simp only [sU]; (repeat rw [if_neg (by omega)]); exact v1
  · simp only [sU]; (repeat rw [if_neg (by omega)]); exact v2
  · simp only [sU]; (repeat rw [if_neg (by omega)]); exact v3
  · rw [sU_same]; exact ⟨h0, h1⟩
  · intro i h0 h1
    simp only [sU]
    (repeat rw [if_neg (by omega)])
    exact v5 i h0 h1
  · intro i h0 h1
    simp only [sU] at *
    (repeat rw [if_neg (by omega)] at h1)
    (repeat rw [if_neg (by omega)])
    exact v6 i h0 h1
  · intro i j h0 h1 h2 h3
    simp only [sU]
    (repeat rw [if_neg (by omega)])
    exact v7 i j h0 h1 h2 h3
  · intro s h0 h1
    simp only [sU]
    (repeat rw [if_neg (by omega)])
    exact v8 s h0 h1
  · intro i h0 h1
    simp only [sU]
    (repeat rw [if_neg (by omega)])
    exact v9 i h0 h1
theorem VN_wait {S : NS} (hV : VN S) {x v : Int} (hx : 505 ≤ x) : VN (sU S x v) := by
  obtain ⟨v0, v1, v2, v3, v4, v5, v6, v7, v8, v9⟩ := hV
  refine ⟨?_, ?_, ?_, ?_, ?_, ?_, ?_, ?_, ?_, ?_⟩
  · simp only [sU]; (repeat rw [if_neg (by omega)]); exact v0
  · simp only [sU]; (repeat rw [if_neg (by omega)]); exact v1
  · simp only [sU]; (repeat rw [if_neg (by omega)]); exact v2
  · simp only [sU]; (repeat rw [if_neg (by omega)]); exact v3
  · simp only [sU]; (repeat rw [if_neg (by omega)]); exact v4
  · intro i h0 h1
    simp only [sU]
    (repeat rw [if_neg (by omega)])
    exact v5 i h0 h1
  · intro i h0 h1
    simp only [sU] at *
    (repeat rw [if_neg (by omega)] at h1)
    (repeat rw [if_neg (by omega)])
    exact v6 i h0 h1
  · intro i j h0 h1 h2 h3
    simp only [sU]
    (repeat rw [if_neg (by omega)])
    exact v7 i j h0 h1 h2 h3
  · intro s h0 h1
    simp only [sU]
    (repeat rw [if_neg (by omega)])
    exact v8 s h0 h1
  · intro i h0 h1
    simp only [sU]
    (repeat rw [if_neg (by omega)])
    exact v9 i h0 h1
theorem VN_tape {S : NS} (hV : VN S) {x v : Int} (hx : 0 ≤ x) (hx2 : x < 80) (h0 : 0 ≤ v) (h1 : v ≤ 255) : VN (sU S (425 + x) v) := by
  obtain ⟨v0, v1, v2, v3, v4, v5, v6, v7, v8, v9⟩ := hV
  refine ⟨?_, ?_, ?_, ?_, ?_, ?_, ?_, ?_, ?_, ?_⟩
  · simp only [sU]; (repeat rw [if_neg (by omega)]); exact v0
  · simp only [sU]; (repeat rw [if_neg (by omega)]); exact v1
  · simp only [sU]; (repeat rw [if_neg (by omega)]); exact v2
  · simp only [sU]; (repeat rw [if_neg (by omega)]); exact v3
  · simp only [sU]; (repeat rw [if_neg (by omega)]); exact v4
  · intro i h0 h1
    simp only [sU]
    (repeat rw [if_neg (by omega)])
    exact v5 i h0 h1
  · intro i h0 h1
    simp only [sU] at *
    (repeat rw [if_neg (by omega)] at h1)
    (repeat rw [if_neg (by omega)])
    exact v6 i h0 h1
  · intro i j h0 h1 h2 h3
    simp only [sU]
    (repeat rw [if_neg (by omega)])
    exact v7 i j h0 h1 h2 h3
  · intro s h0 h1
    simp only [sU]
    (repeat rw [if_neg (by omega)])
    exact v8 s h0 h1
  · intro i a0 a1
    by_cases hi : i = x
    · rw [hi, sU_same]; exact ⟨h0, h1⟩
    · rw [sU_ne (by omega)]; exact v9 i a0 a1
theorem VN_cnt0 {S : NS} (hV : VN S) {x : Int} (hx : 0 ≤ x) (hx2 : x < 60) : VN (sU S (185 + 4 * x + 3) 0) := by
  obtain ⟨v0, v1, v2, v3, v4, v5, v6, v7, v8, v9⟩ := hV
  refine ⟨?_, ?_, ?_, ?_, ?_, ?_, ?_, ?_, ?_, ?_⟩
  · simp only [sU]; (repeat rw [if_neg (by omega)]); exact v0
  · simp only [sU]; (repeat rw [if_neg (by omega)]); exact v1
  · simp only [sU]; (repeat rw [if_neg (by omega)]); exact v2
  · simp only [sU]; (repeat rw [if_neg (by omega)]); exact v3
  · simp only [sU]; (repeat rw [if_neg (by omega)]); exact v4
  · intro i h0 h1
    simp only [sU]
    (repeat rw [if_neg (by omega)])
    exact v5 i h0 h1
  · intro i h0 h1
    simp only [sU] at *
    (repeat rw [if_neg (by omega)] at h1)
    (repeat rw [if_neg (by omega)])
    exact v6 i h0 h1
  · intro i j h0 h1 h2 h3
    simp only [sU]
    (repeat rw [if_neg (by omega)])
    exact v7 i j h0 h1 h2 h3
  · intro s a0 a1
    have q := v8 s a0 a1
    rw [sU_ne (x := 0) (by omega), sU_ne (x := 1) (by omega), sU_ne (x := 185 + 4 * s) (by omega), sU_ne (x := 185 + 4 * s + 1) (by omega), sU_ne (x := 185 + 4 * s + 2) (by omega)]
    by_cases hs : s = x
    · rw [hs, sU_same]; rw [hs] at q; exact ⟨q.1, q.2.1, Or.inl rfl, fun _ => rfl⟩
    · rw [sU_ne (by omega)]; exact q
  · intro i h0 h1
    simp only [sU]
    (repeat rw [if_neg (by omega)])
    exact v9 i h0 h1
theorem VN_tie {S : NS} (hV : VN S) {x y v : Int} (hx : 0 ≤ x) (hx2 : x < S 0) (hy : 0 ≤ y) (hy2 : y < S 0) (hxy : x ≠ y) (h0 : 0 ≤ v) (h1 : v ≤ 99) : VN (sU S (41 + 12 * x + y) v) := by
  obtain ⟨v0, v1, v2, v3, v4, v5, v6, v7, v8, v9⟩ := hV
  refine ⟨?_, ?_, ?_, ?_, ?_, ?_, ?_, ?_, ?_, ?_⟩
  · simp only [sU]; (repeat rw [if_neg (by omega)]); exact v0
  · simp only [sU]; (repeat rw [if_neg (by omega)]); exact v1
  · simp only [sU]; (repeat rw [if_neg (by omega)]); exact v2
  · simp only [sU]; (repeat rw [if_neg (by omega)]); exact v3
  · simp only [sU]; (repeat rw [if_neg (by omega)]); exact v4
  · intro i h0 h1
    simp only [sU]
    (repeat rw [if_neg (by omega)])
    exact v5 i h0 h1
  · intro i h0 h1
    simp only [sU] at *
    (repeat rw [if_neg (by omega)] at h1)
    (repeat rw [if_neg (by omega)])
    exact v6 i h0 h1
  · intro i j a0 a1 a2 a3
    have q := v7 i j a0 a1 a2 a3
    rw [sU_ne (x := 0) (by omega)]
    by_cases hij : i = x ∧ j = y
    · rw [hij.1, hij.2, sU_same]; exact ⟨h0, h1, fun _ => ⟨hx2, hy2, hxy⟩⟩
    · rw [sU_ne (by omega)]; exact q
  · intro s h0 h1
    simp only [sU]
    (repeat rw [if_neg (by omega)])
    exact v8 s h0 h1
  · intro i h0 h1
    simp only [sU]
    (repeat rw [if_neg (by omega)])
    exact v9 i h0 h1
