/-! ===== whom nobody outside can try; pairs ===== -/
def mkB : Nat → (Nat → Bool) → Nat
  | 0, _ => 0
  | m + 1, f => mkB m f + (if f m = true then 2 ^ m else 0)
theorem mkB_lt (m : Nat) (f : Nat → Bool) : mkB m f < 2 ^ m := by
  induction m with
  | zero => exact Nat.one_pos
  | succ m ih => unfold mkB; rw [Nat.pow_succ]; split <;> omega
theorem mkB_tb (m : Nat) (f : Nat → Bool) (k : Nat) : (mkB m f).testBit k = (decide (k < m) && f k) := by
  induction m with
  | zero => show (0 : Nat).testBit k = _; rw [Nat.zero_testBit, decide_eq_false (by omega), Bool.false_and]
  | succ m ih =>
    unfold mkB
    by_cases hf : f m = true
    · rw [if_pos hf, Nat.add_comm, tb_1 (mkB_lt m f), ih]
      by_cases e : m = k
      · subst e; rw [decide_eq_true (show m = m from rfl), decide_eq_true (show m < m + 1 by omega), hf]; rfl
      · rw [decide_eq_false e, Bool.false_or]
        congr 1
        by_cases h : k < m
        · rw [decide_eq_true h, decide_eq_true (by omega)]
        · rw [decide_eq_false h, decide_eq_false (by omega)]
    · rw [if_neg hf, Nat.add_zero, ih]
      by_cases e : m = k
      · subst e
        have : f m = false := by cases h : f m <;> simp_all
        rw [this, Bool.and_false, Bool.and_false]
      · congr 1
        by_cases h : k < m
        · rw [decide_eq_true h, decide_eq_true (by omega)]
        · rw [decide_eq_false h, decide_eq_false (by omega)]
theorem mkB_4096 {m : Nat} (hm : m ≤ 12) (f : Nat → Bool) : mkB m f < 4096 := Nat.lt_of_lt_of_le (mkB_lt m f) (Nat.pow_le_pow_right (by decide) hm)
def anyB : Nat → (Nat → Bool) → Bool
  | 0, _ => false
  | m + 1, f => anyB m f || f m
theorem anyB_s (m : Nat) (f : Nat → Bool) : anyB (m + 1) f = (anyB m f || f m) := rfl
theorem anyB_congr {m : Nat} {f g : Nat → Bool} (h : ∀ k, k < m → f k = g k) : anyB m f = anyB m g := by
  induction m with
  | zero => rfl
  | succ m ih => unfold anyB; rw [ih (fun k hk => h k (by omega)), h m (by omega)]
theorem anyB_f {m : Nat} {f : Nat → Bool} (h : ∀ k, k < m → f k = false) : anyB m f = false := by
  induction m with
  | zero => rfl
  | succ m ih => unfold anyB; rw [ih (fun k hk => h k (by omega)), h m (by omega)]; rfl
/-- someone outside of a set can try m -/
def trd (S : NS) (n set m : Nat) : Bool := anyB n (fun b => !set.testBit b && decide (0 < S (41 + 12 * (b : Int) + m)))
/-- those of a set whom nobody outside can try -/
def frS (S : NS) (n set : Nat) : Nat := mkB n (fun m => set.testBit m && !trd S n set m)
theorem frS_tb {S : NS} {n set k : Nat} (hs : set < 2 ^ n) : (frS S n set).testBit k = (set.testBit k && !trd S n set k) := by
  unfold frS
  rw [mkB_tb]
  by_cases h : k < n
  · rw [decide_eq_true h, Bool.true_and]
  · rw [decide_eq_false h, Bool.false_and, tb_lt hs (by omega), Bool.false_and]
theorem frS_lt {S : NS} {n set : Nat} (hn : n ≤ 12) : frS S n set < 4096 := mkB_4096 hn _
/-- ties as bits -/
def TM (S : NS) (mem : Mem) (c : Nat) : Prop := ∀ i : Nat, i < 12 → ∃ v : Nat, mem c i = v ∧ v < 4096 ∧ ∀ j : Nat, j < 12 → v.testBit j = decide (0 < S (41 + 12 * (i : Int) + j))
/-- whom a set can try -/
def RC (S : NS) (n : Nat) (mem : Mem) : Prop := ∀ set : Nat, set < 2 ^ n → ∃ r : Nat, mem 44 set = r ∧ r < 4096 ∧ ∀ m : Nat, m < 12 → r.testBit m = anyB n (fun b => set.testBit b && decide (0 < S (41 + 12 * (b : Int) + m)))
theorem RC.congr {S : NS} {n : Nat} {mem mem' : Mem} (h : RC S n mem) (e : ∀ b : Int, mem' 44 b = mem 44 b) : RC S n mem' := fun set hs => by
  obtain ⟨r, a, b⟩ := h set hs
  exact ⟨r, by rw [e]; exact a, b⟩
theorem apart_eq {S : NS} {n : Nat} {mem : Mem} (hn : mem 1 0 = n) (hn2 : n ≤ 12) (hR : RC S n mem) {set : Nat} (hs : set < 2 ^ n) :
    (0 ≤ iand (ishl 1 (mem 1 0) - 1) (ixor set (-1)) ∧ iand (ishl 1 (mem 1 0) - 1) (ixor set (-1)) < 4096) ∧ iand set (ixor (mem 44 (iand (ishl 1 (mem 1 0) - 1) (ixor set (-1)))) (-1)) = frS S n set := by
  have p4 := p2n hn2
  have e1 : iand (ishl 1 (mem 1 0) - 1) (ixor set (-1)) = ((wo (2 ^ n - 1) set : Nat) : Int) := by
    rw [hn, ishl_1 (by omega), show ((2 ^ n : Nat) : Int) - 1 = ((2 ^ n - 1 : Nat) : Int) by omega, iand_wo (by omega) (by omega)]
  have w1 : wo (2 ^ n - 1) set < 2 ^ n := wo_lt (by omega)
  rw [e1]
  obtain ⟨r, a, b, c⟩ := hR _ w1
  refine ⟨by omega, ?_⟩
  rw [a, iand_wo (by omega) (by omega)]
  congr 1
  refine eq_bits (wo_lt (n := 12) (by omega)) (frS_lt hn2) (fun k hk => ?_)
  rw [wo_tb, frS_tb hs, c k hk]
  congr 2
  refine anyB_congr (fun b hb => ?_)
  rw [wo_tb, Nat.testBit_two_pow_sub_one, decide_eq_true hb, Bool.true_and]
/-- how many the greater of a pair has -/
def grN (set a : Nat) : Int := pc set - pc a / 2
theorem grO_n {set a : Nat} (h : set < 4096) (h2 : a < 4096) : grO set a = grN set a := by
  unfold grO grN
  rw [bitc_n h, bitc_n h2, tdiv2 (pc_nn a)]
/-- below a set -/
def sub12 (F : Nat → Nat) : Prop := ∀ set, F set < 4096 ∧ ∀ k, k < 12 → (F set).testBit k = true → set.testBit k = true
theorem grN_r {set a : Nat} (h2 : a < 4096) (hs : ∀ k, k < 12 → a.testBit k = true → set.testBit k = true) (h0 : a ≠ 0) : 1 ≤ grN set a ∧ grN set a ≤ 12 := by
  have h3 := pc_mono hs
  have h4 := pc_pos h0 h2
  have h5 := pc_le set
  unfold grN
  omega
def fpU (F : Nat → Nat) : Nat → Nat × Int
  | 0 => (0, 13)
  | k + 1 => if F (k + 1) ≠ 0 ∧ grN (k + 1) (F (k + 1)) < (fpU F k).2 then (k + 1, grN (k + 1) (F (k + 1))) else fpU F k
theorem fpU_r {F : Nat → Nat} {n : Nat} (hF : ∀ set, set < 2 ^ n → F set < 4096 ∧ ∀ k, k < 12 → (F set).testBit k = true → set.testBit k = true) {k : Nat} (hk : k < 2 ^ n) : (fpU F k).1 ≤ k ∧ (((fpU F k).1 = 0 ∧ (fpU F k).2 = 13) ∨ ((fpU F k).1 ≠ 0 ∧ F (fpU F k).1 ≠ 0 ∧ (fpU F k).2 = grN (fpU F k).1 (F (fpU F k).1) ∧ 1 ≤ (fpU F k).2 ∧ (fpU F k).2 ≤ 12)) := by
  induction k with
  | zero => exact ⟨Nat.le_refl _, Or.inl ⟨rfl, rfl⟩⟩
  | succ k ih =>
    have ih := ih (by omega)
    have hf := hF (k + 1) hk
    unfold fpU
    split
    · rename_i h
      have := grN_r hf.1 hf.2 h.1
      exact ⟨Nat.le_refl _, Or.inr ⟨by simp, h.1, rfl, this.1, this.2⟩⟩
    · exact ⟨by omega, ih.2⟩
/-- what one set gives -/
def chN (F : Nat → Nat) (set : Nat) : Int := if F set = 0 then 13 else grN set (F set)
theorem fpU_min {F : Nat → Nat} {n : Nat} (hF : ∀ set, set < 2 ^ n → F set < 4096 ∧ ∀ k, k < 12 → (F set).testBit k = true → set.testBit k = true) {k : Nat} (hk : k + 1 < 2 ^ n) : (fpU F (k + 1)).2 = if chN F (k + 1) < (fpU F k).2 then chN F (k + 1) else (fpU F k).2 := by
  have r := (fpU_r hF (show k < 2 ^ n by omega)).2
  have r13 : (fpU F k).2 ≤ 13 := by omega
  unfold chN
  conv => lhs; unfold fpU
  by_cases h : F (k + 1) = 0
  · rw [if_neg (fun q => q.1 h), if_pos h, if_neg (by omega)]
  · rw [if_neg h]
    by_cases h2 : grN (k + 1) (F (k + 1)) < (fpU F k).2
    · rw [if_pos ⟨h, h2⟩, if_pos h2]
    · rw [if_neg (fun q => h2 q.2), if_neg h2]
theorem fpU_mono {F : Nat → Nat} {n : Nat} (hF : ∀ set, set < 2 ^ n → F set < 4096 ∧ ∀ k, k < 12 → (F set).testBit k = true → set.testBit k = true) {i k : Nat} (hik : i ≤ k) (hk : k < 2 ^ n) : (fpU F k).2 ≤ (fpU F i).2 := by
  induction k with
  | zero => have : i = 0 := by omega
            subst this; exact Int.le_refl _
  | succ k ih =>
    by_cases e : i = k + 1
    · subst e; exact Int.le_refl _
    · have := ih (by omega) (by omega)
      rw [fpU_min hF hk]
      split <;> omega
theorem fpU_le {F : Nat → Nat} {n : Nat} (hF : ∀ set, set < 2 ^ n → F set < 4096 ∧ ∀ k, k < 12 → (F set).testBit k = true → set.testBit k = true) {s k : Nat} (h0 : s ≠ 0) (hs : s ≤ k) (hk : k < 2 ^ n) : (fpU F k).2 ≤ chN F s := by
  have h1 := fpU_mono hF hs hk
  obtain ⟨t, rfl⟩ : ∃ t, s = t + 1 := ⟨s - 1, by omega⟩
  have h2 := fpU_min hF (show t + 1 < 2 ^ n by omega)
  have : (fpU F (t + 1)).2 ≤ chN F (t + 1) := by rw [h2]; split <;> omega
  omega
/-- if one more could be tried -/
def chF (S : NS) (n f t : Nat) (set : Nat) : Nat := if set.testBit f = true then frS S n set else wo (frS S n set) (2 ^ t)
theorem frS_F {S : NS} {n : Nat} (hn : n ≤ 12) : ∀ set, set < 2 ^ n → frS S n set < 4096 ∧ ∀ k, k < 12 → (frS S n set).testBit k = true → set.testBit k = true := fun set hs => ⟨frS_lt hn, fun k _ h => by
  rw [frS_tb hs] at h
  cases hb : set.testBit k
  · rw [hb] at h; cases h
  · rfl⟩
theorem chF_F {S : NS} {n f t : Nat} (hn : n ≤ 12) : ∀ set, set < 2 ^ n → chF S n f t set < 4096 ∧ ∀ k, k < 12 → (chF S n f t set).testBit k = true → set.testBit k = true := fun set hs => by
  unfold chF
  have h := frS_F (S := S) hn set hs
  split
  · exact h
  · refine ⟨wo_lt (n := 12) h.1, fun k hk q => ?_⟩
    rw [wo_tb] at q
    refine h.2 k hk ?_
    cases hb : (frS S n set).testBit k
    · rw [hb] at q; cases q
    · rfl
theorem chG_n {S : NS} {n f t set : Nat} (hn : n ≤ 12) (hs : set < 2 ^ n) (hf : f < 12) (ht : t < 12) : chG set (frS S n set) f t = chN (chF S n f t) set := by
  have p4 := p2n hn
  have hl := frS_lt (S := S) (set := set) hn
  have hp : 2 ^ t < 4096 := p2 (n := 12) ht
  unfold chG chN chF
  rw [bt_n (by omega) (by omega), ishl_1 (by omega), iand_wo (by omega) (by omega)]
  have hw : wo (frS S n set) (2 ^ t) < 4096 := wo_lt (n := 12) hl
  cases hb : set.testBit f
  · rw [if_pos bI_f, if_neg (show ¬ (false = true) by decide)]
    by_cases h0 : wo (frS S n set) (2 ^ t) = 0
    · rw [if_pos (by omega), if_pos h0]
    · rw [if_neg (by omega), if_neg h0, grO_n (by omega) hw]
  · rw [if_neg (by decide), if_pos rfl]
    by_cases h0 : frS S n set = 0
    · rw [if_pos (by omega), if_pos h0]
    · rw [if_neg (by omega), if_neg h0, grO_n (by omega) hl]
theorem fr0 {S : NS} {n : Nat} (hn : n ≤ 12) : frS S n 0 = 0 := eq_bits (frS_lt hn) (by decide) (fun k hk => by rw [frS_tb (Nat.two_pow_pos n), Nat.zero_testBit, Bool.false_and])
section D2
variable {G : GT} {d : Nat} {mem : Mem} {Q : Option AV → Mem → Prop}
theorem ct_reachOut {S : NS} {n : Nat} (hn : mem 1 0 = n) (hn2 : n ≤ 12) (hT : TM S mem 43) (h0 : mem 44 0 = 0) (hq : ∀ m' : Mem, RC S n m' → (∀ (a : Nat) (b : Int), a ≠ 44 → m' a b = mem a b) → m' 44 0 = 0 → Q none m') : C_X0_reachOut G d [vR 42] mem Q := by
  have p4 := p2n hn2
  refine B_X0_reachOut ?_
  refine up_loop (n := n) (E := fun i m => E_X0_reachOut G d 2 [(0, vR 42), (1, vI i)] [] m Q) (I := fun i m => (∀ (a : Nat) (b : Int), a ≠ 44 → m a b = mem a b) ∧ m 44 0 = 0 ∧ ∀ set : Nat, set < 2 ^ i → ∃ r : Nat, m 44 set = r ∧ r < 4096 ∧ ∀ k : Nat, k < 12 → r.testBit k = anyB i (fun b => set.testBit b && decide (0 < S (41 + 12 * (b : Int) + k)))) ?_ ?_ (i := 0) (by omega) ⟨fun _ _ _ => rfl, h0, fun set hs => by
    have : set = 0 := by omega
    subst this
    exact ⟨0, h0, by decide, fun k _ => Nat.zero_testBit k⟩⟩
  · intro m2 ⟨f2, z2, g2⟩
    refine B_X0_reachOut_2 ?_
    rw [f2 1 0 (by omega), hn]
    exact ⟨by omega, fun _ => hq m2 g2 f2 z2, fun y => absurd (by omega) y⟩
  · intro i m2 hi ⟨f2, z2, g2⟩ hE
    have pi := p2n (show i ≤ 12 by omega)
    have pi2 : (2 : Nat) ^ (i + 1) ≤ 4096 := Nat.pow_le_pow_right (by decide) (show i + 1 ≤ 12 by omega)
    rw [Nat.pow_succ] at pi2
    refine B_X0_reachOut_2 ?_
    rw [f2 1 0 (by omega), hn, ishl_1 (by omega)]
    refine ⟨by omega, fun _ => by omega, fun _ => ?_⟩
    refine up_loop (n := 2 ^ i) (E := fun j m => E_X0_reachOut G d 19 [(0, vR 42), (1, vI i), (2, vI ((2 ^ i : Nat) : Int)), (3, vI j)] [] m Q) (I := fun j m => (∀ (a : Nat) (b : Int), a ≠ 44 → m a b = mem a b) ∧ m 44 0 = 0 ∧ ∀ set : Nat, set < 2 ^ i + j → ∃ r : Nat, m 44 set = r ∧ r < 4096 ∧ ∀ k : Nat, k < 12 → r.testBit k = anyB (i + 1) (fun b => set.testBit b && decide (0 < S (41 + 12 * (b : Int) + k)))) ?_ ?_ (i := 0) (by omega) ⟨f2, z2, fun set hs => by
        obtain ⟨r, a, b, c⟩ := g2 set (by omega)
        refine ⟨r, a, b, fun k hk => ?_⟩
        rw [c k hk, anyB_s]
        rw [tb_lt (show set < 2 ^ i by omega) (Nat.le_refl _), Bool.false_and, Bool.or_false]⟩
    · intro m3 ⟨f3, z3, a3⟩
      exact B_X0_reachOut_19 ⟨⟨by omega, by omega⟩, fun _ => hE m3 ⟨f3, z3, fun set hs => a3 set (by rw [Nat.pow_succ] at hs; omega)⟩, fun y => absurd (by omega) y⟩
    · intro j m3 hj ⟨f3, z3, a3⟩ hE2
      obtain ⟨r, e1, e2, e3⟩ := a3 j (by omega)
      obtain ⟨v, v1, v2, v3⟩ := hT i (by omega)
      refine B_X0_reachOut_19 ?_
      rw [f3 43 _ (by omega), v1, e1, ior_nn (by omega) (by omega), show ((2 ^ i : Nat) : Int) + (j : Int) = ((2 ^ i + j : Nat) : Int) by omega]
      refine ⟨⟨by omega, by omega⟩, fun _ => by omega, fun _ => ⟨by omega, by omega, by omega, fun m4 g4 => hE2 m4 ⟨fun a b h => by rw [g4, upM_ne (by omega)]; exact f3 a b h, by rw [g4, upM_ne (by omega)]; exact z3, fun set hs => ?_⟩⟩⟩
      by_cases q : set = 2 ^ i + j
      · subst q
        refine ⟨r ||| v, by rw [g4, upM_same], Nat.or_lt_two_pow (n := 12) e2 v2, fun k hk => ?_⟩
        rw [Nat.testBit_or, e3 k hk, v3 k hk, anyB_s, anyB_s]
        rw [tb_lt hj (Nat.le_refl _), Bool.false_and, Bool.or_false, tb_top hj, Bool.true_and]
        congr 1
        exact anyB_congr (fun b hb => by rw [tb_add hj hb])
      · obtain ⟨r', a', b'⟩ := a3 set (by omega)
        exact ⟨r', by rw [g4, upM_ne (by omega)]; exact a', b'⟩
def dbF (mem mem' : Mem) : Prop := ∀ (a : Nat) (b : Int), ¬ (a = 42 ∧ 3 ≤ b ∧ b ≤ 5) → a ≠ 43 → a ≠ 44 → mem' a b = mem a b
/-- what Doubt found -/
def DP (S : NS) (n : Nat) (mem : Mem) : Prop := RC S n mem ∧ mem 44 0 = 0 ∧ mem 42 3 = ((fpU (frS S n) (2 ^ n - 1)).1 : Int) ∧ mem 42 4 = (frS S n (fpU (frS S n) (2 ^ n - 1)).1 : Int) ∧ mem 42 5 = (fpU (frS S n) (2 ^ n - 1)).2
theorem ct_findPair (hd : 2 ≤ d) {S : NS} {n : Nat} (hn : mem 1 0 = n) (hn2 : n ≤ 12) (hT : TM S mem 43) (h0 : mem 44 0 = 0) (hq : ∀ m' : Mem, DP S n m' → (∀ (a : Nat) (b : Int), ¬ (a = 42 ∧ 3 ≤ b ∧ b ≤ 5) → a ≠ 44 → m' a b = mem a b) → Q none m') : C_X0_findPair G d [vR 42] mem Q := by
  have p4 := p2n hn2
  refine B_X0_findPair (by omega) (ct_reachOut hn hn2 hT h0 (fun m1 r1 f1 z1 => ⟨rfl, fun m2 e2 m3 e3 m4 e4 => ?_⟩))
  have k4 : ∀ (a : Nat) (b : Int), ¬ (a = 42 ∧ 3 ≤ b ∧ b ≤ 5) → m4 a b = m1 a b := fun a b h => by rw [e4, upM_ne (by omega), e3, upM_ne (by omega), e2, upM_ne (by omega)]
  rw [k4 1 0 (by omega), f1 1 0 (by omega), hn, ishl_1 (by omega)]
  refine up_loop (n := 2 ^ n - 1) (E := fun i m => E_X0_findPair G d 32 [(0, vR 42), (1, vI ((2 ^ n : Nat) : Int)), (2, vI ((i : Int) + 1))] [] m Q) (I := fun i m => (∀ (a : Nat) (b : Int), ¬ (a = 42 ∧ 3 ≤ b ∧ b ≤ 5) → m a b = m1 a b) ∧ m 42 3 = ((fpU (frS S n) i).1 : Int) ∧ m 42 4 = (frS S n (fpU (frS S n) i).1 : Int) ∧ m 42 5 = (fpU (frS S n) i).2) ?_ ?_ (i := 0) (by omega) ⟨k4, by rw [e4, upM_ne (by omega), e3, upM_same]; rfl, by rw [e4, upM_same]; show 0 = ((frS S n 0 : Nat) : Int); rw [fr0 hn2]; rfl, by rw [e4, upM_ne (by omega), e3, upM_ne (by omega), e2, upM_same]; rfl⟩
  · intro m5 ⟨k5, a5, b5, c5⟩
    refine B_X0_findPair_32 hd ⟨⟨by omega, by omega⟩, fun _ => ?_, fun y => absurd (by omega) y⟩
    exact hq m5 ⟨r1.congr (fun b => k5 44 b (by omega)), by rw [k5 44 0 (by omega)]; exact z1, a5, b5, c5⟩ (fun a b x y => by rw [k5 a b x, f1 a b y])
  · intro i m5 hi ⟨k5, a5, b5, c5⟩ hE
    have hn5 : m5 1 0 = n := by rw [k5 1 0 (by omega), f1 1 0 (by omega), hn]
    have ap := apart_eq hn5 hn2 (r1.congr (mem' := m5) (fun b => k5 44 b (by omega))) (set := i + 1) (by omega)
    have hl := frS_lt (S := S) (set := i + 1) hn2
    refine B_X0_findPair_32 hd ?_
    rw [show ((i : Int) + 1) = ((i + 1 : Nat) : Int) by omega, ap.2, grO_n (by omega) hl, c5]
    refine ⟨⟨by omega, by omega⟩, fun y => by omega, fun _ => ⟨ap.1, fun y => ?_, fun y => ⟨fun x => ?_, fun x m6 e6 m7 e7 m8 e8 => ?_⟩⟩⟩
    · refine hE m5 ⟨k5, ?_⟩
      have : fpU (frS S n) (i + 1) = fpU (frS S n) i := by
        show (if _ then _ else _) = _
        rw [if_neg (fun q => q.1 (by omega))]
      rw [this]
      exact ⟨a5, b5, c5⟩
    · refine hE m5 ⟨k5, ?_⟩
      have : fpU (frS S n) (i + 1) = fpU (frS S n) i := by
        show (if _ then _ else _) = _
        rw [if_neg (fun q => by have := q.2; omega)]
      rw [this]
      exact ⟨a5, b5, c5⟩
    · refine hE m8 ⟨fun a b h => by rw [e8, upM_ne (by omega), e7, upM_ne (by omega), e6, upM_ne (by omega)]; exact k5 a b h, ?_⟩
      have : fpU (frS S n) (i + 1) = (i + 1, grN (i + 1) (frS S n (i + 1))) := by
        show (if _ then _ else _) = _
        rw [if_pos ⟨by omega, by omega⟩]
      rw [this]
      exact ⟨by rw [e8, upM_ne (by omega), e7, upM_same], by rw [e8, upM_same], by rw [e8, upM_ne (by omega), e7, upM_ne (by omega), e6, upM_same]⟩
theorem ct_look (hd : 3 ≤ d) {S : NS} {n : Nat} (hR : HR 1 S mem) (hn : S 0 = n) (hn2 : n ≤ 12) (h0 : mem 44 0 = 0) (hq : ∀ m' : Mem, DP S n m' → dbF mem m' → Q none m') : C_X0_look G d [vR 42] mem Q := by
  refine B_X0_look (by omega) (fun m1 e1 => ?_)
  have k1 : ∀ (a : Nat) (b : Int), a ≠ 43 → m1 a b = mem a b := fun a b h => by
    rw [e1]; unfold cpM; rw [if_neg (by omega)]
  refine ct_findPair (S := S) (by omega) (by rw [k1 1 0 (by omega), hR.1.1, hn]) hn2 (fun i hi => ?_) (by rw [k1 44 0 (by omega)]; exact h0) (fun m2 p2 f2 => ⟨rfl, hq m2 p2 (fun a b x y z => by rw [f2 a b x z, k1 a b y])⟩)
  obtain ⟨v, v1, v2, v3⟩ := hR.2.2.2.1 i hi
  refine ⟨v, ?_, v2, v3⟩
  rw [e1]
  unfold cpM
  rw [if_pos (by omega), show (0 : Int) + ((i : Int) - 0) = i by omega]
  exact v1
theorem ct_lookWithout (hd : 3 ≤ d) {S : NS} {n f t : Nat} (hR : HR 1 S mem) (hn : S 0 = n) (hn2 : n ≤ 12) (h0 : mem 44 0 = 0) (hf : f < 12) (ht : t < 12) (hq : ∀ m' : Mem, DP (sU S (41 + 12 * (f : Int) + t) 0) n m' → dbF mem m' → Q none m') : C_X0_lookWithout G d [vR 42, vI f, vI t] mem Q := by
  refine B_X0_lookWithout (by omega) (fun m1 e1 => ⟨by omega, fun m2 e2 => ?_⟩)
  have k1 : ∀ (a : Nat) (b : Int), a ≠ 43 → m1 a b = mem a b := fun a b h => by
    rw [e1]; unfold cpM; rw [if_neg (by omega)]
  have c1 : ∀ i : Nat, i < 12 → m1 43 i = mem 5 i := fun i hi => by
    rw [e1]
    unfold cpM
    rw [if_pos (by omega), show (0 : Int) + ((i : Int) - 0) = i by omega]
  have hp : 2 ^ t < 4096 := p2 (n := 12) ht
  refine ct_findPair (S := sU S (41 + 12 * (f : Int) + t) 0) (by omega) (by rw [e2, upM_ne (by omega), k1 1 0 (by omega), hR.1.1, hn]) hn2 (fun i hi => ?_) (by rw [e2, upM_ne (by omega), k1 44 0 (by omega)]; exact h0) (fun m3 p3 f3 => ⟨rfl, hq m3 p3 (fun a b x y z => by rw [f3 a b x z, e2, upM_ne (by omega), k1 a b y])⟩)
  obtain ⟨v, v1, v2, v3⟩ := hR.2.2.2.1 i hi
  by_cases e : i = f
  · subst e
    refine ⟨wo v (2 ^ t), ?_, wo_lt (n := 12) v2, fun j hj => ?_⟩
    · rw [e2, upM_same, c1 i hi, show mem 5 i = v from v1, ishl_1 (by omega), iand_wo (by omega) (by omega)]
    · rw [wo_tb, v3 j hj, Nat.testBit_two_pow]
      by_cases q : t = j
      · subst q
        rw [sU_same, decide_eq_true rfl]
        simp
      · rw [sU_ne (by omega), decide_eq_false q]
        simp
  · refine ⟨v, ?_, v2, fun j hj => ?_⟩
    · rw [e2, upM_ne (by omega), c1 i hi]; exact v1
    · rw [v3 j hj, sU_ne (by omega)]
end D2
