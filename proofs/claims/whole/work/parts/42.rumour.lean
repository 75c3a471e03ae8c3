/-! ===== what the liars should say ===== -/
def liB (S : NS) (set k : Nat) : Bool := decide (0 < S (41 + (k : Int))) && set.testBit (k / 12) && decide (S (5 + 3 * ((k / 12 : Nat) : Int)) ≠ 5)
def LT (S : NS) (set : Nat) : Nat → List Nat
  | 0 => []
  | k + 1 => if liB S set k = true then LT S set k ++ [k] else LT S set k
def LL (S : NS) (set k : Nat) : Nat := (LT S set k).length
def LA (S : NS) (set j : Nat) : Nat := (LT S set 144).getD j 0
theorem LL_s (S : NS) (set k : Nat) : LL S set (k + 1) = LL S set k + (if liB S set k = true then 1 else 0) := by
  unfold LL
  show (if liB S set k = true then LT S set k ++ [k] else LT S set k).length = _
  by_cases h : liB S set k = true
  · rw [if_pos h, if_pos h, List.length_append]; rfl
  · rw [if_neg h, if_neg h]; rfl
theorem LL_mono (S : NS) (set : Nat) {a b : Nat} (h : a ≤ b) : LL S set a ≤ LL S set b := by
  obtain ⟨r, rfl⟩ : ∃ r, b = a + r := ⟨b - a, by omega⟩
  clear h
  induction r with
  | zero => exact Nat.le_refl _
  | succ r ih => rw [show a + (r + 1) = (a + r) + 1 by omega, LL_s]; split <;> omega
theorem LT_pre (S : NS) (set a : Nat) : ∀ r, ∃ l, LT S set (a + r) = LT S set a ++ l := by
  intro r
  induction r with
  | zero => exact ⟨[], by rw [List.append_nil]; rfl⟩
  | succ r ih =>
    obtain ⟨l, e⟩ := ih
    show ∃ l, (if liB S set (a + r) = true then LT S set (a + r) ++ [a + r] else LT S set (a + r)) = _
    by_cases h : liB S set (a + r) = true
    · rw [if_pos h, e]; exact ⟨l ++ [a + r], by rw [List.append_assoc]⟩
    · rw [if_neg h, e]; exact ⟨l, rfl⟩
theorem LA_at {S : NS} {set k : Nat} (hk : k < 144) (h : liB S set k = true) : LA S set (LL S set k) = k := by
  obtain ⟨l, e⟩ := LT_pre S set (k + 1) (144 - (k + 1))
  rw [show k + 1 + (144 - (k + 1)) = 144 by omega] at e
  unfold LA LL
  rw [e, show LT S set (k + 1) = LT S set k ++ [k] from if_pos h, List.append_assoc, List.getD_eq_getElem?_getD, List.getElem?_append_right (Nat.le_refl _), Nat.sub_self]
  rfl
theorem LA_in {S : NS} {set : Nat} : ∀ k, k ≤ 144 → ∀ j, j < LL S set k → liB S set (LA S set j) = true ∧ LA S set j < k := by
  intro k
  induction k with
  | zero => intro _ j hj; exact absurd hj (Nat.not_lt_zero _)
  | succ k ih =>
    intro hk j hj
    rw [LL_s] at hj
    by_cases h : j < LL S set k
    · have := ih (by omega) j h; exact ⟨this.1, by omega⟩
    · by_cases h2 : liB S set k = true
      · rw [if_pos h2] at hj
        have e : j = LL S set k := by omega
        rw [e, LA_at (by omega) h2]
        exact ⟨h2, by omega⟩
      · rw [if_neg h2] at hj; omega
theorem LL_sm (S : NS) (set : Nat) : ∀ k, (LL S set k : Int) = sm k (fun k => bI (liB S set k)) := by
  intro k
  induction k with
  | zero => rfl
  | succ k ih =>
    rw [LL_s, sm_s, ← ih]
    cases h : liB S set k
    · rw [if_neg (by decide)]; simp [bI]
    · rw [if_pos rfl]; simp [bI]
theorem tie_k {S : NS} (hV : VN S) {k : Nat} (hk : k < 144) (h : 0 < S (41 + (k : Int))) : ((k / 12 : Nat) : Int) < S 0 ∧ ((k % 12 : Nat) : Int) < S 0 ∧ k / 12 ≠ k % 12 := by
  have := hV.2.2.2.2.2.2.2.1 ((k / 12 : Nat) : Int) ((k % 12 : Nat) : Int) (by omega) (by omega) (by omega) (by omega)
  rw [show 41 + 12 * ((k / 12 : Nat) : Int) + ((k % 12 : Nat) : Int) = 41 + (k : Int) by omega] at this
  have := this.2.2 (by omega)
  omega
theorem liB_tie {S : NS} {set k : Nat} (h : liB S set k = true) : 0 < S (41 + (k : Int)) ∧ set.testBit (k / 12) = true ∧ S (5 + 3 * ((k / 12 : Nat) : Int)) ≠ 5 := by
  unfold liB at h
  rw [Bool.and_eq_true, Bool.and_eq_true, decide_eq_true_iff, decide_eq_true_iff] at h
  exact ⟨h.1.1, h.1.2, h.2⟩
theorem liB_out {S : NS} (hV : VN S) {set k n : Nat} (hn : S 0 = n) (hk : k < 144) (h : n ≤ k / 12 ∨ n ≤ k % 12) : liB S set k = false := by
  cases e : liB S set k
  · rfl
  · have := tie_k hV hk (liB_tie e).1
    omega
theorem LL_skip {S : NS} {set a b : Nat} (hab : a ≤ b) (h : ∀ k, a ≤ k → k < b → liB S set k = false) : LL S set b = LL S set a := by
  obtain ⟨r, rfl⟩ : ∃ r, b = a + r := ⟨b - a, by omega⟩
  clear hab
  induction r with
  | zero => rfl
  | succ r ih =>
    rw [show a + (r + 1) = (a + r) + 1 by omega, LL_s, h (a + r) (by omega) (by omega), if_neg (by decide), Nat.add_zero]
    exact ih (fun k h1 h2 => h k h1 (by omega))
theorem sm_skip {f : Nat → Int} {a b : Nat} (hab : a ≤ b) (h : ∀ k, a ≤ k → k < b → f k = 0) : sm b f = sm a f := by
  obtain ⟨r, rfl⟩ : ∃ r, b = a + r := ⟨b - a, by omega⟩
  rw [sm_app, sm_zero (fun i hi => h (a + i) (by omega) (by omega)), Int.add_zero]
/-- what the set s lets of the tie at k against what the others of set say -/
def hwB (S : NS) (set s k : Nat) : Bool := decide (0 < S (41 + (k : Int))) && !set.testBit (k / 12) && !letB (S (5 + 3 * ((k / 12 : Nat) : Int))) (s.testBit (k / 12)) (s.testBit (k % 12)) (!set.testBit (k % 12))
theorem hwB_out {S : NS} (hV : VN S) {set s k n : Nat} (hn : S 0 = n) (hk : k < 144) (h : n ≤ k / 12 ∨ n ≤ k % 12) : hwB S set s k = false := by
  cases e : hwB S set s k
  · rfl
  · unfold hwB at e
    rw [Bool.and_eq_true, Bool.and_eq_true, decide_eq_true_iff] at e
    have := tie_k hV hk e.1.1
    omega
def hwS (S : NS) (set s k : Nat) : Int := sm k (fun k => bI (hwB S set s k))
def wcB (S : NS) (set s : Nat) : Bool := decide (hwS S set s 144 = 0) && decide (pc s ≤ S 2)
/-- whether s lets what tie j of the liars says -/
def lsB (S : NS) (set j s : Nat) (w : Bool) : Bool := letB (S (5 + 3 * ((LA S set j / 12 : Nat) : Int))) (s.testBit (LA S set j / 12)) (s.testBit (LA S set j % 12)) w
def stn (S : NS) (set j s : Nat) : Nat := if lsB S set j s true then (if lsB S set j s false then 2 else 1) else 0
theorem stn_lt (S : NS) (set j s : Nat) : stn S set j s < 3 := by unfold stn; split <;> (try split) <;> omega
theorem letB_one {k : Int} (hk : k ≠ 5) (a b : Bool) : letB k a b true = true ∨ letB k a b false = true := by
  unfold letB
  cases a <;> cases b <;> simp [hk] <;> (try (by_cases h1 : k = 1 <;> by_cases h2 : k = 2 <;> by_cases h4 : k = 4 <;> simp [h1, h2, h4]))
def laB (S : NS) (set s said : Nat) : Nat → Bool
  | 0 => true
  | j + 1 => laB S set s said j && lsB S set j s (said.testBit j)
theorem laB_iff {S : NS} {set s said : Nat} : ∀ q, laB S set s said q = true ↔ ∀ j, j < q → lsB S set j s (said.testBit j) = true := by
  intro q
  induction q with
  | zero => exact ⟨fun _ j hj => absurd hj (Nat.not_lt_zero _), fun _ => rfl⟩
  | succ q ih =>
    show (laB S set s said q && lsB S set q s (said.testBit q)) = true ↔ _
    rw [Bool.and_eq_true, ih]
    constructor
    · intro h j hj
      by_cases e : j = q
      · subst e; exact h.2
      · exact h.1 j (by omega)
    · intro h
      exact ⟨fun j hj => h j (by omega), h q (by omega)⟩
theorem laB_f {S : NS} {set s said j q : Nat} (hj : j < q) (h : lsB S set j s (said.testBit j) = false) : laB S set s said q = false := by
  cases e : laB S set s said q
  · rfl
  · rw [(laB_iff q).mp e j hj] at h; cases h
def pbt (said j : Nat) : Nat := if said.testBit j then 1 else 0
theorem pbt_lt (said j : Nat) : pbt said j < 3 := by unfold pbt; split <;> omega
/-- how many sets let said -/
def wV (S : NS) (set n q said : Nat) : Int := sm (2 ^ n) (fun s => bI (wcB S set s && laB S set s said q))
theorem wV_r (S : NS) (set n q said : Nat) : 0 ≤ wV S set n q said ∧ wV S set n q said ≤ ((2 ^ n : Nat) : Int) := ⟨sm_nn (fun _ _ => bI_nn _), sm_le1 (fun _ _ => bI_le _)⟩
theorem vst_wV (S : NS) (set n said : Nat) {q : Nat} (hq : q = LL S set 144) : vst (2 ^ n) (wcB S set) q (stn S set) q (hz (pbt said) q 0) = wV S set n q said := by
  rw [vst_sum (stn_lt S set) q (Nat.le_refl _) _ (hz_lt (pbt_lt said) q 0)]
  refine sm_congr (fun s _ => ?_)
  congr 2
  refine bool_iff ?_
  rw [MB_iff, laB_iff]
  have key : ∀ j, j < q → ((dg j (hz (pbt said) q 0) = stn S set j s ∨ (j < q ∧ stn S set j s = 2)) ↔ lsB S set j s (said.testBit j) = true) := by
    intro j hj
    rw [dg_hz (pbt_lt said) q 0 j hj, Nat.zero_add]
    have h5 := (liB_tie (LA_in (S := S) (set := set) 144 (Nat.le_refl _) j (by omega)).1).2.2
    have one := letB_one h5 (s.testBit (LA S set j / 12)) (s.testBit (LA S set j % 12))
    unfold stn pbt
    change lsB S set j s true = true ∨ lsB S set j s false = true at one
    cases said.testBit j <;> cases h1 : lsB S set j s true <;> cases h2 : lsB S set j s false <;> simp_all
  exact ⟨fun h j hj => (key j hj).mp (h j hj), fun h j hj => (key j hj).mpr (h j hj)⟩
/-- the greatest so far, and the first that has it -/
def wst (S : NS) (set n q : Nat) : Nat → Int × Int
  | 0 => (-1, 0)
  | k + 1 => if laB S set set k q = true ∧ (wst S set n q k).1 < wV S set n q k then (wV S set n q k, (k : Int)) else wst S set n q k
theorem wst_I (S : NS) (set n q : Nat) : ∀ k, ((wst S set n q k).1 = -1 ∧ ∀ j, j < k → laB S set set j q = false) ∨ (0 ≤ (wst S set n q k).1 ∧ ∃ j : Nat, j < k ∧ (wst S set n q k).2 = j ∧ (wst S set n q k).1 = wV S set n q j ∧ laB S set set j q = true) := by
  intro k
  induction k with
  | zero => left; exact ⟨rfl, fun j hj => absurd hj (Nat.not_lt_zero _)⟩
  | succ k ih =>
    have r := wV_r S set n q k
    show (((if laB S set set k q = true ∧ (wst S set n q k).1 < wV S set n q k then (wV S set n q k, (k : Int)) else wst S set n q k)).1 = -1 ∧ _) ∨ (_ ∧ ∃ j : Nat, _ ∧ (if laB S set set k q = true ∧ (wst S set n q k).1 < wV S set n q k then (wV S set n q k, (k : Int)) else wst S set n q k).2 = _ ∧ _ ∧ _)
    by_cases h : laB S set set k q = true ∧ (wst S set n q k).1 < wV S set n q k
    · right
      rw [show wst S set n q (k + 1) = _ from if_pos h, if_pos h]
      exact ⟨r.1, k, by omega, rfl, rfl, h.1⟩
    · rw [show wst S set n q (k + 1) = _ from if_neg h, if_neg h]
      rcases ih with ih | ⟨a, j, b, c⟩
      · left
        refine ⟨ih.1, fun j hj => ?_⟩
        by_cases e : j = k
        · subst e
          cases e2 : laB S set set j q
          · rfl
          · exact absurd ⟨e2, by omega⟩ h
        · exact ih.2 j (by omega)
      · right
        exact ⟨a, j, by omega, c⟩
theorem wst_some (S : NS) (set n : Nat) {q : Nat} (hq : q = LL S set 144) : 0 ≤ (wst S set n q (2 ^ q)).1 := by
  rcases wst_I S set n q (2 ^ q) with h | h
  · exfalso
    have ex : ∀ r, ∃ said, said < 2 ^ r ∧ ∀ j, j < r → said.testBit j = lsB S set j set true := by
      intro r
      induction r with
      | zero => exact ⟨0, by decide, fun j hj => absurd hj (Nat.not_lt_zero _)⟩
      | succ r ih =>
        obtain ⟨z, z1, z2⟩ := ih
        by_cases e : lsB S set r set true = true
        · refine ⟨2 ^ r + z, by rw [Nat.pow_succ]; omega, fun j hj => ?_⟩
          rw [tb_1 z1]
          by_cases e2 : r = j
          · subst e2; rw [e]; simp
          · rw [decide_eq_false e2, Bool.false_or]; exact z2 j (by omega)
        · refine ⟨z, by rw [Nat.pow_succ]; omega, fun j hj => ?_⟩
          by_cases e2 : j = r
          · subst e2
            rw [tb_lt z1 (Nat.le_refl _)]
            exact (Bool.eq_false_iff.mpr e).symm
          · exact z2 j (by omega)
    obtain ⟨z, z1, z2⟩ := ex q
    have hz := h.2 z z1
    have : laB S set set z q = true := by
      rw [laB_iff]
      intro j hj
      rw [z2 j hj]
      have h5 := (liB_tie (LA_in (S := S) (set := set) 144 (Nat.le_refl _) j (by omega)).1).2.2
      have one := letB_one h5 (set.testBit (LA S set j / 12)) (set.testBit (LA S set j % 12))
      change lsB S set j set true = true ∨ lsB S set j set false = true at one
      cases e : lsB S set j set true
      · rcases one with one | one
        · rw [one] at e; cases e
        · exact one
      · exact e
    rw [this] at hz; cases hz
  · exact h.1
