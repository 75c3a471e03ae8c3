/-! ===== digits of base 3; stances ===== -/
def dg (m z : Nat) : Nat := z / 3 ^ m % 3
theorem dg_lt (m z : Nat) : dg m z < 3 := Nat.mod_lt _ (by decide)
theorem dg_0 (z : Nat) : dg 0 z = z % 3 := by unfold dg; rw [Nat.pow_zero, Nat.div_one]
theorem dg_s (m z : Nat) : dg (m + 1) z = dg m (z / 3) := by
  unfold dg
  rw [Nat.pow_succ, Nat.mul_comm, Nat.div_div_eq_div_mul]
theorem dg_ext : ∀ (q z z' : Nat), z < 3 ^ q → z' < 3 ^ q → (∀ m, m < q → dg m z = dg m z') → z = z' := by
  intro q
  induction q with
  | zero => intro z z' h h' _; rw [Nat.pow_zero] at h h'; omega
  | succ q ih =>
    intro z z' h h' e
    rw [Nat.pow_succ] at h h'
    have e0 := e 0 (by omega)
    rw [dg_0, dg_0] at e0
    have := ih (z / 3) (z' / 3) (by omega) (by omega) (fun m hm => by rw [← dg_s, ← dg_s]; exact e (m + 1) (by omega))
    omega
/-- digits from r on, the highest first -/
def hz (f : Nat → Nat) : Nat → Nat → Nat
  | 0, _ => 0
  | k + 1, r => hz f k (r + 1) * 3 + f r
theorem hz_lt {f : Nat → Nat} (hf : ∀ i, f i < 3) : ∀ k r, hz f k r < 3 ^ k := by
  intro k
  induction k with
  | zero => intro r; exact Nat.one_pos
  | succ k ih => intro r; have := ih (r + 1); have := hf r; unfold hz; rw [Nat.pow_succ]; omega
theorem dg_hz {f : Nat → Nat} (hf : ∀ i, f i < 3) : ∀ k r m, m < k → dg m (hz f k r) = f (r + m) := by
  intro k
  induction k with
  | zero => intro r m hm; omega
  | succ k ih =>
    intro r m hm
    have := hf r
    unfold hz
    cases m with
    | zero => show dg 0 _ = f r; rw [dg_0]; omega
    | succ m =>
      rw [dg_s, show (hz f k (r + 1) * 3 + f r) / 3 = hz f k (r + 1) by omega, ih (r + 1) m (by omega)]
      congr 1
      omega
/-- a place by its three coordinates -/
def ix (T b e j : Nat) : Nat := T * (3 * b + e) + j
theorem ix_div {T b e j : Nat} (hj : j < T) : ix T b e j / T = 3 * b + e := by
  unfold ix
  rw [Nat.mul_add_div (by omega), Nat.div_eq_of_lt hj, Nat.add_zero]
theorem ix_mod {T b e j : Nat} (hj : j < T) : ix T b e j % T = j := by
  unfold ix
  rw [Nat.mul_add_mod, Nat.mod_eq_of_lt hj]
theorem ix_inj {T b e j b' e' j' : Nat} (hj : j < T) (hj' : j' < T) (he : e < 3) (he' : e' < 3) (h : ix T b e j = ix T b' e' j') : b = b' ∧ e = e' ∧ j = j' := by
  have h1 := ix_div (b := b) (e := e) hj
  have h2 := ix_div (b := b') (e := e') hj'
  have h3 := ix_mod (b := b) (e := e) hj
  have h4 := ix_mod (b := b') (e := e') hj'
  rw [h] at h1 h3
  omega
theorem ix_dgi {i b e j : Nat} (hj : j < 3 ^ i) (he : e < 3) : dg i (ix (3 ^ i) b e j) = e := by
  unfold dg
  rw [ix_div hj]
  omega
theorem ix_b {i b e j : Nat} (hj : j < 3 ^ i) (he : e < 3) : ix (3 ^ i) b e j / 3 ^ (i + 1) = b := by
  rw [Nat.pow_succ, ← Nat.div_div_eq_div_mul, ix_div hj]
  omega
theorem ix_dgo {i b e e' j m : Nat} (hj : j < 3 ^ i) (he : e < 3) (he' : e' < 3) (hm : m ≠ i) : dg m (ix (3 ^ i) b e j) = dg m (ix (3 ^ i) b e' j) := by
  by_cases h : m < i
  · have hp : 3 ^ i = 3 ^ m * (3 * 3 ^ (i - m - 1)) := by
      rw [← Nat.mul_assoc, ← Nat.pow_succ, ← Nat.pow_add]
      congr 1
      omega
    have key : ∀ a : Nat, dg m (3 ^ i * a + j) = dg m j := by
      intro a
      unfold dg
      rw [hp, Nat.mul_assoc, Nat.mul_add_div (Nat.pow_pos (by decide)), Nat.mul_assoc, Nat.mul_add_mod]
    unfold ix
    rw [key, key]
  · have e1 : ∀ z, dg m z = dg (m - (i + 1)) (z / 3 ^ (i + 1)) := by
      intro z
      unfold dg
      rw [Nat.div_div_eq_div_mul, ← Nat.pow_add]
      congr 3
      omega
    rw [e1, e1, ix_b hj he, ix_b hj he']
theorem ix_self (i z : Nat) : z = ix (3 ^ i) (z / 3 ^ (i + 1)) (dg i z) (z % 3 ^ i) := by
  unfold ix dg
  have h1 := Nat.div_add_mod z (3 ^ i)
  have h2 : 3 * (z / 3 ^ (i + 1)) + z / 3 ^ i % 3 = z / 3 ^ i := by
    rw [Nat.pow_succ, ← Nat.div_div_eq_div_mul]
    omega
  rw [h2]
  exact h1.symm
theorem ix_lt {i q b e j : Nat} (hi : i < q) (hj : j < 3 ^ i) (he : e < 3) (hb : b < 3 ^ (q - i - 1)) : ix (3 ^ i) b e j < 3 ^ q := by
  have h1 : 3 ^ q = 3 ^ i * (3 * 3 ^ (q - i - 1)) := by
    rw [← Nat.mul_assoc, ← Nat.pow_succ, ← Nat.pow_add]
    congr 1
    omega
  rw [h1]
  unfold ix
  have h2 : 3 ^ i * (3 * b + e) + 3 ^ i ≤ 3 ^ i * (3 * 3 ^ (q - i - 1)) := by
    rw [← Nat.mul_succ]
    exact Nat.mul_le_mul_left _ (by omega)
  omega
theorem b_lt {i q z : Nat} (hi : i < q) (hz : z < 3 ^ q) : z / 3 ^ (i + 1) < 3 ^ (q - i - 1) := by
  apply Nat.div_lt_of_lt_mul
  rw [← Nat.pow_add]
  rw [show i + 1 + (q - i - 1) = q by omega]
  exact hz
/-- digit i made 2 -/
def upz (i z : Nat) : Nat := ix (3 ^ i) (z / 3 ^ (i + 1)) 2 (z % 3 ^ i)
theorem upz_dg (i z m : Nat) : dg m (upz i z) = if m = i then 2 else dg m z := by
  have hj : z % 3 ^ i < 3 ^ i := Nat.mod_lt _ (Nat.pow_pos (by decide))
  unfold upz
  by_cases h : m = i
  · rw [if_pos h, h]; exact ix_dgi hj (by decide)
  · rw [if_neg h, ix_dgo hj (by decide) (dg_lt i z) h, ← ix_self]
theorem upz_lt {i q z : Nat} (hi : i < q) (hz : z < 3 ^ q) : upz i z < 3 ^ q := ix_lt hi (Nat.mod_lt _ (Nat.pow_pos (by decide))) (by decide) (b_lt hi hz)
/-- what is counted at a place after i passes, of sets with c and of stances stn -/
def vst (N : Nat) (c : Nat → Bool) (q : Nat) (stn : Nat → Nat → Nat) : Nat → Nat → Int
  | 0, z => sm N (fun s => bI (c s && decide (hz (fun j => stn j s) q 0 = z)))
  | i + 1, z => vst N c q stn i z + (if dg i z = 2 then 0 else vst N c q stn i (upz i z))
def Mp (q : Nat) (stn : Nat → Nat → Nat) (i z s : Nat) : Prop := ∀ j, j < q → dg j z = stn j s ∨ (j < i ∧ stn j s = 2)
noncomputable def MB (q : Nat) (stn : Nat → Nat → Nat) (i z s : Nat) : Bool := @decide (Mp q stn i z s) (Classical.propDecidable _)
theorem MB_iff {q : Nat} {stn : Nat → Nat → Nat} {i z s : Nat} : MB q stn i z s = true ↔ Mp q stn i z s := by unfold MB; exact @decide_eq_true_iff _ (Classical.propDecidable _)
theorem bool_iff {a b : Bool} (h : a = true ↔ b = true) : a = b := by cases a <;> cases b <;> simp_all
theorem vst_sum {N : Nat} {c : Nat → Bool} {q : Nat} {stn : Nat → Nat → Nat} (hst : ∀ j s, stn j s < 3) : ∀ i, i ≤ q → ∀ z, z < 3 ^ q → vst N c q stn i z = sm N (fun s => bI (c s && MB q stn i z s)) := by
  intro i
  induction i with
  | zero =>
    intro _ z hz'
    refine sm_congr (fun s _ => ?_)
    congr 2
    refine bool_iff ?_
    rw [decide_eq_true_iff, MB_iff]
    constructor
    · intro h j hj
      left
      rw [← h, dg_hz (fun j => hst j s) q 0 j hj, Nat.zero_add]
    · intro h
      refine dg_ext q _ _ (hz_lt (fun j => hst j s) q 0) hz' (fun m hm => ?_)
      rw [dg_hz (fun j => hst j s) q 0 m hm, Nat.zero_add]
      rcases h m hm with h | h
      · exact h.symm
      · omega
  | succ i ih =>
    intro hi z hz'
    have ih1 := ih (by omega) z hz'
    have ih2 := ih (by omega) (upz i z) (upz_lt hi hz')
    show vst N c q stn i z + _ = _
    rw [ih1]
    by_cases h2 : dg i z = 2
    · rw [if_pos h2, Int.add_zero]
      refine sm_congr (fun s _ => ?_)
      congr 2
      refine bool_iff ?_
      rw [MB_iff, MB_iff]
      constructor
      · intro h j hj
        rcases h j hj with h | h
        · exact Or.inl h
        · exact Or.inr ⟨by omega, h.2⟩
      · intro h j hj
        rcases h j hj with h | h
        · exact Or.inl h
        · by_cases e : j = i
          · subst e; left; rw [h2, h.2]
          · exact Or.inr ⟨by omega, h.2⟩
    · rw [if_neg h2, ih2, ← sm_add]
      refine sm_congr (fun s _ => ?_)
      have key : (MB q stn (i + 1) z s = true ↔ (MB q stn i z s = true ∨ MB q stn i (upz i z) s = true)) ∧ ¬ (MB q stn i z s = true ∧ MB q stn i (upz i z) s = true) := by
        rw [MB_iff, MB_iff, MB_iff]
        constructor
        · constructor
          · intro h
            by_cases e : stn i s = 2
            · right
              intro j hj
              rw [upz_dg]
              by_cases e2 : j = i
              · subst e2; left; rw [if_pos rfl, e]
              · rw [if_neg e2]
                rcases h j hj with h | h
                · exact Or.inl h
                · exact Or.inr ⟨by omega, h.2⟩
            · left
              intro j hj
              rcases h j hj with h | h
              · exact Or.inl h
              · by_cases e2 : j = i
                · subst e2; exact absurd h.2 e
                · exact Or.inr ⟨by omega, h.2⟩
          · intro h
            rcases h with h | h
            · intro j hj
              rcases h j hj with h | h
              · exact Or.inl h
              · exact Or.inr ⟨by omega, h.2⟩
            · intro j hj
              have := h j hj
              rw [upz_dg] at this
              by_cases e2 : j = i
              · subst e2
                rw [if_pos rfl] at this
                right
                exact ⟨by omega, by omega⟩
              · rw [if_neg e2] at this
                rcases this with h | h
                · exact Or.inl h
                · exact Or.inr ⟨by omega, h.2⟩
        · intro ⟨h, h'⟩
          have a := h i hi
          have b := h' i hi
          rw [upz_dg, if_pos rfl] at b
          omega
      cases c s
      · rfl
      · rw [Bool.true_and, Bool.true_and, Bool.true_and]
        cases h1 : MB q stn i z s <;> cases h3 : MB q stn i (upz i z) s <;> cases h4 : MB q stn (i + 1) z s <;> simp_all [bI]
theorem vst_r {N : Nat} {c : Nat → Bool} {q : Nat} {stn : Nat → Nat → Nat} (hst : ∀ j s, stn j s < 3) {i z : Nat} (hi : i ≤ q) (hz' : z < 3 ^ q) : 0 ≤ vst N c q stn i z ∧ vst N c q stn i z ≤ N := by
  rw [vst_sum hst i hi z hz']
  exact ⟨sm_nn (fun _ _ => bI_nn _), sm_le1 (fun _ _ => bI_le _)⟩
