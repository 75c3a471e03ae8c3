/-! ===== loops; the tally ===== -/
theorem up_loop {σ : Type} {n : Nat} {E I : Nat → σ → Prop} (hend : ∀ s, I n s → E n s) (hstep : ∀ i s, i < n → I i s → (∀ s', I (i + 1) s' → E (i + 1) s') → E i s) {i : Nat} {s : σ} (hi : i ≤ n) (h : I i s) : E i s := by
  have lp : ∀ k i : Nat, i + k = n → ∀ s, I i s → E i s := by
    intro k
    induction k with
    | zero =>
      intro i e s h
      have e2 : i = n := by omega
      subst e2
      exact hend s h
    | succ k ih =>
      intro i e s h
      exact hstep i s (by omega) h (fun s' h' => ih (i + 1) (by omega) s' h')
  exact lp (n - i) i (by omega) s h
theorem sm_delta {n k : Nat} {f g : Nat → Int} (hk : k < n) (h : ∀ i, i < n → i ≠ k → f i = g i) : sm n f = sm n g + (f k - g k) := by
  have h1 := sm_one (f := fun i => f i - g i) hk (fun i hi hne => by rw [h i hi hne]; omega)
  rw [sm_sub] at h1
  omega
/-- what a tally counts of a set -/
def tq (mem : Mem) (t : Nat) (set : Nat) : Int := mem t 3 + sm 12 (fun i => bI (set.testBit i) * mem (t + 2) i) + sm 12 (fun i => sm i (fun j => bI (set.testBit i && set.testBit j) * mem (t + 3) (i * 12 + j)))
theorem tq_congr {mem mem' : Mem} {t : Nat} (h0 : mem' t 3 = mem t 3) (h1 : ∀ z, mem' (t + 2) z = mem (t + 2) z) (h2 : ∀ z, mem' (t + 3) z = mem (t + 3) z) (set : Nat) : tq mem' t set = tq mem t set := by
  unfold tq
  rw [h0]
  congr 1
  · congr 1
    exact sm_congr (fun i _ => by rw [h1])
  · exact sm_congr (fun i _ => sm_congr (fun j _ => by rw [h2]))
def TB (c : Int) (mem : Mem) (t : Nat) : Prop := (-c ≤ mem t 3 ∧ mem t 3 ≤ c) ∧ (∀ i : Int, 0 ≤ i → i < 12 → -c ≤ mem (t + 2) i ∧ mem (t + 2) i ≤ c) ∧ (∀ i : Int, 0 ≤ i → i < 144 → -(2 * c) ≤ mem (t + 3) i ∧ mem (t + 3) i ≤ 2 * c)
theorem TB.al {c : Int} {mem : Mem} {t : Nat} (h : TB c mem t) : -c ≤ mem t 3 ∧ mem t 3 ≤ c := h.1
theorem TB.si {c : Int} {mem : Mem} {t : Nat} (h : TB c mem t) : ∀ i : Int, 0 ≤ i → i < 12 → -c ≤ mem (t + 2) i ∧ mem (t + 2) i ≤ c := h.2.1
theorem TB.bo {c : Int} {mem : Mem} {t : Nat} (h : TB c mem t) : ∀ i : Int, 0 ≤ i → i < 144 → -(2 * c) ≤ mem (t + 3) i ∧ mem (t + 3) i ≤ 2 * c := h.2.2
/-- no other cells than those of the tally's sums -/
def tyF (t : Nat) (mem mem' : Mem) : Prop := ∀ (a : Nat) (b : Int), ¬ (a = t ∧ b = 3) → a ≠ t + 2 → a ≠ t + 3 → mem' a b = mem a b
theorem tyF_r (t : Nat) (mem : Mem) : tyF t mem mem := fun _ _ _ _ _ => rfl
theorem tyF_t {t : Nat} {m1 m2 m3 : Mem} (h : tyF t m1 m2) (h' : tyF t m2 m3) : tyF t m1 m3 := fun a b x y z => by rw [h' a b x y z, h a b x y z]
section TY
variable {G : GT} {d : Nat} {mem : Mem} {Q : Option AV → Mem → Prop}
theorem ct_clear {t : Nat} (ht : isT t) (hq : ∀ m', tyF t mem m' → TB 0 m' t → (∀ set, tq m' t set = 0) → Q none m') : C_X7_clear G d [vR t] mem Q := by
  refine B_X7_clear ht (fun m1 e1 => ?_)
  have f1 : tyF t mem m1 := fun a b x y z => by rw [e1, upM_ne x]
  have g1 : m1 t 3 = 0 := by rw [e1, upM_same]
  refine up_loop (n := 12) (E := fun i m => E_X7_clear G d 7 [(0, vR t), (1, vI i)] [] m Q) (I := fun i m => tyF t mem m ∧ m t 3 = 0 ∧ ∀ z : Int, 0 ≤ z → z < i → m (t + 2) z = 0) ?_ ?_ (i := 0) (by omega) ⟨f1, g1, fun z _ _ => by omega⟩
  · intro m2 ⟨f2, g2, s2⟩
    refine B_X7_clear_7 ht ⟨by decide, fun _ => ?_, fun z => absurd (by decide) z⟩
    refine up_loop (n := 144) (E := fun i m => E_X7_clear G d 28 [(0, vR t), (1, vI i)] [] m Q) (I := fun i m => tyF t mem m ∧ m t 3 = 0 ∧ (∀ z : Int, 0 ≤ z → z < 12 → m (t + 2) z = 0) ∧ ∀ z : Int, 0 ≤ z → z < i → m (t + 3) z = 0) ?_ ?_ (i := 0) (by omega) ⟨f2, g2, fun z h0 h1 => s2 z h0 (by omega), fun z _ _ => by omega⟩
    · intro m3 ⟨f3, g3, s3, b3⟩
      refine B_X7_clear_28 ht ⟨by decide, fun _ => ?_, fun z => absurd (by decide) z⟩
      refine hq m3 f3 ⟨by omega, fun i h0 h1 => by rw [s3 i h0 h1]; omega, fun i h0 h1 => by rw [b3 i h0 (by omega)]; omega⟩ (fun set => ?_)
      unfold tq
      rw [g3, sm_zero (fun i hi => by rw [s3 i (by omega) (by omega), Int.mul_zero]), sm_zero (fun i hi => sm_zero (fun j hj => by rw [b3 (i * 12 + j) (by omega) (by omega), Int.mul_zero]))]
      rfl
    · intro i m3 hi ⟨f3, g3, s3, b3⟩ hE
      refine B_X7_clear_28 ht ⟨by omega, fun z => by omega, fun _ => ⟨by omega, fun m4 e4 => ?_⟩⟩
      refine hE m4 ⟨fun a b x y z => by rw [e4, upM_ne (by omega)]; exact f3 a b x y z, by rw [e4, upM_ne (by omega)]; exact g3, fun z h0 h1 => by rw [e4, upM_ne (by omega)]; exact s3 z h0 h1, fun z h0 h1 => ?_⟩
      by_cases hz : z = i
      · rw [e4, hz, upM_same]
      · rw [e4, upM_ne (by omega)]; exact b3 z h0 (by omega)
  · intro i m3 hi ⟨f3, g3, s3⟩ hE
    refine B_X7_clear_7 ht ⟨by omega, fun z => by omega, fun _ => ⟨by omega, fun m4 e4 => ?_⟩⟩
    refine hE m4 ⟨fun a b x y z => by rw [e4, upM_ne (by omega)]; exact f3 a b x y z, by rw [e4, upM_ne (by omega)]; exact g3, fun z h0 h1 => ?_⟩
    by_cases hz : z = i
    · rw [e4, hz, upM_same]
    · rw [e4, upM_ne (by omega)]; exact s3 z h0 (by omega)
theorem lcs_bits (k : Int) (w : Bool) : iand (lcs k w) 1 = bI (letB k false false w) ∧ iand (ishr (lcs k w) 1) 1 = bI (letB k false true w) ∧ iand (ishr (lcs k w) 2) 1 = bI (letB k true false w) ∧ iand (ishr (lcs k w) 3) 1 = bI (letB k true true w) := by
  have h0 := lcs_bit k w false false
  have h1 := lcs_bit k w false true
  have h2 := lcs_bit k w true false
  have h3 := lcs_bit k w true true
  refine ⟨?_, h1, h2, h3⟩
  rw [← h0]
  have r := lcs_r k w
  have e : lcs k w = (((lcs k w).toNat : Nat) : Int) := by omega
  rw [e]
  show _ = iand (ishr _ ((0 : Nat) : Int)) 1
  rw [ishr_n (by omega) (by omega)]
  simp
theorem bI_not (b : Bool) : bI (!b) = 1 - bI b := by cases b <;> rfl
theorem tadd_alg (p q r s x y : Bool) : (1 - bI p) + (bI x * ((1 - bI r) - (1 - bI p)) + bI y * ((1 - bI q) - (1 - bI p))) + bI (x && y) * ((1 - bI s) - (1 - bI r) - (1 - bI q) + (1 - bI p)) = bI (!(match x, y with | false, false => p | false, true => q | true, false => r | true, true => s)) := by
  revert p q r s x y
  decide +kernel
theorem tadd_lin {m n0 s1 x y s2 z r : Int} (h : n0 + (x + y) + z = r) : m + n0 + (s1 + (x + y)) + (s2 + z) = m + s1 + s2 + r := by omega
theorem ct_add {t : Nat} (ht : isT t) (hd : 1 ≤ d) {k : Int} {w : Bool} {a b : Nat} (ha : a < 12) (hb : b < 12) (hab : a ≠ b) {c : Int} (h0 : 0 ≤ c) (hc : c ≤ 1000) (hT : TB c mem t) (hq : ∀ m', tyF t mem m' → TB (c + 1) m' t → (∀ set : Nat, set < 4096 → tq m' t set = tq mem t set + bI (!letB k (set.testBit a) (set.testBit b) w)) → Q none m') : C_X7_add G d [vR t, vI (lcs k w), vI a, vI b] mem Q := by
  obtain ⟨l0, l1, l2, l3⟩ := lcs_bits k w
  refine B_X7_add ht hd ?_
  rw [l0, l1, l2, l3]
  have b0 := bI_01 (letB k false false w)
  have b1 := bI_01 (letB k false true w)
  have b2 := bI_01 (letB k true false w)
  have b3 := bI_01 (letB k true true w)
  have sa := hT.si a (by omega) (by omega)
  have sb := hT.si b (by omega) (by omega)
  have ea := hT.al
  have hmm : ∃ hi lo : Nat, tmax (a : Int) b = hi ∧ tmin (a : Int) b = lo ∧ lo < hi ∧ hi < 12 ∧ ((hi = a ∧ lo = b) ∨ (hi = b ∧ lo = a)) := by
    unfold tmax tmin
    by_cases hlt : a < b
    · exact ⟨b, a, by split <;> omega, by split <;> omega, hlt, hb, Or.inr ⟨rfl, rfl⟩⟩
    · exact ⟨a, b, by split <;> omega, by split <;> omega, by omega, ha, Or.inl ⟨rfl, rfl⟩⟩
  obtain ⟨hi, lo, em, en, hlt, hhi, hor⟩ := hmm
  have eb := hT.bo (hi * 12 + lo) (by omega) (by omega)
  rw [em, en]
  refine ⟨by omega, fun m1 e1 => ⟨by omega, ?_, fun m2 e2 => ⟨by omega, ?_, fun m3 e3 => ⟨⟨by omega, by omega⟩, by omega, ?_, fun m4 e4 => ?_⟩⟩⟩⟩
  · rw [e1, upM_ne (by omega)]; omega
  · rw [e2, upM_ne (by omega), e1, upM_ne (by omega)]; omega
  · rw [e3, upM_ne (by omega), e2, upM_ne (by omega), e1, upM_ne (by omega)]; omega
  · have A3 : m4 t 3 = mem t 3 + (1 - bI (letB k false false w)) := by
      rw [e4, upM_ne (by omega), e3, upM_ne (by omega), e2, upM_ne (by omega), e1, upM_same]
    have Aa : m4 (t + 2) a = mem (t + 2) a + ((1 - bI (letB k true false w)) - (1 - bI (letB k false false w))) := by
      rw [e4, upM_ne (by omega), e3, upM_ne (by omega), e2, upM_same, e1, upM_ne (by omega)]
    have Ab : m4 (t + 2) b = mem (t + 2) b + ((1 - bI (letB k false true w)) - (1 - bI (letB k false false w))) := by
      rw [e4, upM_ne (by omega), e3, upM_same, e2, upM_ne (by omega), e1, upM_ne (by omega)]
    have Ao : ∀ z : Int, z ≠ a → z ≠ b → m4 (t + 2) z = mem (t + 2) z := fun z h1 h2 => by
      rw [e4, upM_ne (by omega), e3, upM_ne (by omega), e2, upM_ne (by omega), e1, upM_ne (by omega)]
    have Bx : m4 (t + 3) (hi * 12 + lo) = mem (t + 3) (hi * 12 + lo) + ((1 - bI (letB k true true w)) - (1 - bI (letB k true false w)) - (1 - bI (letB k false true w)) + (1 - bI (letB k false false w))) := by
      rw [e4, upM_same, e3, upM_ne (by omega), e2, upM_ne (by omega), e1, upM_ne (by omega)]
    have Bo : ∀ z : Int, z ≠ hi * 12 + lo → m4 (t + 3) z = mem (t + 3) z := fun z h1 => by
      rw [e4, upM_ne (by omega), e3, upM_ne (by omega), e2, upM_ne (by omega), e1, upM_ne (by omega)]
    refine hq m4 (fun x y h1 h2 h3 => by rw [e4, upM_ne (by omega), e3, upM_ne (by omega), e2, upM_ne (by omega), e1, upM_ne (by omega)]) ⟨by omega, fun i h1 h2 => ?_, fun i h1 h2 => ?_⟩ (fun set hset => ?_)
    · have := hT.si i h1 h2
      by_cases ia : i = a
      · subst ia; omega
      · by_cases ib : i = b
        · subst ib; omega
        · rw [Ao i ia ib]; omega
    · have := hT.bo i h1 h2
      by_cases ia : i = hi * 12 + lo
      · subst ia; omega
      · rw [Bo i ia]; omega
    · have S1 : sm 12 (fun i => bI (set.testBit i) * m4 (t + 2) i) = sm 12 (fun i => bI (set.testBit i) * mem (t + 2) i) + (bI (set.testBit a) * ((1 - bI (letB k true false w)) - (1 - bI (letB k false false w))) + bI (set.testBit b) * ((1 - bI (letB k false true w)) - (1 - bI (letB k false false w)))) := by
        have h1 := sm_delta (n := 12) (k := a) (f := fun i => bI (set.testBit i) * m4 (t + 2) i) (g := fun i => if i = b then bI (set.testBit i) * m4 (t + 2) i else bI (set.testBit i) * mem (t + 2) i) ha (fun i hi hne => by
          by_cases ib : i = b
          · simp [ib]
          · simp only [ib, if_false]; rw [Ao i (by omega) (by omega)])
        have h2 := sm_delta (n := 12) (k := b) (f := fun i => if i = b then bI (set.testBit i) * m4 (t + 2) i else bI (set.testBit i) * mem (t + 2) i) (g := fun i => bI (set.testBit i) * mem (t + 2) i) hb (fun i hi hne => by simp [hne])
        simp only [if_neg hab, if_pos rfl] at h1 h2
        rw [h1, h2, Aa, Ab, Int.mul_add, Int.mul_add]
        simp only [if_true]
        omega
      have S2 : sm 12 (fun i => sm i (fun j => bI (set.testBit i && set.testBit j) * m4 (t + 3) (i * 12 + j))) = sm 12 (fun i => sm i (fun j => bI (set.testBit i && set.testBit j) * mem (t + 3) (i * 12 + j))) + bI (set.testBit a && set.testBit b) * ((1 - bI (letB k true true w)) - (1 - bI (letB k true false w)) - (1 - bI (letB k false true w)) + (1 - bI (letB k false false w))) := by
        have h1 := sm_delta (n := 12) (k := hi) (f := fun i => sm i (fun j => bI (set.testBit i && set.testBit j) * m4 (t + 3) (i * 12 + j))) (g := fun i => sm i (fun j => bI (set.testBit i && set.testBit j) * mem (t + 3) (i * 12 + j))) hhi (fun i hi' hne => sm_congr (fun j hj => by rw [Bo _ (by omega)]))
        have h2 := sm_delta (n := hi) (k := lo) (f := fun j => bI (set.testBit hi && set.testBit j) * m4 (t + 3) (hi * 12 + j)) (g := fun j => bI (set.testBit hi && set.testBit j) * mem (t + 3) (hi * 12 + j)) hlt (fun j hj hne => by rw [Bo _ (by omega)])
        have h3 : (set.testBit hi && set.testBit lo) = (set.testBit a && set.testBit b) := by
          rcases hor with ⟨rfl, rfl⟩ | ⟨rfl, rfl⟩
          · rfl
          · exact Bool.and_comm _ _
        rw [h1, h2, Bx, Int.mul_add, h3]
        omega
      unfold tq
      rw [S1, S2, A3]
      have al := tadd_alg (letB k false false w) (letB k false true w) (letB k true false w) (letB k true true w) (set.testBit a) (set.testBit b)
      have fin : (match set.testBit a, set.testBit b with | false, false => letB k false false w | false, true => letB k false true w | true, false => letB k true false w | true, true => letB k true true w) = letB k (set.testBit a) (set.testBit b) w := by
        cases set.testBit a <;> cases set.testBit b <;> rfl
      rw [fin] at al
      exact tadd_lin al
theorem two_pow_or {h r : Nat} (hr : r < 2 ^ h) : 2 ^ h + r = 2 ^ h ||| r := by
  have := Nat.two_pow_add_eq_or_of_lt hr 1
  rw [Nat.mul_one] at this
  exact this
theorem tb_2 {h l r : Nat} (hlt : l < h) (hr : r < 2 ^ l) (i : Nat) : (2 ^ h + 2 ^ l + r).testBit i = (decide (h = i) || decide (l = i) || r.testBit i) := by
  have h1 : 2 ^ l + r < 2 ^ h := by
    have : 2 ^ (l + 1) ≤ 2 ^ h := Nat.pow_le_pow_right (by decide) hlt
    rw [Nat.pow_succ] at this
    omega
  rw [Nat.add_assoc, two_pow_or h1, two_pow_or hr, Nat.testBit_or, Nat.testBit_or, Nat.testBit_two_pow, Nat.testBit_two_pow, Bool.or_assoc]
theorem tb_1 {h r : Nat} (hr : r < 2 ^ h) (i : Nat) : (2 ^ h + r).testBit i = (decide (h = i) || r.testBit i) := by
  rw [two_pow_or hr, Nat.testBit_or, Nat.testBit_two_pow]
theorem tb_lt {r n i : Nat} (h : r < 2 ^ n) (hi : n ≤ i) : r.testBit i = false := Nat.testBit_lt_two_pow (Nat.lt_of_lt_of_le h (Nat.pow_le_pow_right (by decide) hi))
theorem tq_0 (mem : Mem) (t : Nat) : tq mem t 0 = mem t 3 := by
  unfold tq
  rw [sm_zero (fun i _ => by rw [Nat.zero_testBit, bI_f, Int.zero_mul]), sm_zero (fun i _ => sm_zero (fun j _ => by rw [Nat.zero_testBit, Bool.false_and, bI_f, Int.zero_mul]))]
  omega
theorem tq_1 (mem : Mem) (t : Nat) {h : Nat} (hh : h < 12) : tq mem t (2 ^ h) = mem t 3 + mem (t + 2) h := by
  unfold tq
  rw [sm_one hh (fun i _ hne => by rw [Nat.testBit_two_pow, decide_eq_false (fun q => hne q.symm), bI_f, Int.zero_mul]), sm_zero (fun i _ => sm_zero (fun j hj => by
    rw [Nat.testBit_two_pow, Nat.testBit_two_pow]
    by_cases q : h = i
    · rw [decide_eq_false (show ¬ h = j by omega), Bool.and_false, bI_f, Int.zero_mul]
    · rw [decide_eq_false q, Bool.false_and, bI_f, Int.zero_mul])), Nat.testBit_two_pow, decide_eq_true rfl, bI_t]
  omega
theorem tq_2 (mem : Mem) (t : Nat) {h l r : Nat} (hh : h < 12) (hlt : l < h) (hr : r < 2 ^ l) : tq mem t (2 ^ h + 2 ^ l + r) = tq mem t (2 ^ h + r) + tq mem t (2 ^ l + r) - tq mem t r + mem (t + 3) (h * 12 + l) := by
  have rh : r < 2 ^ h := Nat.lt_of_lt_of_le hr (Nat.pow_le_pow_right (by decide) (by omega))
  have th : r.testBit h = false := tb_lt hr (by omega)
  have tl : r.testBit l = false := tb_lt hr (by omega)
  have S1 : sm 12 (fun i => bI ((2 ^ h + 2 ^ l + r).testBit i) * mem (t + 2) i) = sm 12 (fun i => bI ((2 ^ h + r).testBit i) * mem (t + 2) i) + sm 12 (fun i => bI ((2 ^ l + r).testBit i) * mem (t + 2) i) - sm 12 (fun i => bI (r.testBit i) * mem (t + 2) i) := by
    rw [← sm_add, ← sm_sub]
    refine sm_congr (fun i _ => ?_)
    rw [tb_2 hlt hr, tb_1 rh, tb_1 hr, ← Int.add_mul, ← Int.sub_mul]
    congr 1
    by_cases e1 : h = i
    · subst e1
      rw [th, decide_eq_true rfl, decide_eq_false (show ¬ l = h by omega)]; rfl
    · rw [decide_eq_false e1]
      by_cases e2 : l = i
      · subst e2
        rw [tl, decide_eq_true rfl]; rfl
      · rw [decide_eq_false e2]
        cases r.testBit i <;> rfl
  have S2 : sm 12 (fun i => sm i (fun j => bI ((2 ^ h + 2 ^ l + r).testBit i && (2 ^ h + 2 ^ l + r).testBit j) * mem (t + 3) (i * 12 + j))) = sm 12 (fun i => sm i (fun j => bI ((2 ^ h + r).testBit i && (2 ^ h + r).testBit j) * mem (t + 3) (i * 12 + j))) + sm 12 (fun i => sm i (fun j => bI ((2 ^ l + r).testBit i && (2 ^ l + r).testBit j) * mem (t + 3) (i * 12 + j))) - sm 12 (fun i => sm i (fun j => bI (r.testBit i && r.testBit j) * mem (t + 3) (i * 12 + j))) + sm 12 (fun i => sm i (fun j => bI (decide (h = i) && decide (l = j)) * mem (t + 3) (i * 12 + j))) := by
    rw [← sm_add, ← sm_sub, ← sm_add]
    refine sm_congr (fun i _ => ?_)
    rw [← sm_add, ← sm_sub, ← sm_add]
    refine sm_congr (fun j hj => ?_)
    rw [tb_2 hlt hr, tb_1 rh, tb_1 hr, tb_2 hlt hr, tb_1 rh, tb_1 hr, ← Int.add_mul, ← Int.sub_mul, ← Int.add_mul]
    congr 1
    by_cases e1 : h = i
    · subst e1
      rw [th, decide_eq_true rfl, decide_eq_false (show ¬ l = h by omega), decide_eq_false (show ¬ h = j by omega)]
      by_cases e2 : l = j
      · subst e2
        rw [tl, decide_eq_true rfl]; rfl
      · rw [decide_eq_false e2]
        cases r.testBit j <;> rfl
    · rw [decide_eq_false e1]
      by_cases e2 : l = i
      · subst e2
        rw [tl, decide_eq_true rfl, decide_eq_false (show ¬ l = j by omega), decide_eq_false (show ¬ h = j by omega)]
        cases r.testBit j <;> rfl
      · rw [decide_eq_false e2]
        by_cases e3 : h = j
        · subst e3
          rw [th, decide_eq_true rfl, decide_eq_false (show ¬ l = h by omega)]
          cases r.testBit i <;> rfl
        · rw [decide_eq_false e3]
          by_cases e4 : l = j
          · subst e4
            rw [tl, decide_eq_true rfl]
            cases r.testBit i <;> rfl
          · rw [decide_eq_false e4]
            cases r.testBit i <;> cases r.testBit j <;> rfl
  have S3 : sm 12 (fun i => sm i (fun j => bI (decide (h = i) && decide (l = j)) * mem (t + 3) (i * 12 + j))) = mem (t + 3) (h * 12 + l) := by
    rw [sm_one hh (fun i _ hne => sm_zero (fun j _ => by rw [decide_eq_false (fun q => hne q.symm), Bool.false_and, bI_f, Int.zero_mul])), sm_one hlt (fun j _ hne => by rw [decide_eq_false (show ¬ l = j from fun q => hne q.symm), Bool.and_false, bI_f, Int.zero_mul]), decide_eq_true rfl, decide_eq_true rfl]
    show 1 * _ = _
    rw [Int.one_mul]
  unfold tq
  rw [S1, S2, S3]
  omega
theorem ct_fill {t : Nat} (ht : isT t) {n : Nat} (hn : n ≤ 12) {c : Int} (hc : c ≤ 1000) (hT : TB c mem t) (hv : ∀ set : Nat, set < 4096 → 0 ≤ tq mem t set ∧ tq mem t set ≤ c) (hq : ∀ m' : Mem, (∀ (a : Nat) (b : Int), a ≠ t + 1 → m' a b = mem a b) → (∀ set : Nat, set < 2 ^ n → m' (t + 1) set = tq mem t set) → Q none m') : C_X7_fill G d [vR t, vI n] mem Q := by
  refine B_X7_fill ht (fun m1 e1 => ?_)
  refine up_loop (n := n) (E := fun i m => E_X7_fill G d 12 [(0, vR t), (1, vI n), (2, vI i)] [] m Q) (I := fun i m => (∀ (a : Nat) (b : Int), a ≠ t + 1 → m a b = mem a b) ∧ (∀ set : Nat, set < 2 ^ i → m (t + 1) set = tq mem t set)) ?_ ?_ (i := 0) (by omega) ⟨fun a b h => by rw [e1, upM_ne (by omega)], fun set hs => by
    have : set = 0 := by omega
    subst this
    rw [e1, tq_0]
    exact upM_same⟩
  · intro m2 ⟨f2, g2⟩
    exact B_X7_fill_12 ht ⟨⟨by omega, by omega⟩, fun _ => hq m2 f2 g2, fun z => absurd (by omega) z⟩
  · intro h m2 hh ⟨f2, g2⟩ hE
    have p0 := Nat.two_pow_pos h
    have p1 : (2 : Nat) ^ h ≤ 2048 := Nat.pow_le_pow_right (by decide) (by omega : h ≤ 11)
    have v1 := hv (2 ^ h) (by omega)
    refine B_X7_fill_12 ht ?_
    rw [ishl_1 (by omega)]
    refine ⟨⟨by omega, by omega⟩, fun z => by omega, fun _ => ⟨by omega, by omega, ?_, fun m3 e3 => ?_⟩⟩
    · rw [f2 t 3 (by omega), f2 (t + 2) h (by omega), ← tq_1 mem t (by omega)]; omega
    · refine up_loop (n := h) (E := fun i m => E_X7_fill G d 41 [(0, vR t), (1, vI n), (2, vI h), (3, vI ((2 ^ h : Nat) : Int)), (4, vI i)] [] m Q) (I := fun i m => (∀ (a : Nat) (b : Int), a ≠ t + 1 → m a b = mem a b) ∧ (∀ set : Nat, set < 2 ^ h + 2 ^ i → m (t + 1) set = tq mem t set)) ?_ ?_ (i := 0) (by omega) ⟨fun a b q => by rw [e3, upM_ne (by omega)]; exact f2 a b q, fun set hs => by
        by_cases q : set = 2 ^ h
        · subst q
          rw [e3, upM_same, f2 t 3 (by omega), f2 (t + 2) h (by omega), ← tq_1 mem t (by omega)]
        · rw [e3, upM_ne (by omega)]
          exact g2 set (by omega)⟩
      · intro m4 ⟨f4, g4⟩
        refine B_X7_fill_41 ht ⟨⟨by omega, by omega⟩, fun _ => ?_, fun z => absurd (by omega) z⟩
        exact hE m4 ⟨f4, fun set hs => g4 set (by rw [Nat.pow_succ] at hs; omega)⟩
      · intro l m4 hl ⟨f4, g4⟩ hE2
        have p4 := Nat.two_pow_pos l
        have p2 : (2 : Nat) ^ l ≤ 1024 := Nat.pow_le_pow_right (by decide) (by omega : l ≤ 10)
        have p3 : (2 : Nat) ^ (l + 1) ≤ 2 ^ h := Nat.pow_le_pow_right (by decide) (by omega)
        rw [Nat.pow_succ] at p3
        refine B_X7_fill_41 ht ⟨⟨by omega, by omega⟩, fun z => by omega, fun _ => ⟨by omega, ?_⟩⟩
        rw [ishl_1 (by omega), f4 (t + 3) _ (by omega)]
        refine up_loop (n := 2 ^ l) (E := fun i m => E_X7_fill G d 70 [(0, vR t), (1, vI n), (2, vI h), (3, vI ((2 ^ h : Nat) : Int)), (4, vI l), (5, vI ((2 ^ l : Nat) : Int)), (6, vI (mem (t + 3) (h * 12 + l))), (7, vI i)] [] m Q) (I := fun i m => (∀ (a : Nat) (b : Int), a ≠ t + 1 → m a b = mem a b) ∧ (∀ set : Nat, set < 2 ^ h + 2 ^ l + i → m (t + 1) set = tq mem t set)) ?_ ?_ (i := 0) (by omega) ⟨f4, fun set hs => g4 set (by omega)⟩
        · intro m5 ⟨f5, g5⟩
          refine B_X7_fill_70 ht ⟨⟨by omega, by omega⟩, fun _ => ?_, fun z => absurd (by omega) z⟩
          exact hE2 m5 ⟨f5, fun set hs => g5 set (by rw [Nat.pow_succ] at hs; omega)⟩
        · intro r m5 hr ⟨f5, g5⟩ hE3
          have key := tq_2 mem t (h := h) (l := l) (r := r) (by omega) hl hr
          have v3 := hv (2 ^ h + 2 ^ l + r) (by omega)
          have a1 := g5 (2 ^ h + r) (by omega)
          have a2 := g5 (2 ^ l + r) (by omega)
          have a3 := g5 r (by omega)
          have c1 : ((2 ^ h : Nat) : Int) + (r : Int) = ((2 ^ h + r : Nat) : Int) := by omega
          have c2 : ((2 ^ l : Nat) : Int) + (r : Int) = ((2 ^ l + r : Nat) : Int) := by omega
          have c3 : ((2 ^ h : Nat) : Int) + ((2 ^ l : Nat) : Int) + (r : Int) = ((2 ^ h + 2 ^ l + r : Nat) : Int) := by omega
          refine B_X7_fill_70 ht ?_
          rw [c1, c2, c3, a1, a2, a3, ← key]
          refine ⟨⟨by omega, by omega⟩, fun z => by omega, fun _ => ⟨by omega, by omega, by omega, by omega, by omega, fun m6 e6 => ?_⟩⟩
          refine hE3 m6 ⟨fun a b q => by rw [e6, upM_ne (by omega)]; exact f5 a b q, fun set hs => ?_⟩
          by_cases q : set = 2 ^ h + 2 ^ l + r
          · subst q; rw [e6, upM_same]
          · rw [e6, upM_ne (by omega)]; exact g5 set (by omega)
end TY
