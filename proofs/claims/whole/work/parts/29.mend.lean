/-! ===== whom to mend; the divisor ===== -/
noncomputable def mbS (S : NS) (n : Nat) (coins : Int) : Nat → Nat
  | 0 => 0
  | k + 1 => if prS S n (k + 1) ≤ coins ∧ (zt S n (mbS S n coins k) < zt S n (k + 1) ∨ (zt S n (k + 1) = zt S n (mbS S n coins k) ∧ prS S n (k + 1) < prS S n (mbS S n coins k))) then k + 1 else mbS S n coins k
theorem mbS_le (S : NS) (n : Nat) (c : Int) (k : Nat) : mbS S n c k ≤ k := by
  induction k with
  | zero => exact Nat.le_refl _
  | succ k ih => unfold mbS; split <;> omega
def euc : Nat → Int → Int → Int
  | 0, a, _ => a
  | f + 1, a, b => if b = 0 then a else euc f b (Int.tmod a b)
def eucT : Nat → Int → Int → Prop
  | 0, _, b => b = 0
  | f + 1, a, b => b = 0 ∨ eucT f b (Int.tmod a b)
theorem tmod_r {a b : Int} (ha : 0 ≤ a) (hb : 0 < b) : 0 ≤ Int.tmod a b ∧ Int.tmod a b < b ∧ Int.tmod a b ≤ a := by
  rw [Int.tmod_eq_emod_of_nonneg ha]
  have h1 := Int.emod_nonneg a (show b ≠ 0 by omega)
  have h2 := Int.emod_lt_of_pos a hb
  refine ⟨h1, h2, ?_⟩
  by_cases h : a < b
  · rw [Int.emod_eq_of_lt ha h]; exact Int.le_refl _
  · omega
theorem eucT_ok : ∀ (k : Nat) (a b : Int), 0 ≤ b → b ≤ a → a < ((2 ^ k : Nat) : Int) → eucT (2 * k + 1) a b := by
  intro k
  induction k with
  | zero =>
    intro a b h0 h1 h2
    have : b = 0 := by
      have : ((2 ^ 0 : Nat) : Int) = 1 := rfl
      omega
    exact Or.inl this
  | succ k ih =>
    intro a b h0 h1 h2
    by_cases hb : b = 0
    · exact Or.inl hb
    · right
      have r := tmod_r (a := a) (b := b) (by omega) (by omega)
      generalize hr : Int.tmod a b = r1 at r
      show eucT (2 * k + 1 + 1) b r1
      by_cases h3 : r1 = 0
      · exact Or.inl h3
      · right
        have r' := tmod_r (a := b) (b := r1) (by omega) (by omega)
        refine ih _ _ r'.1 (by omega) ?_
        rw [Nat.pow_succ] at h2
        have h4 : b + r1 ≤ a := by
          rw [Int.tmod_eq_emod_of_nonneg (by omega)] at hr
          have h5 := Int.mul_ediv_add_emod a b
          have h6 : 1 ≤ a / b := Int.le_ediv_of_mul_le (by omega) (by omega)
          have h7 : b * 1 ≤ b * (a / b) := Int.mul_le_mul_of_nonneg_left h6 h0
          rw [hr] at h5
          omega
        omega
theorem euc_s {f : Nat} : ∀ {a b : Int}, eucT f a b → ∀ g, euc (f + g) a b = euc f a b := by
  induction f with
  | zero =>
    intro a b h g
    have hb : b = 0 := h
    cases g with
    | zero => rfl
    | succ g => show euc (0 + g + 1) a b = a; unfold euc; rw [if_pos hb]
  | succ f ih =>
    intro a b h g
    rw [show f + 1 + g = f + g + 1 by omega]
    unfold euc
    by_cases hb : b = 0
    · rw [if_pos hb, if_pos hb]
    · rw [if_neg hb, if_neg hb]
      rcases h with h | h
      · exact absurd h hb
      · exact ih h g
theorem euc_pos : ∀ (f : Nat) (a b : Int), 1 ≤ a → 0 ≤ b → 1 ≤ euc f a b ∧ (b ≤ a → euc f a b ≤ a) := by
  intro f
  induction f with
  | zero => intro a b h0 h1; exact ⟨h0, fun _ => Int.le_refl _⟩
  | succ f ih =>
    intro a b h0 h1
    unfold euc
    by_cases hb : b = 0
    · rw [if_pos hb]; exact ⟨h0, fun _ => Int.le_refl _⟩
    · rw [if_neg hb]
      have r := tmod_r (a := a) (b := b) (by omega) (by omega)
      have := ih b (Int.tmod a b) (by omega) r.1
      exact ⟨this.1, fun h => by have := this.2 (by omega); omega⟩
section MD
variable {G : GT} {d : Nat} {mem : Mem} {Q : Option AV → Mem → Prop}
theorem ct_bestToMend (hd : 2 ≤ d) {S : NS} (hR : HR 1 S mem) (hV : VN S) {n : Nat} (hn : S 0 = n) (hF : FT S mem) {coins : Int} (hc : inr coins) (hq : ∀ m' : Mem, (∀ (a : Nat) (b : Int), a ≠ 39 → a ≠ 40 → m' a b = mem a b) → Q (some (vI (mbS S n coins (2 ^ n - 1)))) m') : C_X1_bestToMend G d [vR 32, vI coins] mem Q := by
  have v0 := hV.1
  have p4 := p2n (show n ≤ 12 by omega)
  refine B_X1_bestToMend (by omega) (ct_countIn (by omega) hR hV hn hF (fun m1 g1 f1 => ⟨rfl, ?_⟩))
  have hR1 : HR 1 S m1 := hR.congr (fun c b hc _ => f1 _ _ (by omega))
  refine ct_priceEach hR1 hV hn (fun m2 g2 f2 => ⟨rfl, ?_⟩)
  have hq2 := hq m2 (fun a b x y => by rw [f2 a b y, f1 a b x])
  have k1 : ∀ set : Nat, set < 2 ^ n → m2 39 set = zt S n set := fun set hs => by rw [f2 39 _ (by omega), g1 set hs]
  rw [f2 1 0 (by omega), hR1.1.1, hn, ishl_1 (by omega)]
  refine it_loop (n := 2 ^ n - 1) (E := fun i => E_X1_bestToMend G d 23 [(0, vR 32), (1, vI coins), (2, vI (mbS S n coins i)), (3, vI ((2 ^ n : Nat) : Int)), (4, vI ((i : Int) + 1))] [] m2 Q) ?_ ?_ 0 (by omega)
  · exact B_X1_bestToMend_23 (by omega) ⟨⟨by omega, by omega⟩, fun _ => hq2, fun y => absurd (by omega) y⟩
  · intro i hi hE
    have b1 := mbS_le S n coins i
    have e1 := k1 (i + 1) (by omega)
    have e2 := k1 (mbS S n coins i) (by omega)
    have e3 := g2 (i + 1) (by omega)
    have e4 := g2 (mbS S n coins i) (by omega)
    rw [show ((i + 1 : Nat) : Int) = (i : Int) + 1 by omega] at e1 e3
    have hT : (prS S n (i + 1) ≤ coins ∧ (zt S n (mbS S n coins i) < zt S n (i + 1) ∨ (zt S n (i + 1) = zt S n (mbS S n coins i) ∧ prS S n (i + 1) < prS S n (mbS S n coins i)))) → E_X1_bestToMend G d 23 [(0, vR 32), (1, vI coins), (2, vI ((i : Int) + 1)), (3, vI ((2 ^ n : Nat) : Int)), (4, vI ((i : Int) + 1 + 1))] [] m2 Q := by
      intro h
      unfold mbS at hE
      rw [if_pos h] at hE
      exact hE
    have hN : ¬ (prS S n (i + 1) ≤ coins ∧ (zt S n (mbS S n coins i) < zt S n (i + 1) ∨ (zt S n (i + 1) = zt S n (mbS S n coins i) ∧ prS S n (i + 1) < prS S n (mbS S n coins i)))) → E_X1_bestToMend G d 23 [(0, vR 32), (1, vI coins), (2, vI (mbS S n coins i)), (3, vI ((2 ^ n : Nat) : Int)), (4, vI ((i : Int) + 1 + 1))] [] m2 Q := by
      intro h
      unfold mbS at hE
      rw [if_neg h] at hE
      exact hE
    refine B_X1_bestToMend_23 (by omega) ?_
    rw [e1, e2, e3, e4]
    refine ⟨⟨by omega, by omega⟩, fun y => by omega, fun _ => ⟨by omega, by omega, fun y => ⟨hc, fun x => hN (by omega), fun x => ⟨fun w => hT (by omega), fun w => hN (by omega)⟩⟩, fun y => ⟨fun x => ⟨hc, fun w => hN (by omega), fun w => ⟨fun v => hT (by omega), fun v => hN (by omega)⟩⟩, fun x => ⟨hc, fun w => hN (by omega), fun w => ⟨fun v => hT (by omega), fun v => hT (by omega)⟩⟩⟩⟩⟩
theorem ct_commonDivisor {a b : Int} (ha : 0 ≤ a) (ha2 : a < 9223372036854775808) (hb : 0 ≤ b) (hba : b ≤ a) (hT : eucT 200 a b) (hq : Q (some (vL (euc 200 a b))) mem) : C_X10_commonDivisor G d [vL a, vL b] mem Q := by
  have lp : ∀ f i : Nat, i + f = 200 → ∀ x y : Int, 0 ≤ x → x < 9223372036854775808 → 0 ≤ y → y < 9223372036854775808 → Q (some (vL (euc f x y))) mem → E_X10_commonDivisor G d 9 [(4, vL x), (6, vL y), (8, vI i)] [] mem Q := by
    intro f
    induction f with
    | zero =>
      intro i hi x y h0 h1 h2 h3 hq
      exact B_X10_commonDivisor_9 ⟨by omega, fun _ => hq, fun z => absurd (by omega) z⟩
    | succ f ih =>
      intro i hi x y h0 h1 h2 h3 hq
      unfold euc at hq
      refine B_X10_commonDivisor_9 ⟨by omega, fun z => by omega, fun _ => ⟨by omega, fun z => ?_, fun z => ⟨by omega, fun w => z (lcmp_0.mpr w), ?_⟩⟩⟩
      · rw [if_pos (lcmp_0.mp z)] at hq; exact hq
      · have hy : y ≠ 0 := fun w => z (lcmp_0.mpr w)
        rw [if_neg hy] at hq
        have r := tmod_r (a := x) (b := y) h0 (by omega)
        exact ih (i + 1) (by omega) y _ h2 h3 r.1 (by omega) hq
  exact B_X10_commonDivisor (lp 200 0 rfl a b ha ha2 hb (by omega) hq)
end MD
