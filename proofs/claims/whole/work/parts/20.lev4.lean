/-! ===== contracts over a state ===== -/
def lcs (k : Int) (w : Bool) : Int := bI (letB k false false w) + 2 * bI (letB k false true w) + 4 * bI (letB k true false w) + 8 * bI (letB k true true w)
theorem lcs_bit (k : Int) (w a b : Bool) : iand (ishr (lcs k w) (2 * bI a + bI b)) 1 = bI (letB k a b w) := by
  have h : ∀ p q r s a b : Bool, iand (ishr (bI p + 2 * bI q + 4 * bI r + 8 * bI s) (2 * bI a + bI b)) 1 = bI (match a, b with | false, false => p | false, true => q | true, false => r | true, true => s) := by decide +kernel
  have h2 := h (letB k false false w) (letB k false true w) (letB k true false w) (letB k true true w) a b
  unfold lcs
  rw [h2]
  cases a <;> cases b <;> rfl
theorem lcs_r (k : Int) (w : Bool) : 0 ≤ lcs k w ∧ lcs k w < 16 := by
  unfold lcs
  have := bI_nn (letB k false false w); have := bI_le (letB k false false w)
  have := bI_nn (letB k false true w); have := bI_le (letB k false true w)
  have := bI_nn (letB k true false w); have := bI_le (letB k true false w)
  have := bI_nn (letB k true true w); have := bI_le (letB k true true w)
  omega
theorem nz_bI (b : Bool) : nz (bI b) = b := by cases b <;> rfl
theorem nz_bz (c : Prop) [Decidable c] : nz (bz c) = decide c := by
  by_cases h : c
  · rw [bz_t h, decide_eq_true h]; rfl
  · rw [bz_f h, decide_eq_false h]; rfl
section L4
variable {G : GT} {d : Nat} {mem : Mem} {Q : Option AV → Mem → Prop}
theorem ct_maySay {k a b c : Int} (hd : 2 ≤ d) (h0 : 0 ≤ k) (h1 : k < 6) (ha : a = 0 ∨ a = 1) (hb : b = 0 ∨ b = 1) (hc : c = 0 ∨ c = 1) (hq : Q (some (vI (bz (letB k (nz a) (nz b) (nz c) = true)))) mem) : C_X3_maySay G d [vI k, vI a, vI b, vI c] mem Q := by
  refine B_X3_maySay hd ⟨by omega, fun z => ⟨⟨h0, h1⟩, hb, hc, ?_⟩, fun z => ⟨⟨h0, h1⟩, hb, hc, ?_⟩⟩
  · rw [z] at hq; exact hq
  · rw [show a = 1 by omega] at hq; exact hq
theorem ct_letCases {k w : Int} (hd : 3 ≤ d) (h0 : 0 ≤ k) (h1 : k < 6) (hw : w = 0 ∨ w = 1) (hq : Q (some (vI (lcs k (nz w)))) mem) : C_X3_letCases G d [vI k, vI w] mem Q := by
  refine B_X3_letCases (by omega) ?_
  have st : ∀ (bb ob : Bool) (c : Int), E_X3_letCases G d 4 [(0, vI k), (1, vI w), (2, vI (if letB k bb ob (nz w) then ior c (ishl 1 (2 * bI bb + bI ob)) else c)), (3, vI (2 * bI bb + bI ob + 1))] [] mem Q → E_X3_letCases G d 4 [(0, vI k), (1, vI w), (2, vI c), (3, vI (2 * bI bb + bI ob))] [] mem Q := by
    intro bb ob c hE
    have key : ∀ z9 : Int, z9 = bz (letB k bb ob (nz w) = true) → (z9 = 0 → E_X3_letCases G d 4 [(0, vI k), (1, vI w), (2, vI c), (3, vI (2 * bI bb + bI ob + 1))] [] mem Q) ∧ (¬ z9 = 0 → E_X3_letCases G d 4 [(0, vI k), (1, vI w), (2, vI (ior c (ishl 1 (2 * bI bb + bI ob)))), (3, vI (2 * bI bb + bI ob + 1))] [] mem Q) := by
      intro z9 e9
      refine ⟨fun z => ?_, fun z => ?_⟩
      · rw [e9, bz_0] at z
        rw [if_neg z] at hE; exact hE
      · rw [e9] at z
        rw [if_pos (bz_n0.mp z)] at hE; exact hE
    refine B_X3_letCases_4 (by omega) ?_
    cases bb <;> cases ob
    · exact ⟨by decide, fun z => absurd z (by decide), fun _ => ⟨fun _ => ⟨fun _ => ct_maySay (by omega) h0 h1 (by decide) (by decide) hw ⟨_, rfl, bz_inr _, key _ rfl⟩, fun z => absurd (by decide) z⟩, fun z => absurd (by decide) z⟩⟩
    · exact ⟨by decide, fun z => absurd z (by decide), fun _ => ⟨fun _ => ⟨fun z => absurd z (by decide), fun _ => ct_maySay (by omega) h0 h1 (by decide) (by decide) hw ⟨_, rfl, bz_inr _, key _ rfl⟩⟩, fun z => absurd (by decide) z⟩⟩
    · exact ⟨by decide, fun z => absurd z (by decide), fun _ => ⟨fun z => absurd z (by decide), fun _ => ⟨fun _ => ct_maySay (by omega) h0 h1 (by decide) (by decide) hw ⟨_, rfl, bz_inr _, key _ rfl⟩, fun z => absurd (by decide) z⟩⟩⟩
    · exact ⟨by decide, fun z => absurd z (by decide), fun _ => ⟨fun z => absurd z (by decide), fun _ => ⟨fun z => absurd z (by decide), fun _ => ct_maySay (by omega) h0 h1 (by decide) (by decide) hw ⟨_, rfl, bz_inr _, key _ rfl⟩⟩⟩⟩
  refine st false false 0 (st false true _ (st true false _ (st true true _ ?_)))
  refine B_X3_letCases_4 (by omega) ⟨by decide, fun _ => ?_, fun z => absurd (by decide) z⟩
  have e : ∀ p q r s : Bool, (if s = true then ior (if r = true then ior (if q = true then ior (if p = true then ior 0 (ishl 1 (2 * bI false + bI false)) else 0) (ishl 1 (2 * bI false + bI true)) else (if p = true then ior 0 (ishl 1 (2 * bI false + bI false)) else 0)) (ishl 1 (2 * bI true + bI false)) else (if q = true then ior (if p = true then ior 0 (ishl 1 (2 * bI false + bI false)) else 0) (ishl 1 (2 * bI false + bI true)) else (if p = true then ior 0 (ishl 1 (2 * bI false + bI false)) else 0))) (ishl 1 (2 * bI true + bI true)) else (if r = true then ior (if q = true then ior (if p = true then ior 0 (ishl 1 (2 * bI false + bI false)) else 0) (ishl 1 (2 * bI false + bI true)) else (if p = true then ior 0 (ishl 1 (2 * bI false + bI false)) else 0)) (ishl 1 (2 * bI true + bI false)) else (if q = true then ior (if p = true then ior 0 (ishl 1 (2 * bI false + bI false)) else 0) (ishl 1 (2 * bI false + bI true)) else (if p = true then ior 0 (ishl 1 (2 * bI false + bI false)) else 0)))) = bI p + 2 * bI q + 4 * bI r + 8 * bI s := by decide +kernel
  rw [e]
  exact hq
theorem ct_areMachines {i j : Int} (hd : 2 ≤ d) (hn : 0 ≤ mem 72 0) (hi : inr i) (hj : inr j) (hq : Q (some (vI (bz ((0 ≤ i ∧ i < mem 72 0) ∧ (0 ≤ j ∧ j < mem 72 0))))) mem) : C_X11_areMachines G d [vR 71, vI i, vI j] mem Q := by
  refine B_X11_areMachines hd ?_
  (repeat' first | apply And.intro | intro _) <;> first | omega | (rw [bz_t (by omega)] at hq; exact hq) | (rw [bz_f (by omega)] at hq; exact hq)
theorem ishl_r {z : Int} (h0 : 0 ≤ z) (h1 : z ≤ 12) : ∃ n : Nat, z = n ∧ n ≤ 12 ∧ ishl 1 z = ((2 ^ n : Nat) : Int) ∧ 2 ^ n ≤ 4096 := by
  refine ⟨z.toNat, by omega, by omega, ?_, ?_⟩
  · rw [← ishl_1 (k := z.toNat) (by omega)]
    congr 1
    omega
  · exact Nat.pow_le_pow_right (by decide) (by omega : z.toNat ≤ 12)
theorem ct_isSet {s : Int} (hd : 1 ≤ d) (h0 : 0 ≤ mem 72 0) (h1 : mem 72 0 ≤ 12) (hs : inr s) (hq : Q (some (vI (bz (0 ≤ s ∧ s < 2 ^ (mem 72 0).toNat)))) mem) : C_X11_isSet G d [vR 71, vI s] mem Q := by
  obtain ⟨n, e1, e2, e3, e4⟩ := ishl_r h0 h1
  have e5 : (mem 72 0).toNat = n := by omega
  have e6 := Nat.two_pow_pos n
  rw [e5] at hq
  refine B_X11_isSet hd ?_
  rw [e3]
  refine ⟨⟨hs, by omega⟩, ?_⟩
  rw [bz_iff (show (0 ≤ s ∧ s ≤ ((2 ^ n : Nat) : Int) - 1) ↔ (0 ≤ s ∧ s < 2 ^ n) by
    have : ((2 ^ n : Nat) : Int) = 2 ^ n := by norm_cast
    omega)]
  exact hq
/-- saying s counts; it is let by a set -/
def cnt (S : NS) (s : Int) : Bool := decide (S (185 + 4 * s + 3) = 1)
def ltS (S : NS) (set s : Int) : Bool := letB (S (5 + 3 * S (185 + 4 * s))) (hb set (S (185 + 4 * s))) (hb set (S (185 + 4 * s + 1))) (decide (S (185 + 4 * s + 2) = 1))
def bad (S : NS) (set s : Int) : Bool := cnt S s && !ltS S set s
/-- the first of k sayings from s on that bars a set; -1 -/
def fbad (S : NS) (set : Int) : Nat → Nat → Int
  | 0, _ => -1
  | k + 1, s => if bad S set s then s else fbad S set k (s + 1)
theorem HR.valid {h : Nat} {S : NS} (hR : HR h S mem) {s : Nat} (hs : s < 60) : land (lshr (mem h 10) s) 1 = bI (cnt S s) := by
  obtain ⟨v, e1, e2, e3⟩ := hR.2.2.2.2.2.2.1
  rw [e1, lbt_n (by omega) (by omega), e3 s hs]
  rfl
theorem HR.whole {h : Nat} {S : NS} (hR : HR h S mem) {s : Nat} (hs : s < 60) (hs2 : (s : Int) < S 1) : land (lshr (mem h 9) s) 1 = bI (decide (S (185 + 4 * s + 2) = 1)) := by
  obtain ⟨v, e1, e2, e3⟩ := hR.2.2.2.2.2.1
  rw [e1, lbt_n (by omega) (by omega), e3 s hs hs2]
theorem HR.tied {h : Nat} {S : NS} (hR : HR h S mem) {i j : Nat} (hi : i < 12) (hj : j < 12) : iand (ishr (mem (h + 4) i) j) 1 = bI (decide (0 < S (41 + 12 * i + j))) := by
  obtain ⟨v, e1, e2, e3⟩ := hR.2.2.2.1 i hi
  rw [e1, bt_n (by omega) (by omega), e3 j hj]
theorem bI_ne0 {b : Bool} : bI b ≠ 0 ↔ b = true := by cases b <;> simp [bI]
theorem VN.say {S : NS} (hV : VN S) {s : Nat} (hs : (s : Int) < S 1) : ∃ i j : Nat, S (185 + 4 * s) = i ∧ S (185 + 4 * s + 1) = j ∧ (i : Int) < S 0 ∧ (j : Int) < S 0 ∧ i ≠ j ∧ i < 12 ∧ j < 12 := by
  have v0 := hV.1
  have v1 := hV.2.1
  obtain ⟨q1, q2, q3, q4, q5⟩ := (hV.2.2.2.2.2.2.2.2.1 s (by omega) (by omega)).1 hs
  exact ⟨(S (185 + 4 * s)).toNat, (S (185 + 4 * s + 1)).toNat, by omega, by omega, by omega, by omega, by omega, by omega, by omega⟩
theorem VN.kind {S : NS} (hV : VN S) {i : Int} (h0 : 0 ≤ i) (h1 : i < 12) : 0 ≤ S (5 + 3 * i) ∧ S (5 + 3 * i) ≤ 5 := hV.2.2.2.2.2.1 i h0 h1
theorem ct_firstNotLet {h : Nat} (hh : isH h) {S : NS} (hR : HR h S mem) (hV : VN S) (hd : 4 ≤ d) {set : Nat} (hset : set < 4096) {n : Nat} (hn : S 1 = n) (hq : Q (some (vI (fbad S set n 0))) mem) : C_X2_firstNotLet G d [vR h, vI set] mem Q := by
  refine B_X2_firstNotLet hh (by omega) ?_
  have v1 := hV.2.1
  have lp : ∀ k i : Nat, i + k = n → Q (some (vI (fbad S set k i))) mem → E_X2_firstNotLet G d 2 [(0, vR h), (1, vI set), (2, vI i)] [] mem Q := by
    intro k
    induction k with
    | zero =>
      intro i hi hq
      refine B_X2_firstNotLet_2 hh (by omega) ?_
      rw [hR.1.2.1]
      exact ⟨by omega, fun _ => hq, fun z => absurd (by omega) z⟩
    | succ k ih =>
      intro i hi hq
      obtain ⟨a, b, e1, e2, e3, e4, e5, e6, e7⟩ := hV.say (s := i) (by omega)
      have f1 := hR.2.2.2.2.1 i (by omega) (by omega)
      have kd := hV.kind (i := a) (by omega) (by omega)
      refine B_X2_firstNotLet_2 hh (by omega) ?_
      rw [hR.1.2.1, hR.valid (by omega), f1.1, e1, (hR.2.1 a (by omega) (by omega)).1, hR.whole (by omega) (by omega)]
      unfold fbad bad at hq
      refine ⟨by omega, fun z => by omega, fun _ => ⟨fun z => ?_, fun z => ⟨by omega, by omega, ?_⟩⟩⟩
      · have z2 : cnt S i = false := by
          cases hc : cnt S i
          · rfl
          · rw [hc] at z; exact absurd (by decide) z
        rw [z2] at hq
        exact ih (i + 1) (by omega) hq
      · have z2 : cnt S i = true := bI_ne0.mp z
        rw [z2] at hq
        refine ct_letCases (by omega) kd.1 (by omega) (bz_01 _) ⟨_, rfl, ?_⟩
        have e9 : nz (bz (bI (decide (S (185 + 4 * i + 2) = 1)) ≠ 0)) = decide (S (185 + 4 * i + 2) = 1) := by
          rw [nz_bz]
          cases decide (S (185 + 4 * i + 2) = 1) <;> rfl
        rw [e9, f1.1, f1.2, e1, e2, bt_hb (by omega) (by omega), bt_hb (by omega) (by omega), lcs_bit]
        have el : ltS S set i = letB (S (5 + 3 * a)) (hb set a) (hb set b) (decide (S (185 + 4 * i + 2) = 1)) := by unfold ltS; rw [e1, e2]
        rw [el] at hq
        refine ⟨fun y => ?_, fun y => ?_⟩
        · rw [bI_ne0.mp y] at hq
          exact ih (i + 1) (by omega) hq
        · have y2 : letB (S (5 + 3 * a)) (hb set a) (hb set b) (decide (S (185 + 4 * i + 2) = 1)) = false := by
            cases hc : letB (S (5 + 3 * a)) (hb set a) (hb set b) (decide (S (185 + 4 * i + 2) = 1))
            · rfl
            · rw [hc] at y; exact absurd (by decide) y
          rw [y2] at hq
          exact hq
  exact lp n 0 (by omega) hq
theorem ct_isLetS {S : NS} (hS : mem 72 = S) (hV : VN S) (hd : 2 ≤ d) {set : Int} {s : Nat} (hs : (s : Int) < S 1) (hq : Q (some (vI (bz (ltS S set s = true)))) mem) : C_X11_isLet_ G d [vR 71, vI set, vI s] mem Q := by
  have v1 := hV.2.1
  obtain ⟨a, b, e1, e2, e3, e4, e5, e6, e7⟩ := hV.say hs
  have f8 := (hV.2.2.2.2.2.2.2.2.1 s (by omega) (by omega)).2.1
  refine B_X11_isLet_ hd ?_
  rw [hS, Int.add_zero, e1, e2]
  unfold ltS at hq
  rw [e1, e2] at hq
  refine ⟨by omega, by omega, by omega, fun z => ⟨by omega, ?_⟩, fun z => ⟨by omega, ?_⟩⟩
  · rw [decide_eq_false z] at hq; exact hq
  · rw [decide_eq_true (by omega)] at hq; exact hq
/-- what bars a set -/
def barsS (S : NS) (set : Nat) : Int := if S 2 < pc set then 100 else fbad S set (S 1).toNat 0
theorem bits_pc {s : Nat} (hs : s < 2147483648) : sm 12 (fun k => iand (ishr s k) 1) = pc s := by
  refine sm_congr (fun i hi => ?_)
  rw [bt_n hs (by omega)]
theorem ct_barsOf {S : NS} (hS : mem 72 = S) (hV : VN S) (hd : 3 ≤ d) {set : Nat} (hset : set < 4096) (hq : Q (some (vI (barsS S set))) mem) : C_X11_barsOf G d [vR 71, vI set] mem Q := by
  have v1 := hV.2.1
  have v2 := hV.2.2.1
  have p0 := pc_nn set
  have p1 := pc_le set
  refine B_X11_barsOf (by omega) ?_
  rw [bits_pc (by omega), hS]
  unfold barsS at hq
  refine ⟨by omega, fun z => ?_, fun z => ?_⟩
  · rw [if_neg (by omega)] at hq
    have lp : ∀ k i : Nat, (i : Int) + k = S 1 → Q (some (vI (fbad S set k i))) mem → E_X11_barsOf G d 18 [(0, vR 71), (1, vI set), (2, vI i)] [] mem Q := by
      intro k
      induction k with
      | zero =>
        intro i hi hq
        refine B_X11_barsOf_18 (by omega) ?_
        rw [hS]
        exact ⟨by omega, fun _ => hq, fun z => absurd (by omega) z⟩
      | succ k ih =>
        intro i hi hq
        refine B_X11_barsOf_18 (by omega) ?_
        rw [hS]
        unfold fbad bad cnt at hq
        refine ⟨by omega, fun z => by omega, fun _ => ⟨by omega, fun z => ?_, fun z => ct_isLetS hS hV (by omega) (by omega) ⟨_, rfl, bz_inr _, fun y => ?_, fun y => ?_⟩⟩⟩
        · rw [decide_eq_false z] at hq
          exact ih (i + 1) (by omega) hq
        · rw [decide_eq_true z, bz_n0.mp y] at hq
          exact ih (i + 1) (by omega) hq
        · have y2 : ltS S set i = false := by
            cases hc : ltS S set i
            · rfl
            · exact absurd (bz_n0.mpr hc) y
          rw [decide_eq_true z, y2] at hq
          exact hq
    exact lp (S 1).toNat 0 (by omega) hq
  · rw [if_pos (by omega)] at hq
    exact hq
end L4
