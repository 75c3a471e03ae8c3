/-! ===== what is read off the sets that fit ===== -/
theorem it_loop {n : Nat} {E : Nat → Prop} (hend : E n) (hstep : ∀ i, i < n → E (i + 1) → E i) (i : Nat) (hi : i ≤ n) : E i :=
  up_loop (σ := Unit) (n := n) (E := fun i _ => E i) (I := fun _ _ => True) (fun _ _ => hend) (fun i _ hi _ h => hstep i hi (h () trivial)) (s := ()) hi trivial
theorem p2n {n : Nat} (h : n ≤ 12) : 0 < 2 ^ n ∧ (2 : Nat) ^ n ≤ 4096 := ⟨Nat.two_pow_pos n, Nat.pow_le_pow_right (by decide) h⟩
def andS (arr : Int → Int) (c : Int) : Nat → Int
  | 0 => c
  | k + 1 => iand (andS arr c k) (arr k)
def orS (arr : Int → Int) (c : Int) : Nat → Int
  | 0 => c
  | k + 1 => ior (orS arr c k) (arr k)
theorem andS_congr {f g : Int → Int} {c : Int} {n : Nat} (h : ∀ i : Nat, i < n → f i = g i) : andS f c n = andS g c n := by
  induction n with
  | zero => rfl
  | succ n ih => unfold andS; rw [ih (fun i hi => h i (by omega)), h n (by omega)]
theorem orS_congr {f g : Int → Int} {c : Int} {n : Nat} (h : ∀ i : Nat, i < n → f i = g i) : orS f c n = orS g c n := by
  induction n with
  | zero => rfl
  | succ n ih => unfold orS; rw [ih (fun i hi => h i (by omega)), h n (by omega)]
theorem lcmp_le {a b : Int} : lcmp a b ≤ 0 ↔ a ≤ b := by
  unfold lcmp
  split
  · constructor <;> intro <;> omega
  · split
    · constructor <;> intro <;> omega
    · constructor <;> intro <;> omega
/-- the set to blame, of those up to k -/
def blS (S : NS) : Nat → Nat
  | 0 => 0
  | k + 1 => if nl S (k + 1) ≤ nl S (blS S k) ∧ pc (k + 1) ≤ S 2 ∧ (nl S (k + 1) < nl S (blS S k) ∨ pc (k + 1) < pc (blS S k)) then k + 1 else blS S k
theorem blS_le (S : NS) (k : Nat) : blS S k ≤ k := by
  induction k with
  | zero => exact Nat.le_refl _
  | succ k ih => unfold blS; split <;> omega
/-- the chance of one; of a set -/
def chS (S : NS) (m : Nat) (b : Bool) : Int := if b = true then S (5 + 3 * (m : Int) + 2) else 10 - S (5 + 3 * (m : Int) + 2)
def wt (S : NS) : Nat → Nat → Int
  | 0, _ => 1
  | i + 1, set => wt S i set * chS S i (set.testBit i)
theorem chS_r {S : NS} (hV : VN S) {m : Nat} (hm : (m : Int) < S 0) (b : Bool) : 1 ≤ chS S m b ∧ chS S m b ≤ 9 := by
  have h := hV.2.2.2.2.2.2.1 m (by omega) hm
  unfold chS
  split <;> omega
theorem wt_r {S : NS} (hV : VN S) {i : Nat} (hi : (i : Int) ≤ S 0) (set : Nat) : 1 ≤ wt S i set ∧ wt S i set ≤ 9 ^ i := by
  induction i with
  | zero => exact ⟨Int.le_refl _, Int.le_refl _⟩
  | succ i ih =>
    have ih := ih (by omega)
    have c := chS_r hV (m := i) (by omega) (set.testBit i)
    unfold wt
    constructor
    · have := Int.mul_pos (show 0 < wt S i set by omega) (show 0 < chS S i (set.testBit i) by omega)
      omega
    · rw [Int.pow_succ]
      exact Int.mul_le_mul ih.2 c.2 (by omega) (by have : (0 : Int) < 9 ^ i := Int.pow_pos (by decide); omega)
theorem wt_b {S : NS} (hV : VN S) {i : Nat} (hi : (i : Int) ≤ S 0) (set : Nat) : 1 ≤ wt S i set ∧ wt S i set ≤ 282429536481 := by
  have h := wt_r hV hi set
  have v0 := hV.1
  have h2 : ∀ j : Nat, j ≤ 12 → (9 : Int) ^ j ≤ 282429536481 := by decide
  have := h2 i (by omega)
  omega
theorem wt_congr {S : NS} {i a b : Nat} (h : ∀ m, m < i → a.testBit m = b.testBit m) : wt S i a = wt S i b := by
  induction i with
  | zero => rfl
  | succ i ih => unfold wt; rw [ih (fun m hm => h m (by omega)), h i (by omega)]
theorem tb_add {i set m : Nat} (h : set < 2 ^ i) (hm : m < i) : (2 ^ i + set).testBit m = set.testBit m := by
  rw [tb_1 h, decide_eq_false (show ¬ i = m by omega), Bool.false_or]
theorem tb_top {i set : Nat} (h : set < 2 ^ i) : (2 ^ i + set).testBit i = true := by
  rw [tb_1 h, decide_eq_true rfl, Bool.true_or]
/-- what a set costs -/
def prS (S : NS) (i set : Nat) : Int := sm i (fun m => bI (set.testBit m) * S (5 + 3 * (m : Int) + 1))
theorem prS_r {S : NS} (hV : VN S) {i : Nat} (hi : (i : Int) ≤ S 0) (set : Nat) : 0 ≤ prS S i set ∧ prS S i set ≤ 99 * i := by
  induction i with
  | zero => exact ⟨Int.le_refl _, Int.le_refl _⟩
  | succ i ih =>
    have ih := ih (by omega)
    have h := hV.2.2.2.2.2.2.1 i (by omega) (by omega)
    unfold prS at *
    rw [sm_s]
    cases set.testBit i
    · rw [bI_f, Int.zero_mul]; omega
    · rw [bI_t, Int.one_mul]; omega
/-- the first k of a row: the weightiest -/
def wb (S : NS) (n : Nat) (arr : Int → Int) : Nat → Int
  | 0 => arr 0
  | k + 1 => if wt S n (wb S n arr k).toNat < wt S n (arr ((k : Int) + 1)).toNat then arr ((k : Int) + 1) else wb S n arr k
theorem wb_congr {S : NS} {n : Nat} {f g : Int → Int} {k : Nat} (h : ∀ i : Nat, i ≤ k → f i = g i) : wb S n f k = wb S n g k := by
  induction k with
  | zero => exact h 0 (Nat.le_refl _)
  | succ k ih =>
    unfold wb
    have := h (k + 1) (Nat.le_refl _)
    rw [show ((k + 1 : Nat) : Int) = (k : Int) + 1 by omega] at this
    rw [ih (fun i hi => h i (by omega)), this]
theorem SL_r {P : Nat → Bool} {N : Nat} {arr : Int → Int} (h : SL P N arr) {i : Int} (h0 : 0 ≤ i) (hi : i < cN P N) : 0 ≤ arr i ∧ arr i < N := by
  obtain ⟨s, a, b, c, e⟩ := SL_at h (i := i.toNat) (by omega)
  rw [show ((i.toNat : Nat) : Int) = i by omega] at c
  omega
theorem wb_in {S : NS} {n : Nat} {P : Nat → Bool} {N : Nat} {arr : Int → Int} (h : SL P N arr) {k : Nat} (hk : k < cN P N) : 0 ≤ wb S n arr k ∧ wb S n arr k < N := by
  induction k with
  | zero => exact SL_r h (by omega) (by omega)
  | succ k ih =>
    unfold wb
    split
    · exact SL_r h (by omega) (by omega)
    · exact ih (by omega)
section F2
variable {G : GT} {d : Nat} {mem : Mem} {Q : Option AV → Mem → Prop}
theorem ct_inAll (hd : 1 ≤ d) {z : Nat} (hz : mem 32 7 = z) (hz2 : z ≤ 4096) (hq : Q (some (vI (andS (mem 37) (ishl 1 (mem 1 0) - 1) z))) mem) : C_X1_inAll G d [vR 32] mem Q := by
  refine B_X1_inAll hd (it_loop (n := z) (E := fun i => E_X1_inAll G d 10 [(0, vR 32), (1, vI (andS (mem 37) (ishl 1 (mem 1 0) - 1) i)), (2, vI i)] [] mem Q) ?_ ?_ 0 (by omega))
  · refine B_X1_inAll_10 hd ?_
    rw [hz]
    exact ⟨by omega, fun _ => hq, fun y => absurd (by omega) y⟩
  · intro i hi hE
    refine B_X1_inAll_10 hd ?_
    rw [hz]
    exact ⟨by omega, fun _ => by omega, fun y => ⟨by omega, hE⟩⟩
theorem ct_inNone (hd : 1 ≤ d) {z : Nat} (hz : mem 32 7 = z) (hz2 : z ≤ 4096) (hq : Q (some (vI (iand (ishl 1 (mem 1 0) - 1) (ixor (orS (mem 37) 0 z) (-1))))) mem) : C_X1_inNone G d [vR 32] mem Q := by
  refine B_X1_inNone hd (it_loop (n := z) (E := fun i => E_X1_inNone G d 4 [(0, vR 32), (1, vI (orS (mem 37) 0 i)), (2, vI i)] [] mem Q) ?_ ?_ 0 (by omega))
  · refine B_X1_inNone_4 hd ?_
    rw [hz]
    exact ⟨by omega, fun _ => hq, fun y => absurd (by omega) y⟩
  · intro i hi hE
    refine B_X1_inNone_4 hd ?_
    rw [hz]
    exact ⟨by omega, fun _ => by omega, fun y => ⟨by omega, hE⟩⟩
theorem ct_leastNotLet (hd : 1 ≤ d) {S : NS} (hR : HR 1 S mem) (hV : VN S) (hF : FT S mem) {n : Nat} (hn : S 0 = n) (hq : Q (some (vI (blS S (2 ^ n - 1)))) mem) : C_X1_leastNotLet G d [vR 32] mem Q := by
  have v0 := hV.1
  have p4 := p2n (show n ≤ 12 by omega)
  refine B_X1_leastNotLet hd ?_
  rw [hR.1.1, hn, ishl_1 (by omega)]
  have F1 : ∀ set : Nat, set < 2 ^ n → mem 34 set = nl S set := by
    have := hF.1
    rw [show (S 0).toNat = n by omega] at this
    exact this
  have lp := it_loop (n := 2 ^ n - 1) (E := fun i => E_X1_leastNotLet G d 14 [(0, vR 32), (1, vI (blS S i)), (2, vI ((2 ^ n : Nat) : Int)), (3, vI ((i : Int) + 1))] [] mem Q) ?_ ?_ 0 (by omega)
  · exact lp
  · refine B_X1_leastNotLet_14 hd ?_
    exact ⟨⟨by omega, by omega⟩, fun _ => hq, fun y => absurd (by omega) y⟩
  · intro i hi hE
    have b1 := blS_le S i
    have r1 := nl_r hV (i + 1)
    have r2 := nl_r hV (blS S i)
    refine B_X1_leastNotLet_14 hd ?_
    have e1 := F1 (i + 1) (by omega)
    have e2 := F1 (blS S i) (by omega)
    rw [show ((i + 1 : Nat) : Int) = (i : Int) + 1 by omega] at e1
    have c1 : bitc ((i : Int) + 1) = pc (i + 1) := by
      rw [show (i : Int) + 1 = ((i + 1 : Nat) : Int) by omega]
      exact bitc_n (by omega)
    rw [e1, e2, c1, bitc_n (by omega), hR.1.2.2.1]
    have hT : (nl S (i + 1) ≤ nl S (blS S i) ∧ pc (i + 1) ≤ S 2 ∧ (nl S (i + 1) < nl S (blS S i) ∨ pc (i + 1) < pc (blS S i))) → E_X1_leastNotLet G d 14 [(0, vR 32), (1, vI ((i : Int) + 1)), (2, vI ((2 ^ n : Nat) : Int)), (3, vI ((i : Int) + 1 + 1))] [] mem Q := by
      intro h
      unfold blS at hE
      rw [if_pos h] at hE
      exact hE
    have hN : ¬ (nl S (i + 1) ≤ nl S (blS S i) ∧ pc (i + 1) ≤ S 2 ∧ (nl S (i + 1) < nl S (blS S i) ∨ pc (i + 1) < pc (blS S i))) → E_X1_leastNotLet G d 14 [(0, vR 32), (1, vI (blS S i)), (2, vI ((2 ^ n : Nat) : Int)), (3, vI ((i : Int) + 1 + 1))] [] mem Q := by
      intro h
      unfold blS at hE
      rw [if_neg h] at hE
      exact hE
    refine ⟨⟨by omega, by omega⟩, fun y => by omega, fun y => ⟨by omega, by omega, by omega, fun x => hN (by omega), fun x => ⟨fun w => hN (by omega), fun w => ⟨fun v => hT (by omega), fun v => ⟨fun u => hN (by omega), fun u => hT (by omega)⟩⟩⟩⟩⟩
theorem ct_weigh {S : NS} (hR : HR 1 S mem) (hV : VN S) {n : Nat} (hn : S 0 = n) (hq : ∀ m' : Mem, (∀ set : Nat, set < 2 ^ n → m' 41 set = wt S n set) → (∀ (a : Nat) (b : Int), a ≠ 41 → m' a b = mem a b) → Q none m') : C_X1_weigh G d [vR 32] mem Q := by
  have v0 := hV.1
  have p4 := p2n (show n ≤ 12 by omega)
  refine B_X1_weigh (fun m1 e1 => ?_)
  refine up_loop (n := n) (E := fun i m => E_X1_weigh G d 9 [(0, vR 32), (1, vI i)] [] m Q) (I := fun i m => (∀ (a : Nat) (b : Int), a ≠ 41 → m a b = mem a b) ∧ ∀ set : Nat, set < 2 ^ i → m 41 set = wt S i set) ?_ ?_ (i := 0) (by omega) ⟨fun a b h => by rw [e1, upM_ne (by omega)], fun set hs => by
    have : set = 0 := by omega
    subst this
    rw [e1]
    exact upM_same⟩
  · intro m2 ⟨f2, g2⟩
    refine B_X1_weigh_9 ?_
    rw [f2 1 0 (by omega), hR.1.1, hn]
    exact ⟨by omega, fun _ => hq m2 g2 f2, fun y => absurd (by omega) y⟩
  · intro i m2 hi ⟨f2, g2⟩ hE
    have pi := p2n (show i ≤ 12 by omega)
    have pi2 : (2 : Nat) ^ (i + 1) ≤ 4096 := Nat.pow_le_pow_right (by decide) (show i + 1 ≤ 12 by omega)
    rw [Nat.pow_succ] at pi2
    have hc := hV.2.2.2.2.2.2.1 i (by omega) (by omega)
    refine B_X1_weigh_9 ?_
    rw [f2 1 0 (by omega), hR.1.1, hn, ishl_1 (by omega)]
    refine ⟨by omega, fun _ => by omega, fun _ => ?_⟩
    refine up_loop (n := 2 ^ i) (E := fun j m => E_X1_weigh G d 26 [(0, vR 32), (1, vI i), (2, vI ((2 ^ i : Nat) : Int)), (3, vI j)] [] m Q) (I := fun j m => (∀ (a : Nat) (b : Int), a ≠ 41 → m a b = mem a b) ∧ (∀ set : Nat, set < j → m 41 set = wt S (i + 1) set) ∧ (∀ set : Nat, j ≤ set → set < 2 ^ i → m 41 set = wt S i set) ∧ (∀ set : Nat, set < j → m 41 ((2 ^ i + set : Nat) : Int) = wt S (i + 1) (2 ^ i + set))) ?_ ?_ (i := 0) (by omega) ⟨f2, fun set hs => by omega, fun set _ hs => g2 set hs, fun set hs => by omega⟩
    · intro m3 ⟨f3, a3, b3, c3⟩
      refine B_X1_weigh_26 ⟨⟨by omega, by omega⟩, fun _ => hE m3 ⟨f3, fun set hs => ?_⟩, fun y => absurd (by omega) y⟩
      by_cases q : set < 2 ^ i
      · exact a3 set q
      · have := c3 (set - 2 ^ i) (by rw [Nat.pow_succ] at hs; omega)
        rw [show 2 ^ i + (set - 2 ^ i) = set by omega] at this
        exact this
    · intro j m3 hj ⟨f3, a3, b3, c3⟩ hE2
      have ej := b3 j (Nat.le_refl _) hj
      have e4 := (hR.2.1 i (by omega) (by omega)).2.2
      have w0 := wt_b hV (i := i) (by omega) j
      have wA : wt S (i + 1) j = wt S i j * (10 - S (5 + 3 * (i : Int) + 2)) := by
        show wt S i j * chS S i (j.testBit i) = _
        rw [tb_lt hj (Nat.le_refl _)]
        rfl
      have wB : wt S (i + 1) (2 ^ i + j) = wt S i j * S (5 + 3 * (i : Int) + 2) := by
        show wt S i (2 ^ i + j) * chS S i ((2 ^ i + j).testBit i) = _
        rw [tb_top hj, wt_congr (fun m hm => tb_add hj hm)]
        rfl
      have w1 := wt_b hV (i := i + 1) (by omega) j
      have w2 := wt_b hV (i := i + 1) (by omega) (2 ^ i + j)
      refine B_X1_weigh_26 ?_
      rw [f3 4 _ (by omega), e4, ej, show ((2 ^ i : Nat) : Int) + (j : Int) = ((2 ^ i + j : Nat) : Int) by omega, ← wB]
      refine ⟨⟨by omega, by omega⟩, fun _ => by omega, fun _ => ⟨by omega, by omega, by omega, by omega, fun m4 g4 => ?_⟩⟩
      have h4 : m4 4 i = S (5 + 3 * (i : Int) + 2) := by rw [g4, upM_ne (by omega), f3 4 _ (by omega), e4]
      have k4 : m4 41 j = wt S i j := by rw [g4, upM_ne (by omega), ej]
      rw [h4, k4, ← wA]
      refine ⟨by omega, by omega, fun m5 g5 => hE2 m5 ⟨fun a b h => by rw [g5, upM_ne (by omega), g4, upM_ne (by omega)]; exact f3 a b h, fun set hs => ?_, fun set h0 h1 => ?_, fun set hs => ?_⟩⟩
      · by_cases q : set = j
        · subst q; rw [g5, upM_same]
        · rw [g5, upM_ne (by omega), g4, upM_ne (by omega)]; exact a3 set (by omega)
      · rw [g5, upM_ne (by omega), g4, upM_ne (by omega)]; exact b3 set (by omega) h1
      · by_cases q : set = j
        · subst q; rw [g5, upM_ne (by omega), g4, upM_same]
        · rw [g5, upM_ne (by omega), g4, upM_ne (by omega)]; exact c3 set (by omega)
theorem ct_weightiest (hd : 1 ≤ d) {S : NS} (hR : HR 1 S mem) (hV : VN S) {n : Nat} (hn : S 0 = n) (hF : FT S mem) (hz : cN (fitB S) (2 ^ n) ≠ 0) (hq : ∀ m' : Mem, (∀ (a : Nat) (b : Int), a ≠ 41 → m' a b = mem a b) → Q (some (vI (wb S n (mem 37) (cN (fitB S) (2 ^ n) - 1)))) m') : C_X1_weightiest G d [vR 32] mem Q := by
  have v0 := hV.1
  have p4 := p2n (show n ≤ 12 by omega)
  obtain ⟨F1, F2, F3⟩ := hF
  rw [show (S 0).toNat = n by omega] at F1 F2 F3
  have cl := cN_le (fitB S) (2 ^ n)
  refine B_X1_weightiest hd (ct_weigh hR hV hn (fun m1 g1 f1 => ⟨rfl, ?_⟩))
  have e37 : m1 37 = mem 37 := by funext b; exact f1 37 b (by omega)
  rw [e37]
  refine it_loop (n := cN (fitB S) (2 ^ n) - 1) (E := fun i => E_X1_weightiest G d 13 [(0, vR 32), (1, vI (wb S n (mem 37) i)), (2, vI ((i : Int) + 1))] [] m1 Q) ?_ ?_ 0 (by omega)
  · refine B_X1_weightiest_13 hd ?_
    rw [f1 32 7 (by omega), F3]
    exact ⟨by omega, fun _ => hq m1 f1, fun y => absurd (by omega) y⟩
  · intro i hi hE
    have r1 := SL_r F2 (i := (i : Int) + 1) (by omega) (by omega)
    have r2 := wb_in (S := S) (n := n) F2 (k := i) (by omega)
    have w1 := g1 (mem 37 ((i : Int) + 1)).toNat (by omega)
    have w2 := g1 (wb S n (mem 37) i).toNat (by omega)
    rw [show (((mem 37 ((i : Int) + 1)).toNat : Nat) : Int) = mem 37 ((i : Int) + 1) by omega] at w1
    rw [show (((wb S n (mem 37) i).toNat : Nat) : Int) = wb S n (mem 37) i by omega] at w2
    unfold wb at hE
    refine B_X1_weightiest_13 hd ?_
    rw [f1 32 7 (by omega), F3, e37, w1, w2, lcmp_le]
    refine ⟨by omega, fun _ => by omega, fun _ => ⟨by omega, by omega, by omega, fun y => ?_, fun y => ?_⟩⟩
    · rw [if_neg (by omega)] at hE; exact hE
    · rw [if_pos (by omega)] at hE; exact hE
theorem ct_weightOfThose (hd : 1 ≤ d) {S : NS} (hR : HR 1 S mem) (hV : VN S) {n : Nat} (hn : S 0 = n) (hF : FT S mem) {c : Int} (hc : inr c) (hq : ∀ m' : Mem, (∀ (a : Nat) (b : Int), a ≠ 41 → m' a b = mem a b) → Q (some (vL (sm (cN (fitB S) (2 ^ n)) (fun i => if iand (mem 37 i) c = c then wt S n (mem 37 i).toNat else 0)))) m') : C_X1_weightOfThoseWith G d [vR 32, vI c] mem Q := by
  have v0 := hV.1
  have p4 := p2n (show n ≤ 12 by omega)
  obtain ⟨F1, F2, F3⟩ := hF
  rw [show (S 0).toNat = n by omega] at F1 F2 F3
  have cl := cN_le (fitB S) (2 ^ n)
  refine B_X1_weightOfThoseWith hd (ct_weigh hR hV hn (fun m1 g1 f1 => ⟨rfl, ?_⟩))
  have e37 : m1 37 = mem 37 := by funext b; exact f1 37 b (by omega)
  refine it_loop (n := cN (fitB S) (2 ^ n)) (E := fun i => E_X1_weightOfThoseWith G d 9 [(0, vR 32), (1, vI c), (2, vL (sm i (fun i => if iand (mem 37 i) c = c then wt S n (mem 37 i).toNat else 0))), (4, vI i)] [] m1 Q) ?_ ?_ 0 (by omega)
  · refine B_X1_weightOfThoseWith_9 hd ?_
    rw [f1 32 7 (by omega), F3]
    exact ⟨by omega, fun _ => hq m1 f1, fun y => absurd (by omega) y⟩
  · intro i hi hE
    have r1 := SL_r F2 (i := i) (by omega) (by omega)
    have w1 := g1 (mem 37 i).toNat (by omega)
    rw [show (((mem 37 i).toNat : Nat) : Int) = mem 37 i by omega] at w1
    rw [sm_s] at hE
    refine B_X1_weightOfThoseWith_9 hd ?_
    rw [f1 32 7 (by omega), F3, e37, w1]
    refine ⟨by omega, fun _ => by omega, fun _ => ⟨by omega, hc, fun y => ?_, fun y => ⟨by omega, ?_⟩⟩⟩
    · rw [if_neg y, Int.add_zero] at hE; exact hE
    · rw [if_pos (Classical.not_not.mp y)] at hE; exact hE
theorem ct_weightOf (hd : 1 ≤ d) {S : NS} (hS : mem 72 = S) (hV : VN S) {n set : Nat} (hn : S 0 = n) (hs : set < 4096) (hq : Q (some (vL (wt S n set))) mem) : C_X11_weightOf G d [vR 71, vI set] mem Q := by
  have v0 := hV.1
  refine B_X11_weightOf hd (it_loop (n := n) (E := fun i => E_X11_weightOf G d 5 [(0, vR 71), (1, vI set), (2, vL (wt S i set)), (4, vI i)] [] mem Q) ?_ ?_ 0 (by omega))
  · refine B_X11_weightOf_5 hd ?_
    rw [hS, hn]
    exact ⟨by omega, fun _ => hq, fun y => absurd (by omega) y⟩
  · intro i hi hE
    have hc := hV.2.2.2.2.2.2.1 i (by omega) (by omega)
    refine B_X11_weightOf_5 hd ?_
    rw [hS, hn, bt_n (by omega) (by omega)]
    unfold wt chS at hE
    refine ⟨by omega, fun _ => by omega, fun _ => ⟨by omega, fun y => ⟨by omega, ?_⟩, fun y => ?_⟩⟩
    · rw [if_neg (fun q => y (by rw [q]; rfl))] at hE; exact hE
    · rw [if_pos (bI_eq1.mp y)] at hE; exact hE
theorem ct_priceOf (hd : 1 ≤ d) {S : NS} (hS : mem 72 = S) (hV : VN S) {n set : Nat} (hn : S 0 = n) (hs : set < 4096) (hq : Q (some (vI (prS S n set))) mem) : C_X11_priceOf G d [vR 71, vI set] mem Q := by
  have v0 := hV.1
  refine B_X11_priceOf hd (it_loop (n := n) (E := fun i => E_X11_priceOf G d 4 [(0, vR 71), (1, vI set), (2, vI (prS S i set)), (3, vI i)] [] mem Q) ?_ ?_ 0 (by omega))
  · refine B_X11_priceOf_4 hd ?_
    rw [hS, hn]
    exact ⟨by omega, fun _ => hq, fun y => absurd (by omega) y⟩
  · intro i hi hE
    refine B_X11_priceOf_4 hd ?_
    rw [hS, hn, bt_n (by omega) (by omega)]
    unfold prS at *
    rw [sm_s] at hE
    refine ⟨by omega, fun _ => by omega, fun _ => ⟨fun y => ?_, fun y => ⟨by omega, ?_⟩⟩⟩
    · have q : set.testBit i = false := by
        cases h : set.testBit i
        · rfl
        · rw [h] at y; exact absurd rfl y
      rw [q, bI_f, Int.zero_mul] at hE; exact hE
    · rw [y, Int.one_mul] at hE; exact hE
theorem ct_priceEach {S : NS} (hR : HR 1 S mem) (hV : VN S) {n : Nat} (hn : S 0 = n) (hq : ∀ m' : Mem, (∀ set : Nat, set < 2 ^ n → m' 40 set = prS S n set) → (∀ (a : Nat) (b : Int), a ≠ 40 → m' a b = mem a b) → Q none m') : C_X1_priceEach G d [vR 32] mem Q := by
  have v0 := hV.1
  have p4 := p2n (show n ≤ 12 by omega)
  refine B_X1_priceEach (fun m1 e1 => ?_)
  refine up_loop (n := n) (E := fun i m => E_X1_priceEach G d 9 [(0, vR 32), (1, vI i)] [] m Q) (I := fun i m => (∀ (a : Nat) (b : Int), a ≠ 40 → m a b = mem a b) ∧ ∀ set : Nat, set < 2 ^ i → m 40 set = prS S i set) ?_ ?_ (i := 0) (by omega) ⟨fun a b h => by rw [e1, upM_ne (by omega)], fun set hs => by
    have : set = 0 := by omega
    subst this
    rw [e1]
    exact upM_same⟩
  · intro m2 ⟨f2, g2⟩
    refine B_X1_priceEach_9 ?_
    rw [f2 1 0 (by omega), hR.1.1, hn]
    exact ⟨by omega, fun _ => hq m2 g2 f2, fun y => absurd (by omega) y⟩
  · intro i m2 hi ⟨f2, g2⟩ hE
    have pi := p2n (show i ≤ 12 by omega)
    have pi2 : (2 : Nat) ^ (i + 1) ≤ 4096 := Nat.pow_le_pow_right (by decide) (show i + 1 ≤ 12 by omega)
    rw [Nat.pow_succ] at pi2
    refine B_X1_priceEach_9 ?_
    rw [f2 1 0 (by omega), hR.1.1, hn, ishl_1 (by omega)]
    refine ⟨by omega, fun _ => by omega, fun _ => ?_⟩
    have s1 : ∀ set : Nat, set < 2 ^ i → prS S (i + 1) set = prS S i set := fun set hs => by
      unfold prS
      rw [sm_s, tb_lt hs (Nat.le_refl _), bI_f, Int.zero_mul, Int.add_zero]
    have s2 : ∀ set : Nat, set < 2 ^ i → prS S (i + 1) (2 ^ i + set) = prS S i set + S (5 + 3 * (i : Int) + 1) := fun set hs => by
      unfold prS
      rw [sm_s, tb_top hs, bI_t, Int.one_mul, sm_congr (fun m hm => by rw [tb_add hs hm])]
    refine up_loop (n := 2 ^ i) (E := fun j m => E_X1_priceEach G d 26 [(0, vR 32), (1, vI i), (2, vI ((2 ^ i : Nat) : Int)), (3, vI j)] [] m Q) (I := fun j m => (∀ (a : Nat) (b : Int), a ≠ 40 → m a b = mem a b) ∧ (∀ set : Nat, set < 2 ^ i + j → m 40 set = prS S (i + 1) set)) ?_ ?_ (i := 0) (by omega) ⟨f2, fun set hs => by rw [g2 set (by omega), s1 set (by omega)]⟩
    · intro m3 ⟨f3, a3⟩
      exact B_X1_priceEach_26 ⟨⟨by omega, by omega⟩, fun _ => hE m3 ⟨f3, fun set hs => a3 set (by rw [Nat.pow_succ] at hs; omega)⟩, fun y => absurd (by omega) y⟩
    · intro j m3 hj ⟨f3, a3⟩ hE2
      have ej := a3 j (by omega)
      rw [s1 j hj] at ej
      have e4 := (hR.2.1 i (by omega) (by omega)).2.1
      have r := prS_r hV (i := i + 1) (by omega) (2 ^ i + j)
      refine B_X1_priceEach_26 ?_
      rw [f3 3 _ (by omega), e4, ej, show ((2 ^ i : Nat) : Int) + (j : Int) = ((2 ^ i + j : Nat) : Int) by omega, ← s2 j hj]
      refine ⟨⟨by omega, by omega⟩, fun _ => by omega, fun _ => ⟨by omega, by omega, by omega, by omega, fun m4 g4 => hE2 m4 ⟨fun a b h => by rw [g4, upM_ne (by omega)]; exact f3 a b h, fun set hs => ?_⟩⟩⟩
      by_cases q : set = 2 ^ i + j
      · subst q; rw [g4, upM_same]
      · rw [g4, upM_ne (by omega)]; exact a3 set (by omega)
theorem ct_markEach {S : NS} (hR : HR 1 S mem) (hV : VN S) {n : Nat} (hn : S 0 = n) (hF : FT S mem) (hq : ∀ m' : Mem, (∀ set : Nat, set < 2 ^ n → m' 39 set = bI (fitB S set)) → (∀ (a : Nat) (b : Int), a ≠ 39 → m' a b = mem a b) → Q none m') : C_X1_markEach G d [vR 32] mem Q := by
  have v0 := hV.1
  have p4 := p2n (show n ≤ 12 by omega)
  obtain ⟨F1, F2, F3⟩ := hF
  rw [show (S 0).toNat = n by omega] at F1 F2 F3
  have cl := cN_le (fitB S) (2 ^ n)
  refine B_X1_markEach ?_
  rw [hR.1.1, hn, ishl_1 (by omega)]
  refine up_loop (n := 2 ^ n) (E := fun i m => E_X1_markEach G d 12 [(0, vR 32), (1, vI ((2 ^ n : Nat) : Int)), (2, vI i)] [] m Q) (I := fun i m => (∀ (a : Nat) (b : Int), a ≠ 39 → m a b = mem a b) ∧ ∀ set : Nat, set < i → m 39 set = 0) ?_ ?_ (i := 0) (by omega) ⟨fun _ _ _ => rfl, fun set hs => by omega⟩
  · intro m2 ⟨f2, g2⟩
    refine B_X1_markEach_12 ⟨⟨by omega, by omega⟩, fun _ => ?_, fun y => absurd (by omega) y⟩
    refine up_loop (n := cN (fitB S) (2 ^ n)) (E := fun i m => E_X1_markEach G d 32 [(0, vR 32), (2, vI i)] [] m Q) (I := fun i m => (∀ (a : Nat) (b : Int), a ≠ 39 → m a b = mem a b) ∧ ∀ set : Nat, set < 2 ^ n → m 39 set = bI (fitB S set && decide (plc (fitB S) κp (2 ^ n) set < i))) ?_ ?_ (i := 0) (by omega) ⟨f2, fun set hs => by rw [g2 set hs, decide_eq_false (by omega), Bool.and_false]; rfl⟩
    · intro m3 ⟨f3, g3⟩
      refine B_X1_markEach_32 ?_
      rw [f3 32 7 (by omega), F3]
      refine ⟨by omega, fun _ => hq m3 (fun set hs => ?_) f3, fun y => absurd (by omega) y⟩
      rw [g3 set hs]
      cases hf : fitB S set
      · rfl
      · have := plc_lt (κ := κp) hs hf (κp_lt set)
        rw [bs_all κp_lt] at this
        rw [decide_eq_true this]
        rfl
    · intro i m3 hi ⟨f3, g3⟩ hE
      obtain ⟨s, a, b, c, e⟩ := SL_at F2 hi
      have c3 : m3 37 i = s := by rw [f3 37 _ (by omega)]; exact c
      refine B_X1_markEach_32 ?_
      rw [f3 32 7 (by omega), F3, c3]
      refine ⟨by omega, fun _ => by omega, fun _ => ⟨by omega, by omega, fun m4 g4 => hE m4 ⟨fun a b h => by rw [g4, upM_ne (by omega)]; exact f3 a b h, fun set hs => ?_⟩⟩⟩
      by_cases q : set = s
      · subst q
        rw [g4, upM_same, b, decide_eq_true (by omega)]; rfl
      · rw [g4, upM_ne (by omega), g3 set hs]
        cases hf : fitB S set
        · rfl
        · have hne : plc (fitB S) κp (2 ^ n) set ≠ i := fun h => q (plc_inj (κ := κp) hs a hf b (by omega))
          by_cases w : plc (fitB S) κp (2 ^ n) set < i
          · rw [decide_eq_true w, decide_eq_true (show plc (fitB S) κp (2 ^ n) set < i + 1 by omega)]
          · rw [decide_eq_false w, decide_eq_false (show ¬ plc (fitB S) κp (2 ^ n) set < i + 1 by omega)]
  · intro i m2 hi ⟨f2, g2⟩ hE
    refine B_X1_markEach_12 ⟨⟨by omega, by omega⟩, fun _ => by omega, fun _ => ⟨by omega, fun m3 g3 => hE m3 ⟨fun a b h => by rw [g3, upM_ne (by omega)]; exact f2 a b h, fun set hs => ?_⟩⟩⟩
    by_cases q : set = i
    · subst q; rw [g3, upM_same]
    · rw [g3, upM_ne (by omega)]; exact g2 set (by omega)
end F2
