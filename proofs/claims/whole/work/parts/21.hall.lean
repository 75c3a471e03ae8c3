/-! ===== sayings of a hall; who leads to whom ===== -/
theorem sm_lt {n : Nat} {f g : Nat → Int} (h : ∀ i, i < n → f i ≤ g i) {j : Nat} (hj : j < n) (hl : f j < g j) : sm n f < sm n g := by
  induction n with
  | zero => omega
  | succ n ih =>
    rw [sm_s, sm_s]
    have h1 := h n (by omega)
    by_cases hjn : j = n
    · subst hjn
      have := sm_le (fun i (hi : i < j) => h i (by omega))
      omega
    · have := ih (fun i hi => h i (by omega)) (by omega)
      omega
theorem tb_hi {a k : Nat} (ha : a < 4096) (hk : 12 ≤ k) : a.testBit k = false := Nat.testBit_lt_two_pow (Nat.lt_of_lt_of_le ha (Nat.pow_le_pow_right (by decide) hk : 2 ^ 12 ≤ 2 ^ k))
theorem eq_bits {a b : Nat} (ha : a < 4096) (hb : b < 4096) (h : ∀ k, k < 12 → a.testBit k = b.testBit k) : a = b := by
  apply Nat.eq_of_testBit_eq
  intro k
  by_cases hk : k < 12
  · exact h k hk
  · rw [tb_hi ha (by omega), tb_hi hb (by omega)]
theorem pc_strict {a b : Nat} (ha : a < 4096) (hb : b < 4096) (h : ∀ k, k < 12 → a.testBit k = true → b.testBit k = true) (hne : a ≠ b) : pc a < pc b := by
  have hle : ∀ k, k < 12 → bI (a.testBit k) ≤ bI (b.testBit k) := by
    intro k hk
    cases hak : a.testBit k
    · exact bI_nn _
    · rw [h k hk hak]; exact Int.le_refl _
  have hex : ∃ k, k < 12 ∧ a.testBit k ≠ b.testBit k := by
    apply Classical.byContradiction
    intro hn
    apply hne
    refine eq_bits ha hb (fun k hk => ?_)
    apply Classical.byContradiction
    intro q
    exact hn ⟨k, hk, q⟩
  obtain ⟨k, hk, hkne⟩ := hex
  refine sm_lt hle hk ?_
  cases hak : a.testBit k
  · cases hbk : b.testBit k
    · rw [hak, hbk] at hkne; exact absurd rfl hkne
    · decide
  · rw [hak, h k hk hak] at hkne; exact absurd rfl hkne
theorem pc_lt2 {a n : Nat} (ha : a < 2 ^ n) (hn : n ≤ 12) : pc a ≤ n := by
  have e : pc a = sm (n + (12 - n)) (fun k => bI (a.testBit k)) := by unfold pc; congr 1; omega
  rw [e, sm_app]
  have h2 : sm (12 - n) (fun i => bI (a.testBit (n + i))) = 0 := by
    refine sm_zero (fun i _ => ?_)
    rw [Nat.testBit_lt_two_pow (Nat.lt_of_lt_of_le ha (Nat.pow_le_pow_right (by decide) (by omega : n ≤ n + i)))]
    rfl
  have h1 := sm_le1 (n := n) (f := fun k => bI (a.testBit k)) (fun i _ => bI_le _)
  omega
/-- one saying leads on -/
def ps (S : NS) (s : Nat) (set : Nat) : Nat := if cnt S s = true ∧ S (185 + 4 * s + 2) = 1 ∧ (S (5 + 3 * S (185 + 4 * s)) ≠ 3 ∧ S (5 + 3 * S (185 + 4 * s)) ≠ 5) ∧ set.testBit (S (185 + 4 * s)).toNat = true then set ||| 2 ^ (S (185 + 4 * s + 1)).toNat else set
/-- the first k sayings, one behind the other -/
def pks (S : NS) : Nat → Nat → Nat
  | 0, set => set
  | k + 1, set => ps S k (pks S k set)
def itp (S : NS) (set : Nat) : Nat → Nat
  | 0 => set
  | n + 1 => pks S (S 1).toNat (itp S set n)
theorem ps_sub (S : NS) (s set k : Nat) (h : set.testBit k = true) : (ps S s set).testBit k = true := by
  unfold ps
  split
  · rw [Nat.testBit_or, h]; rfl
  · exact h
theorem pks_sub (S : NS) (n set k : Nat) (h : set.testBit k = true) : (pks S n set).testBit k = true := by
  induction n with
  | zero => exact h
  | succ n ih => exact ps_sub S n _ k ih
theorem ps_lt {S : NS} (hV : VN S) {s set : Nat} {n : Nat} (hn : S 0 = n) (hs : (s : Int) < S 1) (hset : set < 2 ^ n) : ps S s set < 2 ^ n := by
  obtain ⟨a, b, e1, e2, e3, e4, e5, e6, e7⟩ := hV.say hs
  unfold ps
  split
  · refine Nat.or_lt_two_pow hset (p2 ?_)
    rw [e2]
    omega
  · exact hset
theorem pks_lt {S : NS} (hV : VN S) {k set : Nat} {n : Nat} (hn : S 0 = n) (hk : (k : Int) ≤ S 1) (hset : set < 2 ^ n) : pks S k set < 2 ^ n := by
  induction k with
  | zero => exact hset
  | succ k ih => exact ps_lt hV hn (by omega) (ih (by omega))
theorem itp_lt {S : NS} (hV : VN S) {set : Nat} {n : Nat} (hn : S 0 = n) (hset : set < 2 ^ n) (k : Nat) : itp S set k < 2 ^ n := by
  have v1 := hV.2.1
  induction k with
  | zero => exact hset
  | succ k ih => exact pks_lt hV hn (by omega) ih
theorem itp_fix {S : NS} {set k : Nat} (h : itp S set (k + 1) = itp S set k) : ∀ j, itp S set (k + j) = itp S set k := by
  intro j
  induction j with
  | zero => rfl
  | succ j ih =>
    show pks S (S 1).toNat (itp S set (k + j)) = _
    rw [ih]
    exact h
theorem itp_end {S : NS} (hV : VN S) {set : Nat} {n : Nat} (hn : S 0 = n) (hset : set < 2 ^ n) (h0 : set ≠ 0) : itp S set (n + 1) = itp S set n := by
  have v0 := hV.1
  have hn12 : n ≤ 12 := by omega
  have h4 : (2 : Nat) ^ n ≤ 4096 := Nat.pow_le_pow_right (by decide) hn12
  have key : ∀ k, itp S set (k + 1) = itp S set k ∨ (k : Int) + 1 ≤ pc (itp S set k) := by
    intro k
    induction k with
    | zero =>
      right
      have := pc_pos h0 (by omega : set < 4096)
      show (0 : Int) + 1 ≤ pc set
      omega
    | succ k ih =>
      by_cases hf : itp S set (k + 1 + 1) = itp S set (k + 1)
      · exact Or.inl hf
      · right
        rcases ih with h | h
        · exact absurd (by
            have h1 := itp_fix h 1
            have h2 := itp_fix h 2
            rw [show k + 1 + 1 = k + 2 by omega, h2, h1]) hf
        · have hne : itp S set k ≠ itp S set (k + 1) := fun q => hf (by
            have h1 := itp_fix q.symm 2
            have h2 := itp_fix q.symm 1
            rw [show k + 1 + 1 = k + 2 by omega, h1, h2])
          have hlt := pc_strict (a := itp S set k) (b := itp S set (k + 1)) (by have := itp_lt hV hn hset k; omega) (by have := itp_lt hV hn hset (k + 1); omega) (fun b _ hb => pks_sub S _ _ b hb) hne
          omega
  rcases key n with h | h
  · exact h
  · have := pc_lt2 (itp_lt hV hn hset n) hn12
    omega
section LH
variable {G : GT} {d : Nat} {mem : Mem} {Q : Option AV → Mem → Prop}
theorem ct_ledFrom {h : Nat} (hh : isH h) {S : NS} (hR : HR h S mem) (hV : VN S) (hd : 2 ≤ d) {m n : Nat} (hn : S 0 = n) (hm : m < n) (hq : Q (some (vI (itp S (2 ^ m) n))) mem) : C_X2_ledFrom G d [vR h, vI m] mem Q := by
  have v0 := hV.1
  have v1 := hV.2.1
  have h4 : (2 : Nat) ^ n ≤ 4096 := Nat.pow_le_pow_right (by decide) (by omega : n ≤ 12)
  have hset : 2 ^ m < 2 ^ n := p2 hm
  refine B_X2_ledFrom hh (by omega) ?_
  rw [ishl_1 (by omega)]
  have inner : ∀ (p : Nat) (X : Nat), X < 2 ^ n → E_X2_ledFrom G d 6 [(0, vR h), (2, vI (pks S (S 1).toNat X)), (3, vI ((p : Int) + 1))] [] mem Q → ∀ k i : Nat, (i : Int) + k = S 1 → E_X2_ledFrom G d 17 [(0, vR h), (2, vI (pks S i X)), (3, vI p), (4, vI i)] [] mem Q := by
    intro p X hX hE k
    induction k with
    | zero =>
      intro i hi
      refine B_X2_ledFrom_17 hh hd ?_
      rw [hR.1.2.1]
      refine ⟨by omega, fun _ => ?_, fun z => absurd (by omega) z⟩
      rw [show i = (S 1).toNat by omega]
      exact hE
    | succ k ih =>
      intro i hi
      obtain ⟨a, b, e1, e2, e3, e4, e5, e6, e7⟩ := hV.say (s := i) (by omega)
      have f1 := hR.2.2.2.2.1 i (by omega) (by omega)
      have kd := hV.kind (i := a) (by omega) (by omega)
      have hlt : pks S i X < 4096 := by have := pks_lt (k := i) hV hn (by omega) hX; omega
      have nxt := ih (i + 1) (by omega)
      have ex : pks S (i + 1) X = ps S i (pks S i X) := rfl
      rw [ex] at nxt
      unfold ps at nxt
      rw [e1, e2] at nxt
      have hp : 2 ^ b < 4096 := p2 (n := 12) e7
      refine B_X2_ledFrom_17 hh hd ?_
      rw [hR.1.2.1, hR.valid (by omega), f1.1, f1.2, e1, e2, (hR.2.1 a (by omega) (by omega)).1, hR.whole (by omega) (by omega), bt_n (by omega) (by omega), ishl_1 (by omega), ior_nn (by omega) (by omega)]
      refine ⟨by omega, fun z => by omega, fun _ => ⟨fun z => ?_, fun z => ⟨fun y => ?_, fun y => ⟨by omega, by omega, by omega, fun x => ?_, fun x => ⟨fun w => ?_, fun w => ?_⟩⟩⟩⟩⟩
      · rw [if_neg (fun q => z (by rw [q.1]; decide))] at nxt; exact nxt
      · rw [if_neg (fun q => y (by rw [decide_eq_true q.2.1]; decide))] at nxt; exact nxt
      · rw [if_neg (fun q => x q.2.2.1)] at nxt; exact nxt
      · rw [if_neg (fun q => by
          have q4 := q.2.2.2
          rw [Int.toNat_natCast] at q4
          rw [q4] at w
          cases w)] at nxt
        exact nxt
      · rw [if_pos ⟨bI_ne0.mp z, of_decide_eq_true (bI_ne0.mp y), x, by rw [Int.toNat_natCast]; exact bI_ne0.mp w⟩, Int.toNat_natCast] at nxt
        exact nxt
  have outer : ∀ k p : Nat, p + k = n → E_X2_ledFrom G d 6 [(0, vR h), (2, vI (itp S (2 ^ m) p)), (3, vI p)] [] mem Q := by
    intro k
    induction k with
    | zero =>
      intro p hp
      refine B_X2_ledFrom_6 hh (by omega) ?_
      rw [hR.1.1]
      refine ⟨by omega, fun _ => ?_, fun z => absurd (by omega) z⟩
      rw [show p = n by omega]
      exact hq
    | succ k ih =>
      intro p hp
      refine B_X2_ledFrom_6 hh (by omega) ?_
      rw [hR.1.1]
      refine ⟨by omega, fun z => by omega, fun _ => ?_⟩
      exact inner p (itp S (2 ^ m) p) (itp_lt hV hn hset p) (ih (p + 1) (by omega)) (S 1).toNat 0 (by omega)
  exact outer n 0 (by omega)
/-- saying s is by m, or of m -/
def inv (S : NS) (m s : Int) : Bool := decide (S (185 + 4 * s) = m) || decide (S (185 + 4 * s + 1) = m)
def mdk (S : NS) (m : Int) : Nat → NS
  | 0 => S
  | k + 1 => if cnt S k && inv S m k then sU (mdk S m k) (185 + 4 * k + 3) 0 else mdk S m k
theorem mdk_o {S : NS} {m x : Int} {k : Nat} (h : ∀ j : Nat, j < k → x ≠ 185 + 4 * j + 3) : mdk S m k x = S x := by
  induction k with
  | zero => rfl
  | succ k ih =>
    unfold mdk
    split
    · rw [sU_ne (h k (by omega))]; exact ih (fun j hj => h j (by omega))
    · exact ih (fun j hj => h j (by omega))
theorem mdk_VN {S : NS} (hV : VN S) {m : Int} {k : Nat} (hk : k ≤ 60) : VN (mdk S m k) := by
  induction k with
  | zero => exact hV
  | succ k ih =>
    unfold mdk
    split
    · exact VN_cnt0 (ih (by omega)) (by omega) (by omega)
    · exact ih (by omega)
theorem ct_silenceAll {h : Nat} (hh : isH h) {S : NS} (hR : HR h S mem) (hV : VN S) (hd : 1 ≤ d) {m : Int} (hm : inr m) {n : Nat} (hn : S 1 = n)
    (hq : ∀ mem' : Mem, HR h (mdk S m n) mem' → (∀ (a : Nat) (b : Int), ¬ (a = h ∧ (b = 10 ∨ b = 16)) → mem' a b = mem a b) → (mem' h 16 = 1 ∨ (mem' = mem ∧ mdk S m n = S)) → Q (some (vI (sm n (fun s => bI (cnt S s && inv S m s))))) mem') : C_X2_silenceAllAbout G d [vR h, vI m] mem Q := by
  have v1 := hV.2.1
  refine B_X2_silenceAllAbout hh hd ?_
  have lp : ∀ k i : Nat, i + k = n → ∀ mem' : Mem, HR h (mdk S m i) mem' → (∀ (a : Nat) (b : Int), ¬ (a = h ∧ (b = 10 ∨ b = 16)) → mem' a b = mem a b) → (mem' h 16 = 1 ∨ (mem' = mem ∧ mdk S m i = S)) → E_X2_silenceAllAbout G d 4 [(0, vR h), (1, vI m), (2, vI (sm i (fun s => bI (cnt S s && inv S m s)))), (3, vI i)] [] mem' Q := by
    intro k
    induction k with
    | zero =>
      intro i hi mem' h1 h2 h3
      refine B_X2_silenceAllAbout_4 hh hd ?_
      rw [h2 h 6 (by omega), hR.1.2.1]
      refine ⟨by omega, fun _ => ?_, fun z => absurd (by omega) z⟩
      have e : i = n := by omega
      subst e
      exact hq mem' h1 h2 h3
    | succ k ih =>
      intro i hi mem' h1 h2 h3
      have f1 := hR.2.2.2.2.1 i (by omega) (by omega)
      have ec : cnt (mdk S m i) i = cnt S i := by
        unfold cnt
        rw [mdk_o (fun j hj => by omega)]
      have nxt := ih (i + 1) (by omega)
      rw [sm_s] at nxt
      have stay : (cnt S i && inv S m i) = false → E_X2_silenceAllAbout G d 4 [(0, vR h), (1, vI m), (2, vI (sm i (fun s => bI (cnt S s && inv S m s)))), (3, vI ((i : Int) + 1))] [] mem' Q := by
        intro z
        have e9 : mdk S m (i + 1) = mdk S m i := by
          show (if cnt S i && inv S m i then _ else _) = _
          rw [z]; rfl
        have n9 := nxt mem' (by rw [e9]; exact h1) h2 (by rw [e9]; exact h3)
        rw [z, bI_f, Int.add_zero] at n9
        exact n9
      have go : (cnt S i && inv S m i) = true → ∀ m13 : Mem, m13 = silM mem' h i → E_X2_silenceAllAbout G d 4 [(0, vR h), (1, vI m), (2, vI (sm i (fun s => bI (cnt S s && inv S m s)) + 1)), (3, vI ((i : Int) + 1))] [] m13 Q := by
        intro z m13 e13
        have e9 : mdk S m (i + 1) = sU (mdk S m i) (185 + 4 * i + 3) 0 := by
          show (if cnt S i && inv S m i then _ else _) = _
          rw [z]; rfl
        have n9 := nxt m13 (by rw [e9, e13]; exact HR_cnt0 h1 (mdk_VN hV (by omega)) (by omega)) (fun a b q => by
          rw [e13]
          unfold silM
          rw [upM_ne (by omega), upM_ne (by omega)]
          exact h2 a b q) (Or.inl (by rw [e13]; unfold silM; rw [upM_same]))
        rw [z, bI_t] at n9
        exact n9
      refine B_X2_silenceAllAbout_4 hh hd ?_
      rw [h2 h 6 (by omega), hR.1.2.1, h1.valid (by omega), ec, h2 (h + 6) _ (by omega), h2 (h + 7) _ (by omega), f1.1, f1.2]
      refine ⟨by omega, fun z => by omega, fun _ => ⟨fun z => stay ?_, fun z => ⟨by omega, hm, fun y => go ?_, fun y => ⟨fun x => stay ?_, fun x => go ?_⟩⟩⟩⟩
      · cases hc : cnt S i
        · rfl
        · rw [hc] at z; exact absurd (by decide) z
      · unfold inv; rw [bI_ne0.mp z, decide_eq_true y]; rfl
      · unfold inv; rw [decide_eq_false y, decide_eq_false x]; simp
      · unfold inv; rw [bI_ne0.mp z, decide_eq_true (show S (185 + 4 * i + 1) = m by omega)]; simp
  exact lp n 0 (by omega) mem hR (fun _ _ _ => rfl) (Or.inr ⟨rfl, rfl⟩)
theorem ct_sayingsBy {h : Nat} (hh : isH h) {S : NS} (hR : HR h S mem) (hV : VN S) (hd : 1 ≤ d) {m : Int} (hm : inr m) {n : Nat} (hn : S 1 = n) (hq : Q (some (vI (sm n (fun s => bI (cnt S s && decide (S (185 + 4 * s) = m)))))) mem) : C_X2_sayingsBy G d [vR h, vI m] mem Q := by
  have v1 := hV.2.1
  refine B_X2_sayingsBy hh hd ?_
  have lp : ∀ k i : Nat, i + k = n → E_X2_sayingsBy G d 4 [(0, vR h), (1, vI m), (2, vI (sm i (fun s => bI (cnt S s && decide (S (185 + 4 * s) = m))))), (3, vI i)] [] mem Q := by
    intro k
    induction k with
    | zero =>
      intro i hi
      refine B_X2_sayingsBy_4 hh hd ?_
      rw [hR.1.2.1]
      refine ⟨by omega, fun _ => ?_, fun z => absurd (by omega) z⟩
      rw [show i = n by omega]; exact hq
    | succ k ih =>
      intro i hi
      have f1 := hR.2.2.2.2.1 i (by omega) (by omega)
      have nxt := ih (i + 1) (by omega)
      rw [sm_s] at nxt
      refine B_X2_sayingsBy_4 hh hd ?_
      rw [hR.1.2.1, hR.valid (by omega), f1.1]
      refine ⟨by omega, fun z => by omega, fun _ => ⟨fun z => ?_, fun z => ⟨by omega, hm, fun y => ?_, fun y => ?_⟩⟩⟩
      · have z2 : cnt S i = false := by
          cases hc : cnt S i
          · rfl
          · rw [hc] at z; exact absurd (by decide) z
        rw [z2, Bool.false_and, bI_f, Int.add_zero] at nxt; exact nxt
      · rw [decide_eq_false y, Bool.and_false, bI_f, Int.add_zero] at nxt; exact nxt
      · rw [bI_ne0.mp z, decide_eq_true (show S (185 + 4 * i) = m by omega)] at nxt; exact nxt
  exact lp n 0 (by omega)
theorem ct_sayingsOf {h : Nat} (hh : isH h) {S : NS} (hR : HR h S mem) (hV : VN S) (hd : 1 ≤ d) {m : Int} (hm : inr m) {n : Nat} (hn : S 1 = n) (hq : Q (some (vI (sm n (fun s => bI (cnt S s && decide (S (185 + 4 * s + 1) = m)))))) mem) : C_X2_sayingsOf G d [vR h, vI m] mem Q := by
  have v1 := hV.2.1
  refine B_X2_sayingsOf hh hd ?_
  have lp : ∀ k i : Nat, i + k = n → E_X2_sayingsOf G d 4 [(0, vR h), (1, vI m), (2, vI (sm i (fun s => bI (cnt S s && decide (S (185 + 4 * s + 1) = m))))), (3, vI i)] [] mem Q := by
    intro k
    induction k with
    | zero =>
      intro i hi
      refine B_X2_sayingsOf_4 hh hd ?_
      rw [hR.1.2.1]
      refine ⟨by omega, fun _ => ?_, fun z => absurd (by omega) z⟩
      rw [show i = n by omega]; exact hq
    | succ k ih =>
      intro i hi
      have f1 := hR.2.2.2.2.1 i (by omega) (by omega)
      have nxt := ih (i + 1) (by omega)
      rw [sm_s] at nxt
      refine B_X2_sayingsOf_4 hh hd ?_
      rw [hR.1.2.1, hR.valid (by omega), f1.2]
      refine ⟨by omega, fun z => by omega, fun _ => ⟨fun z => ?_, fun z => ⟨by omega, hm, fun y => ?_, fun y => ?_⟩⟩⟩
      · have z2 : cnt S i = false := by
          cases hc : cnt S i
          · rfl
          · rw [hc] at z; exact absurd (by decide) z
        rw [z2, Bool.false_and, bI_f, Int.add_zero] at nxt; exact nxt
      · rw [decide_eq_false y, Bool.and_false, bI_f, Int.add_zero] at nxt; exact nxt
      · rw [bI_ne0.mp z, decide_eq_true (show S (185 + 4 * i + 1) = m by omega)] at nxt; exact nxt
  exact lp n 0 (by omega)
end LH
