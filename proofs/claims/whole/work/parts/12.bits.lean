/-! ===== bits of numbers; sums ===== -/
def bI (b : Bool) : Int := if b then 1 else 0
theorem bI_t : bI true = 1 := rfl
theorem bI_f : bI false = 0 := rfl
theorem bI_01 (b : Bool) : bI b = 0 ∨ bI b = 1 := by cases b <;> simp [bI]
theorem bI_eq1 {b : Bool} : bI b = 1 ↔ b = true := by cases b <;> simp [bI]
theorem bI_eq0 {b : Bool} : bI b = 0 ↔ b = false := by cases b <;> simp [bI]
theorem bI_nn (b : Bool) : 0 ≤ bI b := by cases b <;> simp [bI]
theorem bI_le (b : Bool) : bI b ≤ 1 := by cases b <;> simp [bI]
theorem iand_nn {a b : Nat} (ha : a < 2147483648) (hb : b < 2147483648) : iand a b = ((a &&& b : Nat) : Int) := by
  unfold iand
  rw [Int32.ofInt_eq_ofNat, Int32.ofInt_eq_ofNat]
  have e : Int32.ofNat a &&& Int32.ofNat b = Int32.ofNat (a &&& b) := by
    apply Int32.toBitVec_inj.mp
    show (BitVec.ofNat 32 a &&& BitVec.ofNat 32 b) = BitVec.ofNat 32 (a &&& b)
    exact BitVec.ofNat_and.symm
  rw [e]
  exact nI_toInt (Nat.and_lt_two_pow a (n := 31) hb)
theorem ior_nn {a b : Nat} (ha : a < 2147483648) (hb : b < 2147483648) : ior a b = ((a ||| b : Nat) : Int) := by
  unfold ior
  rw [Int32.ofInt_eq_ofNat, Int32.ofInt_eq_ofNat]
  have e : Int32.ofNat a ||| Int32.ofNat b = Int32.ofNat (a ||| b) := by
    apply Int32.toBitVec_inj.mp
    show (BitVec.ofNat 32 a ||| BitVec.ofNat 32 b) = BitVec.ofNat 32 (a ||| b)
    exact BitVec.ofNat_or.symm
  rw [e]
  exact nI_toInt (Nat.or_lt_two_pow (n := 31) ha hb)
theorem sh32 : ∀ k, k < 32 → ((Int32.ofNat k &&& 31).toBitVec.smod 32).toNat = k := by decide +kernel
theorem ishl_n {a k : Nat} (hk : k < 32) (h : a * 2 ^ k < 2147483648) : ishl a k = ((a * 2 ^ k : Nat) : Int) := by
  unfold ishl
  rw [Int32.ofInt_eq_ofNat, Int32.ofInt_eq_ofNat]
  rw [show Int32.ofNat a <<< (Int32.ofNat k &&& 31) = nI (a * 2 ^ k) from pk_shlN _ k (sh32 k hk) (by omega)]
  exact nI_toInt h
theorem ishl_1 {k : Nat} (hk : k < 31) : ishl 1 k = ((2 ^ k : Nat) : Int) := by
  have h : (2 : Nat) ^ k < 2147483648 := Nat.pow_lt_pow_right (a := 2) (by decide) hk
  have h2 := ishl_n (a := 1) (k := k) (by omega) (by rw [Nat.one_mul]; exact h)
  rw [Nat.one_mul] at h2
  exact h2
theorem ishr_n {a k : Nat} (ha : a < 2147483648) (hk : k < 32) : ishr a k = ((a / 2 ^ k : Nat) : Int) := by
  unfold ishr
  rw [Int32.ofInt_eq_ofNat, Int32.ofInt_eq_ofNat]
  rw [show Int32.ofNat a >>> (Int32.ofNat k &&& 31) = nI (a / 2 ^ k) from pk_shrN ha _ k (sh32 k hk)]
  exact nI_toInt (Nat.lt_of_le_of_lt (Nat.div_le_self _ _) ha)
theorem tb_div (a k : Nat) : (a / 2 ^ k) % 2 = (a.testBit k).toNat := by
  rw [Nat.testBit_eq_decide_div_mod_eq]
  rcases Nat.mod_two_eq_zero_or_one (a / 2 ^ k) with h | h <;> simp [h]
theorem toNat_bI (b : Bool) : ((b.toNat : Nat) : Int) = bI b := by cases b <;> rfl
/-- bit k of a set -/
theorem bt_n {a k : Nat} (ha : a < 2147483648) (hk : k < 32) : iand (ishr a k) 1 = bI (a.testBit k) := by
  rw [ishr_n ha hk, show (1 : Int) = ((1 : Nat) : Int) from rfl, iand_nn (Nat.lt_of_le_of_lt (Nat.div_le_self _ _) ha) (by decide), Nat.and_one_is_mod, tb_div, toNat_bI]
/-- a without b -/
def wo (a b : Nat) : Nat := a ^^^ (a &&& b)
theorem wo_tb (a b k : Nat) : (wo a b).testBit k = (a.testBit k && !b.testBit k) := by
  unfold wo
  rw [Nat.testBit_xor, Nat.testBit_and]
  cases a.testBit k <;> cases b.testBit k <;> rfl
theorem wo_lt {a b n : Nat} (h : a < 2 ^ n) : wo a b < 2 ^ n := Nat.xor_lt_two_pow h (by rw [Nat.and_comm]; exact Nat.and_lt_two_pow b h)
theorem ixor_m1 {b : Nat} (hb : b < 2147483648) : ixor b (-1) = -1 - (b : Int) := by
  unfold ixor
  have e1 : Int32.ofInt (-1) = -1 := rfl
  rw [e1, Int32.xor_neg_one, Int32.toInt_not, Int32.ofInt_eq_ofNat, show (Int32.ofNat b).toInt = (b : Int) from nI_toInt hb]
  rw [Int.bmod_eq_of_le (by omega) (by omega)]
  omega
theorem iand_wo {a b : Nat} (ha : a < 2147483648) (hb : b < 2147483648) : iand a (ixor b (-1)) = ((wo a b : Nat) : Int) := by
  have h31 : wo a b < 2147483648 := wo_lt (n := 31) ha
  unfold iand ixor
  rw [Int32.ofInt_toInt, Int32.ofInt_eq_ofNat, Int32.ofInt_eq_ofNat]
  have e : Int32.ofNat a &&& (Int32.ofNat b ^^^ Int32.ofInt (-1)) = Int32.ofNat (wo a b) := by
    apply Int32.toBitVec_inj.mp
    show (BitVec.ofNat 32 a &&& (BitVec.ofNat 32 b ^^^ (Int32.ofInt (-1)).toBitVec)) = BitVec.ofNat 32 (wo a b)
    apply BitVec.eq_of_getLsbD_eq
    intro i hi
    have e2 : (Int32.ofInt (-1)).toBitVec = BitVec.allOnes 32 := by decide
    rw [e2, BitVec.getLsbD_and, BitVec.getLsbD_xor, BitVec.getLsbD_allOnes, BitVec.getLsbD_ofNat, BitVec.getLsbD_ofNat, BitVec.getLsbD_ofNat, wo_tb]
    simp [hi]
  rw [e]
  exact nI_toInt h31
/-! longs -/
theorem l_toInt {a : Nat} (h : a < 9223372036854775808) : (Int64.ofNat a).toInt = (a : Int) := pk_lT (by omega)
theorem land_nn {a b : Nat} (ha : a < 9223372036854775808) (hb : b < 9223372036854775808) : land a b = ((a &&& b : Nat) : Int) := by
  unfold land
  rw [Int64.ofInt_eq_ofNat, Int64.ofInt_eq_ofNat]
  have e : Int64.ofNat a &&& Int64.ofNat b = Int64.ofNat (a &&& b) := by
    apply Int64.toBitVec_inj.mp
    show (BitVec.ofNat 64 a &&& BitVec.ofNat 64 b) = BitVec.ofNat 64 (a &&& b)
    exact BitVec.ofNat_and.symm
  rw [e]
  exact l_toInt (Nat.and_lt_two_pow a (n := 63) hb)
theorem lor_nn {a b : Nat} (ha : a < 9223372036854775808) (hb : b < 9223372036854775808) : lor a b = ((a ||| b : Nat) : Int) := by
  unfold lor
  rw [Int64.ofInt_eq_ofNat, Int64.ofInt_eq_ofNat]
  have e : Int64.ofNat a ||| Int64.ofNat b = Int64.ofNat (a ||| b) := by
    apply Int64.toBitVec_inj.mp
    show (BitVec.ofNat 64 a ||| BitVec.ofNat 64 b) = BitVec.ofNat 64 (a ||| b)
    exact BitVec.ofNat_or.symm
  rw [e]
  exact l_toInt (Nat.or_lt_two_pow (n := 63) ha hb)
theorem sh64 : ∀ k, k < 64 → (((Int32.ofNat k).toInt64 &&& 63).toBitVec.smod 64).toNat = k := by decide +kernel
theorem lshl_n {a k : Nat} (hk : k < 64) (h : a * 2 ^ k < 9223372036854775808) : lshl a k = ((a * 2 ^ k : Nat) : Int) := by
  unfold lshl
  rw [Int64.ofInt_eq_ofNat, Int32.ofInt_eq_ofNat]
  have ha : a < 2 ^ 64 := Nat.lt_of_le_of_lt (Nat.le_mul_of_pos_right a (Nat.two_pow_pos k)) (by omega)
  have e : Int64.ofNat a <<< ((Int32.ofNat k).toInt64 &&& 63) = Int64.ofNat (a * 2 ^ k) := by
    apply Int64.toBitVec_inj.mp
    apply BitVec.eq_of_toNat_eq
    show ((BitVec.ofNat 64 a) <<< ((((Int32.ofNat k).toInt64 &&& 63).toBitVec.smod 64).toNat)).toNat = (BitVec.ofNat 64 (a * 2 ^ k)).toNat
    rw [sh64 k hk, BitVec.toNat_shiftLeft, Nat.shiftLeft_eq, BitVec.toNat_ofNat, BitVec.toNat_ofNat, Nat.mod_eq_of_lt ha]
  rw [e]
  exact l_toInt h
theorem lshl_1 {k : Nat} (hk : k < 63) : lshl 1 k = ((2 ^ k : Nat) : Int) := by
  have h : (2 : Nat) ^ k < 9223372036854775808 := Nat.pow_lt_pow_right (a := 2) (by decide) hk
  have h2 := lshl_n (a := 1) (k := k) (by omega) (by rw [Nat.one_mul]; exact h)
  rw [Nat.one_mul] at h2
  exact h2
/-- '>>' of a long: the quotient, cut towards minus infinity -/
theorem lshr_z {z : Int} {k : Nat} (hz : inl z) (hk : k < 64) : lshr z k = z / 2 ^ k := by
  unfold lshr
  rw [Int32.ofInt_eq_ofNat]
  show (((Int64.ofInt z).toBitVec).sshiftRight ((((Int32.ofNat k).toInt64 &&& 63).toBitVec.smod 64).toNat)).toInt = _
  rw [sh64 k hk, BitVec.toInt_sshiftRight]
  show (Int64.ofInt z).toInt >>> k = _
  rw [ofInt_toInt64 hz, Int.shiftRight_eq_div_pow]
  norm_cast
theorem lshr_n {a k : Nat} (ha : a < 9223372036854775808) (hk : k < 64) : lshr a k = ((a / 2 ^ k : Nat) : Int) := by
  rw [lshr_z ⟨by omega, by omega⟩ hk]
  norm_cast
theorem lbt_n {a k : Nat} (ha : a < 9223372036854775808) (hk : k < 64) : land (lshr a k) 1 = bI (a.testBit k) := by
  rw [lshr_n ha hk, show (1 : Int) = ((1 : Nat) : Int) from rfl, land_nn (Nat.lt_of_le_of_lt (Nat.div_le_self _ _) ha) (by decide), Nat.and_one_is_mod, tb_div, toNat_bI]
theorem land_wo {a b : Nat} (ha : a < 9223372036854775808) (hb : b < 9223372036854775808) : land a (lxor b (-1)) = ((wo a b : Nat) : Int) := by
  have h63 : wo a b < 9223372036854775808 := wo_lt (n := 63) ha
  unfold land lxor
  rw [Int64.ofInt_toInt, Int64.ofInt_eq_ofNat, Int64.ofInt_eq_ofNat]
  have e : Int64.ofNat a &&& (Int64.ofNat b ^^^ Int64.ofInt (-1)) = Int64.ofNat (wo a b) := by
    apply Int64.toBitVec_inj.mp
    show (BitVec.ofNat 64 a &&& (BitVec.ofNat 64 b ^^^ (Int64.ofInt (-1)).toBitVec)) = BitVec.ofNat 64 (wo a b)
    apply BitVec.eq_of_getLsbD_eq
    intro i hi
    have e2 : (Int64.ofInt (-1)).toBitVec = BitVec.allOnes 64 := by decide
    rw [e2, BitVec.getLsbD_and, BitVec.getLsbD_xor, BitVec.getLsbD_allOnes, BitVec.getLsbD_ofNat, BitVec.getLsbD_ofNat, BitVec.getLsbD_ofNat, wo_tb]
    simp [hi]
  rw [e]
  exact l_toInt h63
/-! sums -/
def sm : Nat → (Nat → Int) → Int
  | 0, _ => 0
  | n + 1, f => sm n f + f n
theorem sm_s (n : Nat) (f : Nat → Int) : sm (n + 1) f = sm n f + f n := rfl
theorem sm_0 (f : Nat → Int) : sm 0 f = 0 := rfl
theorem sm_congr {n : Nat} {f g : Nat → Int} (h : ∀ i, i < n → f i = g i) : sm n f = sm n g := by
  induction n with
  | zero => rfl
  | succ n ih => rw [sm_s, sm_s, ih (fun i hi => h i (by omega)), h n (by omega)]
theorem sm_zero {n : Nat} {f : Nat → Int} (h : ∀ i, i < n → f i = 0) : sm n f = 0 := by
  induction n with
  | zero => rfl
  | succ n ih => rw [sm_s, ih (fun i hi => h i (by omega)), h n (by omega)]; rfl
theorem sm_add (n : Nat) (f g : Nat → Int) : sm n (fun i => f i + g i) = sm n f + sm n g := by
  induction n with
  | zero => rfl
  | succ n ih => rw [sm_s, sm_s, sm_s, ih]; omega
theorem sm_sub (n : Nat) (f g : Nat → Int) : sm n (fun i => f i - g i) = sm n f - sm n g := by
  induction n with
  | zero => rfl
  | succ n ih => rw [sm_s, sm_s, sm_s, ih]; omega
theorem sm_mul (n : Nat) (c : Int) (f : Nat → Int) : sm n (fun i => c * f i) = c * sm n f := by
  induction n with
  | zero => simp [sm_0]
  | succ n ih => rw [sm_s, sm_s, ih, Int.mul_add]
theorem sm_nn {n : Nat} {f : Nat → Int} (h : ∀ i, i < n → 0 ≤ f i) : 0 ≤ sm n f := by
  induction n with
  | zero => exact Int.le_refl _
  | succ n ih => rw [sm_s]; have := ih (fun i hi => h i (by omega)); have := h n (by omega); omega
theorem sm_le {n : Nat} {f g : Nat → Int} (h : ∀ i, i < n → f i ≤ g i) : sm n f ≤ sm n g := by
  induction n with
  | zero => exact Int.le_refl _
  | succ n ih => rw [sm_s, sm_s]; have := ih (fun i hi => h i (by omega)); have := h n (by omega); omega
theorem sm_le1 {n : Nat} {f : Nat → Int} (h : ∀ i, i < n → f i ≤ 1) : sm n f ≤ n := by
  induction n with
  | zero => exact Int.le_refl _
  | succ n ih => rw [sm_s]; have := ih (fun i hi => h i (by omega)); have := h n (by omega); omega
theorem sm_app (m n : Nat) (f : Nat → Int) : sm (m + n) f = sm m f + sm n (fun i => f (m + i)) := by
  induction n with
  | zero => simp [sm_0]
  | succ n ih => rw [← Nat.add_assoc, sm_s, sm_s, ih]; omega
theorem sm_one {n k : Nat} {f : Nat → Int} (hk : k < n) (h : ∀ i, i < n → i ≠ k → f i = 0) : sm n f = f k := by
  induction n with
  | zero => omega
  | succ n ih =>
    rw [sm_s]
    by_cases hkn : k = n
    · subst hkn
      rw [sm_zero (fun i hi => h i (by omega) (by omega))]
      omega
    · rw [ih (by omega) (fun i hi hne => h i (by omega) hne), h n (by omega) (fun q => hkn q.symm)]
      omega
theorem sm_swap (m n : Nat) (f : Nat → Nat → Int) : sm m (fun i => sm n (fun j => f i j)) = sm n (fun j => sm m (fun i => f i j)) := by
  induction m with
  | zero => exact (sm_zero (fun _ _ => rfl)).symm
  | succ m ih => rw [sm_s, ih, ← sm_add]; rfl
/-- how many of the machines are in a set -/
def pc (s : Nat) : Int := sm 12 (fun k => bI (s.testBit k))
theorem pc_nn (s : Nat) : 0 ≤ pc s := sm_nn (fun _ _ => bI_nn _)
theorem pc_le (s : Nat) : pc s ≤ 12 := sm_le1 (fun _ _ => bI_le _)
theorem pc_0 : pc 0 = 0 := by decide
theorem pc_mono {a b : Nat} (h : ∀ k, k < 12 → a.testBit k = true → b.testBit k = true) : pc a ≤ pc b := by
  refine sm_le (fun k hk => ?_)
  cases ha : a.testBit k
  · exact bI_nn _
  · rw [h k hk ha]; exact Int.le_refl _
theorem pc_pos {s : Nat} (h0 : s ≠ 0) (h : s < 4096) : 1 ≤ pc s := by
  have h2 : ∀ a, a < 64 → ∀ b, b < 64 → 64 * a + b ≠ 0 → 1 ≤ pc (64 * a + b) := by decide +kernel
  have h3 := h2 (s / 64) (by omega) (s % 64) (by omega)
  rw [show 64 * (s / 64) + s % 64 = s by omega] at h3
  exact h3 h0
/-- what Integer.bitCount works out -/
def bitc (x : Int) : Int :=
  let a := x - iand (iushr x 1) 1431655765
  let b := iand a 858993459 + iand (iushr a 2) 858993459
  let c := iand (b + iushr b 4) 252645135
  let e := c + iushr c 8
  iand (e + iushr e 16) 63
theorem bitc_inr (x : Int) : inr (bitc x) := iand_inr _ _
theorem bitc_n {s : Nat} (h : s < 4096) : bitc s = pc s := by
  have h2 : ∀ a, a < 64 → ∀ b, b < 64 → bitc ((64 * a + b : Nat) : Int) = pc (64 * a + b) := by decide +kernel
  have h3 := h2 (s / 64) (by omega) (s % 64) (by omega)
  rw [show 64 * (s / 64) + s % 64 = s by omega] at h3
  exact h3
theorem ct_bitc {G : GT} {d : Nat} {x : Int} {mem : Mem} {Q : Option AV → Mem → Prop} (hq : Q (some (vI (bitc x))) mem) : C_J6_bitCount_0f7a4 G d [vI x] mem Q := B_J6_bitCount_0f7a4 hq
