/-! ===== Long.bitCount ===== -/
theorem and256 {x X y Y : Nat} (hy : y < 256) (hY : Y < 256) : (256 * x + y) &&& (256 * X + Y) = 256 * (x &&& X) + (y &&& Y) := by
  apply Nat.eq_of_testBit_eq
  intro j
  have hyY : y &&& Y < 256 := Nat.and_lt_two_pow y (n := 8) hY
  rw [Nat.testBit_and, show (256 : Nat) = 2 ^ 8 from rfl, Nat.testBit_two_pow_mul_add x hy, Nat.testBit_two_pow_mul_add X hY, Nat.testBit_two_pow_mul_add _ hyY]
  split <;> rw [Nat.testBit_and]
def mk8 (y : Nat) : Nat → Nat
  | 0 => 0
  | n + 1 => 256 * mk8 y n + y
def nA (n v : Nat) : Nat := v - ((v / 2) &&& mk8 85 n)
def nB (n v : Nat) : Nat := (nA n v &&& mk8 51 n) + ((nA n v / 4) &&& mk8 51 n)
def nC (n v : Nat) : Nat := (nB n v + nB n v / 16) &&& mk8 15 n
theorem nA_s {n u y : Nat} (hy : y < 256) : nA (n + 1) (256 * u + y) = 256 * nA n u + nA 1 y ∧ nA 1 y < 256 := by
  have d1 : ∀ t, t < 2 → ∀ y, y < 256 → (128 * t + y / 2) &&& 85 = (y / 2) &&& 85 := by decide +kernel
  have d2 : ∀ y, y < 256 → (y / 2) &&& 85 ≤ y := by decide +kernel
  have e1 : (256 * u + y) / 2 = 256 * (u / 2) + (128 * (u % 2) + y / 2) := by omega
  have e2 : nA 1 y = y - ((y / 2) &&& 85) := rfl
  have h1 := d2 y hy
  have h2 : (u / 2) &&& mk8 85 n ≤ u / 2 := Nat.and_le_left
  refine ⟨?_, by rw [e2]; omega⟩
  rw [e2]
  unfold nA
  rw [e1, show mk8 85 (n + 1) = 256 * mk8 85 n + 85 from rfl, and256 (by omega) (by decide), d1 (u % 2) (by omega) y hy]
  generalize (u / 2) &&& mk8 85 n = p at *
  generalize (y / 2) &&& 85 = q at *
  omega
theorem nB_s {n u y : Nat} (hy : y < 256) : nB (n + 1) (256 * u + y) = 256 * nB n u + nB 1 y ∧ nB 1 y ≤ 68 ∧ nB 1 y % 16 ≤ 4 := by
  have d1 : ∀ t, t < 4 → ∀ z, z < 64 → (64 * t + z) &&& 51 = z &&& 51 := by decide +kernel
  have d3 : ∀ y, y < 256 → nB 1 y ≤ 68 ∧ nB 1 y % 16 ≤ 4 := by decide +kernel
  obtain ⟨a1, a2⟩ := nA_s (n := n) (u := u) hy
  refine ⟨?_, d3 y hy⟩
  unfold nB
  rw [a1]
  generalize nA n u = A
  have e4 : nA 1 y / 4 < 64 := by omega
  have e1 : (256 * A + nA 1 y) / 4 = 256 * (A / 4) + (64 * (A % 4) + nA 1 y / 4) := by omega
  rw [e1, show mk8 51 (n + 1) = 256 * mk8 51 n + 51 from rfl, and256 a2 (by decide), and256 (by omega) (by decide), d1 (A % 4) (by omega) _ e4]
  show _ = 256 * _ + ((nA 1 y &&& 51) + ((nA 1 y / 4) &&& 51))
  omega
theorem nB_m (n v : Nat) : nB n v % 16 ≤ 4 := by
  cases n with
  | zero => simp [nB, mk8]
  | succ n =>
    have h := nB_s (n := n) (u := v / 256) (y := v % 256) (by omega)
    rw [show 256 * (v / 256) + v % 256 = v by omega] at h
    omega
theorem nC_s {n u y : Nat} (hy : y < 256) : nC (n + 1) (256 * u + y) = 256 * nC n u + nC 1 y := by
  have d1 : ∀ t, t < 5 → ∀ y, y < 256 → (nB 1 y + 16 * t + nB 1 y / 16) &&& 15 = (nB 1 y + nB 1 y / 16) &&& 15 := by decide +kernel
  obtain ⟨b1, b2, b3⟩ := nB_s (n := n) (u := u) hy
  have b4 := nB_m n u
  have e9 : nC 1 y = (nB 1 y + nB 1 y / 16) &&& 15 := rfl
  rw [e9]
  unfold nC
  rw [b1]
  generalize nB n u = B at *
  have e1 : 256 * B + nB 1 y + (256 * B + nB 1 y) / 16 = 256 * (B + B / 16) + (nB 1 y + 16 * (B % 16) + nB 1 y / 16) := by omega
  rw [e1, show mk8 15 (n + 1) = 256 * mk8 15 n + 15 from rfl, and256 (by omega) (by decide), d1 (B % 16) (by omega) y hy]
theorem sm_byte {u y : Nat} (hy : y < 256) (n : Nat) : sm (8 + n) (fun k => bI ((256 * u + y).testBit k)) = sm 8 (fun k => bI (y.testBit k)) + sm n (fun k => bI (u.testBit k)) := by
  rw [sm_app]
  congr 1
  · refine sm_congr (fun i hi => ?_)
    rw [show (256 : Nat) = 2 ^ 8 from rfl, Nat.testBit_two_pow_mul_add u hy, if_pos hi]
  · refine sm_congr (fun i _ => ?_)
    rw [show (256 : Nat) = 2 ^ 8 from rfl, Nat.testBit_two_pow_mul_add u hy, if_neg (by omega), Nat.add_sub_cancel_left]
theorem nC_1 : ∀ y, y < 256 → ((nC 1 y : Nat) : Int) = sm 8 (fun k => bI (y.testBit k)) ∧ nC 1 y ≤ 8 := by decide +kernel
def lbitc (x : Int) : Int :=
  let a := x - land (lushr x 1) 6148914691236517205
  let b := land a 3689348814741910323 + land (lushr a 2) 3689348814741910323
  let c := land (b + lushr b 4) 1085102592571150095
  let e := c + lushr c 8
  let f := e + lushr e 16
  let g := f + lushr f 32
  iand g 127
theorem ush64 : ∀ k, k < 64 → (((Int32.ofNat k).toInt64.toUInt64 &&& Int64.toUInt64 63).toBitVec % 64).toNat = k := by decide +kernel
theorem lushr_n {a k : Nat} (ha : a < 9223372036854775808) (hk : k < 64) : lushr a k = ((a / 2 ^ k : Nat) : Int) := by
  unfold lushr
  rw [Int64.ofInt_eq_ofNat, Int32.ofInt_eq_ofNat]
  have e : ((Int64.ofNat a).toUInt64 >>> ((Int32.ofNat k).toInt64.toUInt64 &&& Int64.toUInt64 63)).toInt64 = Int64.ofNat (a / 2 ^ k) := by
    apply Int64.toBitVec_inj.mp
    have e2 : ((Int64.ofNat a).toUInt64 >>> ((Int32.ofNat k).toInt64.toUInt64 &&& Int64.toUInt64 63)).toInt64.toBitVec = (BitVec.ofNat 64 a) >>> (((Int32.ofNat k).toInt64.toUInt64 &&& Int64.toUInt64 63).toBitVec % 64).toNat := UInt64.toBitVec_shiftRight _ _
    rw [ush64 k hk] at e2
    rw [e2]
    apply BitVec.eq_of_toNat_eq
    show _ = (BitVec.ofNat 64 (a / 2 ^ k)).toNat
    rw [BitVec.toNat_ushiftRight, Nat.shiftRight_eq_div_pow, BitVec.toNat_ofNat, BitVec.toNat_ofNat, Nat.mod_eq_of_lt (by omega), Nat.mod_eq_of_lt (Nat.lt_of_le_of_lt (Nat.div_le_self _ _) (by omega))]
  rw [e]
  exact l_toInt (Nat.lt_of_le_of_lt (Nat.div_le_self _ _) ha)
theorem iand_127 (g : Nat) : iand g 127 = ((g % 128 : Nat) : Int) := by
  unfold iand
  rw [Int32.ofInt_eq_ofNat, show Int32.ofInt 127 = Int32.ofNat 127 from rfl]
  have e : Int32.ofNat g &&& Int32.ofNat 127 = Int32.ofNat (g &&& 127) := by
    apply Int32.toBitVec_inj.mp
    show (BitVec.ofNat 32 g &&& BitVec.ofNat 32 127) = BitVec.ofNat 32 (g &&& 127)
    exact BitVec.ofNat_and.symm
  rw [e, show (127 : Nat) = 2 ^ 7 - 1 from rfl, Nat.and_two_pow_sub_one_eq_mod]
  exact nI_toInt (by omega)
theorem lbc_sum {c c0 c1 c2 c3 c4 c5 c6 c7 : Nat} (hc : c = 256 * (256 * (256 * (256 * (256 * (256 * (256 * c7 + c6) + c5) + c4) + c3) + c2) + c1) + c0) (b0 : c0 ≤ 8) (b1 : c1 ≤ 8) (b2 : c2 ≤ 8) (b3 : c3 ≤ 8) (b4 : c4 ≤ 8) (b5 : c5 ≤ 8) (b6 : c6 ≤ 8) (b7 : c7 ≤ 8) :
    (((c + c / 2 ^ 8 + (c + c / 2 ^ 8) / 2 ^ 16 + (c + c / 2 ^ 8 + (c + c / 2 ^ 8) / 2 ^ 16) / 2 ^ 32) % 128 : Nat) : Int) = (c0 : Int) + (c1 + (c2 + (c3 + (c4 + (c5 + (c6 + c7)))))) := by
  rw [show (2 : Nat) ^ 8 = 256 from rfl, show (2 : Nat) ^ 16 = 65536 from rfl, show (2 : Nat) ^ 32 = 4294967296 from rfl]
  obtain ⟨X6, e6⟩ : ∃ X, X = 256 * c7 + c6 := ⟨_, rfl⟩
  rw [← e6] at hc
  obtain ⟨X5, e5⟩ : ∃ X, X = 256 * X6 + c5 := ⟨_, rfl⟩
  rw [← e5] at hc
  obtain ⟨X4, e4⟩ : ∃ X, X = 256 * X5 + c4 := ⟨_, rfl⟩
  rw [← e4] at hc
  obtain ⟨X3, e3⟩ : ∃ X, X = 256 * X4 + c3 := ⟨_, rfl⟩
  rw [← e3] at hc
  obtain ⟨X2, e2⟩ : ∃ X, X = 256 * X3 + c2 := ⟨_, rfl⟩
  rw [← e2] at hc
  obtain ⟨X1, e1⟩ : ∃ X, X = 256 * X2 + c1 := ⟨_, rfl⟩
  rw [← e1] at hc
  have g1 : c / 256 = X1 := by clear e1 e2 e3 e4 e5 e6; omega
  rw [g1]
  obtain ⟨E2, f2⟩ : ∃ E, E = X2 + X3 := ⟨_, rfl⟩
  obtain ⟨E4, f4⟩ : ∃ E, E = X4 + X5 := ⟨_, rfl⟩
  obtain ⟨E6, f6⟩ : ∃ E, E = X6 + c7 := ⟨_, rfl⟩
  have k0 : c + X1 = (c0 + c1) + 256 * (c1 + c2) + 65536 * E2 := by clear e3 e4 e5 e6 f4 f6; omega
  have k2 : E2 = (c2 + c3) + 256 * (c3 + c4) + 65536 * E4 := by clear hc e1 e5 e6 f6 k0 g1; omega
  have k4 : E4 = (c4 + c5) + 256 * (c5 + c6) + 65536 * E6 := by clear hc e1 e2 e3 f2 k0 k2 g1; omega
  have k6 : E6 = (c6 + c7) + 256 * c7 := by clear hc e1 e2 e3 e4 e5 f2 f4 k0 k2 k4 g1; omega
  rw [k0]
  clear hc e1 e2 e3 e4 e5 e6 f2 f4 f6 g1
  have g3 : (c0 + c1 + 256 * (c1 + c2) + 65536 * E2) / 65536 = E2 := by clear k0 k2 k4 k6; omega
  rw [g3]
  have g5 : (c0 + c1 + 256 * (c1 + c2) + 65536 * E2 + E2) / 4294967296 = E4 + E6 := by clear k0 k6; omega
  rw [g5]
  clear k0 g3 g5
  omega
theorem lbitc_n {v : Nat} (hv : v < 2 ^ 60) : lbitc v = sm 60 (fun k => bI (v.testBit k)) := by
  have m1 : mk8 85 8 = 6148914691236517205 := by decide +kernel
  have m2 : mk8 51 8 = 3689348814741910323 := by decide +kernel
  have m4 : mk8 15 8 = 1085102592571150095 := by decide +kernel
  have eA : (v : Int) - land (lushr v 1) 6148914691236517205 = (nA 8 v : Nat) := by
    rw [show (1 : Int) = ((1 : Nat) : Int) from rfl, lushr_n (by omega) (by decide), show (6148914691236517205 : Int) = ((6148914691236517205 : Nat) : Int) from rfl, land_nn (by omega) (by decide)]
    unfold nA
    rw [m1, show (2 : Nat) ^ 1 = 2 from rfl]
    have : v / 2 &&& 6148914691236517205 ≤ v / 2 := Nat.and_le_left
    omega
  have hA : nA 8 v ≤ v := Nat.sub_le _ _
  have eB : land (nA 8 v : Nat) 3689348814741910323 + land (lushr (nA 8 v : Nat) 2) 3689348814741910323 = (nB 8 v : Nat) := by
    rw [show (2 : Int) = ((2 : Nat) : Int) from rfl, lushr_n (by omega) (by decide), show (3689348814741910323 : Int) = ((3689348814741910323 : Nat) : Int) from rfl, land_nn (by omega) (by decide), land_nn (by omega) (by decide)]
    unfold nB
    rw [m2]
    rfl
  have hB : nB 8 v ≤ 2 * v := by
    unfold nB
    have h1 : nA 8 v &&& mk8 51 8 ≤ nA 8 v := Nat.and_le_left
    have h2 : nA 8 v / 4 &&& mk8 51 8 ≤ nA 8 v / 4 := Nat.and_le_left
    omega
  have eC : land ((nB 8 v : Nat) + lushr (nB 8 v : Nat) 4) 1085102592571150095 = (nC 8 v : Nat) := by
    rw [show (4 : Int) = ((4 : Nat) : Int) from rfl, lushr_n (by omega) (by decide), show (1085102592571150095 : Int) = ((1085102592571150095 : Nat) : Int) from rfl, ← Int.natCast_add, land_nn (by omega) (by decide)]
    unfold nC
    rw [m4]
  have hC : nC 8 v ≤ 1085102592571150095 := by
    unfold nC
    rw [m4]
    exact Nat.and_le_right
  show iand _ 127 = _
  rw [eA, eB, eC]
  generalize hc : nC 8 v = c at *
  rw [show (8 : Int) = ((8 : Nat) : Int) from rfl, lushr_n (by omega) (by decide), ← Int.natCast_add]
  rw [show (16 : Int) = ((16 : Nat) : Int) from rfl, lushr_n (by omega) (by decide), ← Int.natCast_add]
  rw [show (32 : Int) = ((32 : Nat) : Int) from rfl, lushr_n (by omega) (by decide), ← Int.natCast_add, iand_127]
  obtain ⟨u1, y0, h0, q0⟩ : ∃ u y : Nat, v = 256 * u + y ∧ y < 256 := ⟨v / 256, v % 256, by omega, by omega⟩
  obtain ⟨u2, y1, h1, q1⟩ : ∃ u y : Nat, u1 = 256 * u + y ∧ y < 256 := ⟨u1 / 256, u1 % 256, by omega, by omega⟩
  obtain ⟨u3, y2, h2, q2⟩ : ∃ u y : Nat, u2 = 256 * u + y ∧ y < 256 := ⟨u2 / 256, u2 % 256, by omega, by omega⟩
  obtain ⟨u4, y3, h3, q3⟩ : ∃ u y : Nat, u3 = 256 * u + y ∧ y < 256 := ⟨u3 / 256, u3 % 256, by omega, by omega⟩
  obtain ⟨u5, y4, h4, q4⟩ : ∃ u y : Nat, u4 = 256 * u + y ∧ y < 256 := ⟨u4 / 256, u4 % 256, by omega, by omega⟩
  obtain ⟨u6, y5, h5, q5⟩ : ∃ u y : Nat, u5 = 256 * u + y ∧ y < 256 := ⟨u5 / 256, u5 % 256, by omega, by omega⟩
  obtain ⟨u7, y6, h6, q6⟩ : ∃ u y : Nat, u6 = 256 * u + y ∧ y < 256 := ⟨u6 / 256, u6 % 256, by omega, by omega⟩
  have q7 : u7 < 256 := by omega
  have s60 : sm 60 (fun k => bI (v.testBit k)) = sm 64 (fun k => bI (v.testBit k)) := by
    rw [show (64 : Nat) = 60 + 4 from rfl, sm_app, sm_zero (n := 4) (fun i _ => by rw [Nat.testBit_lt_two_pow (Nat.lt_of_lt_of_le hv (Nat.pow_le_pow_right (by decide) (by omega : 60 ≤ 60 + i)))]; rfl)]
    omega
  rw [s60]
  have hs : sm 64 (fun k => bI (v.testBit k)) = sm 8 (fun k => bI (y0.testBit k)) + (sm 8 (fun k => bI (y1.testBit k)) + (sm 8 (fun k => bI (y2.testBit k)) + (sm 8 (fun k => bI (y3.testBit k)) + (sm 8 (fun k => bI (y4.testBit k)) + (sm 8 (fun k => bI (y5.testBit k)) + (sm 8 (fun k => bI (y6.testBit k)) + sm 8 (fun k => bI (u7.testBit k)))))))) := by
    rw [h0, show (64 : Nat) = 8 + 56 from rfl, sm_byte q0 56, h1, show (56 : Nat) = 8 + 48 from rfl, sm_byte q1 48, h2, show (48 : Nat) = 8 + 40 from rfl, sm_byte q2 40, h3, show (40 : Nat) = 8 + 32 from rfl, sm_byte q3 32, h4, show (32 : Nat) = 8 + 24 from rfl, sm_byte q4 24, h5, show (24 : Nat) = 8 + 16 from rfl, sm_byte q5 16, h6, show (16 : Nat) = 8 + 8 from rfl, sm_byte q6 8]
  have hc8 : nC 8 v = 256 * (256 * (256 * (256 * (256 * (256 * (256 * nC 1 u7 + nC 1 y6) + nC 1 y5) + nC 1 y4) + nC 1 y3) + nC 1 y2) + nC 1 y1) + nC 1 y0 := by
    rw [h0, nC_s q0, h1, nC_s q1, h2, nC_s q2, h3, nC_s q3, h4, nC_s q4, h5, nC_s q5, h6, nC_s q6]
  rw [hs, ← (nC_1 y0 q0).1, ← (nC_1 y1 q1).1, ← (nC_1 y2 q2).1, ← (nC_1 y3 q3).1, ← (nC_1 y4 q4).1, ← (nC_1 y5 q5).1, ← (nC_1 y6 q6).1, ← (nC_1 u7 q7).1]
  have b0 := (nC_1 y0 q0).2
  have b1 := (nC_1 y1 q1).2
  have b2 := (nC_1 y2 q2).2
  have b3 := (nC_1 y3 q3).2
  have b4 := (nC_1 y4 q4).2
  have b5 := (nC_1 y5 q5).2
  have b6 := (nC_1 y6 q6).2
  have b7 := (nC_1 u7 q7).2
  rw [hc] at hc8
  generalize nC 1 y0 = c0 at *
  generalize nC 1 y1 = c1 at *
  generalize nC 1 y2 = c2 at *
  generalize nC 1 y3 = c3 at *
  generalize nC 1 y4 = c4 at *
  generalize nC 1 y5 = c5 at *
  generalize nC 1 y6 = c6 at *
  generalize nC 1 u7 = c7 at *
  clear hs s60 h0 h1 h2 h3 h4 h5 h6 hA hB hC eA eB eC hc m1 m2 m4
  exact lbc_sum hc8 b0 b1 b2 b3 b4 b5 b6 b7
theorem ct_lbitc {G : GT} {d : Nat} {x : Int} {mem : Mem} {Q : Option AV → Mem → Prop} (hq : Q (some (vI (lbitc x))) mem) : C_J13_bitCount_95d88 G d [vL x] mem Q := B_J13_bitCount_95d88 hq
theorem ct_validSayings {G : GT} {d : Nat} {mem : Mem} {Q : Option AV → Mem → Prop} {h : Nat} (hh : isH h) {S : NS} (hR : HR h S mem) (hd : 1 ≤ d) (hq : Q (some (vI (sm 60 (fun s => bI (cnt S s))))) mem) : C_X2_validSayings G d [vR h] mem Q := by
  refine B_X2_validSayings hh hd (ct_lbitc ⟨_, rfl, ?_⟩)
  obtain ⟨v, e1, e2, e3⟩ := hR.2.2.2.2.2.2.1
  rw [e1, lbitc_n e2, sm_congr (g := fun s => bI (cnt S s)) (fun i hi => by rw [e3 i hi]; rfl)]
  exact hq
