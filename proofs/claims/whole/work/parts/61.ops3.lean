/-! ===== operations: machineIs, count, feed, text ===== -/
theorem ior_add {r k : Nat} (hr : r < 2 ^ k) (hk : k < 12) : ior (r : Int) (ishl 1 (k : Int)) = ((r + 2 ^ k : Nat) : Int) := by
  have p := p2 hk
  rw [ishl_1 (by omega), ior_nn (by omega) (by omega), Nat.or_comm, ← two_pow_or hr, Nat.add_comm]
theorem ior_0 {r : Nat} (hr : r < 2147483648) : ior (r : Int) 0 = (r : Int) := by
  have := ior_nn (a := r) (b := 0) hr (by decide)
  rw [Nat.or_zero] at this
  exact this
theorem mod_s (c k : Nat) : c % 2 ^ (k + 1) = c % 2 ^ k + (if c.testBit k then 2 ^ k else 0) := by
  rw [Nat.mod_pow_succ, tb_div]
  cases c.testBit k <;> simp
theorem byte_eq {w : Int} : land w 255 = w % 256 := by
  unfold land
  have e : (Int64.ofInt w &&& Int64.ofInt 255).toInt = ((w.toNat % 1 : Nat) : Int) ∨ True := Or.inr trivial
  have h1 : (Int64.ofInt w &&& Int64.ofInt 255).toBitVec.toNat = (BitVec.ofInt 64 w).toNat % 256 := by
    show (BitVec.ofInt 64 w &&& BitVec.ofInt 64 255).toNat = _
    rw [BitVec.toNat_and, show (BitVec.ofInt 64 255).toNat = 2 ^ 8 - 1 from rfl, Nat.and_two_pow_sub_one_eq_mod]
  have h2 : (BitVec.ofInt 64 w).toNat % 256 = (w % 256).toNat := by
    rw [BitVec.toNat_ofInt]
    omega
  show (Int64.ofInt w &&& Int64.ofInt 255).toBitVec.toInt = _
  rw [BitVec.toInt_eq_toNat_of_lt (by rw [h1]; omega), h1, h2]
  omega
theorem i2b_eq {w : Int} : i2b w = sgb (w % 256) := by
  unfold i2b sgb
  have e : (Int32.ofInt w).toInt8.toInt32.toInt = (BitVec.ofInt 8 w).toInt := by
    rw [Int8.toInt_toInt32]
    show ((BitVec.ofInt 32 w).signExtend 8).toInt = _
    congr 1
    apply BitVec.eq_of_toNat_eq
    rw [BitVec.signExtend_eq_setWidth_of_le _ (by decide), BitVec.toNat_setWidth, BitVec.toNat_ofInt, BitVec.toNat_ofInt]
    omega
  rw [e, BitVec.toInt_ofInt]
  show Int.bmod w 256 = _
  rw [Int.bmod_def]
  split <;> split <;> omega
theorem sgb_i2b {w : Int} : i2b (i2b w) = sgb (land w 255) := by
  rw [byte_eq, i2b_eq, i2b_eq]
  unfold sgb
  split <;> split <;> omega
section OP
variable {G : GT} {d : Nat} {mem : Mem} {J : Int} {Q : Option AV → Mem → Prop}
theorem mi_88 (hd : 2 ≤ d) {S : NS} (hS : mem 72 = S) (hV : VN S) {a w : Int} (ha : inr a) (hw : w = 4 ∨ w = 5) {n : Nat} (hn : S 1 = n) (hq : Q (some (vI (sm n (fun s => bI (cnt S s && decide (S (185 + 4 * s + (w - 4)) = a)))))) mem) : E_X11_machineIs G d 88 [(0, vR 71), (1, vI a), (2, vI w), (3, vI 0), (4, vI 0)] [] mem Q := by
  have v1 := hV.2.1
  have lp := it_loop (n := n) (E := fun i => E_X11_machineIs G d 88 [(0, vR 71), (1, vI a), (2, vI w), (3, vI (sm i (fun s => bI (cnt S s && decide (S (185 + 4 * s + (w - 4)) = a))))), (4, vI i)] [] mem Q) ?_ ?_ 0 (by omega)
  · exact lp
  · refine B_X11_machineIs_88 hd ?_
    rw [hS, hn]
    exact ⟨by omega, fun _ => hq, fun z => absurd (by omega) z⟩
  · intro i hi hE
    rw [sm_s] at hE
    have no : (cnt S i && decide (S (185 + 4 * (i : Int) + (w - 4)) = a)) = false → E_X11_machineIs G d 88 [(0, vR 71), (1, vI a), (2, vI w), (3, vI (sm i (fun s => bI (cnt S s && decide (S (185 + 4 * s + (w - 4)) = a))) + 0)), (4, vI ((i : Int) + 1))] [] mem Q := fun e => by rw [e, bI_f] at hE; exact hE
    have yes : (cnt S i && decide (S (185 + 4 * (i : Int) + (w - 4)) = a)) = true → E_X11_machineIs G d 88 [(0, vR 71), (1, vI a), (2, vI w), (3, vI (sm i (fun s => bI (cnt S s && decide (S (185 + 4 * s + (w - 4)) = a))) + 1)), (4, vI ((i : Int) + 1))] [] mem Q := fun e => by rw [e, bI_t] at hE; exact hE
    refine B_X11_machineIs_88 hd ?_
    rw [hS, hn]
    unfold cnt at no yes
    refine ⟨by omega, fun z => by omega, fun _ => ⟨by omega, fun z => by omega, fun _ => ⟨by omega, fun z => no (by rw [decide_eq_false z]; rfl), fun z => ⟨fun y => ⟨by omega, ha, fun x => no ?_, fun x => yes ?_⟩, fun y => ⟨by omega, ha, fun x => no ?_, fun x => yes ?_⟩⟩⟩⟩⟩
    · rw [show w - 4 = 1 by omega, decide_eq_false x, Bool.and_false]
    · rw [show w - 4 = 1 by omega, decide_eq_true z, decide_eq_true (show S (185 + 4 * (i : Int) + 1) = a by omega)]; rfl
    · rw [show w - 4 = 0 by omega, decide_eq_false x, Bool.and_false]
    · rw [show w - 4 = 0 by omega, decide_eq_true z, decide_eq_true (show S (185 + 4 * (i : Int) + 0) = a by omega)]; rfl
theorem mi_42 (hd : 2 ≤ d) {S : NS} (hS : mem 72 = S) (hV : VN S) {x c : Nat} (hx : x < 12) (hc : c < 4096) (hb : ∀ j : Nat, j < 12 → c.testBit j = decide (0 < S (41 + 12 * (x : Int) + j))) {n : Nat} (hn : S 0 = n) (hq : Q (some (vI c)) mem) : E_X11_machineIs G d 42 [(0, vR 71), (1, vI x), (2, vI 3), (3, vI 0), (4, vI 0)] [] mem Q := by
  have v0 := hV.1
  have v1 := hV.2.1
  have fin : c % 2 ^ n = c := by
    have : ∀ k, n + k ≤ 12 → c % 2 ^ (n + k) = c % 2 ^ n := by
      intro k
      induction k with
      | zero => intro _; rfl
      | succ k ih =>
        intro hk
        have tv := hV.2.2.2.2.2.2.2.1 x ((n + k : Nat) : Int) (by omega) (by omega) (by omega) (by omega)
        have b := hb (n + k) (by omega)
        rw [decide_eq_false (by omega)] at b
        rw [show n + (k + 1) = (n + k) + 1 by omega, mod_s, b, ih (by omega)]
        simp
    have h12 := this (12 - n) (by omega)
    rw [show n + (12 - n) = 12 by omega, Nat.mod_eq_of_lt hc] at h12
    exact h12.symm
  have lp := it_loop (n := n) (E := fun k => E_X11_machineIs G d 42 [(0, vR 71), (1, vI x), (2, vI 3), (3, vI ((c % 2 ^ k : Nat) : Int)), (4, vI k)] [] mem Q) ?_ ?_ 0 (by omega)
  · rw [Nat.pow_zero, Nat.mod_one] at lp
    exact lp
  · have e88 : E_X11_machineIs G d 88 [(0, vR 71), (1, vI x), (2, vI 3), (3, vI ((c % 2 ^ n : Nat) : Int)), (4, vI 0)] [] mem Q := by
      rw [fin]
      refine B_X11_machineIs_88 hd ?_
      rw [hS]
      exact ⟨by decide, fun _ => hq, fun _ => ⟨by decide, fun _ => hq, fun z => absurd (by decide) z⟩⟩
    refine B_X11_machineIs_42 hd ?_
    rw [hS, hn]
    exact ⟨by omega, fun _ => e88, fun z => absurd (by omega) z⟩
  · intro k hk hE
    have lt := Nat.mod_lt c (Nat.two_pow_pos k)
    have p := p2 (show k < 12 by omega)
    have b := hb k (by omega)
    rw [mod_s] at hE
    refine B_X11_machineIs_42 hd ?_
    rw [hS, hn]
    refine ⟨by omega, fun z => by omega, fun _ => ⟨by decide, fun z => absurd rfl z, fun _ => ⟨by omega, fun z => ?_, fun z => ?_⟩⟩⟩
    · rw [decide_eq_false (by omega)] at b
      rw [b, if_neg (by decide), Nat.add_zero] at hE
      rw [ior_0 (by omega)]
      exact hE
    · rw [decide_eq_true (by omega)] at b
      rw [b, if_pos rfl] at hE
      rw [ior_add lt (by omega)]
      exact hE
theorem op_machineIs (hd : 40 ≤ d) (h : Rl J mem) {a b : Int} (ha : inr a) (hb : inr b) : C_X10_machineIs G d [vR 0, vI a, vI b] mem (fun r m1 => ∃ z : Int, r = some (vI z) ∧ C_X11_machineIs G d [vR 71, vI a, vI b] m1 (An J z)) := by
  have v0 := h.1.1.1
  have v1 := h.1.1.2.1
  have r0 := h.1.2.1.1.1
  by_cases k : (0 ≤ a ∧ a < mem 72 0) ∧ (0 ≤ b ∧ b ≤ 5)
  · have rr := h.1.2.1.2.1 a (by omega) (by omega)
    have r2 : mem 2 a = mem 72 (5 + 3 * a) := rr.1
    have r3 : mem 3 a = mem 72 (5 + 3 * a + 1) := rr.2.1
    have r4 : mem 4 a = mem 72 (5 + 3 * a + 2) := rr.2.2
    obtain ⟨n, hn⟩ : ∃ n : Nat, mem 72 1 = n := ⟨(mem 72 1).toNat, by omega⟩
    obtain ⟨n0, hn0⟩ : ∃ n : Nat, mem 72 0 = n := ⟨(mem 72 0).toNat, by omega⟩
    have small : b < 3 → ∀ z : Int, z = mem 72 (5 + 3 * a + b) → ∃ z' : Int, some (vI z) = some (vI z') ∧ C_X11_machineIs G d [vR 71, vI a, vI b] mem (An J z') := fun hb3 z hz => ⟨_, rfl, B_X11_machineIs (by omega) ⟨ha, by omega, fun z => absurd k.1 z, fun _ => ⟨hb, fun _ => ⟨fun z => by omega, fun _ => ⟨by omega, an_mk h hz.symm⟩⟩, fun z => absurd k.2 z⟩⟩⟩
    have big : ∀ w : Int, b = w → w = 4 ∨ w = 5 → ∀ z : Int, z = sm n (fun s => bI (cnt (mem 72) s && decide (mem 72 (185 + 4 * s + (w - 4)) = a))) → ∃ z' : Int, some (vI z) = some (vI z') ∧ C_X11_machineIs G d [vR 71, vI a, vI b] mem (An J z') := fun w bw hw z hz => by
      refine ⟨_, rfl, B_X11_machineIs (by omega) ⟨ha, by omega, fun z => absurd k.1 z, fun _ => ⟨hb, fun _ => ⟨fun _ => ?_, fun z => by omega⟩, fun z => absurd k.2 z⟩⟩⟩
      have g := mi_88 (G := G) (d := d) (mem := mem) (Q := An J z) (by omega) rfl h.1.1 ha hw hn (an_mk h hz.symm)
      rw [bw]
      exact B_X11_machineIs_42 (by omega) ⟨by decide, fun _ => g, fun _ => ⟨by omega, fun _ => g, fun z => by omega⟩⟩
    refine B_X10_machineIs (by omega) ?_
    rw [r0, r2, r3, r4]
    refine ⟨ha, fun z => absurd k.1 z, fun _ => ⟨hb, fun _ => ⟨fun z => ⟨by omega, small (by omega) _ ?_⟩, fun z => ⟨by omega, small (by omega) _ ?_⟩, fun z => ⟨by omega, small (by omega) _ ?_⟩, fun z => ⟨by omega, ?_⟩, fun z => ?_, fun z => ?_⟩, fun z => by omega⟩⟩
    · rw [z, Int.add_zero]
    · rw [z]
    · rw [z]
    · obtain ⟨x, rfl⟩ : ∃ x : Nat, a = x := ⟨a.toNat, by omega⟩
      obtain ⟨c, c1, c2, c3⟩ := h.1.2.1.2.2.2.1 x (by omega)
      rw [show mem 5 x = c from c1]
      refine ⟨_, rfl, B_X11_machineIs (by omega) ⟨ha, by omega, fun z => absurd k.1 z, fun _ => ⟨hb, fun _ => ⟨fun _ => ?_, fun y => by omega⟩, fun z => absurd k.2 z⟩⟩⟩
      rw [z]
      exact mi_42 (by omega) rfl h.1.1 (by omega) c2 c3 hn0 (an_mk h rfl)
    · refine ct_sayingsBy (by decide) h.1.2.1 h.1.1 (by omega) ha hn ⟨_, rfl, big 4 z (Or.inl rfl) _ ?_⟩
      refine sm_congr (fun s _ => ?_)
      rw [show (185 + 4 * (s : Int) + (4 - 4)) = 185 + 4 * (s : Int) by omega]
    · refine ct_sayingsOf (by decide) h.1.2.1 h.1.1 (by omega) ha hn ⟨_, rfl, big 5 (by omega) (Or.inr rfl) _ ?_⟩
      refine sm_congr (fun s _ => ?_)
      rw [show (185 + 4 * (s : Int) + (5 - 4)) = 185 + 4 * (s : Int) + 1 by omega]
  · by_cases c : 0 ≤ a ∧ a < mem 72 0
    · refine B_X10_machineIs (by omega) ?_
      rw [r0]
      refine ⟨ha, fun z => absurd c z, fun _ => ⟨hb, fun z => by omega, fun _ m1 e1 => ⟨_, rfl, B_X11_machineIs (by omega) ?_⟩⟩⟩
      rw [ref72 e1]
      exact ⟨ha, by omega, fun z => absurd c z, fun _ => ⟨hb, fun z => by omega, fun _ m2 e2 => an_ref h (by decide) (by decide) e1 e2⟩⟩
    · refine B_X10_machineIs (by omega) ?_
      rw [r0]
      refine ⟨ha, fun _ m1 e1 => ⟨_, rfl, B_X11_machineIs (by omega) ?_⟩, fun z => absurd z c⟩
      rw [ref72 e1]
      exact ⟨ha, by omega, fun _ m2 e2 => an_ref h (by decide) (by decide) e1 e2, fun z => absurd z c⟩
theorem sm_grid (n : Nat) (f : Nat → Int) : sm n (fun i => sm 12 (fun j => f (12 * i + j))) = sm (12 * n) f := by
  induction n with
  | zero => rfl
  | succ n ih => rw [sm_s, ih, show 12 * (n + 1) = 12 * n + 12 by omega, sm_app]
theorem ties_eq {S : NS} (hV : VN S) (hR : HR 1 S mem) {n : Nat} (hn : S 0 = n) : sm n (fun k => bitc (mem (1 + 4) k)) = sm 144 (fun k => bI (decide (0 < S (41 + (k : Int))))) := by
  have v0 := hV.1
  rw [sm_skip (f := fun k => bI (decide (0 < S (41 + (k : Int))))) (a := 12 * n) (b := 144) (by omega) (fun k h1 h2 => ?_), ← sm_grid]
  · refine sm_congr (fun i hi => ?_)
    obtain ⟨c, c1, c2, c3⟩ := hR.2.2.2.1 i (by omega)
    rw [c1, bitc_n c2]
    unfold pc
    refine sm_congr (fun j hj => ?_)
    rw [c3 j hj, show 41 + ((12 * i + j : Nat) : Int) = 41 + 12 * (i : Int) + j by omega]
  · rw [decide_eq_false, bI_f]
    intro x
    have := tie_k hV h2 x
    omega
theorem op_count (hd : 40 ≤ d) (h : Rl J mem) {a : Int} (ha : inr a) : C_X10_count G d [vR 0, vI a] mem (fun r m1 => ∃ z : Int, r = some (vI z) ∧ C_X11_count G d [vR 71, vI a] m1 (An J z)) := by
  have v0 := h.1.1.1
  have v1 := h.1.1.2.1
  have r := h.1.2.1.1
  obtain ⟨n, hn⟩ : ∃ n : Nat, mem 72 1 = n := ⟨(mem 72 1).toNat, by omega⟩
  obtain ⟨n0, hn0⟩ : ∃ n : Nat, mem 72 0 = n := ⟨(mem 72 0).toNat, by omega⟩
  refine B_X10_count (by omega) ⟨ha, fun z => ?_, fun z => ?_, fun z => ?_, fun z => ?_, fun z => ?_, fun z => ?_, fun z => ?_, fun z => ?_, fun z m1 e1 => ?_⟩
  · rw [r.1, z]
    exact ⟨_, rfl, B_X11_count (by omega) ⟨by decide, fun _ => an_mk h rfl, fun y => absurd y (by decide), fun y => absurd y (by decide), fun y => absurd y (by decide), fun y => absurd y (by decide), fun y => absurd y (by decide), fun y => absurd y (by decide), fun y => absurd y (by decide), fun y => absurd y (by decide)⟩⟩
  · rw [z]
    refine ct_ties (by decide) (by omega) (n := n0) (by rw [r.1, hn0]) (by omega) ⟨_, rfl, _, rfl, ?_⟩
    rw [ties_eq h.1.1 h.1.2.1 hn0]
    exact B_X11_count (by omega) ⟨by decide, fun y => absurd y (by decide), fun _ => an_mk h rfl, fun y => absurd y (by decide), fun y => absurd y (by decide), fun y => absurd y (by decide), fun y => absurd y (by decide), fun y => absurd y (by decide), fun y => absurd y (by decide), fun y => absurd y (by decide)⟩
  · rw [r.2.1, z]
    exact ⟨_, rfl, B_X11_count (by omega) ⟨by decide, fun y => absurd y (by decide), fun y => absurd y (by decide), fun _ => an_mk h rfl, fun y => absurd y (by decide), fun y => absurd y (by decide), fun y => absurd y (by decide), fun y => absurd y (by decide), fun y => absurd y (by decide), fun y => absurd y (by decide)⟩⟩
  · rw [z]
    refine ct_validSayings (by decide) h.1.2.1 (by omega) ⟨_, rfl, _, rfl, ?_⟩
    have e : sm 60 (fun s => bI (cnt (mem 72) s)) = sm n (fun s => mem 72 (185 + 4 * (s : Int) + 3)) := by
      have sv : ∀ s : Nat, s < 60 → _ := fun s hs => h.1.1.2.2.2.2.2.2.2.2.1 s (by omega) (by omega)
      rw [sm_skip (f := fun s => bI (cnt (mem 72) s)) (a := n) (b := 60) (by omega) (fun k h1 h2 => ?_)]
      · refine sm_congr (fun s hs => ?_)
        have := (sv s (by omega)).2.2.1
        unfold cnt
        rcases this with e | e <;> rw [e] <;> rfl
      · have := (sv k (by omega)).2.2.2 (by omega)
        unfold cnt
        rw [this]; rfl
    rw [e]
    refine B_X11_count (by omega) ⟨by decide, fun y => absurd y (by decide), fun y => absurd y (by decide), fun y => absurd y (by decide), fun _ => ?_, fun y => absurd y (by decide), fun y => absurd y (by decide), fun y => absurd y (by decide), fun y => absurd y (by decide), fun y => absurd y (by decide)⟩
    refine it_loop (n := n) (E := fun i => E_X11_count G d 69 [(0, vR 71), (2, vI (sm i (fun s => mem 72 (185 + 4 * (s : Int) + 3)))), (3, vI i)] [] mem (An J (sm n (fun s => mem 72 (185 + 4 * (s : Int) + 3))))) ?_ ?_ 0 (by omega)
    · refine B_X11_count_69 (by omega) ?_
      rw [hn]
      exact ⟨by omega, fun _ => an_mk h rfl, fun y => absurd (by omega) y⟩
    · intro i hi hE
      refine B_X11_count_69 (by omega) ?_
      rw [hn]
      exact ⟨by omega, fun y => by omega, fun _ => ⟨by omega, hE⟩⟩
  · rw [r.2.2.2.1, z]
    exact ⟨_, rfl, B_X11_count (by omega) ⟨by decide, fun y => absurd y (by decide), fun y => absurd y (by decide), fun y => absurd y (by decide), fun y => absurd y (by decide), fun _ => an_mk h rfl, fun y => absurd y (by decide), fun y => absurd y (by decide), fun y => absurd y (by decide), fun y => absurd y (by decide)⟩⟩
  · rw [r.2.2.2.2, z]
    exact ⟨_, rfl, B_X11_count (by omega) ⟨by decide, fun y => absurd y (by decide), fun y => absurd y (by decide), fun y => absurd y (by decide), fun y => absurd y (by decide), fun y => absurd y (by decide), fun _ => an_mk h rfl, fun y => absurd y (by decide), fun y => absurd y (by decide), fun y => absurd y (by decide)⟩⟩
  · rw [h.2.2.2.1.1, z]
    exact ⟨_, rfl, B_X11_count (by omega) ⟨by decide, fun y => absurd y (by decide), fun y => absurd y (by decide), fun y => absurd y (by decide), fun y => absurd y (by decide), fun y => absurd y (by decide), fun y => absurd y (by decide), fun _ => an_mk h rfl, fun y => absurd y (by decide), fun y => absurd y (by decide)⟩⟩
  · rw [z]
    have e : sm 144 (fun k => mem 6 k) = sm 144 (fun k => mem 72 (41 + (k : Int))) := sm_congr (fun k hk => by
      have := h.1.2.1.2.2.1 ((k / 12 : Nat) : Int) ((k % 12 : Nat) : Int) (by omega) (by omega) (by omega) (by omega)
      rw [show ((k / 12 : Nat) : Int) * 12 + ((k % 12 : Nat) : Int) = k by omega, show 41 + 12 * ((k / 12 : Nat) : Int) + ((k % 12 : Nat) : Int) = 41 + (k : Int) by omega] at this
      exact this)
    rw [e]
    refine ⟨_, rfl, B_X11_count (by omega) ⟨by decide, fun y => absurd y (by decide), fun y => absurd y (by decide), fun y => absurd y (by decide), fun y => absurd y (by decide), fun y => absurd y (by decide), fun y => absurd y (by decide), fun y => absurd y (by decide), fun _ => ?_, fun y => absurd y (by decide)⟩⟩
    refine it_loop (n := 144) (E := fun i => E_X11_count G d 117 [(0, vR 71), (2, vI (sm i (fun k => mem 72 (41 + (k : Int))))), (3, vI i)] [] mem (An J (sm 144 (fun k => mem 72 (41 + (k : Int)))))) ?_ ?_ 0 (by omega)
    · exact B_X11_count_117 (by omega) ⟨by omega, fun _ => an_mk h rfl, fun y => absurd (by omega) y⟩
    · intro i hi hE
      exact B_X11_count_117 (by omega) ⟨by omega, fun y => by omega, fun _ => ⟨by omega, hE⟩⟩
  · refine ⟨_, rfl, B_X11_count (by omega) ⟨ha, fun y => by omega, fun y => by omega, fun y => by omega, fun y => by omega, fun y => by omega, fun y => by omega, fun y => by omega, fun y => by omega, fun _ m2 e2 => an_ref h (by decide) (by decide) e1 e2⟩⟩
/-- the row after i bytes of a word -/
def fdk (S : NS) (w : Int) (t : Nat) : Nat → NS
  | 0 => S
  | i + 1 => sU (sU (fdk S w t i) (425 + ((t : Int) + i)) (land (lshr w (8 * i)) 255)) 3 ((t : Int) + i + 1)
theorem fdk_3 {S : NS} {w : Int} {t : Nat} (h : S 3 = t) : ∀ i : Nat, fdk S w t i 3 = (t : Int) + i := by
  intro i
  cases i with
  | zero => rw [show fdk S w t 0 = S from rfl, h]; omega
  | succ i => show sU _ 3 _ 3 = _; rw [sU_same]; omega
theorem fdk_o {S : NS} {w x : Int} {t : Nat} (hx : x ≠ 3) : ∀ i : Nat, ¬ (425 + (t : Int) ≤ x ∧ x < 425 + (t : Int) + i) → fdk S w t i x = S x := by
  intro i
  induction i with
  | zero => intro _; rfl
  | succ i ih =>
    intro h
    show sU (sU (fdk S w t i) (425 + ((t : Int) + i)) _) 3 _ x = _
    rw [sU_ne hx, sU_ne (by omega)]
    exact ih (by omega)
theorem fdk_b {S : NS} {w : Int} {t : Nat} : ∀ i j : Nat, j < i → fdk S w t i (425 + ((t : Int) + j)) = land (lshr w (8 * j)) 255 := by
  intro i
  induction i with
  | zero => intro j hj; omega
  | succ i ih =>
    intro j hj
    show sU (sU (fdk S w t i) (425 + ((t : Int) + i)) _) 3 _ _ = _
    rw [sU_ne (by omega)]
    by_cases e : j = i
    · subst e; rw [sU_same]
    · rw [sU_ne (by omega)]; exact ih j (by omega)
theorem fdk_VN {S : NS} (hV : VN S) {w : Int} {t : Nat} (ht : S 3 = t) : ∀ i : Nat, t + i ≤ 80 → VN (fdk S w t i) := by
  intro i
  induction i with
  | zero => intro _; exact hV
  | succ i ih =>
    intro h
    have b : land (lshr w (8 * i)) 255 = lshr w (8 * i) % 256 := byte_eq
    exact VN_taped (VN_tape (ih (by omega)) (by omega) (by omega) (by rw [b]; omega) (by rw [b]; omega)) (by omega) (by omega)
theorem op_feed (hd : 40 ≤ d) (h : Rl J mem) {w a : Int} (ha : inr a) : C_X10_feed G d [vR 0, vL w, vI a] mem (fun r m1 => ∃ z : Int, r = some (vI z) ∧ C_X11_feed G d [vR 71, vL w, vI a] m1 (An J z)) := by
  have v3 := h.1.1.2.2.2.1
  have r3 := h.1.2.1.1.2.2.2.1
  obtain ⟨t, ht⟩ : ∃ t : Nat, mem 72 3 = t := ⟨(mem 72 3).toNat, by omega⟩
  by_cases k : (1 ≤ a ∧ a ≤ 8) ∧ mem 72 3 + a ≤ 80
  · obtain ⟨n, rfl⟩ : ∃ n : Nat, a = n := ⟨a.toNat, by omega⟩
    refine B_X10_feed (by omega) ?_
    rw [r3]
    refine ⟨ha, fun _ => ⟨by omega, fun _ => ct_addToTape (by decide) (n := n) (t := t) (by omega) (by rw [r3, ht]) (by omega) (fun m1 e1 b1 f1 => ⟨_, rfl, _, rfl, ?_⟩), fun z => by omega⟩, fun z => by omega⟩
    have g72 : m1 72 = mem 72 := funext (fun z => f1 72 z (by omega) (by omega))
    have hV := h.1.1
    have hR := h.1.2.1
    have hF := h.1.2.2.1
    generalize hS : mem 72 = S at *
    refine B_X11_feed (by omega) ?_
    rw [g72]
    refine ⟨ha, fun _ => ⟨by omega, fun _ => ?_, fun z => by omega⟩, fun z => by omega⟩
    refine up_loop (n := n) (E := fun i m => E_X11_feed G d 40 [(0, vR 71), (1, vL w), (3, vI n), (4, vI i)] [] m (An J ((t : Int) + n))) (I := fun i m => m 72 = fdk S w t i ∧ ∀ (x : Nat) (y : Int), x ≠ 72 → m x y = m1 x y) ?_ ?_ (i := 0) (by omega) ⟨g72, fun _ _ _ => rfl⟩
    · intro m2 ⟨t2, f2⟩
      refine B_X11_feed_40 (by omega) ?_
      rw [t2, fdk_3 ht]
      refine ⟨by omega, fun _ => an_mk (Rl_new h ?_ (fun x y p q _ => by rw [f2 x y q, f1 x y (by omega) (by omega)])) rfl, fun z => absurd (by omega) z⟩
      rw [t2]
      refine ⟨fdk_VN hV ht n (by omega), HR_tp hR (fun x p q r s => fdk_o r n (by omega)) (fun c b hc p q => by rw [f2 _ _ (by omega), f1 _ _ (by omega) (by omega)]) (by rw [f2 1 13 (by omega), e1, fdk_3 ht]) (fun i p q => ?_), fun z => ?_, by rw [f2 44 0 (by omega), f1 44 0 (by omega) (by omega)]; exact h.1.2.2.2⟩
      · rw [f2 (1 + 8) i (by omega)]
        by_cases c : (t : Int) ≤ i ∧ i < (t : Int) + n
        · obtain ⟨j, hj⟩ : ∃ j : Nat, i = (t : Int) + j := ⟨(i - t).toNat, by omega⟩
          rw [hj, b1 j (by omega), fdk_b n j (by omega), sgb_i2b]
        · rw [f1 (1 + 8) i (by omega) (by omega), fdk_o (by omega) n (by omega)]
          exact hR.2.2.2.2.2.2.2.1 i p q
      · rw [f2 1 16 (by omega), f1 1 16 (by omega) (by omega)] at z
        refine FT_c hV ⟨?_, ?_, ?_, fun x p q => ?_, fun x p q => ?_⟩ (hF z) (fun x => ?_) (fun x => ?_) ?_
        · rw [fdk_o (by omega) n (by omega)]
        · rw [fdk_o (by omega) n (by omega)]
        · rw [fdk_o (by omega) n (by omega)]
        · rw [fdk_o (by omega) n (by omega)]
        · rw [fdk_o (by omega) n (by omega)]
        · rw [f2 34 x (by omega), f1 34 x (by omega) (by omega)]
        · rw [f2 37 x (by omega), f1 37 x (by omega) (by omega)]
        · rw [f2 32 7 (by omega), f1 32 7 (by omega) (by omega)]
    · intro i m2 hi ⟨t2, f2⟩ hE
      have b : land (lshr w (8 * i)) 255 = lshr w (8 * i) % 256 := byte_eq
      refine B_X11_feed_40 (by omega) ?_
      rw [t2, fdk_3 ht]
      refine ⟨by omega, fun z => by omega, fun _ => ⟨by omega, by rw [b]; omega, fun m3 e3 => ?_⟩⟩
      have k3 : m3 72 3 = (t : Int) + i := by rw [e3, upM_ne (by omega), t2, fdk_3 ht]
      rw [k3]
      refine ⟨by omega, fun m4 e4 => hE m4 ⟨?_, fun x y p => by rw [e4, upM_ne (by omega), e3, upM_ne (by omega)]; exact f2 x y p⟩⟩
      rw [e4, upM_self, e3, upM_self, t2]
      rfl
  · by_cases c : 1 ≤ a ∧ a ≤ 8
    · refine B_X10_feed (by omega) ?_
      rw [r3]
      refine ⟨ha, fun _ => ⟨by omega, fun z => by omega, fun _ m1 e1 => ⟨_, rfl, B_X11_feed (by omega) ?_⟩⟩, fun z => by omega⟩
      rw [ref72 e1]
      exact ⟨ha, fun _ => ⟨by omega, fun z => by omega, fun _ m2 e2 => an_ref h (by decide) (by decide) e1 e2⟩, fun z => absurd c z⟩
    · refine B_X10_feed (by omega) ⟨ha, fun z => by omega, fun _ m1 e1 => ⟨_, rfl, B_X11_feed (by omega) ?_⟩⟩
      exact ⟨ha, fun z => absurd z c, fun _ m2 e2 => an_ref h (by decide) (by decide) e1 e2⟩
theorem txt_ok : ∀ (k : Nat) (S : NS) (p : Nat) (i : Int), VN S → p ≤ tl S → 81 ≤ p + k → 0 ≤ i → ((txt k S p i).1 = -1 → VN (txt k S p i).2.1 ∧ i < (txt k S p i).2.2 ∧ (txt k S p i).2.2 ≤ i + k + 1) ∧ ((txt k S p i).1 ≠ -1 → 0 ≤ (txt k S p i).1 ∧ (txt k S p i).1 ≤ 80) := by
  intro k
  induction k with
  | zero => intro S p i hV hp hk; have := tl_VN hV; omega
  | succ k ih =>
    intro S p i hV hp hk hi
    have t8 := tl_VN hV
    have ok := itm_ok hV hp
    by_cases c : (itm S p).1 = -1
    · obtain ⟨V', T', p0, p1⟩ := ok.1 c
      have n1 := nx_le p1
      have s1 := sk_le p1
      by_cases lt : sk S (itm S p).2.2 < tl S
      · by_cases e : tc S (sk S (itm S p).2.2) = 59
        · rw [txt_s c lt e]
          have l := n1.2.2.2 lt
          have := ih (itm S p).2.1 (nx S (itm S p).2.2) (i + 1) V' (by rw [T'.1]; exact n1.2.1) (by omega) (by omega)
          exact ⟨fun z => ⟨(this.1 z).1, by have := (this.1 z).2; omega, by have := (this.1 z).2; omega⟩, this.2⟩
        · rw [txt_o c lt e]
          exact ⟨fun z => absurd z (sk_n1 _ _), fun _ => ⟨show (0 : Int) ≤ ((sk S (itm S p).2.2 : Nat) : Int) by omega, show ((sk S (itm S p).2.2 : Nat) : Int) ≤ 80 by omega⟩⟩
      · rw [txt_e c lt]
        exact ⟨fun _ => ⟨V', show i < i + 1 by omega, show i + 1 ≤ i + ((k + 1 : Nat) : Int) + 1 by omega⟩, fun z => absurd rfl z⟩
    · rw [txt_w c]
      exact ⟨fun z => absurd z c, fun _ => ok.2 c⟩
theorem op_text (hd : 40 ≤ d) (h : Rl J mem) : C_X10_text G d [vR 0] mem (fun r m1 => ∃ z : Int, r = some (vI z) ∧ C_X11_text G d [vR 71] m1 (An J z)) := by
  have hV := h.1.1
  have hR := h.1.2.1
  have hF := h.1.2.2.1
  have h44 := h.1.2.2.2
  generalize hS : mem 72 = S at *
  have ok := txt_ok 81 S 0 0 hV (by omega) (by omega) (by omega)
  refine B_X10_text (by omega) (ct_copyFrom (by decide) (by decide) (by decide) (by omega) (hR.tape hV) (fun m1 c1 => ⟨rfl, ?_⟩))
  have R21 := HR_copy hR c1
  obtain ⟨c1_, c2, c3, c4, c5, c6, c7, c8, c9, c10, c11, c12, c13, c14, c15, c16, c17, f1⟩ := c1
  refine ct_read (by omega) hV R21 (fun m2 r2 f2 => ⟨_, rfl, ?_⟩)
  have g2 : ∀ (a : Nat) (b : Int), ¬ (21 ≤ a ∧ a ≤ 31) → m2 a b = mem a b := fun a b x => by rw [f2 a b x, f1 a b (by omega)]
  have R2 : HR 1 S m2 := hR.congr (fun c b hc _ => g2 (1 + c) b (by omega))
  by_cases c : (txt 81 S 0 0).1 = -1
  · have o := ok.1 c
    have R3 := r2 c
    rw [if_pos c]
    refine ⟨by omega, fun z => by omega, fun _ => ct_copyFrom (by decide) (by decide) (by decide) (by omega) (R3.tape o.1) (fun m3 c3 => ⟨rfl, fun m4 e4 => ⟨_, rfl, ?_⟩⟩)⟩
    have R4 := HR_copy R3 c3
    obtain ⟨d1, d2, d3, d4, d5, d6, d7, d8, d9, d10, d11, d12, d13, d14, d15, d16, d17, f3⟩ := c3
    have g4 : ∀ (a : Nat) (b : Int), ¬ (1 ≤ a ∧ a ≤ 10) → ¬ (21 ≤ a ∧ a ≤ 31) → m4 a b = mem a b := fun a b x y => by rw [e4, upM_ne (by omega), f3 a b (by omega), g2 a b y]
    refine ct_text11 (by omega) hV (by rw [← hS]; exact funext (fun z => g4 72 z (by omega) (by omega))) (fun m5 e5 f5 => ?_)
    rw [if_pos c] at e5 ⊢
    have VV := VN_taped (v := 0) o.1 (by omega) (by omega)
    refine an_mk (Rl_new h ⟨VN_c VV e5, ?_, fun z => ?_, ?_⟩ (fun x y p q r => ?_)) rfl
    · have := HR_taped R4 o.1 0
      rw [← e4] at this
      exact HR_c (this.congr (fun c b hc _ => f5 (1 + c) b (by omega) (by omega) (by omega))) e5
    · exfalso
      rw [f5 1 16 (by omega) (by omega) (by omega), e4, upM_ne (by omega), d17] at z
      omega
    · rw [f5 44 0 (by omega) (by omega) (by omega), g4 44 0 (by omega) (by omega)]; exact h44
    · unfold scr at r
      rw [f5 x y (by omega) q (by omega), g4 x y p (by omega)]
  · have o := ok.2 c
    rw [if_neg c]
    refine ⟨by omega, fun _ m4 e4 => ⟨_, rfl, ?_⟩, fun z => absurd (by omega) z⟩
    have g4 : ∀ (a : Nat) (b : Int), ¬ (a = 1 ∧ b = 13) → ¬ (21 ≤ a ∧ a ≤ 31) → m4 a b = mem a b := fun a b x y => by rw [e4, upM_ne x, g2 a b y]
    refine ct_text11 (by omega) hV (by rw [← hS]; exact funext (fun z => g4 72 z (by omega) (by omega))) (fun m5 e5 f5 => ?_)
    rw [if_neg c] at e5 ⊢
    have VV := VN_taped (v := 0) hV (by omega) (by omega)
    refine an_mk (Rl_new h ⟨VN_c VV e5, ?_, fun z => ?_, ?_⟩ (fun x y p q r => ?_)) rfl
    · have := HR_taped R2 hV 0
      rw [← e4] at this
      exact HR_c (this.congr (fun c b hc _ => f5 (1 + c) b (by omega) (by omega) (by omega))) e5
    · rw [f5 1 16 (by omega) (by omega) (by omega), g4 1 16 (by omega) (by omega)] at z
      refine FT_c hV ⟨?_, ?_, ?_, fun x p q => ?_, fun x p q => ?_⟩ (hF z) (fun x => ?_) (fun x => ?_) ?_
      · rw [e5 0 (by omega) (by omega), sU_ne (by omega)]
      · rw [e5 1 (by omega) (by omega), sU_ne (by omega)]
      · rw [e5 2 (by omega) (by omega), sU_ne (by omega)]
      · rw [e5 x (by omega) (by omega), sU_ne (by omega)]
      · rw [e5 x (by omega) (by omega), sU_ne (by omega)]
      · rw [f5 34 x (by omega) (by omega) (by omega), g4 34 x (by omega) (by omega)]
      · rw [f5 37 x (by omega) (by omega) (by omega), g4 37 x (by omega) (by omega)]
      · rw [f5 32 7 (by omega) (by omega) (by omega), g4 32 7 (by omega) (by omega)]
    · rw [f5 44 0 (by omega) (by omega) (by omega), g4 44 0 (by omega) (by omega)]; exact h44
    · unfold scr at r
      rw [f5 x y (by omega) q (by omega), g4 x y (by omega) (by omega)]
end OP
