/-! ===== operations: say, image, restore, as, mended, feed, text ===== -/
def wnS (S : NS) (i j : Int) : Int := if ¬ ((0 ≤ i ∧ i < S 0) ∧ (0 ≤ j ∧ j < S 0)) then -1000001 else if i = j ∨ S (41 + 12 * i + j) = 0 then -1000003 else if S 1 < 60 then 0 else -1000004
theorem wn_r (S : NS) (i j : Int) : wnS S i j = 0 ∨ wnS S i j = -1000001 ∨ wnS S i j = -1000003 ∨ wnS S i j = -1000004 := by
  unfold wnS
  (repeat' split) <;> omega
theorem wn_0 {S : NS} {i j : Int} : wnS S i j = 0 ↔ (((0 ≤ i ∧ i < S 0) ∧ (0 ≤ j ∧ j < S 0)) ∧ i ≠ j ∧ S (41 + 12 * i + j) ≠ 0 ∧ S 1 < 60) := by
  unfold wnS
  (repeat' split) <;> omega
theorem obj_wn {h : Nat} {S : NS} {mem : Mem} (hV : VN S) (hR : HR h S mem) (i j : Int) : objS mem h i j = wnS S i j := by
  have v0 := hV.1
  unfold objS wnS
  rw [hR.1.1, hR.1.2.1]
  by_cases c : (0 ≤ i ∧ i < S 0) ∧ (0 ≤ j ∧ j < S 0)
  · obtain ⟨x, rfl⟩ : ∃ x : Nat, i = x := ⟨i.toNat, by omega⟩
    obtain ⟨y, rfl⟩ : ∃ y : Nat, j = y := ⟨j.toNat, by omega⟩
    have tv := hV.2.2.2.2.2.2.2.1 x y (by omega) (by omega) (by omega) (by omega)
    have tb := hR.tied (i := x) (j := y) (by omega) (by omega)
    have hb : bI (decide (0 < S (41 + 12 * (x : Int) + y))) = 0 ↔ S (41 + 12 * (x : Int) + y) = 0 := by
      rw [bI_eq0, decide_eq_false_iff_not]; omega
    have c' : ¬ ¬ ((0 ≤ (x : Int) ∧ (x : Int) < S 0) ∧ (0 ≤ (y : Int) ∧ (y : Int) < S 0)) := fun z => z c
    rw [if_neg c', if_neg c', tb]
    by_cases c2 : (x : Int) = y ∨ S (41 + 12 * (x : Int) + y) = 0
    · rw [if_pos c2, if_pos (by omega)]
    · rw [if_neg c2, if_neg (by omega)]
  · rw [if_pos c, if_pos c]
theorem HR_tp {h : Nat} {S S' : NS} {mem m : Mem} (hR : HR h S mem) (e : ∀ x : Int, 0 ≤ x → x < 553 → x ≠ 3 → ¬ (425 ≤ x ∧ x < 505) → S' x = S x) (f : ∀ (c : Nat) (b : Int), c < 10 → ¬ (c = 0 ∧ (b = 13 ∨ b = 16)) → c ≠ 8 → m (h + c) b = mem (h + c) b) (e3 : m h 13 = S' 3) (e8 : ∀ i : Int, 0 ≤ i → i < 80 → m (h + 8) i = sgb (S' (425 + i))) : HR h S' m := by
  have f0 : ∀ b : Int, b ≠ 13 → b ≠ 16 → m h b = mem h b := fun b x y => f 0 b (by omega) (by omega) (by omega)
  obtain ⟨⟨a1, a2, a3, a4, a5⟩, b, c, dd, ff, g, k, l, mm⟩ := hR
  refine ⟨⟨?_, ?_, ?_, e3, ?_⟩, fun i h0 h1 => ?_, fun i j h0 h1 h2 h3 => ?_, fun i hi => ?_, fun s h0 h1 => ?_, ?_, ?_, e8, fun i h0 h1 => ?_⟩
  · rw [f0 0 (by omega) (by omega), e 0 (by omega) (by omega) (by omega) (by omega)]; exact a1
  · rw [f0 6 (by omega) (by omega), e 1 (by omega) (by omega) (by omega) (by omega)]; exact a2
  · rw [f0 11 (by omega) (by omega), e 2 (by omega) (by omega) (by omega) (by omega)]; exact a3
  · rw [f0 15 (by omega) (by omega), e 4 (by omega) (by omega) (by omega) (by omega)]; exact a5
  · rw [f 1 i (by omega) (by omega) (by omega), f 2 i (by omega) (by omega) (by omega), f 3 i (by omega) (by omega) (by omega), e (5 + 3 * i) (by omega) (by omega) (by omega) (by omega), e (5 + 3 * i + 1) (by omega) (by omega) (by omega) (by omega), e (5 + 3 * i + 2) (by omega) (by omega) (by omega) (by omega)]; exact b i h0 h1
  · rw [f 5 _ (by omega) (by omega) (by omega), e _ (by omega) (by omega) (by omega) (by omega)]; exact c i j h0 h1 h2 h3
  · obtain ⟨w, w1, w2, w3⟩ := dd i hi
    exact ⟨w, by rw [f 4 _ (by omega) (by omega) (by omega)]; exact w1, w2, fun j hj => by rw [e _ (by omega) (by omega) (by omega) (by omega)]; exact w3 j hj⟩
  · rw [f 6 _ (by omega) (by omega) (by omega), f 7 _ (by omega) (by omega) (by omega), e (185 + 4 * s) (by omega) (by omega) (by omega) (by omega), e (185 + 4 * s + 1) (by omega) (by omega) (by omega) (by omega)]; exact ff s h0 h1
  · obtain ⟨w, w1, w2, w3⟩ := g
    refine ⟨w, by rw [f0 9 (by omega) (by omega)]; exact w1, w2, fun s hs hs2 => ?_⟩
    rw [e 1 (by omega) (by omega) (by omega) (by omega)] at hs2
    rw [e _ (by omega) (by omega) (by omega) (by omega)]; exact w3 s hs hs2
  · obtain ⟨w, w1, w2, w3⟩ := k
    exact ⟨w, by rw [f0 10 (by omega) (by omega)]; exact w1, w2, fun s hs => by rw [e _ (by omega) (by omega) (by omega) (by omega)]; exact w3 s hs⟩
  · rw [f 9 _ (by omega) (by omega) (by omega), e _ (by omega) (by omega) (by omega) (by omega)]; exact mm i h0 h1
section OP
variable {G : GT} {d : Nat} {mem : Mem} {J : Int} {Q : Option AV → Mem → Prop}
theorem ct_whyNot (hd : 3 ≤ d) {S : NS} (hS : mem 72 = S) (hV : VN S) {i j : Int} (hi : inr i) (hj : inr j) (hq : Q (some (vI (wnS S i j))) mem) : C_X11_whyNot G d [vR 71, vI i, vI j] mem Q := by
  have v0 := hV.1
  have v1 := hV.2.1
  unfold wnS at hq
  refine B_X11_whyNot (by omega) (ct_areMachines (by omega) (by rw [hS]; omega) hi hj ⟨_, rfl, bz_inr _, fun z => ?_, fun z => ?_⟩)
  · have c := bz_n0.mp z
    rw [hS] at c
    rw [if_neg (fun x => x c)] at hq
    rw [hS]
    refine ⟨⟨hi, hj⟩, fun y => ?_, fun y => ⟨by omega, fun x => ⟨fun w => ?_, fun w => ?_⟩, fun x => ?_⟩⟩
    · rw [if_pos (Or.inl y)] at hq; exact hq
    · rw [if_neg (fun p => p.elim y x), if_pos (by omega)] at hq; exact hq
    · rw [if_neg (fun p => p.elim y x), if_neg (by omega)] at hq; exact hq
    · rw [if_pos (Or.inr (by omega))] at hq; exact hq
  · have c : ¬ ((0 ≤ i ∧ i < S 0) ∧ (0 ≤ j ∧ j < S 0)) := fun c => z (bz_n0.mpr (by rw [hS]; exact c))
    rw [if_pos c] at hq; exact hq
theorem op_say (hd : 40 ≤ d) (h : Rl J mem) {a b c : Int} (ha : inr a) (hb : inr b) (hc : inr c) : C_X10_say G d [vR 0, vI a, vI b, vI c] mem (fun r m1 => ∃ z : Int, r = some (vI z) ∧ C_X11_say G d [vR 71, vI a, vI b, vI c] m1 (An J z)) := by
  have v0 := h.1.1.1
  have v1 := h.1.1.2.1
  have r0 := h.1.2.1.1.1
  have r6 := h.1.2.1.1.2.1
  have ow := obj_wn h.1.1 h.1.2.1 a b
  have wr := wn_r (mem 72) a b
  refine B_X10_say (by omega) ?_
  rw [ow, r0, r6]
  refine ⟨⟨ha, hb⟩, by omega, fun z => ⟨hc, ?_, fun m1 e1 => ?_⟩, fun z => ⟨by omega, fun m1 e1 => ?_⟩⟩
  · have := wn_0.mp z; omega
  · have k := wn_0.mp z
    have g72 : m1 72 = mem 72 := funext (fun z => by rw [e1, f_addSy1 (by omega)])
    refine ⟨_, rfl, B_X11_say (by omega) (ct_whyNot (by omega) g72 h.1.1 ha hb ⟨_, rfl, by omega, fun _ => ⟨⟨ha, hb, hc⟩, ?_, fun m2 e2 => ?_⟩, fun y => absurd z y⟩)⟩
    · rw [g72]; omega
    · have k72 : m2 72 = aS (mem 72) a b c := by rw [e2, ssM_72, g72]
      refine an_mk (Rl_new h ?_ (fun x y p q _ => by rw [e2, ss_f q, e1, f_addSy1 p])) (by rw [k72, aS_1]; omega)
      rw [k72]
      refine ⟨aS_VN h.1.1 k.2.2.2 k.1.1 k.1.2 k.2.1, ?_, fun y => ?_, ?_⟩
      · have := HR_say h.1.2.1 h.1.1 a b c k.2.2.2
        rw [← e1] at this
        exact this.congr (fun x y p _ => by rw [e2, ss_f (by omega)])
      · exfalso
        rw [e2, ss_f (by omega), e1] at y
        unfold addSyM at y
        rw [upM_same] at y
        omega
      · rw [e2, ss_f (by omega), e1, f_addSy1 (by omega)]; exact h.1.2.2.2
  · refine ⟨_, rfl, B_X11_say (by omega) (ct_whyNot (by omega) (ref72 e1) h.1.1 ha hb ⟨_, rfl, by omega, fun y => absurd y z, fun _ => ⟨by omega, fun m2 e2 => an_ref h (by omega) (by omega) e1 e2⟩⟩)⟩
theorem op_image (hd : 40 ≤ d) (h : Rl J mem) (hJ : J < 1000000) : C_X10_image G d [vR 0] mem (fun r m1 => ∃ z : Int, r = some (vI z) ∧ C_X11_image G d [vR 71] m1 (An (J + 1) z)) := by
  obtain ⟨⟨a1, a2, a3, a4⟩, ⟨i1, i2, i3, i4⟩, ee, ⟨v1, v2, v3, v4⟩, s⟩ := h
  refine B_X10_image (by omega) (ct_copyFrom (by decide) (by decide) (by decide) (by omega) (a2.tape a1) (fun m1 c1 => ⟨rfl, ?_⟩))
  have R11 := HR_copy a2 c1
  obtain ⟨c1_, c2, c3, c4, c5, c6, c7, c8, c9, c10, c11, c12, c13, c14, c15, c16, c17, f1⟩ := c1
  rw [f1 0 11 (by omega), i1]
  refine ⟨by omega, fun m2 e2 => ⟨_, rfl, B_X11_image (by omega) (fun m3 e3 => ?_)⟩⟩
  have f2 : ∀ (a : Nat) (b : Int), ¬ (11 ≤ a ∧ a ≤ 20) → ¬ (a = 0 ∧ b = 11) → m2 a b = mem a b := fun a b x y => by rw [e2, upM_ne (by omega), f1 a b (by omega)]
  have f3 : ∀ (a : Nat) (b : Int), ¬ (a = 73 ∧ 0 ≤ b ∧ b < 553) → m3 a b = m2 a b := fun a b x => by rw [e3]; unfold cpM; rw [if_neg (by omega)]
  rw [f3 71 3 (by omega), f2 71 3 (by omega) (by omega)]
  refine ⟨by omega, fun m4 e4 => ?_⟩
  have g : ∀ (a : Nat) (b : Int), ¬ (11 ≤ a ∧ a ≤ 20) → ¬ (a = 0 ∧ b = 11) → a ≠ 73 → ¬ (a = 71 ∧ b = 3) → m4 a b = mem a b := fun a b x y z w => by rw [e4, upM_ne w, f3 a b (by omega), f2 a b x y]
  have e72 : m4 72 = mem 72 := funext (fun z => g 72 z (by omega) (by omega) (by omega) (by omega))
  have e73 : ∀ x : Int, 0 ≤ x → x < 553 → m4 73 x = mem 72 x := fun x p q => by
    rw [e4, upM_ne (by omega), e3]
    unfold cpM
    rw [if_pos ⟨rfl, p, by omega⟩, f2 72 _ (by omega) (by omega), show 0 + (x - 0) = x by omega]
  have e713 : m4 71 3 = mem 71 3 + 1 := by rw [e4, upM_same]
  refine an_mk ⟨?_, ⟨?_, ?_, ?_, fun _ => ⟨VN_c a1 e73, ?_⟩⟩, fun k h0 h1 => ?_, ⟨?_, ?_, ?_, fun z h0 h1 => ?_⟩, fun t ht => ?_⟩ (by rw [e713, e2, upM_same])
  · rw [e72]
    exact ⟨a1, a2.congr (fun c b hc _ => g (1 + c) b (by omega) (by omega) (by omega) (by omega)), fun z => FT_f (a3 (by rw [← g 1 16 (by omega) (by omega) (by omega) (by omega)]; exact z)) (fun a b x => g a b (by omega) (by omega) (by omega) (by omega)), by rw [g 44 0 (by omega) (by omega) (by omega) (by omega)]; exact a4⟩
  · rw [e713, e4, upM_ne (by omega), f3 0 11 (by omega), e2, upM_same]
  · omega
  · omega
  · exact HR_c (R11.congr (fun c b hc _ => by rw [e4, upM_ne (by omega), f3 (11 + c) b (by omega), e2, upM_ne (by omega)])) e73
  · rw [g 62 k (by omega) (by omega) (by omega) (by omega), g 75 k (by omega) (by omega) (by omega) (by omega)]; exact ee k h0 h1
  · rw [g 59 1 (by omega) (by omega) (by omega) (by omega), g 71 21 (by omega) (by omega) (by omega) (by omega)]; exact v1
  · rw [g 59 1 (by omega) (by omega) (by omega) (by omega)]; exact v2
  · rw [g 59 1 (by omega) (by omega) (by omega) (by omega)]; exact v3
  · rw [g 60 z (by omega) (by omega) (by omega) (by omega), g 86 z (by omega) (by omega) (by omega) (by omega)]; exact v4 z h0 h1
  · obtain ⟨s1, s2, s3, s4⟩ := s t ht
    rw [g (63 + 2 * t) 1 (by omega) (by omega) (by omega) (by omega), g (63 + 2 * t) 2 (by omega) (by omega) (by omega) (by omega), g 87 t (by omega) (by omega) (by omega) (by omega), g 88 t (by omega) (by omega) (by omega) (by omega)]
    refine ⟨s1, s2, s3, fun k h0 h1 => ?_⟩
    rw [g (64 + 2 * t) k (by omega) (by omega) (by omega) (by omega), g 89 _ (by omega) (by omega) (by omega) (by omega)]; exact s4 k h0 h1
theorem op_restore (hd : 40 ≤ d) (h : Rl J mem) : C_X10_restore G d [vR 0] mem (fun r m1 => ∃ z : Int, r = some (vI z) ∧ C_X11_restore G d [vR 71] m1 (An J z)) := by
  have i1 := h.2.1.1
  have i4 := h.2.1.2.2.2
  refine B_X10_restore (by omega) ?_
  rw [i1]
  refine ⟨fun z => ?_, fun z m1 e1 => ⟨_, rfl, B_X11_restore (by omega) ?_⟩⟩
  · obtain ⟨V3, R3⟩ := i4 z
    refine ct_copyFrom (by decide) (by decide) (by decide) (by omega) (R3.tape V3) (fun m1 c1 => ⟨rfl, _, rfl, B_X11_restore (by omega) ?_⟩)
    have R1 := HR_copy R3 c1
    obtain ⟨c1_, c2, c3, c4, c5, c6, c7, c8, c9, c10, c11, c12, c13, c14, c15, c16, c17, f1⟩ := c1
    rw [f1 71 3 (by omega)]
    refine ⟨fun _ m2 e2 => ?_, fun y => absurd z y⟩
    have f2 : ∀ (a : Nat) (b : Int), ¬ (a = 72 ∧ 0 ≤ b ∧ b < 553) → m2 a b = m1 a b := fun a b x => by rw [e2]; unfold cpM; rw [if_neg (by omega)]
    have e72 : ∀ x : Int, 0 ≤ x → x < 553 → m2 72 x = mem 73 x := fun x p q => by
      rw [e2]
      unfold cpM
      rw [if_pos ⟨rfl, p, by omega⟩, f1 73 _ (by omega), show 0 + (x - 0) = x by omega]
    refine an_mk (Rl_new h ⟨VN_c V3 e72, HR_c (R1.congr (fun c b hc _ => f2 (1 + c) b (by omega))) e72, fun y => ?_, ?_⟩ (fun x y p q r => by rw [f2 x y (by omega), f1 x y (by omega)])) ?_
    · rw [f2 1 16 (by omega), c17] at y; omega
    · rw [f2 44 0 (by omega), f1 44 0 (by omega)]; exact h.1.2.2.2
    · rw [e72 0 (by omega) (by omega), R1.1.1]
  · rw [show m1 71 3 = mem 71 3 by rw [e1, ref_f (by omega)]]
    exact ⟨fun y => absurd y z, fun _ m2 e2 => an_ref h (by decide) (by decide) e1 e2⟩
theorem as_32 (hd : 2 ≤ d) {a o k : Int} (ho : 0 ≤ o ∧ o ≤ 5) (hk : 0 ≤ k ∧ k ≤ 5) (ha : 0 ≤ a ∧ a < 12) (hq1 : isUnd k o → Q (some (vI (mem 72 (5 + 3 * a + 1)))) mem) (hq2 : ¬ isUnd k o → ∀ m : Mem, m = fndM mem (-1000005) → Q (some (vI (-1000005))) m) : E_X11_as G d 32 [(0, vR 71), (1, vI a), (2, vI o), (3, vI k)] [] mem Q := by
  have neg : (∀ m : Mem, m = fndM mem (-1000005) → Q (some (vI (-1000005))) m) → E_X11_as G d 32 [(0, vR 71), (1, vI a), (2, vI o), (3, vI (-1))] [] mem Q := fun q => B_X11_as_32 hd ⟨by decide, fun _ => ⟨fun z => absurd z (by decide), fun _ => q⟩, fun z => absurd (by decide) z⟩
  have at_ : ∀ k : Int, 0 ≤ k → k ≤ 5 → (k = o → Q (some (vI (mem 72 (5 + 3 * a + 1)))) mem) → (k ≠ o → E_X11_as G d 32 [(0, vR 71), (1, vI a), (2, vI o), (3, vI (abv k))] [] mem Q) → E_X11_as G d 32 [(0, vR 71), (1, vI a), (2, vI o), (3, vI k)] [] mem Q := fun k k0 k1 p q => B_X11_as_32 hd ⟨by omega, fun z => by omega, fun _ => ⟨by omega, fun z => ⟨fun _ => ⟨by omega, p z⟩, fun z => by omega⟩, fun z => ct_above k0 (by omega) ⟨_, rfl, q z⟩⟩⟩
  unfold isUnd at hq1 hq2
  have z0 : (o = 0 → Q (some (vI (mem 72 (5 + 3 * a + 1)))) mem) → (o ≠ 0 → ∀ m : Mem, m = fndM mem (-1000005) → Q (some (vI (-1000005))) m) → E_X11_as G d 32 [(0, vR 71), (1, vI a), (2, vI o), (3, vI 0)] [] mem Q := fun p q => at_ 0 (by decide) (by decide) (fun e => p e.symm) (fun e => neg (q (fun x => e x.symm)))
  rcases int6 hk.1 (by omega) with rfl | rfl | rfl | rfl | rfl | rfl
  · exact z0 (fun e => hq1 (by omega)) (fun e => hq2 (by omega))
  · exact at_ 1 (by decide) (by decide) (fun e => hq1 (by omega)) (fun e => z0 (fun e => hq1 (by omega)) (fun e => hq2 (by omega)))
  · exact at_ 2 (by decide) (by decide) (fun e => hq1 (by omega)) (fun e => z0 (fun e => hq1 (by omega)) (fun e => hq2 (by omega)))
  · exact at_ 3 (by decide) (by decide) (fun e => hq1 (by omega)) (fun e => z0 (fun e => hq1 (by omega)) (fun e => hq2 (by omega)))
  · exact at_ 4 (by decide) (by decide) (fun e => hq1 (by omega)) (fun e => at_ 2 (by decide) (by decide) (fun e => hq1 (by omega)) (fun e => z0 (fun e => hq1 (by omega)) (fun e => hq2 (by omega))))
  · exact at_ 5 (by decide) (by decide) (fun e => hq1 (by omega)) (fun e => at_ 3 (by decide) (by decide) (fun e => hq1 (by omega)) (fun e => z0 (fun e => hq1 (by omega)) (fun e => hq2 (by omega))))
theorem op_as (hd : 40 ≤ d) (h : Rl J mem) {a b : Int} (ha : inr a) (hb : inr b) : C_X10_as G d [vR 0, vI a, vI b] mem (fun r m1 => ∃ z : Int, r = some (vI z) ∧ C_X11_as G d [vR 71, vI a, vI b] m1 (An J z)) := by
  have v0 := h.1.1.1
  have r0 := h.1.2.1.1.1
  by_cases k : (0 ≤ a ∧ a < mem 72 0) ∧ (0 ≤ b ∧ b ≤ 5)
  · have kd := h.1.1.kind (i := a) (by omega) (by omega)
    have rr := h.1.2.1.2.1 a (by omega) (by omega)
    have r2 : mem 2 a = mem 72 (5 + 3 * a) := rr.1
    have r3 : mem 3 a = mem 72 (5 + 3 * a + 1) := rr.2.1
    refine B_X10_as (by omega) ?_
    rw [r0, r2, r3]
    refine ⟨ha, fun z => absurd k.1 z, fun _ => ⟨hb, fun _ => ⟨by omega, by omega, fun u => ?_, fun u m1 e1 => ?_⟩, fun z => by omega⟩⟩
    · refine ⟨_, rfl, B_X11_as (by omega) ⟨ha, by omega, fun z => absurd k.1 z, fun _ => ⟨hb, fun _ => ⟨by omega, ?_⟩, fun z => absurd k.2 z⟩⟩⟩
      rw [Int.add_zero]
      exact as_32 (by omega) k.2 kd (by omega) (fun _ => an_mk h rfl) (fun z => absurd u z)
    · refine ⟨_, rfl, B_X11_as (by omega) ?_⟩
      rw [ref72 e1]
      refine ⟨ha, by omega, fun z => absurd k.1 z, fun _ => ⟨hb, fun _ => ⟨by omega, ?_⟩, fun z => absurd k.2 z⟩⟩
      rw [Int.add_zero]
      exact as_32 (by omega) k.2 kd (by omega) (fun z => absurd z u) (fun _ m2 e2 => an_ref h (by decide) (by decide) e1 e2)
  · by_cases c : 0 ≤ a ∧ a < mem 72 0
    · refine B_X10_as (by omega) ?_
      rw [r0]
      refine ⟨ha, fun z => absurd c z, fun _ => ⟨hb, fun z => by omega, fun _ m1 e1 => ⟨_, rfl, B_X11_as (by omega) ?_⟩⟩⟩
      rw [ref72 e1]
      exact ⟨ha, by omega, fun z => absurd c z, fun _ => ⟨hb, fun z => by omega, fun _ m2 e2 => an_ref h (by decide) (by decide) e1 e2⟩⟩
    · refine B_X10_as (by omega) ?_
      rw [r0]
      refine ⟨ha, fun _ m1 e1 => ⟨_, rfl, B_X11_as (by omega) ?_⟩, fun z => absurd z c⟩
      rw [ref72 e1]
      exact ⟨ha, by omega, fun _ m2 e2 => an_ref h (by decide) (by decide) e1 e2, fun z => absurd z c⟩
theorem op_mended (hd : 40 ≤ d) (h : Rl J mem) {a : Int} (ha : inr a) : C_X10_mended G d [vR 0, vI a] mem (fun r m1 => ∃ z : Int, r = some (vI z) ∧ C_X11_mended G d [vR 71, vI a] m1 (An J z)) := by
  have v0 := h.1.1.1
  have v1 := h.1.1.2.1
  have r0 := h.1.2.1.1.1
  obtain ⟨n, hn⟩ : ∃ n : Nat, mem 72 1 = n := ⟨(mem 72 1).toNat, by omega⟩
  refine B_X10_mended (by omega) ?_
  rw [r0]
  refine ⟨ha, fun k => ct_silenceAll (by decide) h.1.2.1 h.1.1 (by omega) ha hn (fun m1 R1 f1 c1 => ⟨_, rfl, _, rfl, ?_⟩), fun k m1 e1 => ⟨_, rfl, B_X11_mended (by omega) ?_⟩⟩
  · have g72 : m1 72 = mem 72 := funext (fun z => f1 72 z (by omega))
    generalize hS : mem 72 = S at *
    have hVS : VN S := by rw [← hS]; exact h.1.1
    have hFS : mem 1 16 = 0 → FT S mem := by rw [← hS]; exact h.1.2.2.1
    refine B_X11_mended (by omega) ?_
    rw [g72]
    refine ⟨ha, by omega, fun _ => ?_, fun z => absurd k z⟩
    refine up_loop (n := n) (E := fun i m => E_X11_mended G d 20 [(0, vR 71), (1, vI a), (2, vI (sm i (fun s => bI (cnt S s && inv S a s)))), (3, vI i)] [] m (An J (sm n (fun s => bI (cnt S s && inv S a s))))) (I := fun i m => m 72 = mdk S a i ∧ ∀ (x : Nat) (y : Int), x ≠ 72 → m x y = m1 x y) ?_ ?_ (i := 0) (by omega) ⟨g72, fun _ _ _ => rfl⟩
    · intro m2 ⟨t2, f2⟩
      refine B_X11_mended_20 (by omega) ?_
      rw [t2, mdk_o (fun j hj => by omega), hn]
      refine ⟨by omega, fun _ => an_mk (Rl_new h ?_ (fun x y p q _ => by rw [f2 x y q, f1 x y (by omega)])) rfl, fun z => absurd (by omega) z⟩
      rw [t2]
      refine ⟨mdk_VN hVS (by omega), R1.congr (fun c b hc _ => f2 (1 + c) b (by omega)), fun z => ?_, by rw [f2 44 0 (by omega), f1 44 0 (by omega)]; exact h.1.2.2.2⟩
      rw [f2 1 16 (by omega)] at z
      rcases c1 with c1 | ⟨c1, c2⟩
      · omega
      · rw [c2]
        rw [c1] at z f2
        exact FT_f (hFS z) (fun x y p => f2 x y (by omega))
    · intro i m2 hi ⟨t2, f2⟩ hE
      have q3 : m2 72 (185 + 4 * (i : Int) + 3) = S (185 + 4 * (i : Int) + 3) := by rw [t2, mdk_o (fun j hj => by omega)]
      have q0 : m2 72 (185 + 4 * (i : Int) + 0) = S (185 + 4 * (i : Int)) := by rw [t2, Int.add_zero, mdk_o (fun j hj => by omega)]
      have q1 : m2 72 (185 + 4 * (i : Int) + 1) = S (185 + 4 * (i : Int) + 1) := by rw [t2, mdk_o (fun j hj => by omega)]
      have qn : m2 72 1 = n := by rw [t2, mdk_o (fun j hj => by omega), hn]
      have ms : mdk S a (i + 1) = if cnt S i && inv S a i then sU (mdk S a i) (185 + 4 * i + 3) 0 else mdk S a i := rfl
      have no : (cnt S i && inv S a i) = false → E_X11_mended G d 20 [(0, vR 71), (1, vI a), (2, vI (sm i (fun s => bI (cnt S s && inv S a s)))), (3, vI ((i : Int) + 1))] [] m2 (An J (sm n (fun s => bI (cnt S s && inv S a s)))) := fun e => by
        have := hE m2 ⟨by rw [ms, e, if_neg (by decide)]; exact t2, f2⟩
        rw [sm_s, e, bI_f, Int.add_zero] at this
        exact this
      have yes : (cnt S i && inv S a i) = true → ∀ m3 : Mem, m3 = upM m2 72 (185 + 4 * (i : Int) + 3) 0 → E_X11_mended G d 20 [(0, vR 71), (1, vI a), (2, vI (sm i (fun s => bI (cnt S s && inv S a s)) + 1)), (3, vI ((i : Int) + 1))] [] m3 (An J (sm n (fun s => bI (cnt S s && inv S a s)))) := fun e m3 e3 => by
        have := hE m3 ⟨by rw [ms, e, if_pos rfl, e3, upM_self, t2], fun x y p => by rw [e3, upM_ne (by omega)]; exact f2 x y p⟩
        rw [sm_s, e, bI_t] at this
        exact this
      refine B_X11_mended_20 (by omega) ?_
      rw [qn, q3, q0, q1]
      unfold cnt inv at no yes
      refine ⟨by omega, fun z => by omega, fun _ => ⟨by omega, fun z => no (by rw [decide_eq_false z]; rfl), fun z => ⟨by omega, ha, fun y => ⟨by omega, yes (by rw [decide_eq_true z, decide_eq_true y]; rfl)⟩, fun y => ⟨by omega, fun x => no (by rw [decide_eq_false y, decide_eq_false x, Bool.or_false, Bool.and_false]), fun x => ⟨by omega, yes (by rw [decide_eq_true z, decide_eq_true (show S (185 + 4 * (i : Int) + 1) = a by omega), Bool.or_true]; rfl)⟩⟩⟩⟩⟩
  · rw [ref72 e1]
    exact ⟨ha, by omega, fun z => absurd z k, fun _ m2 e2 => an_ref h (by decide) (by decide) e1 e2⟩
end OP
