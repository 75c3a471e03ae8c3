/-! ===== the reader: items ===== -/
def dF (mem m : Mem) : Prop := ∀ (a : Nat) (b : Int), ¬ (21 ≤ a ∧ a ≤ 31) → m a b = mem a b
theorem dF_r (m : Mem) : dF m m := fun _ _ _ => rfl
theorem dF_t {a b c : Mem} (h : dF a b) (h' : dF b c) : dF a c := fun x y z => by rw [h' x y z, h x y z]
theorem r31.d {a b : Mem} (h : r31 a b) : dF a b := fun x y z => h x y (by omega)
theorem f_addMc {mem : Mem} {k p c : Int} {a : Nat} {b : Int} (h : ¬ (21 ≤ a ∧ a ≤ 30)) : addMcM mem 21 k p c a b = mem a b := by
  unfold addMcM
  rw [upM_ne (by omega), upM_ne (by omega), upM_ne (by omega), upM_ne (by omega), upM_ne (by omega)]
theorem f_setTie {mem : Mem} {k p c : Int} {a : Nat} {b : Int} (h : ¬ (21 ≤ a ∧ a ≤ 30)) : setTieM mem 21 k p c a b = mem a b := by
  unfold setTieM
  rw [upM_ne (by omega), upM_ne (by omega)]
theorem f_addSy {mem : Mem} {k p c : Int} {a : Nat} {b : Int} (h : ¬ (21 ≤ a ∧ a ≤ 30)) : addSyM mem 21 k p c a b = mem a b := by
  unfold addSyM
  rw [upM_ne (by omega), upM_ne (by omega), upM_ne (by omega), upM_ne (by omega), upM_ne (by omega), upM_ne (by omega)]
def IR (S : NS) (r : Int × NS × Nat) (m : Mem) : Prop := (r.1 = -1 → RT r.2.1 r.2.2 m) ∧ (r.1 ≠ -1 → WR S r.1 m)
theorem IR_w {S : NS} {p : Nat} {m : Mem} (h : WR S (sk S p) m) : IR S (fS S p) m := ⟨fun z => absurd z (show ¬ ((sk S p : Nat) : Int) = -1 by omega), fun _ => h⟩
theorem IR_r {S S' : NS} {p : Nat} {m : Mem} (h : RT S' p m) : IR S (-1, S', p) m := ⟨fun _ => h, fun z => absurd rfl z⟩
theorem sk_n1 (S : NS) (p : Nat) : ((sk S p : Nat) : Int) ≠ -1 := by omega
section RD
variable {G : GT} {d : Nat} {mem : Mem} {Q : Option AV → Mem → Prop}
theorem ct_readMachine (hd : 7 ≤ d) {S : NS} (hV : VN S) {p : Nat} (hp : p ≤ tl S) (hT : RT S p mem) (hn : S 0 < 12) (hq : ∀ m' : Mem, IR S (iMk S p) m' → dF mem m' → Q none m') : C_X4_readMachine G d [vR 31] mem Q := by
  have t8 := tl_VN hV
  have n1 := nx_le hp
  have n2 := nx_le n1.2.1
  have n3 := nx_le n2.2.1
  have kr := kdf_r S p 6
  have v0 := hV.1
  -- after a fault
  have w2 : ∀ (q : Nat) (m : Mem) (z : Int), WR S (sk S q) m → dF mem m → iMk S p = fS S q → (∃ z9 : Int, some (vI z) = some (vI z9) ∧ ((¬ (m 31 4 = -1) → Q none m) ∧ ((m 31 4 = -1) → ((inr 0 ∧ inr 0 ∧ inr z9) ∧ ((0 ≤ m 21 0 ∧ m 21 0 < 12) ∧ (∀ m14 : Mem, m14 = addMcM m 21 0 0 z9 → Q none m14)))))) := fun q m z hW f e => ⟨z, rfl, fun _ => hq m (by rw [e]; exact IR_w hW) f, fun y => absurd (by rw [← hW.2.1]; exact y) (sk_n1 S q)⟩
  refine B_X4_readMachine (by omega) (ct_readKind (by omega) hV hp hT (fun hk m1 a1 f1 => ⟨_, rfl, ?_⟩) (fun hk m1 a1 f1 => ⟨_, rfl, ?_⟩))
  · refine ct_readNumber (by omega) hV n1.2.1 a1.rt (by omega) (by omega) (fun c1 c2 m2 a2 f2 => ⟨_, rfl, ?_⟩) (fun c m2 z hz a2 f2 => ⟨_, rfl, ?_⟩)
    · refine ct_readNumber (by omega) hV n2.2.1 a2.rt (by omega) (by omega) (fun c3 c4 m3 a3 f3 => ⟨_, rfl, ?_⟩) (fun c m3 z hz a3 f3 => ⟨_, rfl, ?_⟩)
      · have r1 := nv_r n1.2.1
        have r2 := nv_r n2.2.1
        refine ⟨fun z => absurd a3.2.1 z, fun _ => ⟨⟨by unfold kd at *; omega, by omega, by omega⟩, by rw [a3.1.1.1]; omega, fun m4 e4 => hq m4 ?_ (fun a b x => ?_)⟩⟩
        · have e : iMk S p = (-1, aM S (kd S p) (nv S (nx S p)) (nv S (nx S (nx S p))), nx S (nx S (nx S p))) := by
            unfold iMk
            rw [iF_t hk, iF_t ⟨c1, c2⟩, iF_t ⟨c3, c4⟩]
          rw [e]
          refine IR_r ⟨?_, ?_, ?_⟩
          · rw [e4]; exact aM_HR a3.1 hV hn _ _ _
          · rw [e4, f_addMc (by omega)]; exact a3.2.1
          · rw [e4, f_addMc (by omega)]; exact a3.2.2.2.1
        · rw [e4, f_addMc (by omega), f3 a b (by omega), f2 a b (by omega), f1 a b (by omega)]
      · refine ⟨fun _ => hq m3 ?_ (dF_t f1.d (dF_t f2.d f3.d)), fun y => absurd (by rw [← a3.2.1]; exact y) (sk_n1 S _)⟩
        have e : iMk S p = fS S (nx S (nx S p)) := by unfold iMk; rw [iF_t hk, iF_t ⟨c1, c2⟩, iF_f c]
        rw [e]; exact IR_w a3
    · refine ct_readNumber_w (by omega) hV (sk_n1 S _) a2 (by decide) (by decide) (fun z2 hz2 => ⟨_, rfl, fun _ => hq m2 ?_ (dF_t f1.d f2.d), fun y => absurd (by rw [← a2.2.1]; exact y) (sk_n1 S _)⟩)
      have e : iMk S p = fS S (nx S p) := by unfold iMk; rw [iF_t hk, iF_f c]
      rw [e]; exact IR_w a2
  · refine ct_readNumber_w (by omega) hV (sk_n1 S _) a1 (by decide) (by decide) (fun z2 hz2 => ⟨_, rfl, ct_readNumber_w (by omega) hV (sk_n1 S _) a1 (by decide) (by decide) (fun z3 hz3 => ⟨_, rfl, fun _ => hq m1 ?_ f1.d, fun y => absurd (by rw [← a1.2.1]; exact y) (sk_n1 S _)⟩)⟩)
    have e : iMk S p = fS S p := by unfold iMk; rw [iF_f hk]
    rw [e]; exact IR_w a1
theorem ct_readTie (hd : 7 ≤ d) {S : NS} (hV : VN S) {p : Nat} (hp : p ≤ tl S) (hT : RT S p mem) (hq : ∀ m' : Mem, IR S (iTie S p) m' → dF mem m' → Q none m') : C_X4_readTie G d [vR 31] mem Q := by
  have t8 := tl_VN hV
  have n1 := nx_le hp
  have n2 := nx_le n1.2.1
  have n3 := nx_le n2.2.1
  have v0 := hV.1
  refine B_X4_readTie (by omega) ?_
  rw [hT.1.1.1]
  refine ct_readNumber (by omega) hV hp hT (by omega) (by omega) (fun c1 c2 m1 a1 f1 => ⟨_, rfl, ?_⟩) (fun c m1 z hz a1 f1 => ⟨_, rfl, ?_⟩)
  · rw [a1.1.1.1]
    have r0 := nv_r hp
    refine ct_readNumber (by omega) hV n1.2.1 a1.rt (by omega) (by omega) (fun c3 c4 m2 a2 f2 => ⟨_, rfl, ?_⟩) (fun c m2 z hz a2 f2 => ⟨_, rfl, ?_⟩)
    · have r1 := nv_r n1.2.1
      refine ⟨fun z => absurd a2.2.1 z, fun _ => ⟨by omega, fun ne => ?_, fun ne m3 e3 => ?_⟩⟩
      · refine ct_readNumber (by omega) hV n2.2.1 a2.rt (by omega) (by omega) (fun c5 c6 m3 a3 f3 => ⟨_, rfl, ?_⟩) (fun c m3 z hz a3 f3 => ⟨_, rfl, ?_⟩)
        · refine ⟨fun z => absurd a3.2.1 z, fun _ => ⟨by omega, by omega, fun m4 e4 => hq m4 ?_ (fun a b x => ?_)⟩⟩
          · have e : iTie S p = (-1, sU S (41 + 12 * nv S p + nv S (nx S p)) (nv S (nx S (nx S p))), nx S (nx S (nx S p))) := by
              unfold iTie
              rw [iF_t ⟨c1, c2⟩, iF_t ⟨⟨c3, c4⟩, ne⟩, iF_t ⟨c5, c6⟩]
            rw [e]
            obtain ⟨x, hx⟩ : ∃ x : Nat, nv S p = x := ⟨(nv S p).toNat, by omega⟩
            obtain ⟨y, hy⟩ : ∃ y : Nat, nv S (nx S p) = y := ⟨(nv S (nx S p)).toNat, by omega⟩
            rw [hx, hy] at e4 ⊢
            refine IR_r ⟨?_, ?_, ?_⟩
            · rw [e4]; exact HR_tie a3.1 hV (by omega) (by omega) (by omega)
            · rw [e4, f_setTie (by omega)]; exact a3.2.1
            · rw [e4, f_setTie (by omega)]; exact a3.2.2.2.1
          · rw [e4, f_setTie (by omega), f3 a b (by omega), f2 a b (by omega), f1 a b (by omega)]
        · refine ⟨fun _ => hq m3 ?_ (dF_t f1.d (dF_t f2.d f3.d)), fun y => absurd (by rw [← a3.2.1]; exact y) (sk_n1 S _)⟩
          have e : iTie S p = fS S (nx S (nx S p)) := by unfold iTie; rw [iF_t ⟨c1, c2⟩, iF_t ⟨⟨c3, c4⟩, ne⟩, iF_f c]
          rw [e]; exact IR_w a3
      · have w := a2.fl n1.2.1
        rw [← e3] at w
        refine ct_readNumber_w (by omega) hV (sk_n1 S _) w.1 (by decide) (by decide) (fun z2 hz2 => ⟨_, rfl, fun _ => hq m3 ?_ (dF_t f1.d (dF_t f2.d w.2.d)), fun y => absurd (by rw [← w.1.2.1]; exact y) (sk_n1 S _)⟩)
        have e : iTie S p = fS S (nx S p) := by unfold iTie; rw [iF_t ⟨c1, c2⟩, iF_f (fun x => ne x.2)]
        rw [e]; exact IR_w w.1
    · refine ⟨fun _ => ?_, fun y => absurd (by rw [← a2.2.1]; exact y) (sk_n1 S _)⟩
      refine ct_readNumber_w (by omega) hV (sk_n1 S _) a2 (by decide) (by decide) (fun z2 hz2 => ⟨_, rfl, fun _ => hq m2 ?_ (dF_t f1.d f2.d), fun y => absurd (by rw [← a2.2.1]; exact y) (sk_n1 S _)⟩)
      have e : iTie S p = fS S (nx S p) := by unfold iTie; rw [iF_t ⟨c1, c2⟩, iF_f (fun x => c x.1)]
      rw [e]; exact IR_w a2
  · rw [a1.1.1.1]
    refine ct_readNumber_w (by omega) hV (sk_n1 S _) a1 (by decide) (by omega) (fun z2 hz2 => ⟨_, rfl, fun _ => ?_, fun y => absurd (by rw [← a1.2.1]; exact y) (sk_n1 S _)⟩)
    refine ct_readNumber_w (by omega) hV (sk_n1 S _) a1 (by decide) (by decide) (fun z2 hz2 => ⟨_, rfl, fun _ => hq m1 ?_ f1.d, fun y => absurd (by rw [← a1.2.1]; exact y) (sk_n1 S _)⟩)
    have e : iTie S p = fS S p := by unfold iTie; rw [iF_f c]
    rw [e]; exact IR_w a1
/-- the end of a saying once there is a fault -/
theorem ct_readMost (hd : 7 ≤ d) {S : NS} (hV : VN S) {p : Nat} (hp : p ≤ tl S) (hT : RT S p mem) (hq : ∀ m' : Mem, IR S (iMost S p) m' → dF mem m' → Q none m') : C_X4_readMost G d [vR 31] mem Q := by
  refine B_X4_readMost (by omega) ?_
  refine ct_readNumber (by omega) hV hp hT (by omega) (by omega) (fun c1 c2 m1 a1 f1 => ⟨_, rfl, ?_⟩) (fun c m1 z hz a1 f1 => ⟨_, rfl, ?_⟩)
  · refine ⟨fun z => absurd a1.2.1 z, fun _ => ⟨by omega, fun m4 e4 => hq m4 ?_ (fun a b x => by rw [e4, upM_ne (by omega), upM_ne (by omega), f1 a b (by omega)])⟩⟩
    have e : iMost S p = (-1, sU S 2 (nv S p), nx S p) := by unfold iMost; rw [iF_t ⟨c1, c2⟩]
    rw [e]
    refine IR_r ⟨?_, ?_, ?_⟩
    · rw [e4]; exact HR_most a1.1 hV _
    · rw [e4, upM_ne (by omega), upM_ne (by omega)]; exact a1.2.1
    · rw [e4, upM_ne (by omega), upM_ne (by omega)]; exact a1.2.2.2.1
  · refine ⟨fun _ => hq m1 ?_ f1.d, fun y => absurd (by rw [← a1.2.1]; exact y) (sk_n1 S _)⟩
    have e : iMost S p = fS S p := by unfold iMost; rw [iF_f c]
    rw [e]; exact IR_w a1
theorem obj0 {S : NS} (hV : VN S) (hR : HR 21 S mem) {i j : Int} (hi : 0 ≤ i ∧ i ≤ S 0 - 1) (hj : 0 ≤ j ∧ j ≤ S 0 - 1) (h1 : S 1 < 60) : objS mem 21 i j = 0 ↔ (i ≠ j ∧ S (41 + 12 * i + j) ≠ 0) := by
  have v0 := hV.1
  obtain ⟨x, rfl⟩ : ∃ x : Nat, i = x := ⟨i.toNat, by omega⟩
  obtain ⟨y, rfl⟩ : ∃ y : Nat, j = y := ⟨j.toNat, by omega⟩
  have tv := hV.2.2.2.2.2.2.2.1 x y (by omega) (by omega) (by omega) (by omega)
  have tb := hR.tied (i := x) (j := y) (by omega) (by omega)
  unfold objS
  have hb : bI (decide (0 < S (41 + 12 * (x : Int) + y))) = 0 ↔ S (41 + 12 * (x : Int) + y) = 0 := by
    rw [bI_eq0, decide_eq_false_iff_not]; omega
  rw [hR.1.1, hR.1.2.1, tb, if_neg (by omega)]
  split
  · omega
  · omega
theorem ct_readSaying (hd : 7 ≤ d) {S : NS} (hV : VN S) {p : Nat} (hp : p ≤ tl S) (hT : RT S p mem) (h1 : S 1 < 60) (hq : ∀ m' : Mem, IR S (iSay S p) m' → dF mem m' → Q none m') : C_X4_readSaying G d [vR 31] mem Q := by
  have t8 := tl_VN hV
  have n1 := nx_le hp
  have n2 := nx_le n1.2.1
  have n3 := nx_le n2.2.1
  have v0 := hV.1
  have v1 := hV.2.1
  refine B_X4_readSaying (by omega) ?_
  rw [hT.1.1.1]
  refine ct_readNumber (by omega) hV hp hT (by omega) (by omega) (fun c1 c2 m1 a1 f1 => ⟨_, rfl, ?_⟩) (fun c m1 z hz a1 f1 => ⟨_, rfl, ?_⟩)
  · rw [a1.1.1.1]
    have r0 := nv_r hp
    refine ct_readNumber (by omega) hV n1.2.1 a1.rt (by omega) (by omega) (fun c3 c4 m2 a2 f2 => ⟨_, rfl, ?_⟩) (fun c m2 z hz a2 f2 => ⟨_, rfl, ?_⟩)
    · have r1 := nv_r n1.2.1
      have ob := obj0 hV a2.1 ⟨c1, c2⟩ ⟨c3, c4⟩ h1
      refine ⟨fun z => absurd a2.2.1 z, fun _ => ⟨by omega, by rw [a2.1.1.1]; omega, fun ne => ?_, fun ne m3 e3 => ?_⟩⟩
      · have ne2 := ob.mp ne
        have base : iSay S p = iF (wd S (litB 9) (nx S (nx S p)) = true ∨ wd S (litB 10) (nx S (nx S p)) = true) (-1, aS S (nv S p) (nv S (nx S p)) (bz (wd S (litB 9) (nx S (nx S p)) = true)), nx S (nx S (nx S p))) (fS S (nx S (nx S p))) := by
          unfold iSay
          rw [iF_t ⟨c1, c2⟩, iF_t ⟨⟨c3, c4⟩, ne2.1, ne2.2⟩]
        refine ct_adv (by omega) hV n2.2.1 a2.rt (fun m3 a3 f3 => ⟨rfl, ?_⟩)
        have good : (wd S (litB 9) (nx S (nx S p)) = true ∨ wd S (litB 10) (nx S (nx S p)) = true) → ∀ m4 : Mem, m4 = addSyM m3 21 (nv S p) (nv S (nx S p)) (bz (wd S (litB 9) (nx S (nx S p)) = true)) → Q none m4 := fun c m4 e4 => by
          refine hq m4 ?_ (fun a b x => by rw [e4, f_addSy (by omega), f3 a b (by omega), f2 a b (by omega), f1 a b (by omega)])
          rw [base, iF_t c]
          refine IR_r ⟨?_, ?_, ?_⟩
          · rw [e4]; exact HR_say a3.1 hV _ _ _ h1
          · rw [e4, f_addSy (by omega)]; exact a3.2.1
          · rw [e4, f_addSy (by omega)]; exact a3.2.2.2.1
        refine ct_isWord (by omega) hV n2.2.1 (by omega) a3 ⟨_, rfl, bz_inr _, fun z => ⟨fun y => absurd a3.2.1 y, fun _ => ⟨by rw [a3.1.1.2.1]; omega, good (Or.inl (bz_n0.mp z))⟩⟩, fun z => ?_⟩
        refine ct_isWord (by omega) hV n2.2.1 (by omega) a3 ⟨_, rfl, bz_inr _, fun z2 => ⟨fun y => absurd a3.2.1 y, fun _ => ⟨by rw [a3.1.1.2.1]; omega, good (Or.inr (bz_n0.mp z2))⟩⟩, fun z2 m4 e4 => ?_⟩
        have w := a3.fl n2.2.1
        rw [← e4] at w
        refine ⟨fun _ => hq m4 ?_ (dF_t f1.d (dF_t f2.d (dF_t f3.d w.2.d))), fun y => absurd (by rw [← w.1.2.1]; exact y) (sk_n1 S _)⟩
        rw [base, iF_f (fun x => x.elim (fun x => z (bz_n0.mpr x)) (fun x => z2 (bz_n0.mpr x)))]
        exact IR_w w.1
      · have w := a2.fl n1.2.1
        rw [← e3] at w
        have e : iSay S p = fS S (nx S p) := by
          unfold iSay
          rw [iF_t ⟨c1, c2⟩, iF_f (fun x => ne (ob.mpr ⟨x.2.1, x.2.2⟩))]
        have w4 : m3 31 4 ≠ -1 := by rw [w.1.2.1]; exact sk_n1 S _
        have done : Q none m3 := hq m3 (by rw [e]; exact IR_w w.1) (dF_t f1.d (dF_t f2.d w.2.d))
        refine ct_adv_w (by omega) w4 ⟨rfl, ct_isWord_w (by omega) hV (by omega) w.1.2.2 (fun z hz => ⟨_, rfl, by omega, fun _ => ⟨fun _ => done, fun y => absurd y w4⟩, fun _ => ct_isWord_w (by omega) hV (by omega) w.1.2.2 (fun z2 hz2 => ⟨_, rfl, by omega, fun _ => ⟨fun _ => done, fun y => absurd y w4⟩, fun _ m4 e4 => ?_⟩)⟩)⟩
        rw [flM_w w4] at e4
        rw [e4]
        exact ⟨fun _ => done, fun y => absurd y w4⟩
    · have w4 : m2 31 4 ≠ -1 := by rw [a2.2.1]; exact sk_n1 S _
      have e : iSay S p = fS S (nx S p) := by unfold iSay; rw [iF_t ⟨c1, c2⟩, iF_f (fun x => c x.1)]
      have done : Q none m2 := hq m2 (by rw [e]; exact IR_w a2) (dF_t f1.d f2.d)
      refine ⟨fun _ => ?_, fun y => absurd y w4⟩
      refine ct_adv_w (by omega) w4 ⟨rfl, ct_isWord_w (by omega) hV (by omega) a2.2.2 (fun z hz => ⟨_, rfl, by omega, fun _ => ⟨fun _ => done, fun y => absurd y w4⟩, fun _ => ct_isWord_w (by omega) hV (by omega) a2.2.2 (fun z2 hz2 => ⟨_, rfl, by omega, fun _ => ⟨fun _ => done, fun y => absurd y w4⟩, fun _ m4 e4 => ?_⟩)⟩)⟩
      rw [flM_w w4] at e4
      rw [e4]
      exact ⟨fun _ => done, fun y => absurd y w4⟩
  · rw [a1.1.1.1]
    have w4 : m1 31 4 ≠ -1 := by rw [a1.2.1]; exact sk_n1 S _
    have e : iSay S p = fS S p := by unfold iSay; rw [iF_f c]
    have done : Q none m1 := hq m1 (by rw [e]; exact IR_w a1) f1.d
    refine ct_readNumber_w (by omega) hV (sk_n1 S _) a1 (by decide) (by omega) (fun z2 hz2 => ⟨_, rfl, fun _ => ?_, fun y => absurd y w4⟩)
    refine ct_adv_w (by omega) w4 ⟨rfl, ct_isWord_w (by omega) hV (by omega) a1.2.2 (fun z hz => ⟨_, rfl, by omega, fun _ => ⟨fun _ => done, fun y => absurd y w4⟩, fun _ => ct_isWord_w (by omega) hV (by omega) a1.2.2 (fun z2 hz2 => ⟨_, rfl, by omega, fun _ => ⟨fun _ => done, fun y => absurd y w4⟩, fun _ m4 e4 => ?_⟩)⟩)⟩
    rw [flM_w w4] at e4
    rw [e4]
    exact ⟨fun _ => done, fun y => absurd y w4⟩
end RD
