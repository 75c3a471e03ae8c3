/-! ===== the reader: the whole text ===== -/
theorem sU_tl {S : NS} {j v : Int} (h : j ≠ 3) : tl (sU S j v) = tl S := by unfold tl; rw [sU_ne (by omega)]
theorem aM_tl {S : NS} (hV : VN S) (hn : S 0 < 12) (k p c : Int) : tl (aM S k p c) = tl S ∧ ∀ i, tc (aM S k p c) i = tc S i := by
  have := hV.1
  unfold tl tc
  rw [aM_o (by omega) (by omega)]
  exact ⟨rfl, fun i => by rw [aM_o (by omega) (by omega)]⟩
theorem aS_tl {S : NS} (hV : VN S) (hn : S 1 < 60) (k p c : Int) : tl (aS S k p c) = tl S ∧ ∀ i, tc (aS S k p c) i = tc S i := by
  have := hV.2.1
  unfold tl tc
  rw [aS_o (by omega) (by omega)]
  exact ⟨rfl, fun i => by rw [aS_o (by omega) (by omega)]⟩
/-- the tape stays -/
def tS (S S' : NS) : Prop := tl S' = tl S ∧ ∀ i, tc S' i = tc S i
theorem skf_c {S S' : NS} (h : tS S S') : ∀ k p, skf S' k p = skf S k p := by
  intro k
  induction k with
  | zero => intro p; rfl
  | succ k ih => intro p; show (if tc S' p = 32 then skf S' k (p + 1) else p) = (if tc S p = 32 then skf S k (p + 1) else p); rw [h.2, ih]
theorem rnf_c {S S' : NS} (h : tS S S') (y : Int) : ∀ k p, rnf S' y k p = rnf S y k p := by
  intro k
  induction k with
  | zero => intro p; rfl
  | succ k ih => intro p; show (if tyB (tc S' p) = y then rnf S' y k (p + 1) else p) = (if tyB (tc S p) = y then rnf S y k (p + 1) else p); rw [h.2, ih]
theorem sk_c {S S' : NS} (h : tS S S') (p : Nat) : sk S' p = sk S p := by unfold sk; rw [skf_c h, h.1]
theorem en_c {S S' : NS} (h : tS S S') (p : Nat) : en S' p = en S p := by unfold en rn; rw [h.1, h.2, rnf_c h]
theorem nx_c {S S' : NS} (h : tS S S') (p : Nat) : nx S' p = nx S p := by unfold nx; rw [sk_c h, en_c h]
theorem itm_ok {S : NS} (hV : VN S) {p : Nat} (hp : p ≤ tl S) : ((itm S p).1 = -1 → VN (itm S p).2.1 ∧ tS S (itm S p).2.1 ∧ p < (itm S p).2.2 ∧ (itm S p).2.2 ≤ tl S) ∧ ((itm S p).1 ≠ -1 → 0 ≤ (itm S p).1 ∧ (itm S p).1 ≤ 80) := by
  have t8 := tl_VN hV
  have n0 := nx_le hp
  have n1 := nx_le n0.2.1
  have n2 := nx_le n1.2.1
  have n3 := nx_le n2.2.1
  have s0 := sk_le hp
  have s1 := sk_le n0.2.1
  have s2 := sk_le n1.2.1
  have s3 := sk_le n2.2.1
  have v0 := hV.1
  have v1 := hV.2.1
  have bad : ∀ q, sk S q ≤ tl S → ((fS S q).1 = -1 → VN (fS S q).2.1 ∧ tS S (fS S q).2.1 ∧ p < (fS S q).2.2 ∧ (fS S q).2.2 ≤ tl S) ∧ ((fS S q).1 ≠ -1 → 0 ≤ (fS S q).1 ∧ (fS S q).1 ≤ 80) := fun q hq => ⟨fun z => absurd z (sk_n1 S q), fun _ => ⟨show (0 : Int) ≤ ((sk S q : Nat) : Int) by omega, show ((sk S q : Nat) : Int) ≤ 80 by omega⟩⟩
  have pos : ∀ t, t < 12 → wd S (litB t) p = true → p < nx S p := fun t ht h => by
    have := wd_ty hV hp ht h
    have := n0.2.2.2 this.2
    omega
  unfold itm
  by_cases w0 : wd S (litB 0) p = true
  · rw [iF_t w0]
    by_cases c0 : S 0 < 12
    · rw [iF_t c0]
      have pp := pos 0 (by omega) w0
      unfold iMk
      by_cases c1 : kd S (nx S p) ≤ 5
      · rw [iF_t c1]
        have kr := kdf_r S (nx S p) 6
        by_cases c2 : 1 ≤ nv S (nx S (nx S p)) ∧ nv S (nx S (nx S p)) ≤ 99
        · rw [iF_t c2]
          by_cases c3 : 1 ≤ nv S (nx S (nx S (nx S p))) ∧ nv S (nx S (nx S (nx S p))) ≤ 9
          · rw [iF_t c3]
            exact ⟨fun _ => ⟨aM_VN hV c0 ⟨kr.1, c1⟩ c2 c3, aM_tl hV c0 _ _ _, show p < nx S (nx S (nx S (nx S p))) by omega, n3.2.1⟩, fun z => absurd rfl z⟩
          · rw [iF_f c3]; exact bad _ s3.2
        · rw [iF_f c2]; exact bad _ s2.2
      · rw [iF_f c1]; exact bad _ s1.2
    · rw [iF_f c0]; exact bad _ s0.2
  · rw [iF_f w0]
    by_cases w7 : wd S (litB 7) p = true
    · rw [iF_t w7]
      have pp := pos 7 (by omega) w7
      unfold iTie
      by_cases c1 : 0 ≤ nv S (nx S p) ∧ nv S (nx S p) ≤ S 0 - 1
      · rw [iF_t c1]
        by_cases c2 : (0 ≤ nv S (nx S (nx S p)) ∧ nv S (nx S (nx S p)) ≤ S 0 - 1) ∧ nv S (nx S p) ≠ nv S (nx S (nx S p))
        · rw [iF_t c2]
          by_cases c3 : 1 ≤ nv S (nx S (nx S (nx S p))) ∧ nv S (nx S (nx S (nx S p))) ≤ 99
          · rw [iF_t c3]
            refine ⟨fun _ => ⟨VN_tie hV (by omega) (by omega) (by omega) (by omega) c2.2 (by omega) (by omega), ⟨sU_tl (by omega), fun i => ?_⟩, show p < nx S (nx S (nx S (nx S p))) by omega, n3.2.1⟩, fun z => absurd rfl z⟩
            show sU _ _ _ _ = _
            rw [sU_ne (by omega)]; rfl
          · rw [iF_f c3]; exact bad _ s3.2
        · rw [iF_f c2]; exact bad _ s2.2
      · rw [iF_f c1]; exact bad _ s1.2
    · rw [iF_f w7]
      by_cases w8 : wd S (litB 8) p = true
      · rw [iF_t w8]
        have pp := pos 8 (by omega) w8
        by_cases c0 : S 1 < 60
        · rw [iF_t c0]
          unfold iSay
          by_cases c1 : 0 ≤ nv S (nx S p) ∧ nv S (nx S p) ≤ S 0 - 1
          · rw [iF_t c1]
            by_cases c2 : (0 ≤ nv S (nx S (nx S p)) ∧ nv S (nx S (nx S p)) ≤ S 0 - 1) ∧ nv S (nx S p) ≠ nv S (nx S (nx S p)) ∧ S (41 + 12 * nv S (nx S p) + nv S (nx S (nx S p))) ≠ 0
            · rw [iF_t c2]
              by_cases c3 : wd S (litB 9) (nx S (nx S (nx S p))) = true ∨ wd S (litB 10) (nx S (nx S (nx S p))) = true
              · rw [iF_t c3]
                exact ⟨fun _ => ⟨aS_VN hV c0 (by omega) (by omega) c2.2.1, aS_tl hV c0 _ _ _, show p < nx S (nx S (nx S (nx S p))) by omega, n3.2.1⟩, fun z => absurd rfl z⟩
              · rw [iF_f c3]; exact bad _ s3.2
            · rw [iF_f c2]; exact bad _ s2.2
          · rw [iF_f c1]; exact bad _ s1.2
        · rw [iF_f c0]; exact bad _ s0.2
      · rw [iF_f w8]
        by_cases w11 : wd S (litB 11) p = true
        · rw [iF_t w11]
          have pp := pos 11 (by omega) w11
          unfold iMost
          by_cases c1 : 0 ≤ nv S (nx S p) ∧ nv S (nx S p) ≤ 12
          · rw [iF_t c1]
            refine ⟨fun _ => ⟨VN_most hV c1.1 c1.2, ⟨sU_tl (by omega), fun i => ?_⟩, show p < nx S (nx S p) by omega, n1.2.1⟩, fun z => absurd rfl z⟩
            show sU _ _ _ _ = _
            rw [sU_ne (by omega)]; rfl
          · rw [iF_f c1]; exact bad _ s1.2
        · rw [iF_f w11]; exact bad _ s0.2
/-- two words can't be at one place -/
theorem wd_ne {S : NS} {p t u : Nat} (h : wd S (litB t) p = true) (h2 : wd S (litB u) p = true) (hl : (litB t).length ≠ (litB u).length ∨ ((litB t).getD 0 0 ≠ (litB u).getD 0 0 ∧ 0 < (litB t).length ∧ 0 < (litB u).length)) : False := by
  have a := wd_iff.mp h
  have b := wd_iff.mp h2
  rcases hl with hl | ⟨hl, l1, l2⟩
  · omega
  · exact hl (by rw [← a.2 0 l1, ← b.2 0 l2])
noncomputable def cF {α : Type} (c : Prop) (x y : α) : α := @ite α c (Classical.propDecidable _) x y
theorem cF_t {α : Type} {c : Prop} {x y : α} (h : c) : cF c x y = x := if_pos h
theorem cF_f {α : Type} {c : Prop} {x y : α} (h : ¬ c) : cF c x y = y := if_neg h
/-- a text: the fault or -1; the state; how many items -/
noncomputable def txt : Nat → NS → Nat → Int → Int × NS × Int
  | 0, S, _, i => (0, S, i)
  | k + 1, S, p, i => cF ((itm S p).1 = -1)
      (cF (sk S (itm S p).2.2 < tl S)
        (cF (tc S (sk S (itm S p).2.2) = 59)
          (txt k (itm S p).2.1 (nx S (itm S p).2.2) (i + 1))
          (((sk S (itm S p).2.2 : Nat) : Int), (itm S p).2.1, i + 1))
        (-1, (itm S p).2.1, i + 1))
      ((itm S p).1, S, i + 1)
theorem txt_w {k : Nat} {S : NS} {p : Nat} {i : Int} (h : (itm S p).1 ≠ -1) : txt (k + 1) S p i = ((itm S p).1, S, i + 1) := cF_f h
theorem txt_e {k : Nat} {S : NS} {p : Nat} {i : Int} (h : (itm S p).1 = -1) (h2 : ¬ (sk S (itm S p).2.2 < tl S)) : txt (k + 1) S p i = (-1, (itm S p).2.1, i + 1) := (cF_t h).trans (cF_f h2)
theorem txt_o {k : Nat} {S : NS} {p : Nat} {i : Int} (h : (itm S p).1 = -1) (h2 : sk S (itm S p).2.2 < tl S) (h3 : tc S (sk S (itm S p).2.2) ≠ 59) : txt (k + 1) S p i = (((sk S (itm S p).2.2 : Nat) : Int), (itm S p).2.1, i + 1) := (cF_t h).trans ((cF_t h2).trans (cF_f h3))
theorem txt_s {k : Nat} {S : NS} {p : Nat} {i : Int} (h : (itm S p).1 = -1) (h2 : sk S (itm S p).2.2 < tl S) (h3 : tc S (sk S (itm S p).2.2) = 59) : txt (k + 1) S p i = txt k (itm S p).2.1 (nx S (itm S p).2.2) (i + 1) := (cF_t h).trans ((cF_t h2).trans (cF_t h3))
section RD
variable {G : GT} {d : Nat} {mem : Mem} {Q : Option AV → Mem → Prop}
theorem ct_readItem (hd : 8 ≤ d) {S : NS} (hV : VN S) {p : Nat} (hp : p ≤ tl S) (hT : RT S p mem) (hq : ∀ m' : Mem, IR S (itm S p) m' → dF mem m' → Q none m') : C_X4_readItem G d [vR 31] mem Q := by
  have n0 := nx_le hp
  refine B_X4_readItem (by omega) (ct_adv (by omega) hV hp hT (fun m1 a1 f1 => ⟨rfl, ?_⟩))
  have r0 := a1.1.1.1
  have r6 := a1.1.1.2.1
  have fal : itm S p = fS S p → ∀ m2 : Mem, m2 = flM m1 → Q none m2 := fun e m2 e2 => by
    have w := a1.fl hp
    rw [← e2] at w
    exact hq m2 (by rw [e]; exact IR_w w.1) (dF_t f1.d w.2.d)
  have w7n : wd S (litB 0) p = true → ¬ (wd S (litB 7) p = true) := fun h h2 => wd_ne h h2 (by decide +kernel)
  have w8n : wd S (litB 0) p = true → ¬ (wd S (litB 8) p = true) := fun h h2 => wd_ne h h2 (by decide +kernel)
  have w11n : (wd S (litB 0) p = true ∧ wd S (litB 11) p = true) → False := fun h => by
    have a := (wd_iff.mp h.1).2 1 (by decide)
    have b := (wd_iff.mp h.2).2 1 (by decide)
    rw [a] at b
    exact absurd b (by decide)
  have w8m : (wd S (litB 8) p = true ∧ wd S (litB 11) p = true) → False := fun h => wd_ne h.1 h.2 (by decide +kernel)
  refine ct_isWord (by omega) hV hp (by omega) a1 ⟨_, rfl, bz_inr _, fun z0 => ?_, fun z0 => ?_⟩
  · have z0' := bz_0.mp z0
    refine ct_isWord (by omega) hV hp (by omega) a1 ⟨_, rfl, bz_inr _, fun z1 => ?_, fun z1 => ?_⟩
    · have z1' := bz_0.mp z1
      refine ct_isWord (by omega) hV hp (by omega) a1 ⟨_, rfl, bz_inr _, fun z2 => ?_, fun z2 => ?_⟩
      · have z2' := bz_0.mp z2
        refine ct_isWord (by omega) hV hp (by omega) a1 ⟨_, rfl, bz_inr _, fun z3 => fal ?_, fun z3 => ?_⟩
        · unfold itm; rw [iF_f z0', iF_f z1', iF_f z2', iF_f (bz_0.mp z3)]
        · refine ct_readMost (by omega) hV n0.2.1 a1.rt (fun m' i' f' => ⟨rfl, hq m' ?_ (dF_t f1.d f')⟩)
          unfold itm; rw [iF_f z0', iF_f z1', iF_f z2', iF_t (bz_n0.mp z3)]; exact i'
      · have z2' := bz_n0.mp z2
        rw [r6]
        refine ⟨fun c => ?_, fun c => ?_⟩
        · refine ct_isWord (by omega) hV hp (by omega) a1 ⟨_, rfl, bz_inr _, fun z3 => fal ?_, fun z3 => absurd ⟨z2', bz_n0.mp z3⟩ w8m⟩
          unfold itm; rw [iF_f z0', iF_f z1', iF_t z2', iF_f c]
        · refine ct_readSaying (by omega) hV n0.2.1 a1.rt c (fun m' i' f' => ⟨rfl, hq m' ?_ (dF_t f1.d f')⟩)
          unfold itm; rw [iF_f z0', iF_f z1', iF_t z2', iF_t c]; exact i'
    · have z1' := bz_n0.mp z1
      refine ct_readTie (by omega) hV n0.2.1 a1.rt (fun m' i' f' => ⟨rfl, hq m' ?_ (dF_t f1.d f')⟩)
      unfold itm; rw [iF_f z0', iF_t z1']; exact i'
  · have z0' := bz_n0.mp z0
    rw [r0]
    refine ⟨fun c => ?_, fun c => ?_⟩
    · refine ct_isWord (by omega) hV hp (by omega) a1 ⟨_, rfl, bz_inr _, fun z1 => ?_, fun z1 => absurd (bz_n0.mp z1) (w7n z0')⟩
      refine ct_isWord (by omega) hV hp (by omega) a1 ⟨_, rfl, bz_inr _, fun z2 => ?_, fun z2 => absurd (bz_n0.mp z2) (w8n z0')⟩
      refine ct_isWord (by omega) hV hp (by omega) a1 ⟨_, rfl, bz_inr _, fun z3 => fal ?_, fun z3 => absurd ⟨z0', bz_n0.mp z3⟩ w11n⟩
      unfold itm; rw [iF_t z0', iF_f c]
    · refine ct_readMachine (by omega) hV n0.2.1 a1.rt c (fun m' i' f' => ⟨rfl, hq m' ?_ (dF_t f1.d f')⟩)
      unfold itm; rw [iF_t z0', iF_t c]; exact i'
theorem read_14 (hd : 9 ≤ d) : ∀ (k : Nat) (S : NS) (p : Nat) (i : Int) (mem : Mem), VN S → p ≤ tl S → 81 ≤ p + k → 0 ≤ i → 2 * i ≤ p → RT S p mem → (∀ m' : Mem, ((txt k S p i).1 = -1 → HR 21 (txt k S p i).2.1 m') → dF mem m' → Q (some (vI (if (txt k S p i).1 = -1 then (txt k S p i).2.2 else -10 - (txt k S p i).1))) m') → E_X4_read G d 14 [(0, vR 31), (1, vI i), (2, vI 1)] [] mem Q := by
  intro k
  induction k with
  | zero => intro S p i mem hV hp hk; have := tl_VN hV; omega
  | succ k ih =>
    intro S p i mem hV hp hk h0 hi hT hq
    have t8 := tl_VN hV
    have ok := itm_ok hV hp
    -- the end
    have fin : ∀ (i : Int) (m : Mem), (m 31 4 = -1 → Q (some (vI i)) m) → (m 31 4 ≠ -1 → Q (some (vI (-10 - m 31 4))) m) → E_X4_read G d 14 [(0, vR 31), (1, vI i), (2, vI 0)] [] m Q := fun i m h1 h2 => B_X4_read_14 (by omega) ⟨by decide, fun _ => ⟨fun z => h2 z, fun z => h1 z⟩, fun z => absurd rfl z⟩
    refine B_X4_read_14 (by omega) ⟨by decide, fun z => absurd z (by decide), fun _ => ⟨by omega, fun z => by omega, fun _ => ct_readItem (by omega) hV hp hT (fun m1 r1 f1 => ⟨rfl, ?_⟩)⟩⟩
    by_cases c : (itm S p).1 = -1
    · obtain ⟨V', T', p0, p1⟩ := ok.1 c
      have T1 := r1.1 c
      have hp' : (itm S p).2.2 ≤ tl (itm S p).2.1 := by rw [T'.1]; exact p1
      refine ct_adv (by omega) V' hp' T1 (fun m2 a2 f2 => ⟨rfl, ?_⟩)
      have e2 := a2.2.2.1
      have e1 := a2.2.2.2.1
      have e3 := a2.2.2.2.2
      rw [sk_c T'] at e2 e3
      rw [nx_c T'] at e1
      have s1 := sk_le p1
      have n1 := nx_le p1
      unfold tt at e3
      rw [T'.1, T'.2] at e3
      rw [a2.2.1]
      refine ⟨fun z => absurd rfl z, fun _ => ?_⟩
      have w := a2.fl hp'
      rw [sk_c T'] at w
      by_cases lt : sk S (itm S p).2.2 < tl S
      · rw [if_pos lt] at e3
        have tr := tyB_r (tc S (sk S (itm S p).2.2))
        have oth : tc S (sk S (itm S p).2.2) ≠ 59 → ∀ m3 : Mem, m3 = flM m2 → E_X4_read G d 14 [(0, vR 31), (1, vI (i + 1)), (2, vI 0)] [] m3 Q := fun ne m3 e => by
          rw [← e] at w
          have tx := txt_o (k := k) (i := i) c lt ne
          have nn : ((sk S (itm S p).2.2 : Nat) : Int) ≠ -1 := sk_n1 S _
          have := hq m3 (fun z => by rw [tx] at z; exact absurd z nn) (dF_t f1 (dF_t f2.d w.2.d))
          rw [tx] at this
          refine fin (i + 1) m3 (fun z => absurd (by rw [← w.1.2.1]; exact z) nn) (fun _ => ?_)
          rw [if_neg (show ¬ ((sk S (itm S p).2.2 : Nat) : Int) = -1 from nn)] at this
          rw [w.1.2.1]; exact this
        have t59 : tc S (sk S (itm S p).2.2) = 59 → tyB (tc S (sk S (itm S p).2.2)) = 3 := fun h => by rw [h]; decide
        rw [e3]
        refine ⟨fun z => ⟨fun y => by omega, fun _ => oth (fun h => z (t59 h))⟩, fun z => ?_⟩
        have tcq := tc_VN V' (i := sk S (itm S p).2.2) (by omega)
        rw [T'.2] at tcq
        have se := sgb_eq tcq.1 tcq.2 (show (0 : Int) ≤ 59 by decide) (by decide)
        rw [e2, tape_at a2.1 (by omega), T'.2]
        refine ⟨by omega, fun y => ⟨fun x => by omega, fun _ => oth (fun h => y (se.mpr h))⟩, fun y => ?_⟩
        have h59 : tc S (sk S (itm S p).2.2) = 59 := se.mp (by omega)
        have tx := txt_s (k := k) (i := i) c lt h59
        have lt2 := n1.2.2.2 lt
        rw [tx] at hq
        exact ih (itm S p).2.1 (nx S (itm S p).2.2) (i + 1) m2 V' (by rw [T'.1]; exact n1.2.1) (by omega) (by omega) (by omega) ⟨a2.1, a2.2.1, e1⟩ (fun m' h f => hq m' h (dF_t f1 (dF_t f2.d f)))
      · rw [if_neg lt] at e3
        rw [e3]
        have tx := txt_e (k := k) (i := i) c lt
        rw [tx] at hq
        refine ⟨fun _ => ⟨fun _ => fin (i + 1) m2 (fun _ => hq m2 (fun _ => a2.1) (dF_t f1 f2.d)) (fun z => absurd a2.2.1 z), fun z => absurd rfl z⟩, fun z => absurd (by decide) z⟩
    · have W1 := r1.2 c
      have w4 : m1 31 4 ≠ -1 := by rw [W1.2.1]; exact c
      have tx := txt_w (k := k) (i := i) c
      rw [tx] at hq
      have done := hq m1 (fun z => absurd z c) f1
      rw [if_neg (show ¬ (itm S p).1 = -1 from c)] at done
      have fi := fin (i + 1) m1 (fun z => absurd z w4) (fun _ => by rw [W1.2.1]; exact done)
      refine ct_adv_w (by omega) w4 ⟨rfl, fun _ => ⟨fun _ => fi, fun _ m2 e2 => ?_⟩, fun z => absurd z w4⟩
      rw [e2, flM_w w4]; exact fi
theorem ct_read (hd : 9 ≤ d) {S : NS} (hV : VN S) (hR : HR 21 S mem) (hq : ∀ m' : Mem, ((txt 81 S 0 0).1 = -1 → HR 21 (txt 81 S 0 0).2.1 m') → dF mem m' → Q (some (vI (if (txt 81 S 0 0).1 = -1 then (txt 81 S 0 0).2.2 else -10 - (txt 81 S 0 0).1))) m') : C_X4_read G d [vR 31] mem Q := by
  refine B_X4_read (by omega) (fun m1 e1 m2 e2 => ?_)
  have f2 : r31 mem m2 := r31_t (b := m1) (by rw [e1]; exact r31_u _ _ _) (by rw [e2]; exact r31_u _ _ _)
  refine read_14 hd 81 S 0 0 m2 hV (by omega) (by omega) (by omega) (by omega) ⟨HR31 hR f2, by rw [e2, upM_same], by rw [e2, upM_ne (by omega), e1, upM_same]; rfl⟩ (fun m' h f => hq m' h (dF_t f2.d f))
end RD
