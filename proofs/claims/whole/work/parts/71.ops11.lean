/-! ===== operations: move, says ===== -/
/-- sayings of a row of numbers: how many, and the state -/
noncomputable def sy (arr : Int → Int) (len : Int) : Nat → Nat → NS → Nat × NS
  | 0, i, S => (i, S)
  | k + 1, i, S => cF (2 * (i : Int) + 2 ≤ len ∧ wnS S (Int.tdiv (arr (2 * (i : Int))) 12) (Int.tmod (arr (2 * (i : Int))) 12) = 0) (sy arr len k (i + 1) (aS S (Int.tdiv (arr (2 * (i : Int))) 12) (Int.tmod (arr (2 * (i : Int))) 12) (bz (arr (2 * (i : Int) + 1) ≠ 0)))) (i, S)
theorem sy_t {arr : Int → Int} {len : Int} {k i : Nat} {S : NS} (h : 2 * (i : Int) + 2 ≤ len ∧ wnS S (Int.tdiv (arr (2 * (i : Int))) 12) (Int.tmod (arr (2 * (i : Int))) 12) = 0) : sy arr len (k + 1) i S = sy arr len k (i + 1) (aS S (Int.tdiv (arr (2 * (i : Int))) 12) (Int.tmod (arr (2 * (i : Int))) 12) (bz (arr (2 * (i : Int) + 1) ≠ 0))) := cF_t h
theorem sy_f {arr : Int → Int} {len : Int} {k i : Nat} {S : NS} (h : ¬ (2 * (i : Int) + 2 ≤ len ∧ wnS S (Int.tdiv (arr (2 * (i : Int))) 12) (Int.tmod (arr (2 * (i : Int))) 12) = 0)) : sy arr len (k + 1) i S = (i, S) := cF_f h
theorem td_inr {v : Int} (h : inr v) : inr (Int.tdiv v 12) ∧ inr (Int.tmod v 12) := by
  rcases Int.lt_or_le v 0 with h0 | h0
  · rw [← Int.neg_neg v, Int.neg_tdiv, Int.neg_tmod, Int.tdiv_eq_ediv_of_nonneg (by omega), Int.tmod_eq_emod_of_nonneg (by omega)]; omega
  · rw [Int.tdiv_eq_ediv_of_nonneg h0, Int.tmod_eq_emod_of_nonneg h0]; omega
theorem td_neg {v : Int} (h : v < 0) : Int.tdiv v 12 < 0 ∨ Int.tmod v 12 < 0 := by
  rw [← Int.neg_neg v, Int.neg_tdiv, Int.neg_tmod, Int.tdiv_eq_ediv_of_nonneg (by omega), Int.tmod_eq_emod_of_nonneg (by omega)]; omega
section OP
variable {G : GT} {d : Nat} {mem : Mem} {J : Int} {Q : Option AV → Mem → Prop}
theorem says_29 (hd : 10 ≤ d) {kk : Nat} (hk : isSh kk) {arr : Int → Int} {len : Int} (hl : 0 ≤ len ∧ len ≤ 24) (ai : ∀ z : Int, 0 ≤ z → z < 24 → inr (arr z)) : ∀ (k i : Nat) (S : NS) (mem : Mem), 13 ≤ i + k → i ≤ 12 → VN S → HR 1 S mem → mem kk 2 = len → (∀ z : Int, 0 ≤ z → z < 24 → mem (kk + 1) z = arr z) → (∀ m' : Mem, VN (sy arr len k i S).2 → HR 1 (sy arr len k i S).2 m' → (∀ (a : Nat) (b : Int), ¬ (1 ≤ a ∧ a ≤ 10) → m' a b = mem a b) → (m' 1 16 = 1 ∨ (m' = mem ∧ (sy arr len k i S).2 = S)) → Q (some (vI (sy arr len k i S).1)) m') → E_X10_says G d 29 [(0, vR 0), (3, vR kk), (4, vI i), (5, vI (2 * (i : Int)))] [] mem Q := by
  intro k
  induction k with
  | zero => intro i S mem h1 h2; omega
  | succ k ih =>
    intro i S mem h13 hi hV hR h2 ha hq
    have v0 := hV.1
    have v1 := hV.2.1
    have kr : kk = 63 ∨ kk = 65 ∨ kk = 67 ∨ kk = 69 := hk
    refine B_X10_says_29 hk (by omega) ?_
    rw [h2]
    refine ⟨by omega, fun z => ?_, fun z => ⟨by omega, ?_⟩⟩
    · rw [sy_f (by omega)] at hq
      exact hq mem hV hR (fun _ _ _ => rfl) (Or.inr ⟨rfl, rfl⟩)
    · rw [ha (2 * (i : Int)) (by omega) (by omega), ha (2 * (i : Int) + 1) (by omega) (by omega), obj_wn hV hR, hR.1.1, hR.1.2.1]
      have ti := td_inr (ai (2 * (i : Int)) (by omega) (by omega))
      refine ⟨ti, by omega, fun c => ?_, fun c => ?_⟩
      · have wn := wn_0.mp c
        rw [sy_t ⟨by omega, c⟩] at hq
        have go : ∀ (w : Int) (m2 : Mem), w = bz (arr (2 * (i : Int) + 1) ≠ 0) → m2 = addSyM mem 1 (Int.tdiv (arr (2 * (i : Int))) 12) (Int.tmod (arr (2 * (i : Int))) 12) w → E_X10_says G d 29 [(0, vR 0), (3, vR kk), (4, vI ((i : Int) + 1)), (5, vI (2 * (i : Int) + 2))] [] m2 Q := fun w m2 hw e2 => by
          rw [hw] at e2
          have g : ∀ (a : Nat) (b : Int), ¬ (1 ≤ a ∧ a ≤ 10) → m2 a b = mem a b := fun a b x => by rw [e2, f_addSy1 x]
          have := ih (i + 1) _ m2 (by omega) (by omega) (aS_VN hV wn.2.2.2 wn.1.1 wn.1.2 wn.2.1) (by rw [e2]; exact HR_say hR hV _ _ _ wn.2.2.2) (by rw [g kk 2 (by omega)]; exact h2) (fun z p q => by rw [g (kk + 1) z (by omega)]; exact ha z p q) (fun m' V' R' f' c' => hq m' V' R' (fun a b x => by rw [f' a b x, g a b x]) ?_)
          · rw [show 2 * ((i + 1 : Nat) : Int) = 2 * (i : Int) + 2 by omega] at this
            exact this
          · rcases c' with c' | ⟨c1, c2⟩
            · exact Or.inl c'
            · left
              rw [c1, e2]
              unfold addSyM
              rw [upM_same]
        refine ⟨by omega, fun z => ⟨by omega, fun m2 e2 => go 0 m2 (bz_f (fun x => x z)).symm e2⟩, fun z => ⟨by omega, fun m2 e2 => go 1 m2 (bz_t z).symm e2⟩⟩
      · rw [sy_f (fun x => c x.2)] at hq
        exact hq mem hV hR (fun _ _ _ => rfl) (Or.inr ⟨rfl, rfl⟩)
theorem says_37 (hd : 10 ≤ d) {s : Nat} (hs : s < 4) {arr : Int → Int} {len : Int} (hl : 0 ≤ len ∧ len ≤ 24) (ai : ∀ z : Int, 0 ≤ z → z < 24 → inr (arr z)) : ∀ (k i : Nat) (S : NS) (mem : Mem), 13 ≤ i + k → i ≤ 12 → VN S → mem 72 = S → mem 88 s = len → (∀ z : Int, 0 ≤ z → z < 24 → mem 89 (24 * (s : Int) + z) = arr z) → (∀ m' : Mem, m' 72 = (sy arr len k i S).2 → (∀ (a : Nat) (b : Int), a ≠ 72 → m' a b = mem a b) → Q (some (vI (sy arr len k i S).1)) m') → E_X11_says G d 37 [(0, vR 71), (1, vI s), (2, vI i), (3, vI (24 * (s : Int) + 2 * (i : Int)))] [] mem Q := by
  intro k
  induction k with
  | zero => intro i S mem h1 h2; omega
  | succ k ih =>
    intro i S mem h13 hi hV hS h2 ha hq
    have v0 := hV.1
    have v1 := hV.2.1
    refine B_X11_says_37 (by omega) ?_
    rw [h2]
    refine ⟨by omega, by omega, fun z => ?_, fun z => ⟨by omega, ?_⟩⟩
    · rw [sy_f (by omega)] at hq
      exact hq mem hS (fun _ _ _ => rfl)
    · rw [ha (2 * (i : Int)) (by omega) (by omega)]
      have ti := td_inr (ai (2 * (i : Int)) (by omega) (by omega))
      refine ⟨fun y => ?_, fun y => ct_whyNot (by omega) hS hV ti.1 ti.2 ⟨_, rfl, ?_, fun c => ⟨by omega, ?_⟩, fun c => ?_⟩⟩
      · have tn := td_neg y
        rw [sy_f (fun x => by have := wn_0.mp x.2; omega)] at hq
        exact hq mem hS (fun _ _ _ => rfl)
      · rcases wn_r S (Int.tdiv (arr (2 * (i : Int))) 12) (Int.tmod (arr (2 * (i : Int))) 12) with e | e | e | e <;> rw [e] <;> decide
      · have wn := wn_0.mp c
        rw [sy_t ⟨by omega, c⟩] at hq
        rw [hS, show 24 * (s : Int) + 2 * (i : Int) + 1 = 24 * (s : Int) + (2 * (i : Int) + 1) by omega, ha (2 * (i : Int) + 1) (by omega) (by omega)]
        have go : ∀ (w : Int) (m2 : Mem), w = bz (arr (2 * (i : Int) + 1) ≠ 0) → m2 = ssM mem (Int.tdiv (arr (2 * (i : Int))) 12) (Int.tmod (arr (2 * (i : Int))) 12) w → E_X11_says G d 37 [(0, vR 71), (1, vI s), (2, vI ((i : Int) + 1)), (3, vI (24 * (s : Int) + 2 * (i : Int) + 2))] [] m2 Q := fun w m2 hw e2 => by
          rw [hw] at e2
          have g : ∀ (a : Nat) (b : Int), a ≠ 72 → m2 a b = mem a b := fun a b x => by rw [e2, ss_f x]
          have := ih (i + 1) _ m2 (by omega) (by omega) (aS_VN hV wn.2.2.2 wn.1.1 wn.1.2 wn.2.1) (by rw [e2, ssM_72, hS]) (by rw [g 88 s (by omega)]; exact h2) (fun z p q => by rw [g 89 _ (by omega)]; exact ha z p q) (fun m' s' f' => hq m' s' (fun a b x => by rw [f' a b x, g a b x]))
          rw [show 24 * (s : Int) + 2 * ((i + 1 : Nat) : Int) = 24 * (s : Int) + 2 * (i : Int) + 2 by omega] at this
          exact this
        exact ⟨fun z => ⟨ti, by omega, fun m2 e2 => go 0 m2 (bz_f (fun x => x z)).symm e2⟩, fun z => ⟨ti, by omega, fun m2 e2 => go 1 m2 (bz_t z).symm e2⟩⟩
      · rw [sy_f (fun x => c x.2)] at hq
        exact hq mem hS (fun _ _ _ => rfl)
theorem op_says (hd : 40 ≤ d) (h : Rl J mem) {a : Int} (ha : inr a) : C_X10_says G d [vR 0, vI a] mem (fun r m1 => ∃ z : Int, r = some (vI z) ∧ C_X11_says G d [vR 71, vI a] m1 (An J z)) := by
  refine c_ok (fun hm => ?_)
  have sh : ∀ s : Nat, s < 4 → _ := h.2.2.2.2
  by_cases k : 0 ≤ a ∧ a ≤ 3
  · obtain ⟨s, rfl⟩ : ∃ s : Nat, a = s := ⟨a.toNat, by omega⟩
    have ts : ((s : Int)).toNat = s := by omega
    obtain ⟨s1, s2, s3, s4⟩ := sh s (by omega)
    have ob : obSh mem s = if mem 87 s = 0 then -1000002 else 0 := by
      unfold obSh
      rw [if_neg (by omega), ts, s1]
    by_cases w : mem 87 s = 0
    · rw [if_pos w] at ob
      refine B_X10_says (by omega) ?_
      rw [ob]
      refine ⟨ha, fun y => absurd y (by decide), fun _ => ⟨by decide, fun m1 e1 => ⟨_, rfl, B_X11_says (by omega) ?_⟩⟩⟩
      rw [show m1 87 s = mem 87 s by rw [e1, ref_f (by omega)]]
      exact ⟨ha, fun _ => ⟨by omega, fun y => absurd w y, fun _ m2 e2 => an_ref h (by decide) (by decide) e1 e2⟩, fun y => absurd k y⟩
    · rw [if_neg w] at ob
      have isk : isSh (63 + 2 * s) := by unfold isSh; omega
      have ai : ∀ z : Int, 0 ≤ z → z < 24 → inr (mem (63 + 2 * s + 1) z) := fun z p q => ok_ai hm (sh_S1 isk) (by decide) z
      refine B_X10_says (by omega) ?_
      rw [ob, ts]
      refine ⟨ha, fun _ => ⟨by omega, ?_⟩, fun y => absurd rfl y⟩
      refine says_29 (by omega) isk (arr := mem (63 + 2 * s + 1)) (len := mem 88 s) s3 ai 13 0 (mem 72) mem (by omega) (by omega) h.1.1 h.1.2.1 s2 (fun _ _ _ => rfl) (fun m1 V1 R1 f1 c1 => ⟨_, rfl, B_X11_says (by omega) ?_⟩)
      have g72 : m1 72 = mem 72 := funext (fun z => f1 72 z (by omega))
      rw [f1 87 s (by omega)]
      refine ⟨ha, fun _ => ⟨by omega, fun _ => ?_, fun y => absurd w y⟩, fun y => absurd k y⟩
      have lp := says_37 (G := G) (d := d) (Q := An J ((sy (mem (63 + 2 * s + 1)) (mem 88 s) 13 0 (mem 72)).1 : Nat)) (by omega) (show s < 4 by omega) (arr := mem (63 + 2 * s + 1)) (len := mem 88 s) s3 ai 13 0 (mem 72) m1 (by omega) (by omega) h.1.1 g72 (by rw [f1 88 s (by omega)]) (fun z p q => by rw [f1 89 _ (by omega), ← s4 z p q, show 64 + 2 * s = 63 + 2 * s + 1 by omega]) (fun m2 t2 f2 => an_mk (Rl_new h ?_ (fun x y p q _ => by rw [f2 x y q, f1 x y p])) rfl)
      · rw [show 24 * (s : Int) + 2 * ((0 : Nat) : Int) = 24 * (s : Int) by omega] at lp
        exact lp
      · rw [t2]
        refine ⟨V1, R1.congr (fun c b hc _ => f2 (1 + c) b (by omega)), fun z => ?_, by rw [f2 44 0 (by omega), f1 44 0 (by omega)]; exact h.1.2.2.2⟩
        rw [f2 1 16 (by omega)] at z
        rcases c1 with c1 | ⟨c1, c2⟩
        · omega
        · rw [c2]
          rw [c1] at z f2
          exact FT_f (h.1.2.2.1 z) (fun x y p => f2 x y (by omega))
  · have ob : obSh mem a = -1000001 := by unfold obSh; rw [if_pos (by omega)]
    refine B_X10_says (by omega) ?_
    rw [ob]
    exact ⟨ha, fun y => absurd y (by decide), fun _ => ⟨by decide, fun m1 e1 => ⟨_, rfl, B_X11_says (by omega) ⟨ha, fun y => absurd y k, fun _ m2 e2 => an_ref h (by decide) (by decide) e1 e2⟩⟩⟩⟩
theorem move_ref (hd : 2 ≤ d) {s t i j n : Nat} (hs : s < 4) (ht : t < 4) (hi : i + n ≤ 24) (hj : j + n ≤ 24) {z : Int} (fin : ∀ m : Mem, (∀ k : Nat, k < n → m 89 (24 * (t : Int) + ((j + k : Nat) : Int)) = mem 89 (24 * (s : Int) + ((i + k : Nat) : Int))) → (∀ (x : Nat) (y : Int), x ≠ 90 → ¬ (x = 89 ∧ 24 * (t : Int) + j ≤ y ∧ y < 24 * (t : Int) + j + n) → m x y = mem x y) → An J z (some (vI n)) m) : E_X11_move G d 127 [(0, vR 71), (1, vI s), (2, vI i), (3, vI t), (4, vI j), (5, vI n), (6, vI 0)] [] mem (An J z) := by
  refine up_loop (n := n) (E := fun k m => E_X11_move G d 127 [(0, vR 71), (1, vI s), (2, vI i), (3, vI t), (4, vI j), (5, vI n), (6, vI k)] [] m (An J z)) (I := fun k m => (∀ (x : Nat) (y : Int), x ≠ 90 → m x y = mem x y) ∧ ∀ l : Nat, l < k → m 90 l = mem 89 (24 * (s : Int) + ((i + l : Nat) : Int))) ?_ ?_ (i := 0) (by omega) ⟨fun _ _ _ => rfl, fun l hl => absurd hl (Nat.not_lt_zero _)⟩
  · intro m1 ⟨f1, a1⟩
    refine B_X11_move_127 hd ⟨by omega, fun _ => ?_, fun y => absurd (by omega) y⟩
    refine up_loop (n := n) (E := fun k m => E_X11_move G d 164 [(0, vR 71), (3, vI t), (4, vI j), (5, vI n), (6, vI k)] [] m (An J z)) (I := fun k m => (∀ (x : Nat) (y : Int), ¬ (x = 89 ∧ 24 * (t : Int) + j ≤ y ∧ y < 24 * (t : Int) + j + n) → m x y = m1 x y) ∧ ∀ l : Nat, l < k → m 89 (24 * (t : Int) + ((j + l : Nat) : Int)) = mem 89 (24 * (s : Int) + ((i + l : Nat) : Int))) ?_ ?_ (i := 0) (by omega) ⟨fun _ _ _ => rfl, fun l hl => absurd hl (Nat.not_lt_zero _)⟩
    · intro m2 ⟨f2, a2⟩
      exact B_X11_move_164 hd ⟨by omega, fun _ => fin m2 a2 (fun x y p q => by rw [f2 x y q, f1 x y p]), fun y => absurd (by omega) y⟩
    · intro k m2 hk ⟨f2, a2⟩ hE
      refine B_X11_move_164 hd ⟨by omega, fun y => by omega, fun _ => ⟨by omega, by omega, fun m3 e3 => hE m3 ⟨fun x y p => by rw [e3, upM_ne (by omega)]; exact f2 x y p, fun l hl => ?_⟩⟩⟩
      by_cases q : l = k
      · subst q
        rw [e3, show 24 * (t : Int) + ((j + l : Nat) : Int) = 24 * (t : Int) + (j : Int) + (l : Int) by omega, upM_same, f2 90 _ (by omega)]
        exact a1 l (by omega)
      · rw [e3, upM_ne (by omega)]; exact a2 l (by omega)
  · intro k m1 hk ⟨f1, a1⟩ hE
    refine B_X11_move_127 hd ⟨by omega, fun y => by omega, fun _ => ⟨by omega, by omega, fun m2 e2 => hE m2 ⟨fun x y p => by rw [e2, upM_ne (by omega)]; exact f1 x y p, fun l hl => ?_⟩⟩⟩
    by_cases q : l = k
    · subst q
      rw [e2, upM_same, f1 89 _ (by omega)]
      congr 1
      omega
    · rw [e2, upM_ne (by omega)]; exact a1 l (by omega)
theorem op_move (hd : 40 ≤ d) (h : Rl J mem) {a b c e f : Int} (ha : inr a) (hb : inr b) (hc : inr c) (he : inr e) (hf : inr f) : C_X10_move G d [vR 0, vI a, vI b, vI c, vI e, vI f] mem (fun r m1 => ∃ z : Int, r = some (vI z) ∧ C_X11_move G d [vR 71, vI a, vI b, vI c, vI e, vI f] m1 (An J z)) := by
  have sh : ∀ s : Nat, s < 4 → _ := h.2.2.2.2
  by_cases k1 : (0 ≤ a ∧ a ≤ 3) ∧ (0 ≤ c ∧ c ≤ 3)
  · obtain ⟨s, rfl⟩ : ∃ s : Nat, a = s := ⟨a.toNat, by omega⟩
    obtain ⟨t, rfl⟩ : ∃ t : Nat, c = t := ⟨c.toNat, by omega⟩
    have ts : ((s : Int)).toNat = s := by omega
    have tt : ((t : Int)).toNat = t := by omega
    obtain ⟨s1, s2, s3, s4⟩ := sh s (by omega)
    obtain ⟨t1, t2, t3, t4⟩ := sh t (by omega)
    have rf : ∀ (m1 : Mem) (q : Int), m1 = refM mem q → m1 87 s = mem 87 s ∧ m1 87 t = mem 87 t ∧ m1 88 s = mem 88 s ∧ m1 88 t = mem 88 t := fun m1 q e1 => by rw [e1, ref_f (by omega), ref_f (by omega), ref_f (by omega), ref_f (by omega)]; exact ⟨rfl, rfl, rfl, rfl⟩
    have lc1 := @lcmp_le (b + f) (mem 88 s)
    have lc2 := @lcmp_le (e + f) (mem 88 t)
    refine B_X10_move (by omega) ?_
    rw [ts, tt, s1, t1, s2, t2]
    refine ⟨ha, fun y => by omega, fun _ => ⟨hc, fun _ => ⟨by omega, by omega, fun w1 m1 e1 => ?_, fun w1 => ⟨fun w2 => ⟨fun w3 => ⟨⟨hb, hf⟩, fun r1 m1 e1 => ?_, fun r1 => ⟨he, fun r2 => ⟨by omega, fun m1 e1 => ?_⟩, fun r2 m1 e1 => ?_⟩⟩, fun w3 m1 e1 => ?_⟩, fun w2 m1 e1 => ?_⟩⟩, fun y => by omega⟩⟩
    · obtain ⟨q1, q2, q3, q4⟩ := rf m1 _ e1
      refine ⟨_, rfl, B_X11_move (by omega) ?_⟩
      rw [q1, q2, q3, q4]
      exact ⟨ha, fun y => absurd k1.1 y, fun _ => ⟨hc, fun _ => ⟨by omega, fun _ m2 e2 => an_ref h (by decide) (by decide) e1 e2, fun y => absurd w1 y⟩, fun y => absurd k1.2 y⟩⟩
    · obtain ⟨q1, q2, q3, q4⟩ := rf m1 _ e1
      refine ⟨_, rfl, B_X11_move (by omega) ?_⟩
      rw [q1, q2, q3, q4]
      have ok : ∀ m2 : Mem, m2 = fndM m1 (-1000001) → An J (-1000001) (some (vI (-1000001))) m2 := fun m2 e2 => an_ref h (by decide) (by decide) e1 e2
      exact ⟨ha, fun y => absurd k1.1 y, fun _ => ⟨hc, fun _ => ⟨by omega, fun y => absurd y w1, fun _ => ⟨by omega, fun _ => ⟨fun _ => ⟨hf, fun _ m2 e2 => ok m2 e2, fun x1 => ⟨hb, fun _ m2 e2 => ok m2 e2, fun x2 => ⟨he, fun _ m2 e2 => ok m2 e2, fun x3 => ⟨by omega, fun _ m2 e2 => ok m2 e2, fun x4 => absurd ⟨by omega, by omega, by omega, by omega⟩ r1⟩⟩⟩⟩, fun y => absurd w3 y⟩, fun y => absurd w2 y⟩⟩, fun y => absurd k1.2 y⟩⟩
    · obtain ⟨i, rfl⟩ : ∃ i : Nat, b = i := ⟨b.toNat, by omega⟩
      obtain ⟨j, rfl⟩ : ∃ j : Nat, e = j := ⟨e.toNat, by omega⟩
      obtain ⟨n, rfl⟩ : ∃ n : Nat, f = n := ⟨f.toNat, by omega⟩
      have g : ∀ (x : Nat) (y : Int), ¬ (x = 63 + 2 * t + 1 ∧ (j : Int) ≤ y ∧ y < (j : Int) + n) → m1 x y = mem x y := fun x y p => by rw [e1]; unfold cpM; rw [if_neg p]
      refine ⟨_, rfl, B_X11_move (by omega) ?_⟩
      rw [g 87 s (by omega), g 87 t (by omega), g 88 s (by omega), g 88 t (by omega)]
      refine ⟨ha, fun y => absurd k1.1 y, fun _ => ⟨hc, fun _ => ⟨by omega, fun y => absurd y w1, fun _ => ⟨by omega, fun _ => ⟨fun _ => ⟨hf, fun y => by omega, fun _ => ⟨hb, fun y => by omega, fun _ => ⟨he, fun y => by omega, fun _ => ⟨by omega, fun y => by omega, fun _ => ⟨by omega, fun _ => ?_, fun y => absurd (lc2.mpr (by omega)) y⟩⟩⟩⟩⟩, fun y => absurd w3 y⟩, fun y => absurd w2 y⟩⟩, fun y => absurd k1.2 y⟩⟩
      refine move_ref (by omega) (by omega) (by omega) (by omega) (by omega) (fun m c2 f2 => an_mk (Rl_s h (fun x y p q r u v => by rw [f2 x y v (by omega), g x y (by omega)]) (fun u hu => ?_)) rfl)
      obtain ⟨u1, u2, u3, u4⟩ := sh u hu
      rw [f2 (63 + 2 * u) 1 (by omega) (by omega), f2 (63 + 2 * u) 2 (by omega) (by omega), f2 87 u (by omega) (by omega), f2 88 u (by omega) (by omega), g (63 + 2 * u) 1 (by omega), g (63 + 2 * u) 2 (by omega), g 87 u (by omega), g 88 u (by omega)]
      refine ⟨u1, u2, u3, fun k h0 h1 => ?_⟩
      rw [f2 (64 + 2 * u) k (by omega) (by omega)]
      by_cases q : u = t ∧ (j : Int) ≤ k ∧ k < (j : Int) + n
      · obtain ⟨l, hl⟩ : ∃ l : Nat, k = (j : Int) + l := ⟨(k - j).toNat, by omega⟩
        have cl := c2 l (by omega)
        rw [q.1, hl, show 24 * (t : Int) + ((j : Int) + (l : Int)) = 24 * (t : Int) + ((j + l : Nat) : Int) by omega, cl, g 89 _ (by omega), e1]
        unfold cpM
        rw [if_pos ⟨by omega, by omega, by omega⟩, show (i : Int) + ((j : Int) + (l : Int) - (j : Int)) = ((i + l : Nat) : Int) by omega, show 63 + 2 * s + 1 = 64 + 2 * s by omega]
        exact s4 _ (by omega) (by omega)
      · rw [g (64 + 2 * u) k (by omega), f2 89 _ (by omega) (by omega), g 89 _ (by omega)]
        exact u4 k h0 h1
    · obtain ⟨q1, q2, q3, q4⟩ := rf m1 _ e1
      refine ⟨_, rfl, B_X11_move (by omega) ?_⟩
      rw [q1, q2, q3, q4]
      have ok : ∀ m2 : Mem, m2 = fndM m1 (-1000001) → An J (-1000001) (some (vI (-1000001))) m2 := fun m2 e2 => an_ref h (by decide) (by decide) e1 e2
      exact ⟨ha, fun y => absurd k1.1 y, fun _ => ⟨hc, fun _ => ⟨by omega, fun y => absurd y w1, fun _ => ⟨by omega, fun _ => ⟨fun _ => ⟨hf, fun _ m2 e2 => ok m2 e2, fun x1 => ⟨hb, fun _ m2 e2 => ok m2 e2, fun x2 => ⟨he, fun _ m2 e2 => ok m2 e2, fun x3 => ⟨by omega, fun _ m2 e2 => ok m2 e2, fun x4 => ⟨by omega, fun x5 => absurd ⟨by omega, by omega, by omega, by omega⟩ r2, fun _ m2 e2 => ok m2 e2⟩⟩⟩⟩⟩, fun y => absurd w3 y⟩, fun y => absurd w2 y⟩⟩, fun y => absurd k1.2 y⟩⟩
    · obtain ⟨q1, q2, q3, q4⟩ := rf m1 _ e1
      refine ⟨_, rfl, B_X11_move (by omega) ?_⟩
      rw [q1, q2, q3, q4]
      exact ⟨ha, fun y => absurd k1.1 y, fun _ => ⟨hc, fun _ => ⟨by omega, fun y => absurd y w1, fun _ => ⟨by omega, fun _ => ⟨fun y => absurd y w3, fun _ m2 e2 => an_ref h (by decide) (by decide) e1 e2⟩, fun y => absurd w2 y⟩⟩, fun y => absurd k1.2 y⟩⟩
    · obtain ⟨q1, q2, q3, q4⟩ := rf m1 _ e1
      refine ⟨_, rfl, B_X11_move (by omega) ?_⟩
      rw [q1, q2, q3, q4]
      exact ⟨ha, fun y => absurd k1.1 y, fun _ => ⟨hc, fun _ => ⟨by omega, fun y => absurd y w1, fun _ => ⟨by omega, fun y => absurd w2 y, fun _ m2 e2 => an_ref h (by decide) (by decide) e1 e2⟩⟩, fun y => absurd k1.2 y⟩⟩
  · have ref : ∀ m1 : Mem, m1 = refM mem (-1000001) → ∃ z : Int, some (vI (-1000001)) = some (vI z) ∧ C_X11_move G d [vR 71, vI a, vI b, vI c, vI e, vI f] m1 (An J z) := fun m1 e1 => ⟨_, rfl, B_X11_move (by omega) ⟨ha, fun _ m2 e2 => an_ref h (by decide) (by decide) e1 e2, fun y => ⟨hc, fun y2 => absurd ⟨y, y2⟩ k1, fun _ m2 e2 => an_ref h (by decide) (by decide) e1 e2⟩⟩⟩
    exact B_X10_move (by omega) ⟨ha, fun _ m1 e1 => ref m1 e1, fun y => ⟨hc, fun z => by omega, fun _ m1 e1 => ref m1 e1⟩⟩
end OP
