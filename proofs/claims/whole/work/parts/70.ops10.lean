/-! ===== operations: sheets ===== -/
theorem Rl_s {J : Int} {mem m : Mem} (h : Rl J mem) (f : ∀ (a : Nat) (b : Int), ¬ (63 ≤ a ∧ a ≤ 70) → a ≠ 87 → a ≠ 88 → a ≠ 89 → a ≠ 90 → m a b = mem a b) (hs : RSh m) : Rl J m := by
  obtain ⟨⟨a1, a2, a3, a4⟩, ⟨i1, i2, i3, i4⟩, ee, ⟨w1, w2, w3, w4⟩, _⟩ := h
  have g : ∀ (a : Nat) (b : Int), a < 63 ∨ (70 < a ∧ a < 87) → m a b = mem a b := fun a b x => f a b (by omega) (by omega) (by omega) (by omega) (by omega)
  have f72 : m 72 = mem 72 := funext (fun z => g 72 z (by omega))
  have f73 : m 73 = mem 73 := funext (fun z => g 73 z (by omega))
  refine ⟨?_, ⟨?_, ?_, ?_, fun z => ?_⟩, fun k h0 h1 => ?_, ⟨?_, ?_, ?_, fun z p q => ?_⟩, hs⟩
  · rw [f72]
    exact ⟨a1, a2.congr (fun c b hc _ => g (1 + c) b (by omega)), fun z => FT_f (a3 (by rw [← g 1 16 (by omega)]; exact z)) (fun a b x => g a b (by omega)), by rw [g 44 0 (by omega)]; exact a4⟩
  · rw [g 0 11 (by omega), g 71 3 (by omega)]; exact i1
  · rw [g 71 3 (by omega)]; exact i2
  · rw [g 71 3 (by omega)]; exact i3
  · rw [g 71 3 (by omega)] at z
    rw [f73]
    exact ⟨(i4 z).1, (i4 z).2.congr (fun c b hc _ => g (11 + c) b (by omega))⟩
  · rw [g 62 k (by omega), g 75 k (by omega)]; exact ee k h0 h1
  · rw [g 59 1 (by omega), g 71 21 (by omega)]; exact w1
  · rw [g 59 1 (by omega)]; exact w2
  · rw [g 59 1 (by omega)]; exact w3
  · rw [g 60 z (by omega), g 86 z (by omega)]; exact w4 z p q
section OP
variable {G : GT} {d : Nat} {mem : Mem} {J : Int} {Q : Option AV → Mem → Prop}
theorem sh_93 (hd : 2 ≤ d) {s : Nat} (hs : s < 4) (hq : ∀ m : Mem, (∀ k : Int, 0 ≤ k → k < 24 → m 89 (24 * (s : Int) + k) = 0) → (∀ (a : Nat) (b : Int), ¬ (a = 89 ∧ 24 * (s : Int) ≤ b ∧ b < 24 * (s : Int) + 24) → m a b = mem a b) → Q (some (vI 1)) m) : E_X11_sheet G d 93 [(0, vR 71), (1, vI s), (4, vI 0)] [] mem Q := by
  refine up_loop (n := 24) (E := fun i m => E_X11_sheet G d 93 [(0, vR 71), (1, vI s), (4, vI i)] [] m Q) (I := fun i m => (∀ k : Int, 0 ≤ k → k < i → m 89 (24 * (s : Int) + k) = 0) ∧ ∀ (a : Nat) (b : Int), ¬ (a = 89 ∧ 24 * (s : Int) ≤ b ∧ b < 24 * (s : Int) + 24) → m a b = mem a b) ?_ ?_ (i := 0) (by omega) ⟨fun k h0 h1 => by omega, fun _ _ _ => rfl⟩
  · intro m ⟨z, f⟩
    exact B_X11_sheet_93 hd ⟨by omega, fun _ => hq m (fun k h0 h1 => z k h0 (by omega)) f, fun y => absurd (by omega) y⟩
  · intro i m hi ⟨z, f⟩ hE
    refine B_X11_sheet_93 hd ⟨by omega, fun y => by omega, fun _ => ⟨by omega, fun m2 e2 => hE m2 ⟨fun k h0 h1 => ?_, fun a b x => by rw [e2, upM_ne (by omega)]; exact f a b x⟩⟩⟩
    by_cases q : k = i
    · rw [q, e2, upM_same]
    · rw [e2, upM_ne (by omega)]; exact z k h0 (by omega)
theorem op_sheet (hd : 40 ≤ d) (h : Rl J mem) {a b c : Int} (ha : inr a) (hb : inr b) (hc : inr c) : C_X10_sheet G d [vR 0, vI a, vI b, vI c] mem (fun r m1 => ∃ z : Int, r = some (vI z) ∧ C_X11_sheet G d [vR 71, vI a, vI b, vI c] m1 (An J z)) := by
  by_cases k : (0 ≤ a ∧ a ≤ 3) ∧ (b = 0 ∨ ((b = 8 ∨ b = 16 ∨ b = 32) ∧ 0 ≤ c ∧ c ≤ 24))
  · obtain ⟨s, rfl⟩ : ∃ s : Nat, a = s := ⟨a.toNat, by omega⟩
    have ts : ((s : Int)).toNat = s := by omega
    -- the reference, once the class has laid
    have ref : ∀ (m1 : Mem) (w n : Int), w = b → n = (if b = 0 then 0 else c) → m1 (63 + 2 * s) 1 = w → m1 (63 + 2 * s) 2 = n → (∀ i : Int, 0 ≤ i → i < 24 → m1 (63 + 2 * s + 1) i = 0) → (∀ (x : Nat) (y : Int), ¬ (x = 63 + 2 * s ∧ (y = 1 ∨ y = 2)) → ¬ (x = 63 + 2 * s + 1 ∧ 0 ≤ y ∧ y < 24) → m1 x y = mem x y) → ∃ z : Int, some (vI 1) = some (vI z) ∧ C_X11_sheet G d [vR 71, vI s, vI b, vI c] m1 (An J z) := fun m1 w n hw hn l1 l2 l3 f1 => by
      have fin : ∀ m2 m3 : Mem, m2 = upM m1 87 s b → m3 = upM m2 88 s (if b = 0 then 0 else c) → E_X11_sheet G d 93 [(0, vR 71), (1, vI s), (4, vI 0)] [] m3 (An J 1) := fun m2 m3 e2 e3 => by
        refine sh_93 (by omega) (by omega) (fun m4 z4 f4 => an_mk (Rl_s h (fun x y p q r t u => ?_) (fun t ht => ?_)) rfl)
        · rw [f4 x y (by omega), e3, upM_ne (by omega), e2, upM_ne (by omega), f1 x y (by omega) (by omega)]
        · obtain ⟨s1, s2, s3, s4⟩ := h.2.2.2.2 t ht
          have g : ∀ (x : Nat) (y : Int), x ≠ 87 → x ≠ 88 → x ≠ 89 → m4 x y = m1 x y := fun x y p q r => by rw [f4 x y (by omega), e3, upM_ne (by omega), e2, upM_ne (by omega)]
          rw [g (63 + 2 * t) 1 (by omega) (by omega) (by omega), g (63 + 2 * t) 2 (by omega) (by omega) (by omega), f4 87 t (by omega), f4 88 t (by omega), e3, upM_ne (by omega), e2]
          by_cases q : t = s
          · subst q
            rw [l1, l2, upM_same, upM_same, hw, hn]
            refine ⟨rfl, rfl, by split <;> omega, fun k h0 h1 => ?_⟩
            rw [g (64 + 2 * t) k (by omega) (by omega) (by omega), z4 k h0 h1, show 64 + 2 * t = 63 + 2 * t + 1 by omega, l3 k h0 h1]
          · rw [f1 (63 + 2 * t) 1 (by omega) (by omega), f1 (63 + 2 * t) 2 (by omega) (by omega), upM_ne (by omega), upM_ne (by omega), upM_ne (by omega), f1 87 t (by omega) (by omega), f1 88 t (by omega) (by omega)]
            refine ⟨s1, s2, s3, fun k h0 h1 => ?_⟩
            rw [g (64 + 2 * t) k (by omega) (by omega) (by omega), f1 (64 + 2 * t) k (by omega) (by omega), f4 89 _ (by omega), e3, upM_ne (by omega), e2, upM_ne (by omega), f1 89 _ (by omega) (by omega)]
            exact s4 k h0 h1
      refine ⟨_, rfl, B_X11_sheet (by omega) ?_⟩
      by_cases b0 : b = 0
      · rw [if_pos b0] at fin
        refine ⟨ha, fun y => absurd k.1 y, fun _ => ⟨hb, fun _ => ⟨fun _ => ⟨fun _ => ⟨by omega, fun m2 e2 => ⟨fun y => absurd b0 y, fun _ m3 e3 => fin m2 m3 e2 e3⟩⟩, fun y => absurd b0 y⟩, fun y => absurd b0 y⟩, fun y => absurd b0 y⟩⟩
      · rw [if_neg b0] at fin
        exact ⟨ha, fun y => absurd k.1 y, fun _ => ⟨hb, fun y => absurd y b0, fun _ => ⟨fun _ => ⟨fun y => absurd y b0, fun _ => ⟨hc, fun _ => ⟨fun y => absurd y b0, fun _ => ⟨fun _ => ⟨show 0 ≤ (s : Int) ∧ (s : Int) < 4 by omega, fun m2 e2 => ⟨fun _ m3 e3 => fin m2 m3 e2 e3, fun y => absurd b0 y⟩⟩, fun y => absurd (show c ≤ 24 by omega) y⟩⟩, fun y => absurd (show 0 ≤ c by omega) y⟩⟩, fun y8 => ⟨fun _ => ⟨fun y => absurd y b0, fun _ => ⟨hc, fun _ => ⟨fun y => absurd y b0, fun _ => ⟨fun _ => ⟨show 0 ≤ (s : Int) ∧ (s : Int) < 4 by omega, fun m2 e2 => ⟨fun _ m3 e3 => fin m2 m3 e2 e3, fun y => absurd b0 y⟩⟩, fun y => absurd (show c ≤ 24 by omega) y⟩⟩, fun y => absurd (show 0 ≤ c by omega) y⟩⟩, fun y16 => ⟨fun _ => ⟨fun y => absurd y b0, fun _ => ⟨hc, fun _ => ⟨fun y => absurd y b0, fun _ => ⟨fun _ => ⟨show 0 ≤ (s : Int) ∧ (s : Int) < 4 by omega, fun m2 e2 => ⟨fun _ m3 e3 => fin m2 m3 e2 e3, fun y => absurd b0 y⟩⟩, fun y => absurd (show c ≤ 24 by omega) y⟩⟩, fun y => absurd (show 0 ≤ c by omega) y⟩⟩, fun y32 => by omega⟩⟩⟩⟩⟩
    refine B_X10_sheet (by omega) ?_
    rw [ts]
    refine ⟨ha, fun y => by omega, fun _ => ⟨hb, fun _ => ⟨fun b0 => ⟨hc, fun _ => ⟨fun _ => ⟨by omega, ct_lay (by unfold isSh; omega) hb hc (fun m1 l1 l2 l3 f1 => ⟨rfl, ref m1 b c rfl (by rw [if_neg b0]) l1 l2 l3 f1⟩)⟩, fun y => by omega⟩, fun y => by omega⟩, fun b0 => ⟨by omega, ct_lay (by unfold isSh; omega) (by decide) (by decide) (fun m1 l1 l2 l3 f1 => ⟨rfl, ref m1 0 0 (by omega) (by rw [if_pos (by omega)]) l1 l2 l3 f1⟩)⟩⟩, fun y => by omega⟩⟩
  · refine B_X10_sheet (by omega) ?_
    (repeat' first | apply And.intro | intro) <;> first | omega | (
      rename_i m1 e1
      refine ⟨_, rfl, B_X11_sheet (by omega) ?_⟩
      (repeat' first | apply And.intro | intro) <;> first | omega | (exact an_ref h (by decide) (by decide) e1 (by assumption)))
theorem op_put (hd : 40 ≤ d) (h : Rl J mem) {a b c : Int} (ha : inr a) (hb : inr b) (hc : inr c) : C_X10_put G d [vR 0, vI a, vI b, vI c] mem (fun r m1 => ∃ z : Int, r = some (vI z) ∧ C_X11_put G d [vR 71, vI a, vI b, vI c] m1 (An J z)) := by
  have sh : ∀ s : Nat, s < 4 → _ := h.2.2.2.2
  by_cases k : 0 ≤ a ∧ a ≤ 3
  · obtain ⟨s, rfl⟩ : ∃ s : Nat, a = s := ⟨a.toNat, by omega⟩
    have ts : ((s : Int)).toNat = s := by omega
    obtain ⟨s1, s2, s3, s4⟩ := sh s (by omega)
    have ob : obSh mem s = if mem 87 s = 0 then -1000002 else 0 := by
      unfold obSh
      rw [if_neg (by omega), ts, s1]
    have rf : ∀ (m1 : Mem) (e : Int), m1 = refM mem e → ∀ x : Nat, x ≠ 62 → ∀ y : Int, m1 x y = mem x y := fun m1 e e1 x hx y => by rw [e1, ref_f hx]
    by_cases w : mem 87 s = 0
    · rw [if_pos w] at ob
      refine B_X10_put (by omega) ?_
      rw [ob]
      refine ⟨ha, fun y => absurd y (by decide), fun _ => ⟨by decide, fun m1 e1 => ⟨_, rfl, B_X11_put (by omega) ?_⟩⟩⟩
      rw [rf m1 _ e1 87 (by omega)]
      exact ⟨ha, fun _ => ⟨by omega, fun y => absurd w y, fun _ m2 e2 => an_ref h (by decide) (by decide) e1 e2⟩, fun y => absurd k y⟩
    · rw [if_neg w] at ob
      refine B_X10_put (by omega) ?_
      rw [ob, ts, s2]
      refine ⟨ha, fun _ => ⟨by omega, ⟨hb, by omega⟩, fun y => ⟨hc, by omega, fun m1 e1 => ⟨_, rfl, B_X11_put (by omega) ?_⟩⟩, fun y m1 e1 => ⟨_, rfl, B_X11_put (by omega) ?_⟩⟩, fun y => absurd rfl y⟩
      · unfold wrM at e1
        rw [s1] at e1
        have g : ∀ (x : Nat) (y : Int), ¬ (x = 63 + 2 * s + 1 ∧ y = b) → m1 x y = mem x y := fun x y p => by rw [e1, upM_ne p]
        rw [g 87 s (by omega), g 88 s (by omega)]
        have fin : ∀ (v : Int) (m2 : Mem), v = (if mem 87 s = 8 then i2b c else if mem 87 s = 16 then i2s c else c) → m2 = upM m1 89 (24 * (s : Int) + b) v → An J 1 (some (vI 1)) m2 := fun v m2 hv e2 => by
          refine an_mk (Rl_s h (fun x y p q r t u => by rw [e2, upM_ne (by omega), g x y (by omega)]) (fun t ht => ?_)) rfl
          obtain ⟨t1, t2, t3, t4⟩ := sh t ht
          rw [e2, upM_ne (by omega), upM_ne (by omega), upM_ne (by omega), upM_ne (by omega), g (63 + 2 * t) 1 (by omega), g (63 + 2 * t) 2 (by omega), g 87 t (by omega), g 88 t (by omega)]
          refine ⟨t1, t2, t3, fun k h0 h1 => ?_⟩
          rw [upM_ne (by omega)]
          by_cases q : t = s ∧ k = b
          · rw [q.1, q.2, upM_same, hv, show 64 + 2 * s = 63 + 2 * s + 1 by omega, e1, upM_same]
          · rw [upM_ne (by omega), g (64 + 2 * t) k (by omega), g 89 _ (by omega)]
            exact t4 k h0 h1
        refine ⟨ha, fun _ => ⟨by omega, fun _ => ⟨⟨hb, by omega⟩, fun _ => ⟨fun w8 => ⟨fun w16 => ⟨by omega, hc, fun m2 e2 => fin _ m2 ?_ e2⟩, fun w16 => ⟨by omega, fun m2 e2 => fin _ m2 ?_ e2⟩⟩, fun w8 => ⟨by omega, fun m2 e2 => fin _ m2 ?_ e2⟩⟩, fun u => by omega⟩, fun u => absurd w u⟩, fun u => absurd k u⟩
        · rw [if_neg w8, if_neg w16]
        · rw [if_neg w8, if_pos (by omega)]
        · rw [if_pos (by omega)]
      · rw [rf m1 _ e1 87 (by omega), rf m1 _ e1 88 (by omega)]
        exact ⟨ha, fun _ => ⟨by omega, fun _ => ⟨⟨hb, by omega⟩, fun u => by omega, fun _ m2 e2 => an_ref h (by decide) (by decide) e1 e2⟩, fun u => absurd w u⟩, fun u => absurd k u⟩
  · have ob : obSh mem a = -1000001 := by unfold obSh; rw [if_pos (by omega)]
    refine B_X10_put (by omega) ?_
    rw [ob]
    exact ⟨ha, fun y => absurd y (by decide), fun _ => ⟨by decide, fun m1 e1 => ⟨_, rfl, B_X11_put (by omega) ⟨ha, fun y => absurd y k, fun _ m2 e2 => an_ref h (by decide) (by decide) e1 e2⟩⟩⟩⟩
end OP
