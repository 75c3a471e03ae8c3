/-! ===== Rumour: its methods ===== -/
def LTI (S : NS) (set k : Nat) (m : Mem) : Prop := m 49 7 = LL S set k ∧ ∀ j : Nat, j < LL S set k → m 54 j = ((LA S set j / 12 : Nat) : Int) ∧ m 55 j = ((LA S set j % 12 : Nat) : Int) ∧ m 56 j = lcs (S (5 + 3 * ((LA S set j / 12 : Nat) : Int))) true ∧ m 57 j = lcs (S (5 + 3 * ((LA S set j / 12 : Nat) : Int))) false
def ltF (mem m : Mem) : Prop := ∀ (a : Nat) (b : Int), ¬ (a = 49 ∧ b = 7) → a ≠ 54 → a ≠ 55 → a ≠ 56 → a ≠ 57 → m a b = mem a b
theorem LTI_skip {S : NS} {set a b : Nat} {m : Mem} (e : LL S set b = LL S set a) (h : LTI S set a m) : LTI S set b m := by
  unfold LTI at *
  rw [e]; exact h
theorem TB.mono {c c' : Int} {mem : Mem} {t : Nat} (h : TB c mem t) (hc : c ≤ c') : TB c' mem t := ⟨by have := h.1; omega, fun j h0 h1 => by have := h.2.1 j h0 h1; omega, fun j h0 h1 => by have := h.2.2 j h0 h1; omega⟩
theorem p3n {q : Nat} (h : q ≤ 8) : 0 < 3 ^ q ∧ (3 : Nat) ^ q ≤ 6561 := ⟨Nat.pow_pos (by decide), Nat.pow_le_pow_right (by decide) h⟩
section RM
variable {G : GT} {d : Nat} {mem : Mem} {Q : Option AV → Mem → Prop}
theorem ct_tiesOfLiars (hd : 1 ≤ d) {S : NS} (hR : HR 1 S mem) (hV : VN S) {n : Nat} (hn : S 0 = n) {set : Nat} (hs : set < 4096) (hq : Q (some (vI (LL S set 144))) mem) : C_X5_tiesOfLiars G d [vR 49, vI set] mem Q := by
  have v0 := hV.1
  have row : ∀ i : Nat, (LL S set (12 * (i + 1)) : Int) = LL S set (12 * i) + sm 12 (fun j => bI (liB S set (12 * i + j))) := fun i => by
    rw [LL_sm, LL_sm, show 12 * (i + 1) = 12 * i + 12 by omega, sm_app]
  have yes : ∀ i : Nat, i < 12 → (set.testBit i = true ∧ S (5 + 3 * (i : Int)) ≠ 5) → (LL S set (12 * (i + 1)) : Int) = LL S set (12 * i) + bitc (mem 5 i) := fun i hi h => by
    obtain ⟨c, c1, c2, c3⟩ := hR.2.2.2.1 i hi
    rw [show mem 5 i = c from c1, bitc_n c2, row]
    unfold pc
    congr 1
    refine sm_congr (fun j hj => ?_)
    rw [c3 j hj]
    unfold liB
    rw [show (12 * i + j) / 12 = i by omega, h.1, decide_eq_true h.2, Bool.and_true, Bool.and_true, show 41 + ((12 * i + j : Nat) : Int) = 41 + 12 * (i : Int) + j by omega]
  have no : ∀ i : Nat, i < 12 → ¬ (set.testBit i = true ∧ S (5 + 3 * (i : Int)) ≠ 5) → (LL S set (12 * (i + 1)) : Int) = LL S set (12 * i) := fun i hi h => by
    rw [row, sm_zero (fun j hj => ?_), Int.add_zero]
    have : liB S set (12 * i + j) = false := by
      cases e : liB S set (12 * i + j)
      · rfl
      · have := liB_tie e
        rw [show (12 * i + j) / 12 = i by omega] at this
        exact absurd this.2 h
    rw [this, bI_f]
  have fin : LL S set 144 = LL S set (12 * n) := LL_skip (by omega) (fun k h1 h2 => liB_out hV hn h2 (by omega))
  rw [fin] at hq
  refine B_X5_tiesOfLiars hd (it_loop (n := n) (E := fun i => E_X5_tiesOfLiars G d 4 [(0, vR 49), (1, vI set), (2, vI (LL S set (12 * i))), (3, vI i)] [] mem Q) ?_ ?_ 0 (by omega))
  · refine B_X5_tiesOfLiars_4 hd ?_
    rw [hR.1.1, hn]
    exact ⟨by omega, fun _ => hq, fun z => absurd (by omega) z⟩
  · intro i hi hE
    refine B_X5_tiesOfLiars_4 hd ?_
    rw [hR.1.1, hn, bt_n (by omega) (by omega), (hR.2.1 i (by omega) (by omega)).1]
    refine ⟨by omega, fun z => by omega, fun _ => ⟨by omega, fun z => ?_, fun z => ⟨by omega, ?_⟩⟩⟩
    · rw [no i (by omega) (fun h => z ⟨bI_ne0.mpr h.1, h.2⟩)] at hE
      exact hE
    · rw [yes i (by omega) ⟨bI_ne0.mp z.1, z.2⟩] at hE
      exact hE
theorem ct_listTies (hd : 4 ≤ d) {S : NS} (hR : HR 1 S mem) (hV : VN S) {n : Nat} (hn : S 0 = n) {set : Nat} (hs : set < 4096) (h8 : LL S set 144 ≤ 8) (hq : ∀ m' : Mem, LTI S set 144 m' → ltF mem m' → Q none m') : C_X5_listTies G d [vR 49, vI set] mem Q := by
  have v0 := hV.1
  have fin : LL S set 144 = LL S set (12 * n) := LL_skip (by omega) (fun k h1 h2 => liB_out hV hn h2 (by omega))
  refine B_X5_listTies (by omega) (fun m1 e1 => ?_)
  refine up_loop (n := n) (E := fun f m => E_X5_listTies G d 7 [(0, vR 49), (1, vI set), (2, vI f)] [] m Q) (I := fun f m => LTI S set (12 * f) m ∧ ltF mem m) ?_ ?_ (i := 0) (by omega) ⟨⟨by rw [e1, upM_same]; rfl, fun j hj => absurd hj (Nat.not_lt_zero _)⟩, fun a b h _ _ _ _ => by rw [e1, upM_ne h]⟩
  · intro m2 ⟨i2, f2⟩
    refine B_X5_listTies_7 (by omega) ?_
    rw [f2 1 0 (by omega) (by omega) (by omega) (by omega) (by omega), hR.1.1, hn]
    exact ⟨by omega, fun _ => hq m2 (LTI_skip fin i2) f2, fun z => absurd (by omega) z⟩
  · intro f m2 hf ⟨i2, f2⟩ hE
    refine B_X5_listTies_7 (by omega) ?_
    rw [f2 1 0 (by omega) (by omega) (by omega) (by omega) (by omega), hR.1.1, hn]
    refine ⟨by omega, fun z => by omega, fun _ => ?_⟩
    refine up_loop (n := n) (E := fun t m => E_X5_listTies G d 20 [(0, vR 49), (1, vI set), (2, vI f), (3, vI t)] [] m Q) (I := fun t m => LTI S set (12 * f + t) m ∧ ltF mem m) ?_ ?_ (i := 0) (by omega) ⟨i2, f2⟩
    · intro m3 ⟨i3, f3⟩
      refine B_X5_listTies_20 hd ?_
      rw [f3 1 0 (by omega) (by omega) (by omega) (by omega) (by omega), hR.1.1, hn]
      refine ⟨by omega, fun _ => hE m3 ⟨LTI_skip ?_ i3, f3⟩, fun z => absurd (by omega) z⟩
      exact LL_skip (by omega) (fun k h1 h2 => liB_out hV hn (by omega) (by omega))
    · intro t m3 ht ⟨i3, f3⟩ hE2
      have tb := hR.tied (i := f) (j := t) (by omega) (by omega)
      have k4 : ((12 * f + t) / 12 : Nat) = f := by omega
      have k5 : ((12 * f + t) % 12 : Nat) = t := by omega
      have e2 : m3 2 f = S (5 + 3 * (f : Int)) := by rw [f3 2 _ (by omega) (by omega) (by omega) (by omega) (by omega)]; exact (hR.2.1 f (by omega) (by omega)).1
      have e5 : m3 5 f = mem (1 + 4) f := f3 5 _ (by omega) (by omega) (by omega) (by omega) (by omega)
      have kd := hV.kind (i := f) (by omega) (by omega)
      have no : liB S set (12 * f + t) = false → E_X5_listTies G d 20 [(0, vR 49), (1, vI set), (2, vI f), (3, vI ((t : Int) + 1))] [] m3 Q := fun h => hE2 m3 ⟨LTI_skip (LL_skip (by omega) (fun k h1 h2 => by rw [show k = 12 * f + t by omega]; exact h)) i3, f3⟩
      refine B_X5_listTies_20 hd ?_
      rw [f3 1 0 (by omega) (by omega) (by omega) (by omega) (by omega), hR.1.1, hn, bt_n (by omega) (by omega), e2, e5, tb]
      refine ⟨by omega, fun z => by omega, fun _ => ⟨by omega, fun z => no ?_, fun z => ⟨by omega, fun z2 => no ?_, fun z2 => ?_⟩⟩⟩
      · cases e : liB S set (12 * f + t)
        · rfl
        · have := liB_tie e
          rw [k4] at this
          exact absurd ⟨bI_ne0.mpr this.2.1, this.2.2⟩ z
      · cases e : liB S set (12 * f + t)
        · rfl
        · have := (liB_tie e).1
          refine absurd (bI_ne0.mpr (decide_eq_true ?_)) z2
          rw [show 41 + 12 * (f : Int) + (t : Int) = 41 + ((12 * f + t : Nat) : Int) by omega]
          exact this
      · have yes : liB S set (12 * f + t) = true := by
          have t1 := of_decide_eq_true (bI_ne0.mp z2)
          unfold liB
          rw [k4, show 41 + ((12 * f + t : Nat) : Int) = 41 + 12 * (f : Int) + (t : Int) by omega, decide_eq_true t1, bI_ne0.mp z.1, decide_eq_true z.2]
          rfl
        have lk : LL S set (12 * f + t + 1) = LL S set (12 * f + t) + 1 := by rw [LL_s, if_pos yes]
        have lm := LL_mono S set (show 12 * f + t + 1 ≤ 144 by omega)
        have la := LA_at (by omega) yes
        obtain ⟨i7, i8⟩ := i3
        generalize hc : LL S set (12 * f + t) = c at *
        rw [i7]
        refine ⟨fun y => by omega, fun _ => ⟨by omega, by omega, fun m4 e4 => ?_⟩⟩
        have g4 : m4 49 7 = c := by rw [e4, upM_ne (by omega)]; exact i7
        rw [g4]
        refine ⟨by omega, fun m5 e5 => ?_⟩
        have g5 : m5 49 7 = c := by rw [e5, upM_ne (by omega)]; exact g4
        have h5 : m5 2 f = S (5 + 3 * (f : Int)) := by rw [e5, upM_ne (by omega), e4, upM_ne (by omega)]; exact e2
        rw [g5, h5]
        refine ⟨by omega, by omega, by omega, fun m6 e6 => ?_⟩
        have g6 : m6 49 7 = c := by rw [e6, upM_ne (by omega)]; exact g5
        have h6 : m6 2 f = S (5 + 3 * (f : Int)) := by rw [e6, upM_ne (by omega)]; exact h5
        rw [g6, h6]
        refine ⟨by omega, by omega, fun m7 e7 => ?_⟩
        have g7 : m7 49 7 = c := by rw [e7, upM_ne (by omega)]; exact g6
        rw [g7]
        refine ⟨by omega, fun m8 e8 => hE2 m8 ⟨⟨?_, fun j hj => ?_⟩, fun a b x1 x2 x3 x4 x5 => ?_⟩⟩
        · rw [e8, upM_same, show 12 * f + (t + 1) = 12 * f + t + 1 by omega, lk]; omega
        · rw [show 12 * f + (t + 1) = 12 * f + t + 1 by omega, lk] at hj
          by_cases q : j = c
          · subst q
            rw [la, k4, k5]
            refine ⟨?_, ?_, ?_, ?_⟩
            · rw [e8, upM_ne (by omega), e7, upM_ne (by omega), e6, upM_ne (by omega), e5, upM_ne (by omega), e4, upM_same]
            · rw [e8, upM_ne (by omega), e7, upM_ne (by omega), e6, upM_ne (by omega), e5, upM_same]
            · rw [e8, upM_ne (by omega), e7, upM_ne (by omega), e6, upM_same]; rfl
            · rw [e8, upM_ne (by omega), e7, upM_same]; rfl
          · have := i8 j (by omega)
            refine ⟨?_, ?_, ?_, ?_⟩
            · rw [e8, upM_ne (by omega), e7, upM_ne (by omega), e6, upM_ne (by omega), e5, upM_ne (by omega), e4, upM_ne (by omega)]; exact this.1
            · rw [e8, upM_ne (by omega), e7, upM_ne (by omega), e6, upM_ne (by omega), e5, upM_ne (by omega), e4, upM_ne (by omega)]; exact this.2.1
            · rw [e8, upM_ne (by omega), e7, upM_ne (by omega), e6, upM_ne (by omega), e5, upM_ne (by omega), e4, upM_ne (by omega)]; exact this.2.2.1
            · rw [e8, upM_ne (by omega), e7, upM_ne (by omega), e6, upM_ne (by omega), e5, upM_ne (by omega), e4, upM_ne (by omega)]; exact this.2.2.2
        · rw [e8, upM_ne (by omega), e7, upM_ne (by omega), e6, upM_ne (by omega), e5, upM_ne (by omega), e4, upM_ne (by omega)]
          exact f3 a b x1 x2 x3 x4 x5
theorem ct_hearWhole (hd : 5 ≤ d) {S : NS} (hR : HR 1 S mem) (hV : VN S) {n : Nat} (hn : S 0 = n) {set : Nat} (hs : set < 4096) (hq : ∀ m' : Mem, (∀ s : Nat, s < 2 ^ n → m' 51 s = hwS S set s 144) → (∀ (a : Nat) (b : Int), ¬ (a = 50 ∧ b = 3) → a ≠ 51 → a ≠ 52 → a ≠ 53 → m' a b = mem a b) → Q none m') : C_X5_hearWhole G d [vR 49, vI set] mem Q := by
  have v0 := hV.1
  have p4 := p2n (show n ≤ 12 by omega)
  have fin : ∀ s, hwS S set s 144 = hwS S set s (12 * n) := fun s => sm_skip (by omega) (fun k h1 h2 => by rw [hwB_out hV hn h2 (by omega)]; rfl)
  refine B_X5_hearWhole (by omega) (ct_clear (by decide) (fun m1 f1 t1 q1 => ⟨rfl, ?_⟩))
  refine up_loop (n := n) (E := fun f m => E_X5_hearWhole G d 9 [(0, vR 49), (1, vI set), (2, vI f)] [] m Q) (I := fun f m => tyF 50 mem m ∧ TB (12 * (f : Int)) m 50 ∧ ∀ s : Nat, s < 4096 → tq m 50 s = hwS S set s (12 * f)) ?_ ?_ (i := 0) (by omega) ⟨f1, t1.mono (by omega), fun s _ => by rw [q1]; rfl⟩
  · intro m2 ⟨f2, t2, q2⟩
    refine B_X5_hearWhole_9 (by omega) ?_
    rw [f2 1 0 (by omega) (by omega) (by omega), hR.1.1, hn]
    refine ⟨by omega, fun _ => ?_, fun z => absurd (by omega) z⟩
    refine ct_fill (by decide) (by omega) (c := 144) (by omega) (t2.mono (by omega)) (fun s hs => ?_) (fun m3 f3 q3 => ⟨rfl, hq m3 (fun s hs => ?_) (fun a b x y z w => ?_)⟩)
    · rw [q2 s hs]
      refine ⟨sm_nn (fun _ _ => bI_nn _), ?_⟩
      have := sm_le1 (n := 12 * n) (f := fun k => bI (hwB S set s k)) (fun _ _ => bI_le _)
      unfold hwS
      omega
    · rw [q3 s hs, q2 s (by omega), fin]
    · rw [f3 a b y, f2 a b x z w]
  · intro f m2 hf ⟨f2, t2, q2⟩ hE
    refine B_X5_hearWhole_9 (by omega) ?_
    rw [f2 1 0 (by omega) (by omega) (by omega), hR.1.1, hn]
    refine ⟨by omega, fun z => by omega, fun _ => ?_⟩
    refine up_loop (n := n) (E := fun t m => E_X5_hearWhole G d 22 [(0, vR 49), (1, vI set), (2, vI f), (3, vI t)] [] m Q) (I := fun t m => tyF 50 mem m ∧ TB (12 * (f : Int) + t) m 50 ∧ ∀ s : Nat, s < 4096 → tq m 50 s = hwS S set s (12 * f + t)) ?_ ?_ (i := 0) (by omega) ⟨f2, t2.mono (by omega), q2⟩
    · intro m3 ⟨f3, t3, q3⟩
      refine B_X5_hearWhole_22 (by omega) ?_
      rw [f3 1 0 (by omega) (by omega) (by omega), hR.1.1, hn]
      refine ⟨by omega, fun _ => hE m3 ⟨f3, t3.mono (by omega), fun s hs => ?_⟩, fun z => absurd (by omega) z⟩
      rw [q3 s hs]
      exact (sm_skip (by omega) (fun k h1 h2 => by rw [hwB_out hV hn (by omega) (by omega)]; rfl)).symm
    · intro t m3 ht ⟨f3, t3, q3⟩ hE2
      have tb := hR.tied (i := f) (j := t) (by omega) (by omega)
      have k4 : ((12 * f + t) / 12 : Nat) = f := by omega
      have k5 : ((12 * f + t) % 12 : Nat) = t := by omega
      have e2 : m3 2 f = S (5 + 3 * (f : Int)) := by rw [f3 2 _ (by omega) (by omega) (by omega)]; exact (hR.2.1 f (by omega) (by omega)).1
      have e5 : m3 5 f = mem (1 + 4) f := f3 5 _ (by omega) (by omega) (by omega)
      have kd := hV.kind (i := f) (by omega) (by omega)
      have e41 : 41 + ((12 * f + t : Nat) : Int) = 41 + 12 * (f : Int) + (t : Int) := by omega
      have no : (∀ s, hwB S set s (12 * f + t) = false) → E_X5_hearWhole G d 22 [(0, vR 49), (1, vI set), (2, vI f), (3, vI ((t : Int) + 1))] [] m3 Q := fun h => hE2 m3 ⟨f3, t3.mono (by omega), fun s hs => by
        rw [q3 s hs]
        show _ = sm (12 * f + t + 1) _
        rw [sm_s, h s, bI_f, Int.add_zero]; rfl⟩
      have yes : ∀ w : Bool, set.testBit f = false → 0 < S (41 + 12 * (f : Int) + t) → w = !set.testBit t → C_X7_add G (d - 1) [vR 50, vI (lcs (S (5 + 3 * (f : Int))) w), vI f, vI t] m3 (fun r9 m25 => r9 = none ∧ E_X5_hearWhole G d 22 [(0, vR 49), (1, vI set), (2, vI f), (3, vI ((t : Int) + 1))] [] m25 Q) := fun w h1 h2 h3 => by
        have ne := (tie_k hV (k := 12 * f + t) (by omega) (by rw [e41]; exact h2)).2.2
        refine ct_add (by decide) (by omega) (by omega) (by omega) (by omega) (c := 12 * (f : Int) + t) (by omega) (by omega) t3 (fun m4 f4 t4 q4 => ⟨rfl, hE2 m4 ⟨tyF_t f3 f4, t4.mono (by omega), fun s hs => ?_⟩⟩)
        rw [q4 s hs, q3 s hs]
        show _ = sm (12 * f + t + 1) _
        rw [sm_s]
        show hwS S set s (12 * f + t) + _ = hwS S set s (12 * f + t) + _
        congr 2
        unfold hwB
        rw [k4, k5, e41, h1, decide_eq_true h2, h3]
        rfl
      refine B_X5_hearWhole_22 (by omega) ?_
      rw [f3 1 0 (by omega) (by omega) (by omega), hR.1.1, hn, bt_n (by omega) (by omega), bt_n (by omega) (by omega), e2, e5, tb]
      refine ⟨by omega, fun z => by omega, fun _ => ⟨fun z => no (fun s => ?_), fun z => ⟨by omega, fun z2 => no (fun s => ?_), fun z2 => ⟨fun z3 => ⟨by omega, by omega, ?_⟩, fun z3 => ⟨by omega, by omega, ?_⟩⟩⟩⟩⟩
      · unfold hwB
        rw [k4, bI_ne0.mp z]
        simp
      · unfold hwB
        rw [e41]
        have : decide (0 < S (41 + 12 * (f : Int) + t)) = false := by
          cases e : decide (0 < S (41 + 12 * (f : Int) + t))
          · rfl
          · rw [e] at z2; exact absurd (by decide) z2
        rw [this]
        rfl
      · have y1 : set.testBit f = false := by
          cases e : set.testBit f
          · rfl
          · rw [e] at z; exact absurd (by decide) z
        exact yes false y1 (of_decide_eq_true (bI_ne0.mp z2)) (by rw [bI_ne0.mp z3]; rfl)
      · have y1 : set.testBit f = false := by
          cases e : set.testBit f
          · rfl
          · rw [e] at z; exact absurd (by decide) z
        have y2 : set.testBit t = false := by
          cases e : set.testBit t
          · rfl
          · rw [e] at z3; exact absurd (by decide) z3
        exact yes true y1 (of_decide_eq_true (bI_ne0.mp z2)) (by rw [y2]; rfl)
theorem ls_bits {S : NS} {set : Nat} (hI : LTI S set 144 mem) {j s : Nat} (hj : j < LL S set 144) (hs : s < 4096) : iand (ishr (mem 56 j) (2 * iand (ishr s (mem 54 j)) 1 + iand (ishr s (mem 55 j)) 1)) 1 = bI (lsB S set j s true) ∧ iand (ishr (mem 57 j) (2 * iand (ishr s (mem 54 j)) 1 + iand (ishr s (mem 55 j)) 1)) 1 = bI (lsB S set j s false) := by
  obtain ⟨a, b, c, e⟩ := hI.2 j hj
  have lt := (LA_in 144 (Nat.le_refl _) j hj).2
  rw [a, b, c, e, bt_n (by omega) (by omega), bt_n (by omega) (by omega), lcs_bit, lcs_bit]
  exact ⟨rfl, rfl⟩
theorem ct_stanceOf (hd : 1 ≤ d) {S : NS} {set : Nat} (hI : LTI S set 144 mem) (h8 : LL S set 144 ≤ 8) {j s : Nat} (hj : j < LL S set 144) (hs : s < 4096) (hq : Q (some (vI (stn S set j s))) mem) : C_X5_stanceOf G d [vR 49, vI s, vI j] mem Q := by
  have b := ls_bits hI hj hs
  refine B_X5_stanceOf hd ?_
  rw [b.1, b.2]
  unfold stn at hq
  refine ⟨by omega, fun z => ⟨fun y => ?_, fun y => ?_⟩, fun z => ?_⟩
  · rw [if_pos (bI_ne0.mp z), if_neg (fun h => y (bI_ne0.mpr h))] at hq; exact hq
  · rw [if_pos (bI_ne0.mp z), if_pos (bI_ne0.mp y)] at hq; exact hq
  · rw [if_neg (fun h => z (bI_ne0.mpr h))] at hq; exact hq
theorem hz_step (f : Nat → Nat) {i q : Nat} (hi : i < q) : ((hz f (i + 1) (q - (i + 1)) : Nat) : Int) = ((hz f i (q - i) : Nat) : Int) * 3 + (f (q - 1 - i) : Nat) := by
  show ((hz f i (q - (i + 1) + 1) * 3 + f (q - (i + 1)) : Nat) : Int) = _
  rw [show q - (i + 1) + 1 = q - i by omega, show q - (i + 1) = q - 1 - i by omega]
  omega
theorem ct_stancesOf (hd : 2 ≤ d) {S : NS} {set : Nat} (hI : LTI S set 144 mem) (h8 : LL S set 144 ≤ 8) {s : Nat} (hs : s < 4096) (hq : Q (some (vI (hz (fun j => stn S set j s) (LL S set 144) 0))) mem) : C_X5_stancesOf G d [vR 49, vI s] mem Q := by
  refine B_X5_stancesOf (by omega) ?_
  rw [hI.1]
  generalize hc : LL S set 144 = q at *
  have lp := it_loop (n := q) (E := fun i => E_X5_stancesOf G d 9 [(0, vR 49), (1, vI s), (2, vI (hz (fun j => stn S set j s) i (q - i))), (3, vI ((q : Int) - 1 - i))] [] mem Q) ?_ ?_ 0 (by omega)
  · have e : (q : Int) - 1 - ((0 : Nat) : Int) = (q : Int) - 1 := by omega
    rw [e] at lp
    exact lp
  · refine B_X5_stancesOf_9 (by omega) ⟨by omega, fun _ => ?_, fun z => absurd (by omega) z⟩
    rw [Nat.sub_self]
    exact hq
  · intro i hi hE
    refine B_X5_stancesOf_9 (by omega) ⟨by omega, fun z => by omega, fun _ => ?_⟩
    have e : (q : Int) - 1 - (i : Int) = ((q - 1 - i : Nat) : Int) := by omega
    rw [e]
    refine ct_stanceOf (by omega) hI (by omega) (by omega) hs ⟨_, rfl, ?_⟩
    rw [hz_step (fun j => stn S set j s) hi, show (q : Int) - 1 - ((i + 1 : Nat) : Int) = ((q - 1 - i : Nat) : Int) + (-1) by omega] at hE
    exact hE
theorem ct_countStances (hd : 3 ≤ d) {S : NS} (hR : HR 1 S mem) (hV : VN S) {n : Nat} (hn : S 0 = n) {set q : Nat} (hqq : q = LL S set 144) (hI : LTI S set 144 mem) (h8 : q ≤ 8) (hw : ∀ s : Nat, s < 2 ^ n → mem 51 s = hwS S set s 144) (hq : ∀ m' : Mem, (∀ z : Nat, z < 3 ^ q → m' 58 z = vst (2 ^ n) (wcB S set) q (stn S set) 0 z) → (∀ (a : Nat) (b : Int), a ≠ 58 → m' a b = mem a b) → Q none m') : C_X5_countStances G d [vR 49, vI ((3 ^ q : Nat) : Int)] mem Q := by
  have v0 := hV.1
  have p4 := p2n (show n ≤ 12 by omega)
  have p3 := p3n h8
  refine B_X5_countStances (by omega) ?_
  refine up_loop (n := 3 ^ q) (E := fun i m => E_X5_countStances G d 2 [(0, vR 49), (1, vI ((3 ^ q : Nat) : Int)), (2, vI i)] [] m Q) (I := fun i m => (∀ (a : Nat) (b : Int), a ≠ 58 → m a b = mem a b) ∧ ∀ z : Nat, z < i → m 58 z = 0) ?_ ?_ (i := 0) (by omega) ⟨fun _ _ _ => rfl, fun z hz => absurd hz (Nat.not_lt_zero _)⟩
  · intro m2 ⟨f2, z2⟩
    refine B_X5_countStances_2 (by omega) ?_
    rw [f2 1 0 (by omega), hR.1.1, hn, ishl_1 (by omega)]
    refine ⟨by omega, fun _ => ?_, fun z => absurd (by omega) z⟩
    refine up_loop (n := 2 ^ n) (E := fun s m => E_X5_countStances G d 30 [(0, vR 49), (2, vI (((2 ^ n : Nat) : Int) - 1)), (3, vI s)] [] m Q) (I := fun s m => (∀ (a : Nat) (b : Int), a ≠ 58 → m a b = mem a b) ∧ ∀ z : Nat, z < 3 ^ q → m 58 z = sm s (fun s => bI (wcB S set s && decide (hz (fun j => stn S set j s) q 0 = z)))) ?_ ?_ (i := 0) (by omega) ⟨f2, fun z hz => by rw [z2 z hz]; rfl⟩
    · intro m3 ⟨f3, z3⟩
      refine B_X5_countStances_30 (by omega) ?_
      exact ⟨by omega, fun _ => hq m3 z3 f3, fun z => absurd (by omega) z⟩
    · intro s m3 hs ⟨f3, z3⟩ hE
      have no : wcB S set s = false → E_X5_countStances G d 30 [(0, vR 49), (2, vI (((2 ^ n : Nat) : Int) - 1)), (3, vI ((s : Int) + 1))] [] m3 Q := fun h => hE m3 ⟨f3, fun z hz => by rw [z3 z hz, sm_s, h, Bool.false_and, bI_f, Int.add_zero]⟩
      have wc : (wcB S set s = true ↔ (hwS S set s 144 = 0 ∧ pc s ≤ S 2)) := by unfold wcB; rw [Bool.and_eq_true, decide_eq_true_iff, decide_eq_true_iff]
      refine B_X5_countStances_30 (by omega) ?_
      rw [f3 51 _ (by omega), hw s hs, f3 1 11 (by omega), hR.1.2.2.1, bitc_n (by omega)]
      refine ⟨by omega, fun z => by omega, fun _ => ⟨by omega, fun z => no ?_, fun z => ⟨fun y => no ?_, fun y => ?_⟩⟩⟩
      · exact Bool.eq_false_iff.mpr (fun h => z (wc.mp h).1)
      · exact Bool.eq_false_iff.mpr (fun h => by have := (wc.mp h).2; omega)
      · have yes : wcB S set s = true := wc.mpr ⟨by omega, by omega⟩
        have I3 : LTI S set 144 m3 := ⟨by rw [f3 49 7 (by omega)]; exact hI.1, fun j hj => by rw [f3 54 _ (by omega), f3 55 _ (by omega), f3 56 _ (by omega), f3 57 _ (by omega)]; exact hI.2 j hj⟩
        refine ct_stancesOf (by omega) I3 (by omega) (by omega) ⟨_, rfl, ?_⟩
        rw [← hqq]
        have zl := hz_lt (f := fun j => stn S set j s) (fun j => stn_lt S set j s) q 0
        have b1 : 0 ≤ sm s (fun s' => bI (wcB S set s' && decide (hz (fun j => stn S set j s') q 0 = hz (fun j => stn S set j s) q 0))) ∧ sm s (fun s' => bI (wcB S set s' && decide (hz (fun j => stn S set j s') q 0 = hz (fun j => stn S set j s) q 0))) ≤ s := ⟨sm_nn (fun _ _ => bI_nn _), sm_le1 (fun _ _ => bI_le _)⟩
        rw [z3 _ zl]
        refine ⟨by omega, by omega, fun m4 e4 => hE m4 ⟨fun a b x => by rw [e4, upM_ne (by omega)]; exact f3 a b x, fun z hz2 => ?_⟩⟩
        rw [sm_s, yes, Bool.true_and]
        by_cases e : hz (fun j => stn S set j s) q 0 = z
        · rw [e4, ← e, upM_same, decide_eq_true rfl, bI_t]
        · rw [e4, upM_ne (by omega), z3 z hz2, decide_eq_false e, bI_f, Int.add_zero]
  · intro i m2 hi ⟨f2, z2⟩ hE
    refine B_X5_countStances_2 (by omega) ?_
    refine ⟨by omega, fun z => by omega, fun _ => ⟨by omega, fun m3 e3 => hE m3 ⟨fun a b x => by rw [e3, upM_ne (by omega)]; exact f2 a b x, fun z hz => ?_⟩⟩⟩
    by_cases e : z = i
    · subst e; rw [e3, upM_same]
    · rw [e3, upM_ne (by omega)]; exact z2 z (by omega)
end RM
