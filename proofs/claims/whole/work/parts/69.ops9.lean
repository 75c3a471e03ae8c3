/-! ===== operations: chance, worst ===== -/
theorem sm_bd {n : Nat} {f : Nat → Int} {B : Int} (h : ∀ i, i < n → 0 ≤ f i ∧ f i ≤ B) : 0 ≤ sm n f ∧ sm n f ≤ n * B := by
  induction n with
  | zero => rw [sm_0]; exact ⟨Int.le_refl _, by rw [show ((0 : Nat) : Int) = 0 from rfl, Int.zero_mul]; exact Int.le_refl _⟩
  | succ n ih =>
    have a := ih (fun i hi => h i (by omega))
    have b := h n (by omega)
    rw [sm_s, show ((n + 1 : Nat) : Int) * B = (n : Int) * B + B by rw [show ((n + 1 : Nat) : Int) = (n : Int) + 1 by omega, Int.add_mul, Int.one_mul]]
    omega
theorem iand_bit {s m : Nat} (hs : s < 4096) (hm : m < 12) : iand (s : Int) (ishl 1 (m : Int)) = ishl 1 (m : Int) ↔ s.testBit m = true := by
  have p := p2 hm
  have p0 := Nat.two_pow_pos m
  rw [ishl_1 (by omega), iand_nn (by omega) (by omega)]
  have e : s &&& 2 ^ m = if s.testBit m then 2 ^ m else 0 := by
    apply Nat.eq_of_testBit_eq
    intro i
    rw [Nat.testBit_and, Nat.testBit_two_pow]
    by_cases c : m = i
    · subst c
      cases q : s.testBit m
      · simp
      · simp [Nat.testBit_two_pow]
    · rw [decide_eq_false c, Bool.and_false]
      cases q : s.testBit m
      · simp
      · simp [Nat.testBit_two_pow, c]
  rw [e]
  cases s.testBit m
  · rw [if_neg (by decide)]
    exact ⟨fun z => by omega, fun z => absurd z (by decide)⟩
  · rw [if_pos rfl]
    exact ⟨fun _ => rfl, fun _ => rfl⟩
section OP
variable {G : GT} {d : Nat} {mem : Mem} {J : Int} {Q : Option AV → Mem → Prop}
theorem op_chance (hd : 300 ≤ d) (h : Rl J mem) {a b : Int} (ha : inr a) (hb : inr b) : C_X10_chance G d [vR 0, vI a, vI b] mem (fun r m1 => ∃ z : Int, r = some (vL z) ∧ C_X11_chance G d [vR 71, vI a, vI b] m1 (AnL J z)) := by
  have v0 := h.1.1.1
  have r0 := h.1.2.1.1.1
  obtain ⟨n, hn⟩ : ∃ n : Nat, mem 72 0 = n := ⟨(mem 72 0).toNat, by omega⟩
  have p := p2n (show n ≤ 12 by omega)
  have tn : (mem 72 0).toNat = n := by omega
  have cl := cN_le (fitB (mem 72)) (2 ^ n)
  by_cases k : (0 ≤ a ∧ a < mem 72 0) ∧ (0 ≤ b ∧ b ≤ 1)
  · obtain ⟨mm, rfl⟩ : ∃ m : Nat, a = m := ⟨a.toNat, by omega⟩
    refine B_X10_chance (by omega) ?_
    rw [r0]
    refine ⟨ha, fun z => absurd k.1 z, fun _ => ⟨hb, fun _ => ct_refresh (by omega) h.1.2.1 h.1.1 h.1.2.2.1 (fun m1 F1 c1 f1 => ⟨rfl, ?_⟩), fun z => by omega⟩⟩
    obtain ⟨F1a, F1b, F1c⟩ := F1
    have F1 : FT (mem 72) m1 := ⟨F1a, F1b, F1c⟩
    rw [tn] at F1b F1c
    rw [F1c]
    refine ⟨fun z => ?_, fun z m2 e2 => ⟨_, rfl, B_X11_chance (by omega) ?_⟩⟩
    · generalize hN : cN (fitB (mem 72)) (2 ^ n) = N at *
      have rg : ∀ i : Nat, i < N → 0 ≤ m1 37 i ∧ m1 37 i < ((2 ^ n : Nat) : Int) := fun i hi => SL_r F1b (by omega) (by omega)
      have pm := p2 (show mm < 12 by omega)
      have F2 : ∀ m2 : Mem, (∀ (x : Nat) (y : Int), x ≠ 41 → m2 x y = m1 x y) → FT (mem 72) m2 := fun m2 f2 => FT_f F1 (fun x y u => f2 x y (by omega))
      refine ct_weightOfThose (by omega) (f1.HR h.1.2.1) h.1.1 hn F1 (c := ishl 1 (mm : Int)) (by have := Nat.two_pow_pos mm; rw [ishl_1 (by omega)]; omega) (fun m2 f2 => ⟨_, rfl, ct_weightOfThose (by omega) ((f1.HR h.1.2.1).congr (fun c b hc _ => f2 (1 + c) b (by omega))) h.1.1 hn (F2 m2 f2) (by decide) (fun m3 f3 => ⟨_, rfl, ?_⟩)⟩)
      rw [hN]
      have lowE : sm N (fun i => if iand (m2 37 i) 0 = 0 then wt (mem 72) n (m2 37 i).toNat else 0) = sm N (fun i => wt (mem 72) n (m1 37 i).toNat) := sm_congr (fun i hi => by
        have := rg i hi
        obtain ⟨s, hs⟩ : ∃ s : Nat, m1 37 i = s := ⟨(m1 37 i).toNat, by omega⟩
        have e0 : iand (s : Int) 0 = 0 := by have := iand_nn (a := s) (b := 0) (by omega) (by decide); rw [Nat.and_zero] at this; exact this
        rw [f2 37 _ (by omega), hs, if_pos e0])
      have upE : sm N (fun i => if iand (m1 37 i) (ishl 1 (mm : Int)) = ishl 1 (mm : Int) then wt (mem 72) n (m1 37 i).toNat else 0) = sm N (fun i => bI ((m1 37 i).toNat.testBit mm) * wt (mem 72) n (m1 37 i).toNat) := sm_congr (fun i hi => by
        have := rg i hi
        obtain ⟨s, hs⟩ : ∃ s : Nat, m1 37 i = s := ⟨(m1 37 i).toNat, by omega⟩
        have ib := iand_bit (s := s) (m := mm) (by omega) (by omega)
        rw [hs, show ((s : Int)).toNat = s by omega]
        by_cases q : s.testBit mm = true
        · rw [if_pos (ib.mpr q), q, bI_t, Int.one_mul]
        · rw [if_neg (fun c => q (ib.mp c)), Bool.eq_false_iff.mpr q, bI_f, Int.zero_mul])
      rw [lowE, upE]
      generalize hT : sm N (fun i => wt (mem 72) n (m1 37 i).toNat) = T at *
      generalize hU : sm N (fun i => bI ((m1 37 i).toNat.testBit mm) * wt (mem 72) n (m1 37 i).toNat) = U at *
      have wb : ∀ i : Nat, 1 ≤ wt (mem 72) n (m1 37 i).toNat ∧ wt (mem 72) n (m1 37 i).toNat ≤ 282429536481 := fun i => wt_b h.1.1 (i := n) (by omega) _
      have Tb : 0 ≤ T ∧ T ≤ N * 282429536481 := by rw [← hT]; exact sm_bd (fun i _ => by have := wb i; omega)
      have Ub : 0 ≤ U ∧ U ≤ T := by
        rw [← hT, ← hU]
        refine ⟨sm_nn (fun i _ => ?_), sm_le (fun i _ => ?_)⟩
        · have := wb i; rcases bI_01 ((m1 37 i).toNat.testBit mm) with e | e <;> rw [e] <;> omega
        · have := wb i; rcases bI_01 ((m1 37 i).toNat.testBit mm) with e | e <;> rw [e] <;> omega
      have T1 : 1 ≤ T := by
        rw [← hT]
        have l := sm_lt (n := N) (f := fun _ => 0) (g := fun i => wt (mem 72) n (m1 37 i).toNat) (fun i _ => by have := wb i; omega) (show 0 < N by omega) (by have := wb 0; show (0 : Int) < _; omega)
        rw [sm_zero (fun _ _ => rfl)] at l
        omega
      have Nb : (N : Int) * 282429536481 ≤ 4096 * 282429536481 := Int.mul_le_mul_of_nonneg_right (by omega) (by decide)
      have T2 : T < ((2 ^ 51 : Nat) : Int) := by
        have : (4096 : Int) * 282429536481 < ((2 ^ 51 : Nat) : Int) := by decide
        omega
      have e51 : ((2 ^ 51 : Nat) : Int) < 9223372036854775808 := by decide
      have eu : eucT 200 T U := by
        have e99 : ((2 ^ 51 : Nat) : Int) < ((2 ^ 99 : Nat) : Int) := by decide
        have t99 : T < ((2 ^ 99 : Nat) : Int) := Int.lt_trans T2 e99
        exact eucT_s 199 T U (eucT_ok 99 T U Ub.1 Ub.2 t99)
      have ep := euc_pos 200 T U T1 Ub.1
      have ep2 := ep.2 Ub.2
      refine ct_commonDivisor (by omega) (by omega) Ub.1 Ub.2 eu ⟨_, rfl, ?_⟩
      -- the reference
      have ref : ∀ w : Int, w = (if b = 0 then Int.tdiv U (euc 200 T U) else Int.tdiv T (euc 200 T U)) → ∃ z' : Int, some (vL w) = some (vL z') ∧ C_X11_chance G d [vR 71, vI mm, vI b] m3 (AnL J z') := fun w hw => by
        have g3 : m3 72 = mem 72 := by rw [← f1.S]; exact funext (fun x => by rw [f3 72 x (by omega), f2 72 x (by omega)])
        refine ⟨_, rfl, B_X11_chance (by omega) ?_⟩
        rw [g3]
        refine ⟨ha, by omega, fun y => absurd k.1 y, fun _ => ⟨hb, fun _ => ct_findFitting (by omega) g3 h.1.1 (fun m4 F4 f4 => ⟨rfl, ?_⟩), fun y => absurd k.2 y⟩⟩
        obtain ⟨F4a, F4b⟩ := F4
        rw [tn, hN] at F4b
        rw [tn] at F4a
        rw [F4b]
        have g4 : m4 72 = mem 72 := by rw [← g3]; exact funext (fun x => f4 72 x (by omega) (by omega))
        have eqv : ∀ i : Nat, i < N → m4 77 i = m1 37 i := fun i hi => SL_eq F4a F1b (by omega)
        have Rm : Rl J m4 := Rl_q h (qF_t f1.q (qF_t (b := m2) (fun x y u v => f2 x y (by unfold scr at v; omega)) (qF_t (b := m3) (fun x y u v => f3 x y (by unfold scr at v; omega)) f4.q))) (fun _ => FT_f F1 (fun x y u => by rw [f4 x y (by omega) (by omega), f3 x y (by omega), f2 x y (by omega)])) (by rw [f4 44 0 (by omega) (by omega), f3 44 0 (by omega), f2 44 0 (by omega), f1 44 0 (by omega) (by omega) (by omega)]; exact h.1.2.2.2)
        refine ⟨fun _ => ?_, fun y => absurd z y⟩
        refine it_loop (n := N) (E := fun i => E_X11_chance G d 53 [(0, vR 71), (1, vI mm), (2, vI b), (3, vL (sm i (fun i => wt (mem 72) n (m1 37 i).toNat))), (5, vL (sm i (fun i => bI ((m1 37 i).toNat.testBit mm) * wt (mem 72) n (m1 37 i).toNat))), (7, vI i)] [] m4 (AnL J w)) ?_ ?_ 0 (by omega)
        · refine B_X11_chance_53 (by omega) ?_
          rw [F4b, hT, hU]
          refine ⟨by omega, fun _ => ⟨hb, fun y => ct_divisor 200 (by omega) (by omega) (by omega) Ub.1 (by omega) eu ⟨_, rfl, ⟨by omega, by omega⟩, by omega, AnL.mk Rm ?_⟩, fun y => ct_divisor 200 (by omega) (by omega) (by omega) Ub.1 (by omega) eu ⟨_, rfl, ⟨by omega, by omega⟩, by omega, AnL.mk Rm ?_⟩⟩, fun y => absurd (by omega) y⟩
          · rw [hw, if_neg y]
          · rw [hw, if_pos (by omega)]
        · intro i hi hE
          have := rg i hi
          obtain ⟨s, hs⟩ : ∃ s : Nat, m1 37 i = s := ⟨(m1 37 i).toNat, by omega⟩
          have e77 : m4 77 i = s := by rw [eqv i hi, hs]
          rw [sm_s, sm_s, hs, show ((s : Int)).toNat = s by omega] at hE
          refine B_X11_chance_53 (by omega) ?_
          rw [F4b]
          refine ⟨by omega, fun y => by omega, fun _ => ⟨by omega, ?_⟩⟩
          rw [e77]
          refine ct_weightOf (by omega) g4 h.1.1 hn (by omega) ⟨_, rfl, ?_⟩
          rw [e77, bt_n (by omega) (by omega)]
          refine ⟨fun y => ?_, fun y => ?_⟩
          · rw [nb1 y, bI_f, Int.zero_mul] at hE; exact hE
          · rw [bI_eq1.mp y, bI_t, Int.one_mul] at hE; exact hE
      refine ⟨by omega, fun y => ⟨fun x => ⟨by omega, by omega, ref _ (by rw [if_neg x])⟩, fun x => ⟨by omega, by omega, ref _ (by rw [if_pos (by omega)])⟩⟩, fun y => ?_⟩
      exact absurd (fun c => by have := lcmp_0.mp c; omega) y
    · have g72 : m2 72 = mem 72 := by rw [ref72 e2]; exact f1.S
      rw [g72]
      refine ⟨ha, by omega, fun y => absurd k.1 y, fun _ => ⟨hb, fun _ => ct_findFitting (by omega) g72 h.1.1 (fun m3 F2 f2 => ⟨rfl, ?_⟩), fun y => absurd k.2 y⟩⟩
      obtain ⟨F2a, F2b⟩ := F2
      rw [tn] at F2b
      rw [F2b]
      refine ⟨fun y => absurd y z, fun _ m4 e4 => ?_⟩
      have an := an_ref2 h (e := -1000002) (by decide) (by decide) f1.q e2 f2.q e4 (fun _ => ?_) ?_
      · exact AnL.mk an.rl rfl
      · exact FT_f F1 (fun x y u => by rw [f2 x y (by omega) (by omega), e2, ref_f (by omega)])
      · rw [f2 44 0 (by omega) (by omega), e2, ref_f (by omega), f1 44 0 (by omega) (by omega) (by omega)]; exact h.1.2.2.2
  · have ref : ∀ m1 : Mem, m1 = refM mem (-1000001) → ∃ z : Int, some (vL (-1000001)) = some (vL z) ∧ C_X11_chance G d [vR 71, vI a, vI b] m1 (AnL J z) := fun m1 e1 => by
      refine ⟨_, rfl, B_X11_chance (by omega) ?_⟩
      rw [ref72 e1]
      exact ⟨ha, by omega, fun _ m2 e2 => AnL.mk (an_ref h (by decide) (by decide) e1 e2).rl rfl, fun y => ⟨hb, fun y2 => absurd ⟨y, y2⟩ k, fun _ m2 e2 => AnL.mk (an_ref h (by decide) (by decide) e1 e2).rl rfl⟩⟩
    refine B_X10_chance (by omega) ?_
    rw [r0]
    exact ⟨ha, fun _ m1 e1 => ref m1 e1, fun y => ⟨hb, fun z => absurd ⟨y, by omega⟩ k, fun _ m1 e1 => ref m1 e1⟩⟩
/-- how far the reference has come: sets below u count -/
def wP (S : NS) (set n q u said : Nat) : Int := if laB S set set said q = true then sm u (fun s => bI (wcB S set s && laB S set s said q)) else -4096
theorem wP_r {S : NS} {set n q u said : Nat} (hu : u ≤ 4096) : -4096 ≤ wP S set n q u said ∧ wP S set n q u said ≤ 4096 ∧ (wP S set n q u said < 0 ↔ laB S set set said q = false) := by
  unfold wP
  by_cases c : laB S set set said q = true
  · have a : 0 ≤ sm u (fun s => bI (wcB S set s && laB S set s said q)) := sm_nn (fun _ _ => bI_nn _)
    have b : sm u (fun s => bI (wcB S set s && laB S set s said q)) ≤ u := sm_le1 (fun _ _ => bI_le _)
    rw [if_pos c, c]
    exact ⟨by omega, by omega, ⟨fun z => by omega, fun z => absurd z (by decide)⟩⟩
  · rw [if_neg c]
    exact ⟨by omega, by omega, ⟨fun _ => Bool.eq_false_iff.mpr c, fun _ => by omega⟩⟩
theorem worst_ref (hd : 10 ≤ d) {m1 : Mem} {S : NS} (hS : m1 72 = S) (hV : VN S) {n set q : Nat} {b : Int} (hb : inr b) (hn : S 0 = n) (hset : set < 2 ^ n) (hq : q = LL S set 144) (h8 : q ≤ 8) {z : Int}
    (fin : ∀ m : Mem, (∀ (x : Nat) (y : Int), x ≠ 83 → x ≠ 84 → m x y = m1 x y) → An J z (some (vI (if b = 0 then (wst S set n q (2 ^ q)).1 else (wst S set n q (2 ^ q)).2))) m) : E_X11_worst G d 29 [(0, vR 71), (1, vI set), (2, vI b), (3, vI 0), (4, vI 0)] [] m1 (An J z) := by
  have v0 := hV.1
  have p := p2n (show n ≤ 12 by omega)
  have p8 := p28 h8
  have s72 : ∀ m : Mem, (∀ (x : Nat) (y : Int), x ≠ 83 → x ≠ 84 → m x y = m1 x y) → m 72 = S := fun m f => by rw [← hS]; exact funext (fun x => f 72 x (by omega) (by omega))
  have hq0 : ishl 1 (q : Int) = ((2 ^ q : Nat) : Int) := ishl_1 (by omega)
  -- the ties
  refine up_loop (n := 144) (E := fun k m => E_X11_worst G d 29 [(0, vR 71), (1, vI set), (2, vI b), (3, vI (LL S set k)), (4, vI k)] [] m (An J z)) (I := fun k m => (∀ (x : Nat) (y : Int), x ≠ 83 → x ≠ 84 → m x y = m1 x y) ∧ ∀ j : Nat, j < LL S set k → m 83 j = LA S set j) ?_ ?_ (i := 0) (by omega) ⟨fun _ _ _ _ => rfl, fun j hj => absurd hj (Nat.not_lt_zero _)⟩
  · intro m2 ⟨f2, a2⟩
    rw [← hq] at a2 ⊢
    refine B_X11_worst_29 (by omega) ⟨by omega, fun _ => ?_, fun y => absurd (by omega) y⟩
    -- what may be said
    refine up_loop (n := 2 ^ q) (E := fun k m => E_X11_worst G d 126 [(0, vR 71), (1, vI set), (2, vI b), (3, vI q), (4, vI k)] [] m (An J z)) (I := fun k m => (∀ (x : Nat) (y : Int), x ≠ 84 → m x y = m2 x y) ∧ ∀ j : Nat, j < k → m 84 j = wP S set n q 0 j) ?_ ?_ (i := 0) (by omega) ⟨fun _ _ _ => rfl, fun j hj => absurd hj (Nat.not_lt_zero _)⟩
    · intro m3 ⟨f3, a3⟩
      refine B_X11_worst_126 (by omega) ?_
      rw [hq0]
      refine ⟨by omega, fun _ => ?_, fun y => absurd (by omega) y⟩
      -- the sets
      refine up_loop (n := 2 ^ n) (E := fun u m => E_X11_worst G d 168 [(0, vR 71), (1, vI set), (2, vI b), (3, vI q), (4, vI u)] [] m (An J z)) (I := fun u m => (∀ (x : Nat) (y : Int), x ≠ 84 → m x y = m2 x y) ∧ ∀ j : Nat, j < 2 ^ q → m 84 j = wP S set n q u j) ?_ ?_ (i := 0) (by omega) ⟨f3, a3⟩
      · intro m4 ⟨f4, a4⟩
        have g4 : ∀ (x : Nat) (y : Int), x ≠ 83 → x ≠ 84 → m4 x y = m1 x y := fun x y u v => by rw [f4 x y v, f2 x y u v]
        refine B_X11_worst_168 (by omega) ?_
        rw [s72 m4 g4, hn, ishl_1 (by omega)]
        refine ⟨by omega, fun _ => ?_, fun y => absurd (by omega) y⟩
        have last := wst_some S set n hq
        have f0 := fin m4 g4
        -- the best
        have lp := it_loop (n := 2 ^ q) (E := fun k => E_X11_worst G d 267 [(0, vR 71), (2, vI b), (3, vI q), (4, vI (if (wst S set n q k).1 < 0 then -1 else (wst S set n q k).2)), (5, vI k)] [] m4 (An J z)) ?_ ?_ 0 (by omega)
        · exact lp
        · rcases wst_I S set n q (2 ^ q) with I | ⟨i0, j, j1, j2, j3, j4⟩
          · omega
          · refine B_X11_worst_267 (by omega) ?_
            rw [hq0, if_neg (by omega), j2]
            have e84 : m4 84 j = (wst S set n q (2 ^ q)).1 := by
              rw [a4 j j1, j3]
              unfold wP
              rw [if_pos j4]; rfl
            rw [e84]
            refine ⟨by omega, fun _ => ⟨hb, fun y => ?_, fun y => ⟨by omega, ?_⟩⟩, fun y => absurd (by omega) y⟩
            · rw [if_neg y, j2] at f0; exact f0
            · rw [if_pos (by omega)] at f0; exact f0
        · intro k hk hE
          have st : wst S set n q (k + 1) = if laB S set set k q = true ∧ (wst S set n q k).1 < wV S set n q k then (wV S set n q k, (k : Int)) else wst S set n q k := rfl
          have vr := wV_r S set n q k
          have wr := wP_r (S := S) (set := set) (n := n) (q := q) (u := 2 ^ n) (said := k) (by omega)
          have eP : laB S set set k q = true → wP S set n q (2 ^ n) k = wV S set n q k := fun c => by unfold wP; rw [if_pos c]; rfl
          have no : ¬ (laB S set set k q = true ∧ (wst S set n q k).1 < wV S set n q k) → E_X11_worst G d 267 [(0, vR 71), (2, vI b), (3, vI q), (4, vI (if (wst S set n q k).1 < 0 then -1 else (wst S set n q k).2)), (5, vI ((k : Int) + 1))] [] m4 (An J z) := fun c => by rw [st, if_neg c] at hE; exact hE
          have yes : (laB S set set k q = true ∧ (wst S set n q k).1 < wV S set n q k) → E_X11_worst G d 267 [(0, vR 71), (2, vI b), (3, vI q), (4, vI k), (5, vI ((k : Int) + 1))] [] m4 (An J z) := fun c => by
            rw [st, if_pos c] at hE
            rw [if_neg (show ¬ (wV S set n q k < 0) by omega)] at hE
            exact hE
          refine B_X11_worst_267 (by omega) ?_
          rw [hq0, a4 k hk]
          refine ⟨by omega, fun y => by omega, fun _ => ⟨by omega, fun y => no (fun c => by rw [wr.2.2.mp y] at c; exact absurd c.1 (by decide)), fun y => ?_⟩⟩
          have la : laB S set set k q = true := by
            cases e : laB S set set k q
            · exact absurd (wr.2.2.mpr e) y
            · rfl
          rw [eP la]
          rcases wst_I S set n q k with I | ⟨i0, j, j1, j2, j3, j4⟩
          · rw [if_pos (by omega)]
            exact ⟨by decide, fun _ => yes ⟨la, by omega⟩, fun u => absurd (by decide) u⟩
          · have ij : (if (wst S set n q k).1 < 0 then -1 else (wst S set n q k).2) = (j : Int) := by rw [if_neg (by omega), j2]
            rw [ij] at no ⊢
            have e84 : m4 84 j = (wst S set n q k).1 := by
              rw [a4 j (by omega), j3]
              unfold wP
              rw [if_pos j4]; rfl
            rw [e84]
            exact ⟨by omega, fun u => by omega, fun _ => ⟨by omega, fun u => no (fun c => by omega), fun u => yes ⟨la, by omega⟩⟩⟩
      · intro u m4 hu ⟨f4, a4⟩ hE
        have g4 : ∀ (x : Nat) (y : Int), x ≠ 83 → x ≠ 84 → m4 x y = m1 x y := fun x y u v => by rw [f4 x y v, f2 x y u v]
        have wc : wcB S set u = true ↔ (hwS S set u 144 = 0 ∧ pc u ≤ S 2) := by unfold wcB; rw [Bool.and_eq_true, decide_eq_true_iff, decide_eq_true_iff]
        have skip : wcB S set u = false → E_X11_worst G d 168 [(0, vR 71), (1, vI set), (2, vI b), (3, vI q), (4, vI ((u : Int) + 1))] [] m4 (An J z) := fun c => hE m4 ⟨f4, fun j hj => by
          rw [a4 j hj]
          unfold wP
          rw [sm_s, c, Bool.false_and, bI_f, Int.add_zero]⟩
        have pu := pc_nn u
        have pu2 := pc_le u
        refine B_X11_worst_168 (by omega) ?_
        rw [s72 m4 g4, hn, ishl_1 (by omega), bits_pc (by omega)]
        refine ⟨by omega, fun y => by omega, fun _ => ⟨by omega, fun y => skip (Bool.eq_false_iff.mpr (fun c => by have := (wc.mp c).2; omega)), fun y => ct_letsWhole (by omega) (s72 m4 g4) (by omega) (by omega) ⟨_, rfl, ?_, fun w => skip ?_, fun w => ?_⟩⟩⟩
        · rcases bI_01 (decide (hwS S set u 144 = 0)) with e | e <;> rw [e] <;> decide
        · refine Bool.eq_false_iff.mpr (fun c => ?_)
          rw [decide_eq_true (wc.mp c).1] at w
          exact absurd w (by decide)
        · have cu : wcB S set u = true := wc.mpr ⟨of_decide_eq_true (bI_ne0.mp w), by omega⟩
          refine up_loop (n := 2 ^ q) (E := fun k m => E_X11_worst G d 204 [(0, vR 71), (1, vI set), (2, vI b), (3, vI q), (4, vI u), (5, vI k)] [] m (An J z)) (I := fun k m => (∀ (x : Nat) (y : Int), x ≠ 84 → m x y = m2 x y) ∧ ∀ j : Nat, j < 2 ^ q → m 84 j = wP S set n q (if j < k then u + 1 else u) j) ?_ ?_ (i := 0) (by omega) ⟨f4, fun j hj => by rw [if_neg (by omega)]; exact a4 j hj⟩
          · intro m5 ⟨f5, a5⟩
            refine B_X11_worst_204 (by omega) ?_
            rw [hq0]
            exact ⟨by omega, fun _ => hE m5 ⟨f5, fun j hj => by rw [a5 j hj, if_pos hj]⟩, fun y => absurd (by omega) y⟩
          · intro k m5 hk ⟨f5, a5⟩ hE2
            have g5 : ∀ (x : Nat) (y : Int), x ≠ 83 → x ≠ 84 → m5 x y = m1 x y := fun x y u v => by rw [f5 x y v, f2 x y u v]
            have e84 : m5 84 k = wP S set n q u k := by rw [a5 k hk, if_neg (by omega)]
            have wr := wP_r (S := S) (set := set) (n := n) (q := q) (u := u) (said := k) (by omega)
            have wr2 := wP_r (S := S) (set := set) (n := n) (q := q) (u := u + 1) (said := k) (by omega)
            have nxt : ∀ (m6 : Mem) (v : Int), v = wP S set n q (u + 1) k → m6 = upM m5 84 k v → E_X11_worst G d 204 [(0, vR 71), (1, vI set), (2, vI b), (3, vI q), (4, vI u), (5, vI ((k : Int) + 1))] [] m6 (An J z) := fun m6 v hv e6 => by
              refine hE2 m6 ⟨fun x y w => by rw [e6, upM_ne (by omega)]; exact f5 x y w, fun j hj => ?_⟩
              by_cases e : j = k
              · subst e; rw [e6, upM_same, if_pos (by omega), hv]
              · rw [e6, upM_ne (by omega), a5 j hj]
                by_cases c : j < k
                · rw [if_pos c, if_pos (by omega)]
                · rw [if_neg c, if_neg (by omega)]
            have wPs : laB S set set k q = true → wP S set n q (u + 1) k = wP S set n q u k + bI (laB S set u k q) := fun c => by
              unfold wP
              rw [if_pos c, if_pos c, sm_s, cu, Bool.true_and]
            refine B_X11_worst_204 (by omega) ?_
            rw [hq0, e84]
            refine ⟨by omega, fun y => by omega, fun _ => ⟨by omega, fun y => ⟨by omega, fun m6 e6 => nxt m6 _ ?_ e6⟩, fun y => ?_⟩⟩
            · have la := wr.2.2.mp y
              unfold wP
              rw [la, if_neg (by decide), if_neg (by decide)]; rfl
            · have la : laB S set set k q = true := by
                cases e : laB S set set k q
                · exact absurd (wr.2.2.mpr e) y
                · rfl
              have ws := wPs la
              refine ct_letsAll (by omega) (s72 m5 g5) hq h8 (fun j hj => by rw [f5 83 _ (by omega)]; exact a2 j hj) (by omega) (by omega) ⟨_, rfl, ?_, fun v => ⟨by omega, fun m6 e6 => nxt m6 _ ?_ e6⟩, fun v => ⟨?_, fun m6 e6 => nxt m6 _ ?_ e6⟩⟩
              · rcases bI_01 (laB S set u k q) with e | e <;> rw [e] <;> decide
              · rw [ws, v]
              · have := bI_ne0.mp v
                rw [this, bI_t] at ws; omega
              · have := bI_ne0.mp v
                rw [ws, this, bI_t]
    · intro k m3 hk ⟨f3, a3⟩ hE
      have g3 : ∀ (x : Nat) (y : Int), x ≠ 83 → x ≠ 84 → m3 x y = m1 x y := fun x y u v => by rw [f3 x y v, f2 x y u v]
      have nxt : ∀ (m4 : Mem) (v : Int), v = wP S set n q 0 k → m4 = upM m3 84 k v → E_X11_worst G d 126 [(0, vR 71), (1, vI set), (2, vI b), (3, vI q), (4, vI ((k : Int) + 1))] [] m4 (An J z) := fun m4 v hv e4 => by
        refine hE m4 ⟨fun x y w => by rw [e4, upM_ne (by omega)]; exact f3 x y w, fun j hj => ?_⟩
        by_cases e : j = k
        · subst e; rw [e4, upM_same, hv]
        · rw [e4, upM_ne (by omega)]; exact a3 j (by omega)
      refine B_X11_worst_126 (by omega) ?_
      rw [hq0]
      refine ⟨by omega, fun y => by omega, fun _ => ct_letsAll (by omega) (s72 m3 g3) hq h8 (fun j hj => by rw [f3 83 _ (by omega)]; exact a2 j hj) (by omega) (by omega) ⟨_, rfl, ?_, fun v => ⟨by omega, fun m4 e4 => nxt m4 _ ?_ e4⟩, fun v => ⟨by omega, fun m4 e4 => nxt m4 _ ?_ e4⟩⟩⟩
      · rcases bI_01 (laB S set set k q) with e | e <;> rw [e] <;> decide
      · unfold wP; rw [bI_eq0.mp v, if_neg (by decide)]
      · unfold wP; rw [bI_ne0.mp v, if_pos rfl]; rfl
  · intro k m2 hk ⟨f2, a2⟩ hE
    have lm := LL_mono S set (show k + 1 ≤ 144 by omega)
    have ls := LL_s S set k
    have lm0 := LL_mono S set (show k ≤ 144 by omega)
    have no : liB S set k = false → E_X11_worst G d 29 [(0, vR 71), (1, vI set), (2, vI b), (3, vI (LL S set k)), (4, vI ((k : Int) + 1))] [] m2 (An J z) := fun c => by
      rw [c, if_neg (by decide), Nat.add_zero] at ls
      rw [ls] at hE
      exact hE m2 ⟨f2, a2⟩
    refine B_X11_worst_29 (by omega) ?_
    rw [s72 m2 f2, td12, bt_n (by omega) (by omega), Int.add_zero]
    refine ⟨by omega, fun y => by omega, fun _ => ⟨by omega, fun y => no ?_, fun y => ⟨fun w => no ?_, fun w => ⟨by omega, fun v => no ?_, fun v => ⟨by omega, fun t => ⟨by omega, fun m3 e3 => ?_⟩, fun t => ?_⟩⟩⟩⟩⟩
    · unfold liB; rw [decide_eq_false (by omega)]; rfl
    · unfold liB; rw [nb1 w]; simp
    · unfold liB; rw [v]; simp
    · have yes : liB S set k = true := by unfold liB; rw [decide_eq_true (by omega), bI_eq1.mp w, decide_eq_true v]; rfl
      rw [yes, if_pos rfl] at ls
      rw [ls] at hE
      have la := LA_at hk yes
      refine hE m3 ⟨fun x y u v => by rw [e3, upM_ne (by omega)]; exact f2 x y u v, fun j hj => ?_⟩
      by_cases e : j = LL S set k
      · rw [e, e3, upM_same, la]
      · rw [e3, upM_ne (by omega)]; exact a2 j (by omega)
    · exfalso
      have yes : liB S set k = true := by unfold liB; rw [decide_eq_true (by omega), bI_eq1.mp w, decide_eq_true v]; rfl
      rw [yes, if_pos rfl] at ls
      omega
theorem op_worst (hd : 40 ≤ d) (h : Rl J mem) {a b : Int} (ha : inr a) (hb : inr b) : C_X10_worst G d [vR 0, vI a, vI b] mem (fun r m1 => ∃ z : Int, r = some (vI z) ∧ C_X11_worst G d [vR 71, vI a, vI b] m1 (An J z)) := by
  have v0 := h.1.1.1
  obtain ⟨n, hn⟩ : ∃ n : Nat, mem 72 0 = n := ⟨(mem 72 0).toNat, by omega⟩
  have p := p2n (show n ≤ 12 by omega)
  have ia := hasAll_iff ha (show n ≤ 12 by omega)
  have tn : (mem 72 0).toNat = n := by omega
  refine B_X10_worst (by omega) ?_
  rw [h.1.2.1.1.1, hn]
  refine ⟨fun z m1 e1 => ⟨_, rfl, B_X11_worst (by omega) ?_⟩, fun z => ⟨hb, fun c => ?_, fun c m1 e1 => ⟨_, rfl, B_X11_worst (by omega) ?_⟩⟩⟩
  · rw [ref72 e1, tn, two_c n]
    exact ⟨ha, by omega, fun _ m2 e2 => an_ref h (by decide) (by decide) e1 e2, fun y => absurd (ia.mpr y) z⟩
  · have k := ia.mp z
    obtain ⟨set, rfl⟩ : ∃ s : Nat, a = s := ⟨a.toNat, by omega⟩
    have l144 : LL (mem 72) set 144 ≤ 144 := by
      have := LL_sm (mem 72) set 144
      have := sm_le1 (n := 144) (f := fun k => bI (liB (mem 72) set k)) (fun _ _ => bI_le _)
      omega
    refine ct_tiesOfLiars (by omega) h.1.2.1 h.1.1 hn (by omega) ⟨_, rfl, by omega, fun y => ct_spread (q := LL (mem 72) set 144) (by omega) h.1.2.1 h.1.1 hn (by omega) rfl (by omega) (fun m1 e8 e9 f1 => ⟨rfl, ?_⟩), fun y m1 e1 => ⟨_, rfl, B_X11_worst (by omega) ?_⟩⟩
    · have g72 : m1 72 = mem 72 := funext (fun w => f1 72 w (by omega) (by omega))
      have ref : ∀ w : Int, w = (if b = 0 then (wst (mem 72) set n (LL (mem 72) set 144) (2 ^ LL (mem 72) set 144)).1 else (wst (mem 72) set n (LL (mem 72) set 144) (2 ^ LL (mem 72) set 144)).2) → ∃ z' : Int, some (vI w) = some (vI z') ∧ C_X11_worst G d [vR 71, vI set, vI b] m1 (An J z') := fun w hw => by
        refine ⟨_, rfl, B_X11_worst (by omega) ?_⟩
        rw [g72, tn, two_c n]
        refine ⟨ha, by omega, fun x => absurd k x, fun _ => ⟨hb, fun _ => worst_ref (by omega) g72 h.1.1 hb hn (by omega) rfl (by omega) (fun m f => an_mk (Rl_q2 h (fun x y u v => ?_) (fun x y u => ?_)) hw.symm), fun x => by omega⟩⟩
        · unfold scr at v
          rw [f x y (by omega) (by omega), f1 x y (by omega) (by omega)]
        · rw [f x y (by omega) (by omega), f1 x y (by omega) (by omega)]
      refine ⟨fun x => ref _ ?_, fun x => ref _ ?_⟩
      · rw [if_neg x, e9]
      · rw [if_pos (by omega), e8]
    · rw [ref72 e1, tn, two_c n]
      refine ⟨ha, by omega, fun x => absurd k x, fun _ => ⟨hb, fun _ => ?_, fun x => by omega⟩⟩
      have g72 := ref72 e1
      -- the ninth tie is refused
      refine up_loop (n := 144) (E := fun k m => LL (mem 72) set k ≤ 8 → E_X11_worst G d 29 [(0, vR 71), (1, vI set), (2, vI b), (3, vI (LL (mem 72) set k)), (4, vI k)] [] m (An J (-1000004))) (I := fun k m => ∀ (x : Nat) (y : Int), x ≠ 83 → m x y = m1 x y) ?_ ?_ (i := 0) (by omega) (fun _ _ _ => rfl) (by show (0 : Nat) ≤ 8; omega)
      · intro m2 f2 l8; omega
      · intro j m2 hj f2 hE l8
        have s2 : m2 72 = mem 72 := by rw [← g72]; exact funext (fun x => f2 72 x (by omega))
        have ls := LL_s (mem 72) set j
        have no : liB (mem 72) set j = false → E_X11_worst G d 29 [(0, vR 71), (1, vI set), (2, vI b), (3, vI (LL (mem 72) set j)), (4, vI ((j : Int) + 1))] [] m2 (An J (-1000004)) := fun c => by
          rw [c, if_neg (by decide), Nat.add_zero] at ls
          rw [ls] at hE
          exact hE m2 f2 l8
        refine B_X11_worst_29 (by omega) ?_
        rw [s2, td12, bt_n (by omega) (by omega), Int.add_zero]
        refine ⟨by omega, fun y => by omega, fun _ => ⟨by omega, fun y => no ?_, fun y => ⟨fun w => no ?_, fun w => ⟨by omega, fun v => no ?_, fun v => ⟨by omega, fun t => ⟨by omega, fun m3 e3 => ?_⟩, fun t m3 e3 => ?_⟩⟩⟩⟩⟩
        · unfold liB; rw [decide_eq_false (by omega)]; rfl
        · unfold liB; rw [nb1 w]; simp
        · unfold liB; rw [v]; simp
        · have yes : liB (mem 72) set j = true := by unfold liB; rw [decide_eq_true (by omega), bI_eq1.mp w, decide_eq_true v]; rfl
          rw [yes, if_pos rfl] at ls
          rw [ls] at hE
          exact hE m3 (fun x y u => by rw [e3, upM_ne (by omega)]; exact f2 x y u) (by omega)
        · refine an_ref2 h (by decide) (by decide) (qF_r mem) e1 (fun x y u v => f2 x y (by unfold scr at v; omega)) e3 (fun c => ?_) ?_
          · rw [f2 1 16 (by omega), e1, ref_f (by omega)] at c
            exact FT_f (h.1.2.2.1 c) (fun x y u => by rw [f2 x y (by omega), e1, ref_f (by omega)])
          · rw [f2 44 0 (by omega), e1, ref_f (by omega)]; exact h.1.2.2.2
  · rw [ref72 e1, tn, two_c n]
    exact ⟨ha, by omega, fun y => absurd (ia.mp z) y, fun _ => ⟨hb, fun y => by omega, fun _ m2 e2 => an_ref h (by decide) (by decide) e1 e2⟩⟩
end OP
