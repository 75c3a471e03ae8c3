/-! ===== operations: known, more, without, pair ===== -/
section OP
variable {G : GT} {d : Nat} {mem : Mem} {J : Int} {Q : Option AV → Mem → Prop}
theorem dbF.q {mem m : Mem} (h : dbF mem m) : qF mem m := fun a b x y => h a b (by unfold scr at y; omega) (by unfold scr at y; omega) (by unfold scr at y; omega)
theorem dbF.S {mem m : Mem} (h : dbF mem m) : m 72 = mem 72 := qF_72 h.q
/-- after a look of the class and any question of the reference -/
theorem Rl_db {m1 m2 : Mem} (h : Rl J mem) (f1 : dbF mem m1) (z1 : m1 44 0 = 0) (f2 : qF m1 m2) (f3 : ∀ (a : Nat) (b : Int), a < 71 → m2 a b = m1 a b) : Rl J m2 :=
  Rl_q h (qF_t f1.q f2) (fun z => FT_f (h.1.2.2.1 (by rw [← f1 1 16 (by omega) (by omega) (by omega), ← f3 1 16 (by omega)]; exact z)) (fun a b x => by rw [f3 a b (by omega), f1 a b (by omega) (by omega) (by omega)])) (by rw [f3 44 0 (by omega)]; exact z1)
theorem uwF_00 (S : NS) (n : Nat) : uwF S n 0 0 = frS S n := if_pos rfl
theorem op_known (hd : 40 ≤ d) (h : Rl J mem) : C_X10_known G d [vR 0] mem (fun r m1 => ∃ z : Int, r = some (vI z) ∧ C_X11_known G d [vR 71] m1 (An J z)) := by
  have v0 := h.1.1.1
  obtain ⟨n, hn⟩ : ∃ n : Nat, mem 72 0 = n := ⟨(mem 72 0).toNat, by omega⟩
  refine B_X10_known (by omega) (ct_look (by omega) h.1.2.1 hn (by omega) h.1.2.2.2 (fun m1 D1 f1 => ⟨rfl, _, rfl, B_X11_known (by omega) ?_⟩))
  refine ct_findFree (by omega) f1.S hn (by omega) (fun m2 F2 f2 => ⟨rfl, ?_⟩)
  have g2 : m2 72 = mem 72 := by rw [← f1.S]; exact funext (fun z => f2 72 z (by omega))
  refine ct_knownWith (f := 0) (t := 0) (by omega) (by rw [g2]; exact hn) (by omega) F2 (by omega) (by omega) (fun m3 f3 => ⟨_, rfl, an_mk (Rl_db h f1 D1.2.1 (qF_t (b := m2) (fun a b x y => f2 a b (by unfold scr at y; omega)) (fun a b x y => f3 a b (by unfold scr at y; omega))) (fun a b x => by rw [f3 a b (by omega), f2 a b (by omega)])) ?_⟩)
  rw [uwF_00, D1.2.2.2.2]
/-- the reference's second number beside the best so far -/
def moV (σ : Int × Int) : Int := if σ.1 < 0 then 0 else σ.2 - 1
theorem chF_G {S : NS} {n f t : Nat} (hn : n ≤ 12) : ∀ set, set < 2 ^ n → chF S n f t set < 4096 ∧ ∀ k, k < 12 → (chF S n f t set).testBit k = true → set.testBit k = true := fun set hs => by
  have F := frS_F (S := S) hn set hs
  unfold chF
  split
  · exact F
  · refine ⟨wo_lt (n := 12) F.1, fun k hk hb => ?_⟩
    rw [wo_tb, Bool.and_eq_true] at hb
    exact F.2 k hk hb.1
theorem op_more (hd : 40 ≤ d) (h : Rl J mem) : C_X10_more G d [vR 0] mem (fun r m1 => ∃ z : Int, r = some (vI z) ∧ C_X11_more G d [vR 71] m1 (An J z)) := by
  have v0 := h.1.1.1
  obtain ⟨n, hn⟩ : ∃ n : Nat, mem 72 0 = n := ⟨(mem 72 0).toNat, by omega⟩
  have p := p2n (show n ≤ 12 by omega)
  have IA := mtA_I (S := mem 72) (show n ≤ 12 by omega) n (Nat.le_refl _)
  refine B_X10_more (by omega) (ct_look (by omega) h.1.2.1 hn (by omega) h.1.2.2.2 (fun m1 D1 f1 => ⟨rfl, ?_⟩))
  have R1 : HR 1 (mem 72) m1 := h.1.2.1.congr (fun c b hc _ => f1 (1 + c) b (by omega) (by omega) (by omega))
  -- the reference's half, from a memory of which the hall's half is m1
  have ref : ∀ (m2 : Mem) (z : Int), m2 72 = mem 72 → (∀ (m : Mem), FR (mem 72) n m → (∀ (a : Nat) (b : Int), ¬ (a = 71 ∧ b = 14) → a ≠ 80 → m a b = m2 a b) → (0 ≤ (mtA (mem 72) n n).1 → An J z (some (vI (mtA (mem 72) n n).1)) m) ∧ (¬ (0 ≤ (mtA (mem 72) n n).1) → ∀ m9 : Mem, m9 = fndM m (-1000002) → An J z (some (vI (-1000002))) m9)) → C_X11_more G d [vR 71] m2 (An J z) := fun m2 z g72 fin => by
    refine B_X11_more (by omega) (ct_findFree (by omega) g72 hn (by omega) (fun m3 F3 f3 => ⟨rfl, ?_⟩))
    have s72 : ∀ m : Mem, (∀ (a : Nat) (b : Int), ¬ (a = 71 ∧ b = 14) → a ≠ 80 → m a b = m2 a b) → m 72 = mem 72 := fun m f => by rw [← g72]; exact funext (fun z => f 72 z (by omega) (by omega))
    refine up_loop (n := n) (E := fun f m => E_X11_more G d 10 [(0, vR 71), (1, vI (mtA (mem 72) n f).1), (2, vI (moV (mtA (mem 72) n f))), (3, vI f)] [] m (An J z)) (I := fun f m => FR (mem 72) n m ∧ ∀ (a : Nat) (b : Int), ¬ (a = 71 ∧ b = 14) → a ≠ 80 → m a b = m2 a b) ?_ ?_ (i := 0) (by omega) ⟨F3, fun a b _ y => f3 a b y⟩
    · intro m4 ⟨F4, f4⟩
      refine B_X11_more_10 (by omega) ?_
      rw [s72 m4 f4, hn]
      unfold mtI at IA
      have q := fin m4 F4 f4
      exact ⟨by omega, fun _ => ⟨by omega, q.1, q.2⟩, fun y => absurd (by omega) y⟩
    · intro f m4 hf ⟨F4, f4⟩ hE
      refine B_X11_more_10 (by omega) ?_
      rw [s72 m4 f4, hn]
      refine ⟨by omega, fun y => by omega, fun _ => ?_⟩
      have I0 := mtA_I (S := mem 72) (show n ≤ 12 by omega) f (by omega)
      refine up_loop (n := n) (E := fun t m => E_X11_more G d 23 [(0, vR 71), (1, vI (mtR (mem 72) n f (mtA (mem 72) n f) t).1), (2, vI (moV (mtR (mem 72) n f (mtA (mem 72) n f) t))), (3, vI f), (4, vI t)] [] m (An J z)) (I := fun t m => FR (mem 72) n m ∧ ∀ (a : Nat) (b : Int), ¬ (a = 71 ∧ b = 14) → a ≠ 80 → m a b = m2 a b) ?_ ?_ (i := 0) (by omega) ⟨F4, f4⟩
      · intro m5 ⟨F5, f5⟩
        refine B_X11_more_23 (by omega) ?_
        rw [s72 m5 f5, hn]
        exact ⟨by omega, fun _ => hE m5 ⟨F5, f5⟩, fun y => absurd (by omega) y⟩
      · intro t m5 ht ⟨F5, f5⟩ hE2
        have I := mtR_I (S := mem 72) (n := n) (f := f) (show n ≤ 12 by omega) (by omega) I0 t (by omega)
        have tv := h.1.1.2.2.2.2.2.2.2.1 f t (by omega) (by omega) (by omega) (by omega)
        have fr := (fpU_r (chF_G (S := mem 72) (f := f) (t := t) (show n ≤ 12 by omega)) (k := 2 ^ n - 1) (by omega)).2
        generalize hσ : mtR (mem 72) n f (mtA (mem 72) n f) t = σ at *
        have eR : mtR (mem 72) n f (mtA (mem 72) n f) (t + 1) = mtS (mem 72) n f t σ := by rw [← hσ]; rfl
        rw [eR] at hE2
        have no : ∀ m : Mem, FR (mem 72) n m → (∀ (a : Nat) (b : Int), ¬ (a = 71 ∧ b = 14) → a ≠ 80 → m a b = m2 a b) → ¬ (f ≠ t ∧ mem 72 (41 + 12 * (f : Int) + t) = 0 ∧ σ.2 < (fpU (chF (mem 72) n f t) (2 ^ n - 1)).2) → E_X11_more G d 23 [(0, vR 71), (1, vI σ.1), (2, vI (moV σ)), (3, vI f), (4, vI ((t : Int) + 1))] [] m (An J z) := fun m F f' c => by
          have e : mtS (mem 72) n f t σ = σ := by unfold mtS; rw [if_neg c]
          rw [e] at hE2
          exact hE2 m ⟨F, f'⟩
        have yes : ∀ m : Mem, FR (mem 72) n m → (∀ (a : Nat) (b : Int), ¬ (a = 71 ∧ b = 14) → a ≠ 80 → m a b = m2 a b) → (f ≠ t ∧ mem 72 (41 + 12 * (f : Int) + t) = 0 ∧ σ.2 < (fpU (chF (mem 72) n f t) (2 ^ n - 1)).2) → E_X11_more G d 23 [(0, vR 71), (1, vI (100 * (f : Int) + t)), (2, vI ((fpU (chF (mem 72) n f t) (2 ^ n - 1)).2 - 1)), (3, vI f), (4, vI ((t : Int) + 1))] [] m (An J z) := fun m F f' c => by
          have e : mtS (mem 72) n f t σ = (100 * (f : Int) + t, (fpU (chF (mem 72) n f t) (2 ^ n - 1)).2) := by unfold mtS; rw [if_pos c]
          rw [e] at hE2
          have := hE2 m ⟨F, f'⟩
          unfold moV at this
          rw [if_neg (show ¬ (100 * (f : Int) + t < 0) by omega)] at this
          exact this
        refine B_X11_more_23 (by omega) ?_
        rw [s72 m5 f5, hn]
        refine ⟨by omega, fun y => by omega, fun _ => ⟨by omega, fun y => no m5 F5 f5 (fun c => c.1 (by omega)), fun y => ⟨by omega, fun x => ?_, fun x => no m5 F5 f5 (fun c => by omega)⟩⟩⟩
        have hft : f ≠ t := by omega
        refine ct_knownWith (by omega) (by rw [s72 m5 f5]; exact hn) (by omega) F5 (by omega) (by omega) (fun m6 f6 => ⟨_, rfl, ?_⟩)
        have e : uwF (mem 72) n f t = chF (mem 72) n f t := if_neg hft
        rw [e]
        have F6 : FR (mem 72) n m6 := fun set hs => by rw [f6 80 _ (by omega)]; exact F5 set hs
        have g6 : ∀ (a : Nat) (b : Int), ¬ (a = 71 ∧ b = 14) → a ≠ 80 → m6 a b = m2 a b := fun a b x y => by rw [f6 a b x]; exact f5 a b x y
        unfold mtI at I
        have mv : moV σ = if σ.1 < 0 then 0 else σ.2 - 1 := rfl
        refine ⟨by omega, fun w => no m6 F6 g6 (fun c => by omega), fun w => ⟨by omega, fun v => yes m6 F6 g6 ⟨hft, by omega, by omega⟩, fun v => ?_⟩⟩
        rw [if_neg v] at mv
        exact ⟨by omega, fun u => no m6 F6 g6 (fun c => by omega), fun u => yes m6 F6 g6 ⟨hft, by omega, by omega⟩⟩
  unfold mtI at IA
  refine ct_bestMissingTie (by omega) R1 h.1.1 hn D1 ⟨_, rfl, by omega, fun z => ⟨_, rfl, ref m1 _ f1.S (fun m F f => ⟨fun _ => an_mk (Rl_db h f1 D1.2.1 (fun a b x y => f a b (by unfold scr at y; omega) (by unfold scr at y; omega)) (fun a b x => f a b (by omega) (by omega))) rfl, fun y => absurd z y⟩)⟩, fun z m2 e2 => ⟨_, rfl, ref m2 _ (by rw [ref72 e2]; exact f1.S) (fun m F f => ⟨fun y => absurd y z, fun _ m9 e9 => an_ref2 h (by decide) (by decide) f1.q e2 (fun a b x y => f a b (by unfold scr at y; omega) (by unfold scr at y; omega)) e9 (fun c => ?_) ?_⟩)⟩⟩
  · rw [f 1 16 (by omega) (by omega), e2, ref_f (by omega), f1 1 16 (by omega) (by omega) (by omega)] at c
    exact FT_f (h.1.2.2.1 c) (fun a b x => by rw [f a b (by omega) (by omega), e2, ref_f (by omega), f1 a b (by omega) (by omega) (by omega)])
  · rw [f 44 0 (by omega) (by omega), e2, ref_f (by omega)]; exact D1.2.1
theorem op_without (hd : 40 ≤ d) (h : Rl J mem) {a b : Int} (ha : inr a) (hb : inr b) : C_X10_without G d [vR 0, vI a, vI b] mem (fun r m1 => ∃ z : Int, r = some (vI z) ∧ C_X11_without G d [vR 71, vI a, vI b] m1 (An J z)) := by
  have v0 := h.1.1.1
  have r0 := h.1.2.1.1.1
  obtain ⟨n, hn⟩ : ∃ n : Nat, mem 72 0 = n := ⟨(mem 72 0).toNat, by omega⟩
  by_cases k : (0 ≤ a ∧ a < mem 72 0) ∧ (0 ≤ b ∧ b < mem 72 0)
  · obtain ⟨x, rfl⟩ : ∃ x : Nat, a = x := ⟨a.toNat, by omega⟩
    obtain ⟨y, rfl⟩ : ∃ y : Nat, b = y := ⟨b.toNat, by omega⟩
    have tv := h.1.1.2.2.2.2.2.2.2.1 x y (by omega) (by omega) (by omega) (by omega)
    have tb := h.1.2.1.tied (i := x) (j := y) (by omega) (by omega)
    have td : bI (decide (0 < mem 72 (41 + 12 * (x : Int) + y))) ≠ 0 ↔ mem 72 (41 + 12 * (x : Int) + y) ≠ 0 := by
      rw [bI_ne0, decide_eq_true_iff]; omega
    refine B_X10_without (by omega) ?_
    rw [r0, show mem 5 x = mem (1 + 4) x from rfl, tb]
    refine ⟨ha, fun z => absurd k.1 z, fun _ => ⟨hb, fun _ => ⟨by omega, fun z => ?_, fun z m1 e1 => ?_⟩, fun z => absurd k.2 z⟩⟩
    · have t0 := td.mp z
      refine ct_lookWithout (by omega) h.1.2.1 hn (by omega) h.1.2.2.2 (by omega) (by omega) (fun m1 D1 f1 => ⟨rfl, _, rfl, B_X11_without (by omega) ?_⟩)
      rw [f1.S]
      refine ⟨⟨ha, hb⟩, by omega, fun _ => ⟨by omega, fun _ => ⟨by omega, fun m2 e2 => ?_⟩, fun w => absurd t0 w⟩, fun w => absurd k w⟩
      have g2 : m2 72 = sU (mem 72) (41 + 12 * (x : Int) + y) 0 := by rw [e2, upM_self, f1.S]
      refine ct_findFree (n := n) (by omega) g2 (by rw [sU_ne (by omega)]; exact hn) (by omega) (fun m3 F3 f3 => ⟨rfl, fun m4 e4 => ?_⟩)
      have g4 : m4 72 = mem 72 := by
        rw [e4, upM_self]
        funext w
        by_cases q : w = 41 + 12 * (x : Int) + y
        · rw [q, sU_same]
        · rw [sU_ne q, f3 72 w (by omega), g2, sU_ne q]
      refine ct_knownWith (f := 0) (t := 0) (S := sU (mem 72) (41 + 12 * (x : Int) + y) 0) (by omega) (by rw [g4]; exact hn) (by omega) (fun set hs => by rw [e4, upM_ne (by omega)]; exact F3 set hs) (by omega) (by omega) (fun m5 f5 => ⟨_, rfl, an_mk (Rl_db h f1 D1.2.1 (fun a b p q => ?_) (fun a b p => ?_)) ?_⟩)
      · by_cases c : a = 72
        · subst c
          rw [f5 72 b (by omega), g4, f1.S]
        · rw [f5 a b (by unfold scr at q; omega), e4, upM_ne (by omega), f3 a b (by unfold scr at q; omega), e2, upM_ne (by omega)]
      · rw [f5 a b (by omega), e4, upM_ne (by omega), f3 a b (by omega), e2, upM_ne (by omega)]
      · rw [uwF_00, D1.2.2.2.2]
    · refine ⟨_, rfl, B_X11_without (by omega) ?_⟩
      rw [ref72 e1]
      exact ⟨⟨ha, hb⟩, by omega, fun _ => ⟨by omega, fun w => absurd (td.mpr w) z, fun _ m2 e2 => an_ref h (by decide) (by decide) e1 e2⟩, fun w => absurd k w⟩
  · have ref : ∀ m1 : Mem, m1 = refM mem (-1000001) → ∃ z : Int, some (vI (-1000001)) = some (vI z) ∧ C_X11_without G d [vR 71, vI a, vI b] m1 (An J z) := fun m1 e1 => by
      refine ⟨_, rfl, B_X11_without (by omega) ?_⟩
      rw [ref72 e1]
      exact ⟨⟨ha, hb⟩, by omega, fun w => absurd w k, fun _ m2 e2 => an_ref h (by decide) (by decide) e1 e2⟩
    refine B_X10_without (by omega) ?_
    rw [r0]
    exact ⟨ha, fun _ m1 e1 => ref m1 e1, fun c => ⟨hb, fun z => absurd ⟨c, z⟩ k, fun _ m1 e1 => ref m1 e1⟩⟩
/-- bits put together -/
theorem or_mkB {X m : Nat} {f : Nat → Bool} (hX : X < 4096) (hm : m < 12) (hf : f m = true) : ior ((X ||| mkB m f : Nat) : Int) (ishl 1 (m : Int)) = ((X ||| mkB (m + 1) f : Nat) : Int) := by
  have l := mkB_4096 (show m ≤ 12 by omega) f
  have p := p2 hm
  have lx : X ||| mkB m f < 4096 := Nat.or_lt_two_pow (n := 12) hX l
  rw [ishl_1 (by omega), ior_nn (by omega) (by omega), Nat.or_assoc]
  congr 2
  apply Nat.eq_of_testBit_eq
  intro i
  rw [Nat.testBit_or, mkB_tb, mkB_tb, Nat.testBit_two_pow]
  by_cases e : m = i
  · subst e; rw [hf]; simp
  · by_cases c : i < m
    · rw [decide_eq_true c, decide_eq_false e, decide_eq_true (show i < m + 1 by omega), Bool.or_false]
    · rw [decide_eq_false c, decide_eq_false e, decide_eq_false (show ¬ i < m + 1 by omega)]; rfl
theorem or_mkB0 {X m : Nat} {f : Nat → Bool} (hX : X < 4096) (hm : m < 12) (hf : f m = false) : ior ((X ||| mkB m f : Nat) : Int) 0 = ((X ||| mkB (m + 1) f : Nat) : Int) := by
  have l := mkB_4096 (show m ≤ 12 by omega) f
  have lx : X ||| mkB m f < 4096 := Nat.or_lt_two_pow (n := 12) hX l
  rw [ior_0 (by omega), mkB_no hf]
theorem op_pair (hd : 40 ≤ d) (h : Rl J mem) {a : Int} (ha : inr a) : C_X10_pair G d [vR 0, vI a] mem (fun r m1 => ∃ z : Int, r = some (vI z) ∧ C_X11_pair G d [vR 71, vI a] m1 (An J z)) := by
  have v0 := h.1.1.1
  obtain ⟨n, hn⟩ : ∃ n : Nat, mem 72 0 = n := ⟨(mem 72 0).toNat, by omega⟩
  have p := p2n (show n ≤ 12 by omega)
  by_cases k : 0 ≤ a ∧ a ≤ 1
  · refine B_X10_pair (by omega) ⟨ha, fun _ => ct_look (by omega) h.1.2.1 hn (by omega) h.1.2.2.2 (fun m1 D1 f1 => ⟨rfl, ?_⟩), fun z => by omega⟩
    have fr := fpU_r (frS_F (S := mem 72) (show n ≤ 12 by omega)) (k := 2 ^ n - 1) (by omega)
    obtain ⟨D1a, D1b, D1c, D1d, D1e⟩ := D1
    generalize hU : fpU (frS (mem 72) n) (2 ^ n - 1) = U at *
    have FA := frS_F (S := mem 72) (show n ≤ 12 by omega) U.1 (by omega)
    generalize hA : frS (mem 72) n U.1 = A at *
    rw [D1e]
    refine ⟨by omega, fun z => ?_, fun z m2 e2 => ?_⟩
    · have fr2 : U.1 ≠ 0 ∧ A ≠ 0 := by
        rcases fr.2 with c | c
        · omega
        · exact ⟨c.1, c.2.1⟩
      have pA := pc_nn A
      have pA2 := pc_le A
      have wl : wo U.1 A < 4096 := by have := wo_lt (a := U.1) (b := A) (n := 12) (by omega); omega
      -- the halves
      have lo12 : mkB n (loB A ((pc A + 1) / 2)) = mkB 12 (loB A ((pc A + 1) / 2)) := by
        apply Nat.eq_of_testBit_eq
        intro i
        rw [mkB_tb, mkB_tb]
        by_cases c : i < n
        · rw [decide_eq_true c, decide_eq_true (show i < 12 by omega)]
        · by_cases c2 : i < 12
          · have : loB A ((pc A + 1) / 2) i = false := by
              cases q : loB A ((pc A + 1) / 2) i
              · rfl
              · unfold loB at q
                rw [Bool.and_eq_true] at q
                have := FA.2 i c2 q.1
                rw [tb_lt (show U.1 < 2 ^ n by omega) (by omega)] at this
                exact absurd this (by decide)
            rw [this, Bool.and_false, Bool.and_false]
          · rw [decide_eq_false c, decide_eq_false c2]
      have hi12 : wo U.1 (mkB 12 (loB A ((pc A + 1) / 2))) = wo U.1 A ||| mkB n (hiB A ((pc A + 1) / 2)) := by
        apply Nat.eq_of_testBit_eq
        intro i
        rw [wo_tb, mkB_tb, Nat.testBit_or, wo_tb, mkB_tb]
        by_cases c : i < n
        · rw [decide_eq_true c, decide_eq_true (show i < 12 by omega), Bool.true_and, Bool.true_and]
          have sub := FA.2 i (by omega)
          unfold loB hiB
          cases q : A.testBit i <;> cases q2 : U.1.testBit i <;> cases q3 : decide ((cN A.testBit i : Int) < (pc A + 1) / 2) <;> simp_all
        · rw [tb_lt (show U.1 < 2 ^ n by omega) (by omega), decide_eq_false c]; rfl
      have ref : ∀ w : Int, w = (if a = 0 then ((wo U.1 A ||| mkB n (loB A ((pc A + 1) / 2)) : Nat) : Int) else ((wo U.1 A ||| mkB n (hiB A ((pc A + 1) / 2)) : Nat) : Int)) → ∃ z' : Int, some (vI w) = some (vI z') ∧ C_X11_pair G d [vR 71, vI a] m1 (An J z') := fun w hw => by
        refine ⟨_, rfl, B_X11_pair (by omega) ⟨ha, fun _ => ct_findFree (by omega) f1.S hn (by omega) (fun m2 F2 f2 => ⟨rfl, ?_⟩), fun y => absurd k y⟩⟩
        have g2 : m2 72 = mem 72 := by rw [← f1.S]; exact funext (fun z => f2 72 z (by omega))
        refine ct_unionWith (f := 0) (t := 0) (by omega) (by rw [g2]; exact hn) (by omega) F2 (by omega) (by omega) ⟨_, rfl, ?_⟩
        rw [uwF_00, hU, if_neg fr2.1, if_neg fr2.1]
        generalize hm3 : upM m2 71 14 U.2 = m3
        have f3 : ∀ (a : Nat) (b : Int), ¬ (a = 71 ∧ b = 14) → m3 a b = m2 a b := fun a b x => by rw [← hm3, upM_ne x]
        have e80 : m3 80 (U.1 : Int) = A := by rw [f3 80 _ (by omega), F2 U.1 (by omega), hA]
        have Rm : Rl J m3 := Rl_db h f1 D1b (qF_t (b := m2) (fun a b x y => f2 a b (by unfold scr at y; omega)) (fun a b x y => f3 a b (by unfold scr at y; omega))) (fun a b x => by rw [f3 a b (by omega), f2 a b (by omega)])
        have g3 : m3 72 0 = n := by rw [f3 72 0 (by omega), g2]; exact hn
        refine ⟨by omega, fun _ => ⟨by omega, ?_⟩, fun y => absurd (by omega) y⟩
        rw [e80, bits_pc (by omega), iand_wo (by omega) (by omega)]
        refine ⟨by omega, ?_⟩
        rw [Int.tdiv_eq_ediv_of_nonneg (by omega)]
        have w0 : wo U.1 A ||| mkB 0 (loB A ((pc A + 1) / 2)) = wo U.1 A := Nat.or_zero _
        have w1 : wo U.1 A ||| mkB 0 (hiB A ((pc A + 1) / 2)) = wo U.1 A := Nat.or_zero _
        have lp := it_loop (n := n) (E := fun m => E_X11_pair G d 71 [(0, vR 71), (1, vI a), (2, vI U.1), (3, vI ((pc A + 1) / 2 - (cN A.testBit m : Nat))), (4, vI ((wo U.1 A ||| mkB m (loB A ((pc A + 1) / 2)) : Nat) : Int)), (5, vI ((wo U.1 A ||| mkB m (hiB A ((pc A + 1) / 2)) : Nat) : Int)), (6, vI m)] [] m3 (An J w)) ?_ ?_ 0 (by omega)
        · rw [w0, w1, show (pc A + 1) / 2 - ((cN A.testBit 0 : Nat) : Int) = (pc A + 1) / 2 by show (pc A + 1) / 2 - ((0 : Nat) : Int) = _; omega] at lp
          exact lp
        · refine B_X11_pair_71 (by omega) ?_
          rw [g3]
          refine ⟨by omega, fun _ => ⟨ha, fun y => an_mk Rm ?_, fun y => an_mk Rm ?_⟩, fun y => absurd (by omega) y⟩
          · rw [hw, if_neg y]
          · rw [hw, if_pos (by omega)]
        · intro m hm hE
          have cm := cN_le A.testBit m
          refine B_X11_pair_71 (by omega) ?_
          rw [g3, e80, bt_n (by omega) (by omega)]
          refine ⟨by omega, fun y => by omega, fun _ => ⟨by omega, fun y => ?_, fun y => ⟨by omega, fun x => ?_, fun x => ?_⟩⟩⟩
          · have q := nb1 y
            rw [cN_s, q, if_neg (by decide), Nat.add_zero, mkB_no (by unfold loB; rw [q]; rfl), mkB_no (by unfold hiB; rw [q]; rfl)] at hE
            exact hE
          · have q := bI_eq1.mp y
            have lo : loB A ((pc A + 1) / 2) m = false := by unfold loB; rw [q, decide_eq_false (by omega)]; rfl
            have hi : hiB A ((pc A + 1) / 2) m = true := by unfold hiB; rw [q, decide_eq_false (by omega)]; rfl
            rw [cN_s, q, if_pos rfl, ← or_mkB0 wl (by omega) lo, ← or_mkB wl (by omega) hi, show (pc A + 1) / 2 - ((cN A.testBit m + 1 : Nat) : Int) = (pc A + 1) / 2 - ((cN A.testBit m : Nat) : Int) + (-1) by omega] at hE
            exact ⟨fun _ => hE, fun u => absurd x u⟩
          · have q := bI_eq1.mp y
            have lo : loB A ((pc A + 1) / 2) m = true := by unfold loB; rw [q, decide_eq_true (by omega)]; rfl
            have hi : hiB A ((pc A + 1) / 2) m = false := by unfold hiB; rw [q, decide_eq_true (by omega)]; rfl
            rw [cN_s, q, if_pos rfl, ← or_mkB wl (by omega) lo, ← or_mkB0 wl (by omega) hi, show (pc A + 1) / 2 - ((cN A.testBit m + 1 : Nat) : Int) = (pc A + 1) / 2 - ((cN A.testBit m : Nat) : Int) + (-1) by omega] at hE
            exact ⟨fun u => absurd u x, fun _ => hE⟩
      have lm := mkB_4096 (show 12 ≤ 12 by omega) (loB A ((pc A + 1) / 2))
      refine ⟨fun y => B_X0_otherOfPair (by omega) (ct_lowerHalf (by omega) D1d (by omega) ⟨_, rfl, _, rfl, ref _ ?_⟩), fun y => B_X0_firstOfPair (by omega) (ct_lowerHalf (by omega) D1d (by omega) ⟨_, rfl, _, rfl, ref _ ?_⟩)⟩
      · rw [if_neg y, D1c, iand_wo (by omega) (by omega), hi12]
      · rw [if_pos (by omega), D1c, D1d, iand_wo (by omega) (by omega), ior_nn (by omega) (by omega), lo12]
    · have fr2 : U.1 = 0 := by
        rcases fr.2 with c | c
        · exact c.1
        · omega
      have g72 : m2 72 = mem 72 := by rw [ref72 e2]; exact f1.S
      refine ⟨_, rfl, B_X11_pair (by omega) ⟨ha, fun _ => ct_findFree (by omega) g72 hn (by omega) (fun m3 F3 f3 => ⟨rfl, ?_⟩), fun y => absurd k y⟩⟩
      have g3 : m3 72 = mem 72 := by rw [← g72]; exact funext (fun z => f3 72 z (by omega))
      refine ct_unionWith (f := 0) (t := 0) (by omega) (by rw [g3]; exact hn) (by omega) F3 (by omega) (by omega) ⟨_, rfl, ?_⟩
      rw [uwF_00, hU, if_pos fr2, if_pos fr2]
      generalize hm4 : upM m3 71 14 0 = m4
      have f4 : ∀ (a : Nat) (b : Int), ¬ (a = 71 ∧ b = 14) → m4 a b = m3 a b := fun a b x => by rw [← hm4, upM_ne x]
      refine ⟨by decide, fun y => absurd y (by decide), fun _ m5 e5 => an_ref2 h (by decide) (by decide) f1.q e2 (fun a b x y => ?_) e5 (fun c => ?_) ?_⟩
      · rw [f4 a b (by unfold scr at y; omega), f3 a b (by unfold scr at y; omega)]
      · rw [f4 1 16 (by omega), f3 1 16 (by omega), e2, ref_f (by omega), f1 1 16 (by omega) (by omega) (by omega)] at c
        exact FT_f (h.1.2.2.1 c) (fun a b x => by rw [f4 a b (by omega), f3 a b (by omega), e2, ref_f (by omega), f1 a b (by omega) (by omega) (by omega)])
      · rw [f4 44 0 (by omega), f3 44 0 (by omega), e2, ref_f (by omega)]; exact D1b
  · refine B_X10_pair (by omega) ⟨ha, fun z => by omega, fun _ m1 e1 => ⟨_, rfl, B_X11_pair (by omega) ⟨ha, fun y => absurd y k, fun _ m2 e2 => an_ref h (by decide) (by decide) e1 e2⟩⟩⟩
end OP
