/-! ===== operations: questions of sets ===== -/
theorem two_c (n : Nat) : (2 : Int) ^ n = ((2 ^ n : Nat) : Int) := (Int.natCast_pow 2 n).symm
theorem hasAll_iff {s : Int} (hs : inr s) {n : Nat} (hn : n ≤ 12) : iand s (ixor (ishl 1 (n : Int) - 1) (-1)) = 0 ↔ (0 ≤ s ∧ s < ((2 ^ n : Nat) : Int)) := by
  have p := p2n hn
  rw [ishl_1 (by omega), show ((2 ^ n : Nat) : Int) - 1 = ((2 ^ n - 1 : Nat) : Int) by omega]
  by_cases h : 0 ≤ s
  · obtain ⟨a, rfl⟩ : ∃ a : Nat, s = a := ⟨s.toNat, by omega⟩
    rw [iand_wo (by omega) (by omega)]
    constructor
    · intro z
      refine ⟨h, ?_⟩
      have z' : wo a (2 ^ n - 1) = 0 := by omega
      by_cases q : a < 2 ^ n
      · omega
      · obtain ⟨i, i1, i2⟩ := Nat.exists_ge_and_testBit_of_ge_two_pow (Nat.le_of_not_lt q)
        have := wo_tb a (2 ^ n - 1) i
        rw [z', Nat.zero_testBit, i2, Nat.testBit_two_pow_sub_one, decide_eq_false (by omega)] at this
        exact absurd this (by decide)
    · intro z
      have : wo a (2 ^ n - 1) = 0 := by
        apply Nat.eq_of_testBit_eq
        intro i
        rw [wo_tb, Nat.zero_testBit, Nat.testBit_two_pow_sub_one]
        by_cases c : i < n
        · rw [decide_eq_true c]; simp
        · rw [tb_lt (show a < 2 ^ n by omega) (by omega)]; rfl
      rw [this]; rfl
  · constructor
    · intro z
      exfalso
      rw [ixor_m1 (by omega)] at z
      unfold iand at z
      have z2 : (Int32.ofInt s &&& Int32.ofInt (-1 - ((2 ^ n - 1 : Nat) : Int))).toBitVec.msb = false := by
        have : (Int32.ofInt s &&& Int32.ofInt (-1 - ((2 ^ n - 1 : Nat) : Int))).toBitVec.toInt = 0 := z
        rw [BitVec.msb_eq_toInt, this]; rfl
      rw [show (Int32.ofInt s &&& Int32.ofInt (-1 - ((2 ^ n - 1 : Nat) : Int))).toBitVec = (BitVec.ofInt 32 s &&& BitVec.ofInt 32 (-1 - ((2 ^ n - 1 : Nat) : Int))) from rfl, BitVec.msb_and, BitVec.msb_eq_toInt, BitVec.msb_eq_toInt, BitVec.toInt_ofInt_eq_self (by decide) (by omega) (by omega), BitVec.toInt_ofInt_eq_self (by decide) (by omega) (by omega), decide_eq_true (by omega), decide_eq_true (by omega)] at z2
      exact absurd z2 (by decide)
    · intro z; omega
theorem ftF.q {mem m : Mem} (h : ftF mem m) : qF mem m := fun a b x y => h a b x (by unfold scr at y; omega) (by unfold scr at y; omega)
theorem ffF.q {mem m : Mem} (h : ffF mem m) : qF mem m := fun a b _ y => h a b (by unfold scr at y; omega) (by unfold scr at y; omega)
theorem an_ref2 {J e : Int} {mem m1 m2 m3 m4 : Mem} (h : Rl J mem) (h1 : -1000006 ≤ e) (h2 : e ≤ -1000001) (f1 : qF mem m1) (e2 : m2 = refM m1 e) (f3 : qF m2 m3) (e4 : m4 = fndM m3 e) (hF : m3 1 16 = 0 → FT (mem 72) m3) (h44 : m3 44 0 = 0) : An J e (some (vI e)) m4 := by
  have s62 : ∀ b : Int, ¬ scr 62 b := fun b => by unfold scr; omega
  have s75 : ∀ b : Int, ¬ scr 75 b := fun b => by unfold scr; omega
  have g : ∀ (a : Nat) (b : Int), a ≠ 62 → ¬ (a = 1 ∧ b = 16) → ¬ scr a b → m3 a b = mem a b := fun a b x y z => by rw [f3 a b y z, e2, ref_f x, f1 a b y z]
  refine An.mk m4 (Rl_ref (mem := fun a b => if a = 62 then mem 62 b else m3 a b) (Rl_q h (fun a b x y => ?_) (fun z => ?_) ?_) h1 h2 ?_)
  · by_cases q : a = 62
    · rw [if_pos q, q]
    · rw [if_neg q]; exact g a b q x y
  · rw [if_neg (by omega)] at z
    exact FT_f (hF z) (fun a b x => by rw [if_neg (by omega)])
  · rw [if_neg (by omega)]; exact h44
  · rw [e4]
    funext a b
    unfold fndM refM
    by_cases q : a = 62
    · subst q
      rw [upM_ne (by omega), upM_ne (by omega), f3 62 b (by omega) (s62 b), e2]
      unfold refM
      by_cases w : b = -1000000 - e
      · rw [w, upM_same, upM_same, f1 62 _ (by omega) (s62 _)]; rfl
      · rw [upM_ne (by omega), upM_ne (by omega), f1 62 b (by omega) (s62 b)]; rfl
    · by_cases w : a = 75
      · subst w
        by_cases v : b = -1000000 - e
        · rw [v, upM_same, upM_same, upM_ne (by omega), if_neg (by omega)]
        · rw [upM_ne (by omega), upM_ne (by omega), upM_ne (by omega), if_neg (by omega)]
      · rw [upM_ne (by omega), upM_ne (by omega), upM_ne (by omega), if_neg q]
section OP
variable {G : GT} {d : Nat} {mem : Mem} {J : Int} {Q : Option AV → Mem → Prop}
theorem Rl_fit {m1 m2 : Mem} (h : Rl J mem) (F1 : FT (mem 72) m1) (f1 : ftF mem m1) (f2 : qF m1 m2) (f3 : ∀ (a : Nat) (b : Int), a < 71 → m2 a b = m1 a b) : Rl J m2 := Rl_q h (qF_t f1.q f2) (fun _ => FT_f F1 (fun a b x => f3 a b (by omega))) (by rw [f3 44 0 (by omega), f1 44 0 (by omega) (by omega) (by omega)]; exact h.1.2.2.2)
theorem ftF.S {m1 : Mem} (f1 : ftF mem m1) : m1 72 = mem 72 := qF_72 f1.q
theorem ftF.HR {S : NS} {m1 : Mem} (f1 : ftF mem m1) (hR : HR 1 S mem) : HR 1 S m1 := hR.congr (fun c b hc hb => f1 (1 + c) b (by omega) (by omega) (by omega))
theorem op_fits (hd : 40 ≤ d) (h : Rl J mem) {a : Int} (ha : inr a) : C_X10_fits G d [vR 0, vI a] mem (fun r m1 => ∃ z : Int, r = some (vI z) ∧ C_X11_fits G d [vR 71, vI a] m1 (An J z)) := by
  have v0 := h.1.1.1
  obtain ⟨n, hn⟩ : ∃ n : Nat, mem 72 0 = n := ⟨(mem 72 0).toNat, by omega⟩
  have p := p2n (show n ≤ 12 by omega)
  have ia := hasAll_iff ha (show n ≤ 12 by omega)
  have tn : (mem 72 0).toNat = n := by omega
  refine B_X10_fits (by omega) ?_
  rw [h.1.2.1.1.1, hn]
  refine ⟨fun z => ?_, fun z m1 e1 => ?_⟩
  · have k := ia.mp z
    obtain ⟨s, rfl⟩ : ∃ s : Nat, a = s := ⟨a.toNat, by omega⟩
    refine ct_refresh (by omega) h.1.2.1 h.1.1 h.1.2.2.1 (fun m1 F1 c1 f1 => ⟨rfl, by omega, ?_⟩)
    have nls := F1.1
    rw [tn] at nls
    have fi := fitB_iff (S := mem 72) (set := s)
    rw [nls s (by omega), bitc_n (by omega), (f1.HR h.1.2.1).1.2.2.1]
    have ref : ∀ z : Int, (z = 1 ↔ fitB (mem 72) s = true) → (z = 0 ∨ z = 1) → ∃ z' : Int, some (vI z) = some (vI z') ∧ C_X11_fits G d [vR 71, vI s] m1 (An J z') := fun z hz h01 => by
      have Rm := Rl_fit h F1 f1 (qF_r _) (fun _ _ _ => rfl)
      refine ⟨_, rfl, B_X11_fits (by omega) ?_⟩
      rw [f1.S, tn, two_c n]
      refine ⟨ha, by omega, fun y => absurd k y, fun _ => ct_barsOf f1.S h.1.1 (by omega) (by omega) ⟨_, rfl, ?_, fun y => an_mk Rm ?_, fun y => an_mk Rm ?_⟩⟩
      · unfold barsS
        split
        · decide
        · have := (fbad_neg (S := mem 72) (set := s) (mem 72 1).toNat 0).2
          have := h.1.1.2.1
          have fr : ∀ k i : Nat, fbad (mem 72) s k i ≤ ((i + k : Nat) : Int) := by
            intro k
            induction k with
            | zero => intro i; unfold fbad; omega
            | succ k ih => intro i; unfold fbad; have := ih (i + 1); split <;> omega
          have := fr (mem 72 1).toNat 0
          omega
      · have : ¬ fitB (mem 72) s = true := by unfold fitB; rw [decide_eq_true_iff]; omega
        rcases h01 with e | e
        · exact e.symm
        · exact absurd (hz.mp e) this
      · have : fitB (mem 72) s = true := by unfold fitB; rw [decide_eq_true_iff]; omega
        exact (hz.mpr this).symm
    refine ⟨fun y => ref 0 ⟨fun w => by omega, fun w => absurd (fi.mp w) y⟩ (Or.inl rfl), fun y => ref 1 ⟨fun _ => fi.mpr y, fun _ => rfl⟩ (Or.inr rfl)⟩
  · refine ⟨_, rfl, B_X11_fits (by omega) ?_⟩
    rw [ref72 e1, tn, two_c n]
    exact ⟨ha, by omega, fun _ m2 e2 => an_ref h (by decide) (by decide) e1 e2, fun y => absurd (ia.mpr y) z⟩
theorem op_bars (hd : 40 ≤ d) (h : Rl J mem) {a : Int} (ha : inr a) : C_X10_bars G d [vR 0, vI a] mem (fun r m1 => ∃ z : Int, r = some (vI z) ∧ C_X11_bars G d [vR 71, vI a] m1 (An J z)) := by
  have v0 := h.1.1.1
  have v1 := h.1.1.2.1
  obtain ⟨n, hn⟩ : ∃ n : Nat, mem 72 0 = n := ⟨(mem 72 0).toNat, by omega⟩
  obtain ⟨k1, hk1⟩ : ∃ n : Nat, mem 72 1 = n := ⟨(mem 72 1).toNat, by omega⟩
  have p := p2n (show n ≤ 12 by omega)
  have ia := hasAll_iff ha (show n ≤ 12 by omega)
  have tn : (mem 72 0).toNat = n := by omega
  refine B_X10_bars (by omega) ?_
  rw [h.1.2.1.1.1, hn]
  refine ⟨fun z => ?_, fun z m1 e1 => ?_⟩
  · have k := ia.mp z
    obtain ⟨s, rfl⟩ : ∃ s : Nat, a = s := ⟨a.toNat, by omega⟩
    rw [bitc_n (by omega), h.1.2.1.1.2.2.1]
    have ref : ∀ z : Int, z = barsS (mem 72) s → ∃ z' : Int, some (vI z) = some (vI z') ∧ C_X11_bars G d [vR 71, vI s] mem (An J z') := fun z hz => by
      refine ⟨_, rfl, B_X11_bars (by omega) ?_⟩
      rw [tn, two_c n]
      exact ⟨ha, by omega, fun y => absurd k y, fun _ => ct_barsOf rfl h.1.1 (by omega) (by omega) ⟨_, rfl, an_mk h hz.symm⟩⟩
    refine ⟨fun y => ct_firstNotLet (by decide) h.1.2.1 h.1.1 (by omega) (by omega) hk1 ⟨_, rfl, ref _ ?_⟩, fun y => ref _ ?_⟩
    · unfold barsS
      rw [if_neg (by omega), show (mem 72 1).toNat = k1 by omega]
    · unfold barsS
      rw [if_pos (by omega)]
  · refine ⟨_, rfl, B_X11_bars (by omega) ?_⟩
    rw [ref72 e1, tn, two_c n]
    exact ⟨ha, by omega, fun _ m2 e2 => an_ref h (by decide) (by decide) e1 e2, fun y => absurd (ia.mpr y) z⟩
theorem op_many (hd : 40 ≤ d) (h : Rl J mem) : C_X10_many G d [vR 0] mem (fun r m1 => ∃ z : Int, r = some (vI z) ∧ C_X11_many G d [vR 71] m1 (An J z)) := by
  refine B_X10_many (by omega) (ct_refresh (by omega) h.1.2.1 h.1.1 h.1.2.2.1 (fun m1 F1 c1 f1 => ⟨rfl, _, rfl, B_X11_many (by omega) (ct_findFitting (by omega) f1.S h.1.1 (fun m2 F2 f2 => ⟨rfl, ?_⟩))⟩))
  refine an_mk (Rl_fit h F1 f1 f2.q (fun a b x => f2 a b (by omega) (by omega))) ?_
  rw [F1.2.2, F2.2]
theorem op_which (hd : 40 ≤ d) (h : Rl J mem) {a : Int} (ha : inr a) : C_X10_which G d [vR 0, vI a] mem (fun r m1 => ∃ z : Int, r = some (vI z) ∧ C_X11_which G d [vR 71, vI a] m1 (An J z)) := by
  have v0 := h.1.1.1
  obtain ⟨n, hn⟩ : ∃ n : Nat, mem 72 0 = n := ⟨(mem 72 0).toNat, by omega⟩
  have p := p2n (show n ≤ 12 by omega)
  have tn : (mem 72 0).toNat = n := by omega
  have cl := cN_le (fitB (mem 72)) (2 ^ n)
  refine B_X10_which (by omega) (ct_refresh (by omega) h.1.2.1 h.1.1 h.1.2.2.1 (fun m1 F1 c1 f1 => ⟨rfl, ?_⟩))
  obtain ⟨F1a, F1b, F1c⟩ := F1
  have F1 : FT (mem 72) m1 := ⟨F1a, F1b, F1c⟩
  rw [tn] at F1b F1c
  rw [F1c]
  refine ⟨⟨ha, by omega⟩, fun z => ⟨by omega, ?_⟩, fun z m2 e2 => ?_⟩
  · obtain ⟨i, rfl⟩ : ∃ i : Nat, a = i := ⟨a.toNat, by omega⟩
    refine ⟨_, rfl, B_X11_which (by omega) (ct_findFitting (by omega) f1.S h.1.1 (fun m2 F2 f2 => ⟨rfl, ?_⟩))⟩
    obtain ⟨F2a, F2b⟩ := F2
    rw [tn] at F2a F2b
    rw [F2b]
    exact ⟨⟨ha, by omega⟩, fun y => by omega, fun _ => ⟨by omega, an_mk (Rl_fit h F1 f1 f2.q (fun a b x => f2 a b (by omega) (by omega))) (SL_eq F2a F1b (by omega))⟩⟩
  · have g72 : m2 72 = mem 72 := by rw [ref72 e2]; exact f1.S
    refine ⟨_, rfl, B_X11_which (by omega) (ct_findFitting (by omega) g72 h.1.1 (fun m3 F2 f2 => ⟨rfl, ?_⟩))⟩
    obtain ⟨F2a, F2b⟩ := F2
    rw [tn] at F2b
    rw [F2b]
    refine ⟨⟨ha, by omega⟩, fun _ m4 e4 => an_ref2 h (by decide) (by decide) f1.q e2 f2.q e4 (fun _ => ?_) ?_, fun y => by omega⟩
    · exact FT_f F1 (fun a b x => by rw [f2 a b (by omega) (by omega), e2, ref_f (by omega)])
    · rw [f2 44 0 (by omega) (by omega), e2, ref_f (by omega), f1 44 0 (by omega) (by omega) (by omega)]; exact h.1.2.2.2
theorem op_sure (hd : 40 ≤ d) (h : Rl J mem) {a : Int} (ha : inr a) : C_X10_sure G d [vR 0, vI a] mem (fun r m1 => ∃ z : Int, r = some (vI z) ∧ C_X11_sure G d [vR 71, vI a] m1 (An J z)) := by
  have v0 := h.1.1.1
  obtain ⟨n, hn⟩ : ∃ n : Nat, mem 72 0 = n := ⟨(mem 72 0).toNat, by omega⟩
  have p := p2n (show n ≤ 12 by omega)
  have tn : (mem 72 0).toNat = n := by omega
  have cl := cN_le (fitB (mem 72)) (2 ^ n)
  by_cases k : 0 ≤ a ∧ a ≤ 1
  · refine B_X10_sure (by omega) ⟨ha, fun _ => ct_refresh (by omega) h.1.2.1 h.1.1 h.1.2.2.1 (fun m1 F1 c1 f1 => ⟨rfl, ?_⟩), fun z => by omega⟩
    obtain ⟨F1a, F1b, F1c⟩ := F1
    have F1 : FT (mem 72) m1 := ⟨F1a, F1b, F1c⟩
    rw [tn] at F1b F1c
    rw [F1c]
    have r0 := (f1.HR h.1.2.1).1.1
    refine ⟨fun z => ?_, fun z m2 e2 => ?_⟩
    · have ref : ∀ w : Int, w = (if a = 0 then andS (m1 37) (ishl 1 (mem 72 0) - 1) (cN (fitB (mem 72)) (2 ^ n)) else iand (ishl 1 (mem 72 0) - 1) (ixor (orS (m1 37) 0 (cN (fitB (mem 72)) (2 ^ n))) (-1))) → ∃ z' : Int, some (vI w) = some (vI z') ∧ C_X11_sure G d [vR 71, vI a] m1 (An J z') := fun w hw => by
        refine ⟨_, rfl, B_X11_sure (by omega) ⟨ha, fun _ => ct_findFitting (by omega) f1.S h.1.1 (fun m2 F2 f2 => ⟨rfl, ?_⟩), fun y => absurd k y⟩⟩
        obtain ⟨F2a, F2b⟩ := F2
        rw [tn] at F2a F2b
        have g72 : m2 72 0 = mem 72 0 := by rw [f2 72 0 (by omega) (by omega), f1.S]
        have eqv : ∀ i : Nat, i < cN (fitB (mem 72)) (2 ^ n) → m1 37 i = m2 77 i := fun i hi => (SL_eq F2a F1b hi).symm
        rw [andS_congr eqv, orS_congr eqv] at hw
        have Rm := Rl_fit h F1 f1 f2.q (fun a b x => f2 a b (by omega) (by omega))
        rw [F2b, g72]
        refine ⟨fun _ => ?_, fun y => absurd z y⟩
        refine it_loop (n := cN (fitB (mem 72)) (2 ^ n)) (E := fun i => E_X11_sure G d 44 [(0, vR 71), (1, vI a), (2, vI (andS (m2 77) (ishl 1 (mem 72 0) - 1) i)), (3, vI (orS (m2 77) 0 i)), (4, vI i)] [] m2 (An J w)) ?_ ?_ 0 (by omega)
        · refine B_X11_sure_44 (by omega) ?_
          rw [F2b, g72]
          refine ⟨by omega, fun _ => ⟨ha, fun y => an_mk Rm ?_, fun y => an_mk Rm ?_⟩, fun y => absurd (by omega) y⟩
          · rw [hw, if_neg y]
          · rw [hw, if_pos (by omega)]
        · intro i hi hE
          refine B_X11_sure_44 (by omega) ?_
          rw [F2b]
          exact ⟨by omega, fun y => by omega, fun _ => ⟨by omega, hE⟩⟩
      refine ⟨fun y => ct_inNone (by omega) F1c (by omega) ⟨_, rfl, ref _ ?_⟩, fun y => ct_inAll (by omega) F1c (by omega) ⟨_, rfl, ref _ ?_⟩⟩
      · rw [if_neg y, r0]
      · rw [if_pos (by omega), r0]
    · have g72 : m2 72 = mem 72 := by rw [ref72 e2]; exact f1.S
      refine ⟨_, rfl, B_X11_sure (by omega) ⟨ha, fun _ => ct_findFitting (by omega) g72 h.1.1 (fun m3 F2 f2 => ⟨rfl, ?_⟩), fun y => absurd k y⟩⟩
      obtain ⟨F2a, F2b⟩ := F2
      rw [tn] at F2b
      rw [F2b]
      refine ⟨fun y => absurd y z, fun _ m4 e4 => an_ref2 h (by decide) (by decide) f1.q e2 f2.q e4 (fun _ => ?_) ?_⟩
      · exact FT_f F1 (fun a b x => by rw [f2 a b (by omega) (by omega), e2, ref_f (by omega)])
      · rw [f2 44 0 (by omega) (by omega), e2, ref_f (by omega), f1 44 0 (by omega) (by omega) (by omega)]; exact h.1.2.2.2
  · refine B_X10_sure (by omega) ⟨ha, fun z => by omega, fun _ m1 e1 => ⟨_, rfl, B_X11_sure (by omega) ⟨ha, fun y => absurd y k, fun _ m2 e2 => an_ref h (by decide) (by decide) e1 e2⟩⟩⟩
end OP
