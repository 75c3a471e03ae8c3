/-! ===== the sets that fit, in order ===== -/
def CA (P : Nat → Bool) (M : Nat) (f : Int → Int) : Prop := f 0 = 0 ∧ ∀ k : Nat, k < 13 → f ((k : Int) + 1) = cN (rk P κp k) M
theorem CA_0 {P : Nat → Bool} {f : Int → Int} (h : ∀ z : Int, 0 ≤ z → z < 14 → f z = 0) : CA P 0 f := ⟨h 0 (by decide) (by decide), fun k hk => by rw [h _ (by omega) (by omega)]; rfl⟩
theorem CA_no {P : Nat → Bool} {M : Nat} {f : Int → Int} (h : CA P M f) (hP : P M = false) : CA P (M + 1) f := ⟨h.1, fun k hk => by rw [h.2 k hk, cN_s]; unfold rk; rw [hP]; simp⟩
theorem CA_yes {P : Nat → Bool} {M : Nat} {f : Int → Int} (h : CA P M f) (hP : P M = true) : CA P (M + 1) (sU f ((κp M : Int) + 1) (f ((κp M : Int) + 1) + 1)) := by
  refine ⟨by rw [sU_ne (by omega)]; exact h.1, fun k hk => ?_⟩
  rw [cN_s]
  by_cases e : κp M = k
  · subst e
    rw [sU_same, h.2 _ hk, if_pos (rk_self hP)]
    omega
  · rw [sU_ne (by omega), h.2 k hk, if_neg (fun q => by unfold rk at q; rw [hP, decide_eq_false e] at q; cases q)]
    rfl
def CB (P : Nat → Bool) (N i : Nat) (f : Int → Int) : Prop := (∀ k : Nat, k < i → k < 14 → f k = bs P κp N k) ∧ (∀ k : Nat, i ≤ k → k < 14 → f k = cN (rk P κp (k - 1)) N)
theorem CB_1 {P : Nat → Bool} {N : Nat} {f : Int → Int} (h : CA P N f) : CB P N 1 f := by
  refine ⟨fun k h0 h1 => ?_, fun k h0 h1 => ?_⟩
  · have : k = 0 := by omega
    subst this
    exact h.1
  · have := h.2 (k - 1) (by omega)
    rw [show ((k - 1 : Nat) : Int) + 1 = k by omega] at this
    exact this
theorem CB_s {P : Nat → Bool} {N i : Nat} {f : Int → Int} (h : CB P N i f) (h1 : 1 ≤ i) (h2 : i < 14) : CB P N (i + 1) (sU f i (f i + f ((i : Int) - 1))) := by
  refine ⟨fun k h0 h3 => ?_, fun k h0 h3 => ?_⟩
  · by_cases e : k = i
    · subst e
      have a := h.2 k (Nat.le_refl _) h3
      have b := h.1 (k - 1) (by omega) (by omega)
      rw [show ((k - 1 : Nat) : Int) = (k : Int) - 1 by omega] at b
      rw [sU_same, a, b]
      have c := bs_s P κp N (k - 1)
      rw [show k - 1 + 1 = k by omega] at c
      omega
    · rw [sU_ne (by omega)]; exact h.1 k (by omega) h3
  · rw [sU_ne (by omega)]; exact h.2 k (by omega) h3
def CC (P : Nat → Bool) (N s : Nat) (f arr : Int → Int) : Prop := (∀ k : Nat, k < 13 → f k = bs P κp N k + cN (rk P κp k) s) ∧ ∀ t : Nat, t < s → P t = true → arr (plc P κp N t) = t
theorem CC_0 {P : Nat → Bool} {N : Nat} {f arr : Int → Int} (h : CB P N 14 f) : CC P N 0 f arr := ⟨fun k hk => by rw [h.1 k (by omega) (by omega)]; show _ = ((bs P κp N k : Nat) : Int) + 0; omega, fun t ht _ => by omega⟩
theorem CC_no {P : Nat → Bool} {N s : Nat} {f arr : Int → Int} (h : CC P N s f arr) (hP : P s = false) : CC P N (s + 1) f arr := by
  refine ⟨fun k hk => ?_, fun t ht hp => ?_⟩
  · rw [h.1 k hk, cN_s]
    unfold rk
    rw [hP]
    simp
  · by_cases e : t = s
    · subst e; rw [hP] at hp; cases hp
    · exact h.2 t (by omega) hp
theorem CC_at {P : Nat → Bool} {N s : Nat} {f arr : Int → Int} (h : CC P N s f arr) : f (κp s) = plc P κp N s := by
  rw [h.1 _ (κp_lt s)]
  unfold plc
  omega
theorem CC_yes {P : Nat → Bool} {N s : Nat} {f arr : Int → Int} (h : CC P N s f arr) (hs : s < N) (hP : P s = true) : CC P N (s + 1) (sU f (κp s) (f (κp s) + 1)) (sU arr (f (κp s)) s) := by
  refine ⟨fun k hk => ?_, fun t ht hp => ?_⟩
  · rw [cN_s]
    by_cases e : κp s = k
    · subst e
      rw [sU_same, h.1 _ hk, if_pos (rk_self hP)]
      omega
    · rw [sU_ne (by omega), h.1 k hk, if_neg (fun q => by unfold rk at q; rw [hP, decide_eq_false e] at q; cases q)]
      rfl
  · rw [CC_at h]
    by_cases e : t = s
    · subst e; rw [sU_same]
    · rw [sU_ne (fun q => e (plc_inj (by omega) hs hp hP (by exact_mod_cast q)))]
      exact h.2 t (by omega) hp
theorem plc_b {P : Nat → Bool} {N s : Nat} (hs : s < N) (hP : P s = true) : plc P κp N s < N := by
  have h1 := plc_lt (κ := κp) hs hP (κp_lt s)
  rw [bs_all κp_lt] at h1
  have := cN_le P N
  omega
theorem κp_pc (s : Nat) : ((κp s : Nat) : Int) = pc s := by unfold κp; have := pc_nn s; omega
section SO
variable {G : GT} {d : Nat} {mem : Mem} {Q : Option AV → Mem → Prop}
theorem ct_sort (hd : 2 ≤ d) {n : Nat} (hn : mem 1 0 = n) (hn2 : n ≤ 12) {P : Nat → Bool} (hP : ∀ s : Nat, s < 2 ^ n → ((mem 34 s = 0 ∧ pc s ≤ mem 1 11) ↔ P s = true)) (hq : ∀ m' : Mem, m' 32 7 = cN P (2 ^ n) → SL P (2 ^ n) (m' 37) → (∀ (a : Nat) (b : Int), ¬ (a = 32 ∧ b = 7) → a ≠ 37 → a ≠ 38 → m' a b = mem a b) → Q none m') : C_X1_sort G d [vR 32] mem Q := by
  have p0 := Nat.two_pow_pos n
  have p4 : (2 : Nat) ^ n ≤ 4096 := Nat.pow_le_pow_right (by decide) hn2
  refine B_X1_sort (by omega) ?_
  refine up_loop (n := 14) (E := fun i m => E_X1_sort G d 2 [(0, vR 32), (1, vI i)] [] m Q) (I := fun i m => (∀ (a : Nat) (b : Int), ¬ (a = 32 ∧ b = 7) → a ≠ 37 → a ≠ 38 → m a b = mem a b) ∧ ∀ z : Int, 0 ≤ z → z < i → m 38 z = 0) ?_ ?_ (i := 0) (by omega) ⟨fun _ _ _ _ _ => rfl, fun z _ _ => by omega⟩
  · intro m2 ⟨f2, z2⟩
    refine B_X1_sort_2 (by omega) ⟨by decide, fun _ => ?_, fun z => absurd (by decide) z⟩
    rw [f2 1 0 (by decide) (by decide) (by decide), hn, ishl_1 (by omega)]
    refine up_loop (n := 2 ^ n) (E := fun i m => E_X1_sort G d 36 [(0, vR 32), (1, vI ((2 ^ n : Nat) : Int)), (2, vI i)] [] m Q) (I := fun i m => (∀ (a : Nat) (b : Int), ¬ (a = 32 ∧ b = 7) → a ≠ 37 → a ≠ 38 → m a b = mem a b) ∧ CA P i (m 38)) ?_ ?_ (i := 0) (by omega) ⟨f2, CA_0 (fun z h0 h1 => z2 z h0 h1)⟩
    · intro m3 ⟨f3, c3⟩
      refine B_X1_sort_36 (by omega) ⟨⟨by omega, by omega⟩, fun _ => ?_, fun z => absurd (by omega) z⟩
      refine up_loop (n := 14) (E := fun i m => E_X1_sort G d 72 [(0, vR 32), (1, vI ((2 ^ n : Nat) : Int)), (2, vI i)] [] m Q) (I := fun i m => 1 ≤ i ∧ (∀ (a : Nat) (b : Int), ¬ (a = 32 ∧ b = 7) → a ≠ 37 → a ≠ 38 → m a b = mem a b) ∧ CB P (2 ^ n) i (m 38)) ?_ ?_ (i := 1) (by omega) ⟨by omega, f3, CB_1 c3⟩
      · intro m4 ⟨_, f4, c4⟩
        refine B_X1_sort_72 (by omega) ⟨by decide, fun _ m5 e5 => ?_, fun z => absurd (by decide) z⟩
        have s5 : m5 32 7 = cN P (2 ^ n) := by
          have q := c4.1 13 (by decide) (by decide)
          rw [bs_all κp_lt] at q
          rw [e5, upM_same]
          exact q
        refine up_loop (n := 2 ^ n) (E := fun i m => E_X1_sort G d 117 [(0, vR 32), (1, vI ((2 ^ n : Nat) : Int)), (2, vI i)] [] m Q) (I := fun i m => (∀ (a : Nat) (b : Int), ¬ (a = 32 ∧ b = 7) → a ≠ 37 → a ≠ 38 → m a b = mem a b) ∧ m 32 7 = cN P (2 ^ n) ∧ CC P (2 ^ n) i (m 38) (m 37)) ?_ ?_ (i := 0) (by omega) ⟨fun a b x y z => by rw [e5, upM_ne x]; exact f4 a b x y z, s5, CC_0 (by rw [e5, upM_cell (by decide)]; exact c4)⟩
        · intro m6 ⟨f6, s6, c6⟩
          refine B_X1_sort_117 (by omega) ⟨⟨by omega, by omega⟩, fun _ => ?_, fun z => absurd (by omega) z⟩
          exact hq m6 s6 (fun s hs hp => c6.2 s hs hp) f6
        · intro i m6 hi ⟨f6, s6, c6⟩ hE
          have hP' := hP i hi
          refine B_X1_sort_117 (by omega) ?_
          rw [bitc_n (by omega), f6 34 i (by omega) (by omega) (by omega), f6 1 11 (by omega) (by omega) (by omega), ← κp_pc]
          rw [← κp_pc] at hP'
          have kl := κp_lt i
          refine ⟨⟨by omega, by omega⟩, fun z => by omega, fun _ => ⟨by omega, fun z => ?_, fun z => ?_⟩⟩
          · refine hE m6 ⟨f6, s6, CC_no c6 ?_⟩
            cases hh : P i
            · rfl
            · exact absurd (hP'.mpr hh) z
          · have hp := hP'.mp z
            have ca := CC_at c6
            have cb := plc_b hi hp
            rw [ca]
            refine ⟨by omega, by omega, fun m7 e7 => ⟨?_, fun m8 e8 => ?_⟩⟩
            · rw [e7, upM_ne (by omega), ca]; omega
            · refine hE m8 ⟨fun a b x y z => by rw [e8, upM_ne (by omega), e7, upM_ne (by omega)]; exact f6 a b x y z, by rw [e8, upM_ne (by omega), e7, upM_ne (by omega)]; exact s6, ?_⟩
              have y := CC_yes c6 hi hp
              rw [e8, upM_self, upM_cell (by decide), e7, upM_cell (a := 38) (by decide), upM_self, ← ca]
              exact y
      · intro i m4 hi ⟨h1, f4, c4⟩ hE
        have b1 := c4.2 i (Nat.le_refl _) hi
        have b2 := c4.1 (i - 1) (by omega) (by omega)
        rw [show ((i - 1 : Nat) : Int) = (i : Int) - 1 by omega] at b2
        have b3 := cN_le (rk P κp (i - 1)) (2 ^ n)
        have b4 := bs_mono (P := P) (κ := κp) (N := 2 ^ n) (show i - 1 ≤ 13 by omega)
        rw [bs_all κp_lt] at b4
        have b5 := cN_le P (2 ^ n)
        refine B_X1_sort_72 (by omega) ⟨by omega, fun z => by omega, fun _ => ⟨by omega, by omega, by rw [b1, b2]; omega, fun m5 e5 => ?_⟩⟩
        refine hE m5 ⟨by omega, fun a b x y z => by rw [e5, upM_ne (by omega)]; exact f4 a b x y z, ?_⟩
        rw [e5, upM_self]
        exact CB_s c4 h1 hi
    · intro i m3 hi ⟨f3, c3⟩ hE
      have hP' := hP i hi
      refine B_X1_sort_36 (by omega) ?_
      rw [bitc_n (by omega), f3 34 i (by omega) (by omega) (by omega), f3 1 11 (by omega) (by omega) (by omega), ← κp_pc]
      rw [← κp_pc] at hP'
      have kl := κp_lt i
      refine ⟨⟨by omega, by omega⟩, fun z => by omega, fun _ => ⟨by omega, fun z => ?_, fun z => ?_⟩⟩
      · refine hE m3 ⟨f3, CA_no c3 ?_⟩
        cases hh : P i
        · rfl
        · exact absurd (hP'.mpr hh) z
      · have ca := c3.2 _ kl
        have cb := cN_le (rk P κp (κp i)) i
        refine ⟨by omega, by rw [ca]; omega, fun m4 e4 => ?_⟩
        refine hE m4 ⟨fun a b x y z => by rw [e4, upM_ne (by omega)]; exact f3 a b x y z, ?_⟩
        rw [e4, upM_self]
        exact CA_yes c3 (hP'.mp z)
  · intro i m2 hi ⟨f2, z2⟩ hE
    refine B_X1_sort_2 (by omega) ⟨by omega, fun z => by omega, fun _ => ⟨by omega, fun m3 e3 => ?_⟩⟩
    refine hE m3 ⟨fun a b x y z => by rw [e3, upM_ne (by omega)]; exact f2 a b x y z, fun z h0 h1 => ?_⟩
    by_cases hz : z = i
    · rw [e3, hz, upM_same]
    · rw [e3, upM_ne (by omega)]; exact z2 z h0 (by omega)
theorem bad_tq {S : NS} (hV : VN S) {s : Nat} (hs : (s : Int) < S 1) (hc : cnt S s = true) {set : Nat} (hset : set < 4096) {a b : Nat} (ea : S (185 + 4 * s) = a) (eb : S (185 + 4 * s + 1) = b) (ha : a < 12) (hb : b < 12) : bad S set s = !letB (S (5 + 3 * a)) (set.testBit a) (set.testBit b) (decide (S (185 + 4 * s + 2) = 1)) := by
  unfold bad ltS
  rw [hc, ea, eb, hb_n (by omega) (by omega), hb_n (by omega) (by omega)]
  rfl
/-- what the sets that fit are, as Fitting keeps it -/
def FT (S : NS) (mem : Mem) : Prop := (∀ set : Nat, set < 2 ^ (S 0).toNat → mem 34 set = nl S set) ∧ SL (fitB S) (2 ^ (S 0).toNat) (mem 37) ∧ mem 32 7 = cN (fitB S) (2 ^ (S 0).toNat)
def ftF (mem mem' : Mem) : Prop := ∀ (a : Nat) (b : Int), ¬ (a = 1 ∧ b = 16) → ¬ (a = 32 ∧ b = 7) → ¬ (33 ≤ a ∧ a ≤ 38) → mem' a b = mem a b
theorem ct_refresh (hd : 5 ≤ d) {S : NS} (hR : HR 1 S mem) (hV : VN S) (hc : mem 1 16 = 0 → FT S mem) (hq : ∀ m', FT S m' → m' 1 16 = 0 → ftF mem m' → Q none m') : C_X1_refresh G d [vR 32] mem Q := by
  refine B_X1_refresh (by omega) ⟨fun z => ?_, fun z => hq mem (hc (by omega)) (by omega) (fun _ _ _ _ _ => rfl)⟩
  have v0 := hV.1
  have v1 := hV.2.1
  obtain ⟨n, hn⟩ : ∃ n : Nat, S 0 = n := ⟨(S 0).toNat, by omega⟩
  obtain ⟨k, hk⟩ : ∃ k : Nat, S 1 = k := ⟨(S 1).toNat, by omega⟩
  have p0 := Nat.two_pow_pos n
  have p4 : (2 : Nat) ^ n ≤ 4096 := Nat.pow_le_pow_right (by decide) (by omega : n ≤ 12)
  refine ct_clear (by decide) (fun m1 f1 t1 q1 => ⟨rfl, ?_⟩)
  refine up_loop (n := k) (E := fun i m => E_X1_refresh G d 20 [(0, vR 32), (1, vI i)] [] m Q) (I := fun i m => tyF 33 mem m ∧ TB i m 33 ∧ ∀ set : Nat, set < 4096 → tq m 33 set = sm i (fun s => bI (bad S set s))) ?_ ?_ (i := 0) (by omega) ⟨f1, t1, fun set _ => by rw [q1, sm_0]⟩
  · intro m2 ⟨f2, t2, q2⟩
    have g2 : ∀ b : Int, m2 1 b = mem 1 b := fun b => f2 1 b (by omega) (by omega) (by omega)
    refine B_X1_refresh_20 (by omega) ?_
    rw [g2, g2, hR.1.1, hR.1.2.1, hn]
    refine ⟨by omega, fun _ => ?_, fun z => absurd (by omega) z⟩
    refine ct_fill (by decide) (by omega) (c := k) (by omega) t2 (fun set hs => ?_) (fun m3 f3 q3 => ⟨rfl, ?_⟩)
    · rw [q2 set hs]
      exact ⟨sm_nn (fun _ _ => bI_nn _), sm_le1 (fun _ _ => bI_le _)⟩
    · have g3 : ∀ b : Int, m3 1 b = mem 1 b := fun b => by rw [f3 1 b (by omega), g2]
      have e3 : ∀ set : Nat, set < 2 ^ n → m3 34 set = nl S set := fun set hs => by
        rw [q3 set hs, q2 set (by omega)]
        unfold nl
        rw [show (S 1).toNat = k by omega]
      refine ct_sort (by omega) (n := n) (by rw [g3, hR.1.1, hn]) (by omega) (P := fitB S) (fun s hs => ?_) (fun m4 s4 l4 f4 => ⟨rfl, fun m5 e5 => ?_⟩)
      · rw [e3 s hs, g3, hR.1.2.2.1]
        exact fitB_iff.symm
      · have g5 : ∀ (a : Nat) (b : Int), ¬ (a = 1 ∧ b = 16) → m5 a b = m4 a b := fun a b h => by rw [e5, upM_ne h]
        refine hq m5 ⟨?_, ?_, ?_⟩ (by rw [e5, upM_same]) (fun a b x y w => ?_)
        · rw [show (S 0).toNat = n by omega]
          intro set hs
          rw [g5 _ _ (by omega), f4 34 set (by omega) (by omega) (by omega)]
          exact e3 set hs
        · rw [show (S 0).toNat = n by omega, e5, upM_cell (by decide)]
          exact l4
        · rw [show (S 0).toNat = n by omega, g5 _ _ (by omega)]
          exact s4
        · rw [g5 _ _ x, f4 a b y (by omega) (by omega), f3 a b (by omega), f2 a b (by omega) (by omega) (by omega)]
  · intro i m2 hi ⟨f2, t2, q2⟩ hE
    have g2 : ∀ (a : Nat) (b : Int), a < 33 → m2 a b = mem a b := fun a b h => f2 a b (by omega) (by omega) (by omega)
    obtain ⟨a, b, e1, e2, e3, e4, e5, e6, e7⟩ := hV.say (s := i) (by omega)
    have h1 := hR.2.2.2.2.1 i (by omega) (by omega)
    have kd := hV.kind (i := a) (by omega) (by omega)
    refine B_X1_refresh_20 (by omega) ?_
    rw [g2 1 6 (by omega), g2 1 10 (by omega), g2 1 9 (by omega), g2 7 _ (by omega), g2 8 _ (by omega), hR.1.2.1, hR.valid (s := i) (by omega), hR.whole (s := i) (by omega) (by omega), h1.1, h1.2, e1, e2, g2 2 _ (by omega), (hR.2.1 a (by omega) (by omega)).1]
    refine ⟨by omega, fun z => by omega, fun _ => ⟨fun z => ?_, fun z => ⟨by omega, by omega, by omega, ?_⟩⟩⟩
    · have z2 : cnt S i = false := by
        cases hc : cnt S i
        · rfl
        · rw [hc] at z; exact absurd (by decide) z
      refine hE m2 ⟨f2, ⟨by have := t2.1; omega, fun j h0 h1 => by have := t2.2.1 j h0 h1; omega, fun j h0 h1 => by have := t2.2.2 j h0 h1; omega⟩, fun set hs => ?_⟩
      rw [q2 set hs, sm_s]
      unfold bad
      rw [z2, Bool.false_and, bI_f, Int.add_zero]
    · have z2 : cnt S i = true := bI_ne0.mp z
      have e9 : nz (bz (bI (decide (S (185 + 4 * i + 2) = 1)) ≠ 0)) = decide (S (185 + 4 * i + 2) = 1) := by
        rw [nz_bz]
        cases decide (S (185 + 4 * i + 2) = 1) <;> rfl
      rw [e9]
      refine ct_add (by decide) (by omega) e6 e7 e5 (c := i) (by omega) (by omega) t2 (fun m3 f3 t3 q3 => ⟨rfl, ?_⟩)
      refine hE m3 ⟨tyF_t f2 f3, t3, fun set hs => ?_⟩
      rw [q3 set hs, q2 set hs, sm_s, bad_tq hV (by omega) z2 hs e1 e2 e6 e7]
/-- what the sets that fit are, as the model keeps it -/
def FF (S : NS) (mem : Mem) : Prop := SL (fitB S) (2 ^ (S 0).toNat) (mem 77) ∧ mem 71 12 = cN (fitB S) (2 ^ (S 0).toNat)
def ffF (mem mem' : Mem) : Prop := ∀ (a : Nat) (b : Int), ¬ (a = 71 ∧ b = 12) → ¬ (77 ≤ a ∧ a ≤ 79) → mem' a b = mem a b
theorem ct_findFitting (hd : 4 ≤ d) {S : NS} (hS : mem 72 = S) (hV : VN S) (hq : ∀ m', FF S m' → ffF mem m' → Q none m') : C_X11_findFitting G d [vR 71] mem Q := by
  have v0 := hV.1
  have v1 := hV.2.1
  obtain ⟨n, hn⟩ : ∃ n : Nat, S 0 = n := ⟨(S 0).toNat, by omega⟩
  have p0 := Nat.two_pow_pos n
  have p4 : (2 : Nat) ^ n ≤ 4096 := Nat.pow_le_pow_right (by decide) (by omega : n ≤ 12)
  have h72 : ∀ m' : Mem, ffF mem m' → m' 72 = S := fun m' h => by rw [← hS]; funext b; exact h 72 b (by omega) (by omega)
  refine B_X11_findFitting (by omega) ?_
  refine up_loop (n := 14) (E := fun i m => E_X11_findFitting G d 2 [(0, vR 71), (1, vI i)] [] m Q) (I := fun i m => ffF mem m ∧ ∀ z : Int, 0 ≤ z → z < i → m 79 z = 0) ?_ ?_ (i := 0) (by omega) ⟨fun _ _ _ _ => rfl, fun z _ _ => by omega⟩
  · intro m2 ⟨f2, z2⟩
    refine B_X11_findFitting_2 (by omega) ⟨by decide, fun _ m3 e3 => ?_, fun z => absurd (by decide) z⟩
    refine up_loop (n := 2 ^ n) (E := fun i m => E_X11_findFitting G d 28 [(0, vR 71), (1, vI i)] [] m Q) (I := fun i m => ffF mem m ∧ CA (fitB S) i (m 79) ∧ m 71 12 = cN (fitB S) i ∧ ∀ s : Nat, s < i → m 78 s = if fitB S s = true then pc s else -1) ?_ ?_ (i := 0) (by omega) ⟨fun a b x y => by rw [e3, upM_ne x]; exact f2 a b x y, CA_0 (fun z h0 h1 => by rw [e3, upM_ne (by omega)]; exact z2 z h0 h1), by rw [e3, upM_same]; rfl, fun s hs => by omega⟩
    · intro m4 ⟨f4, c4, s4, b4⟩
      refine B_X11_findFitting_28 (by omega) ?_
      rw [h72 m4 f4, hn, ishl_1 (by omega)]
      refine ⟨⟨by omega, by omega⟩, fun _ => ?_, fun z => absurd (by omega) z⟩
      refine up_loop (n := 14) (E := fun i m => E_X11_findFitting G d 102 [(0, vR 71), (1, vI i)] [] m Q) (I := fun i m => 1 ≤ i ∧ ffF mem m ∧ CB (fitB S) (2 ^ n) i (m 79) ∧ m 71 12 = cN (fitB S) (2 ^ n) ∧ ∀ s : Nat, s < 2 ^ n → m 78 s = if fitB S s = true then pc s else -1) ?_ ?_ (i := 1) (by omega) ⟨by omega, f4, CB_1 c4, s4, b4⟩
      · intro m5 ⟨_, f5, c5, s5, b5⟩
        refine B_X11_findFitting_102 (by omega) ⟨by decide, fun _ => ?_, fun z => absurd (by decide) z⟩
        refine up_loop (n := 2 ^ n) (E := fun i m => E_X11_findFitting G d 133 [(0, vR 71), (1, vI i)] [] m Q) (I := fun i m => ffF mem m ∧ CC (fitB S) (2 ^ n) i (m 79) (m 77) ∧ m 71 12 = cN (fitB S) (2 ^ n) ∧ ∀ s : Nat, s < 2 ^ n → m 78 s = if fitB S s = true then pc s else -1) ?_ ?_ (i := 0) (by omega) ⟨f5, CC_0 c5, s5, b5⟩
        · intro m6 ⟨f6, c6, s6, b6⟩
          refine B_X11_findFitting_133 (by omega) ?_
          rw [h72 m6 f6, hn, ishl_1 (by omega)]
          refine ⟨⟨by omega, by omega⟩, fun _ => ?_, fun z => absurd (by omega) z⟩
          refine hq m6 ⟨?_, ?_⟩ f6
          · rw [show (S 0).toNat = n by omega]
            exact fun s hs hp => c6.2 s hs hp
          · rw [show (S 0).toNat = n by omega]
            exact s6
        · intro i m6 hi ⟨f6, c6, s6, b6⟩ hE
          have kl := κp_lt i
          refine B_X11_findFitting_133 (by omega) ?_
          rw [h72 m6 f6, hn, ishl_1 (by omega), b6 i hi, ← κp_pc]
          refine ⟨⟨by omega, by omega⟩, fun z => by omega, fun _ => ⟨by omega, fun z => ?_, fun z => ?_⟩⟩
          · refine hE m6 ⟨f6, CC_no c6 ?_, s6, b6⟩
            cases hh : fitB S i
            · rfl
            · rw [if_pos hh] at z; omega
          · have hp : fitB S i = true := by
              cases hh : fitB S i
              · rw [if_neg (by rw [hh]; decide)] at z; omega
              · rfl
            have ca := CC_at c6
            have cb := plc_b hi hp
            rw [if_pos hp, ca]
            refine ⟨by omega, by omega, fun m7 e7 => ?_⟩
            have e78 : m7 78 i = κp i := by rw [e7, upM_ne (by omega), b6 i hi, if_pos hp, κp_pc]
            rw [e78]
            refine ⟨by omega, ?_, fun m8 e8 => ?_⟩
            · rw [e7, upM_ne (by omega), ca]; omega
            · refine hE m8 ⟨fun a b x y => by rw [e8, upM_ne (by omega), e7, upM_ne (by omega)]; exact f6 a b x y, ?_, by rw [e8, upM_ne (by omega), e7, upM_ne (by omega)]; exact s6, fun s hs => by rw [e8, upM_ne (by omega), e7, upM_ne (by omega)]; exact b6 s hs⟩
              have y := CC_yes c6 hi hp
              rw [e8, upM_self, upM_cell (by decide), e7, upM_cell (a := 79) (by decide), upM_self, ← ca]
              exact y
      · intro i m5 hi ⟨h1, f5, c5, s5, b5⟩ hE
        have b1 := c5.2 i (Nat.le_refl _) hi
        have b2 := c5.1 (i - 1) (by omega) (by omega)
        rw [show ((i - 1 : Nat) : Int) = (i : Int) - 1 by omega] at b2
        have b3 := cN_le (rk (fitB S) κp (i - 1)) (2 ^ n)
        have b4 := bs_mono (P := fitB S) (κ := κp) (N := 2 ^ n) (show i - 1 ≤ 13 by omega)
        rw [bs_all κp_lt] at b4
        have b5' := cN_le (fitB S) (2 ^ n)
        refine B_X11_findFitting_102 (by omega) ⟨by omega, fun z => by omega, fun _ => ⟨by omega, by omega, by rw [b1, b2]; omega, fun m6 e6 => ?_⟩⟩
        refine hE m6 ⟨by omega, fun a b x y => by rw [e6, upM_ne (by omega)]; exact f5 a b x y, ?_, by rw [e6, upM_ne (by omega)]; exact s5, fun s hs => by rw [e6, upM_ne (by omega)]; exact b5 s hs⟩
        rw [e6, upM_self]
        exact CB_s c5 h1 hi
    · intro i m4 hi ⟨f4, c4, s4, b4⟩ hE
      have kl := κp_lt i
      have cn1 := cN_le (fitB S) i
      refine B_X11_findFitting_28 (by omega) ?_
      rw [h72 m4 f4, hn, ishl_1 (by omega)]
      refine ⟨⟨by omega, by omega⟩, fun z => by omega, fun _ => ?_⟩
      have pc0 := pc_nn i
      have pc1 := pc_le i
      have br : barsS S i < 0 ↔ fitB S i = true := by unfold fitB; exact decide_eq_true_iff.symm
      have bi : inr (barsS S i) := by
        have h1 := (fbad_neg (S := S) (set := i) (S 1).toNat 0).2
        have h2 : ∀ k s : Nat, fbad S i k s < k + s ∨ fbad S i k s = -1 := by
          intro k
          induction k with
          | zero => intro s; exact Or.inr rfl
          | succ k ih =>
            intro s
            unfold fbad
            split
            · left; omega
            · have := ih (s + 1)
              omega
        have h3 := h2 (S 1).toNat 0
        unfold barsS
        split
        · decide
        · have h0 : ((0 : Nat) : Int) = 0 := rfl
          omega
      refine ct_barsOf (h72 m4 f4) hV (by omega) (by omega) ⟨_, rfl, bi, fun z => ⟨by omega, fun m5 e5 => ?_⟩, fun z => ⟨by omega, ?_, fun m5 e5 => ?_⟩⟩
      · have hp : fitB S i = false := by
          cases hh : fitB S i
          · rfl
          · have := br.mpr hh; omega
        have e9 : m5 78 i = -1 := by rw [e5, upM_same]
        rw [e9]
        refine ⟨fun _ => ?_, fun z => absurd (by decide) z⟩
        refine hE m5 ⟨fun a b x y => by rw [e5, upM_ne (by omega)]; exact f4 a b x y, CA_no (by rw [e5, upM_cell (by decide)]; exact c4) hp, by rw [e5, upM_ne (by omega), s4, cN_s, hp]; simp, fun s hs => ?_⟩
        by_cases q : s = i
        · subst q; rw [e9, if_neg (by rw [hp]; decide)]
        · rw [e5, upM_ne (by omega)]; exact b4 s (by omega)
      · rw [bits_pc (by omega)]; omega
      · have hp : fitB S i = true := br.mp (by omega)
        rw [bits_pc (by omega), ← κp_pc] at e5
        have e9 : m5 78 i = κp i := by rw [e5, upM_same]
        have ca := c4.2 _ kl
        have cb := cN_le (rk (fitB S) κp (κp i)) i
        rw [e9]
        refine ⟨fun z => by omega, fun _ => ⟨by omega, ?_, fun m6 e6 => ⟨?_, fun m7 e7 => ?_⟩⟩⟩
        · rw [e5, upM_ne (by omega), ca]; omega
        · rw [e6, upM_ne (by omega), e5, upM_ne (by omega), s4]; omega
        · refine hE m7 ⟨fun a b x y => by rw [e7, upM_ne (by omega), e6, upM_ne (by omega), e5, upM_ne (by omega)]; exact f4 a b x y, ?_, ?_, fun s hs => ?_⟩
          · have y := CA_yes c4 hp
            rw [e7, upM_cell (by decide), e6, upM_self, e5, upM_cell (a := 79) (by decide)]
            exact y
          · rw [e7, upM_same, e6, upM_ne (by omega), e5, upM_ne (by omega), s4, cN_s, if_pos hp]; omega
          · rw [e7, upM_ne (by omega), e6, upM_ne (by omega)]
            by_cases q : s = i
            · subst q; rw [e9, if_pos hp, κp_pc]
            · rw [e5, upM_ne (by omega)]; exact b4 s (by omega)
  · intro i m2 hi ⟨f2, z2⟩ hE
    refine B_X11_findFitting_2 (by omega) ⟨by omega, fun z => by omega, fun _ => ⟨by omega, fun m3 e3 => ?_⟩⟩
    refine hE m3 ⟨fun a b x y => by rw [e3, upM_ne (by omega)]; exact f2 a b x y, fun z h0 h1 => ?_⟩
    by_cases hz : z = i
    · rw [e3, hz, upM_same]
    · rw [e3, upM_ne (by omega)]; exact z2 z h0 (by omega)
end SO
