/-! ===== halves; one tie more; the model's pairs ===== -/
def loB (a : Nat) (w : Int) (m : Nat) : Bool := a.testBit m && decide ((cN a.testBit m : Int) < w)
def hiB (a : Nat) (w : Int) (m : Nat) : Bool := a.testBit m && !decide ((cN a.testBit m : Int) < w)
theorem pc_mkB {m : Nat} (hm : m ≤ 12) (f : Nat → Bool) : pc (mkB m f) = sm m (fun k => bI (f k)) := by
  have e : pc (mkB m f) = sm (m + (12 - m)) (fun k => bI ((mkB m f).testBit k)) := by unfold pc; congr 1; omega
  rw [e, sm_app, sm_zero (n := 12 - m) (fun i _ => by rw [mkB_tb, decide_eq_false (by omega), Bool.false_and, bI_f]), Int.add_zero]
  exact sm_congr (fun i hi => by rw [mkB_tb, decide_eq_true hi, Bool.true_and])
theorem sm_lo (a : Nat) {w : Int} (hw : 0 ≤ w) (m : Nat) : sm m (fun k => bI (loB a w k)) = if (cN a.testBit m : Int) < w then (cN a.testBit m : Int) else w := by
  induction m with
  | zero =>
    rw [sm_0]
    show _ = if ((0 : Nat) : Int) < w then _ else _
    split
    · rfl
    · have : ((0 : Nat) : Int) = 0 := rfl
      omega
  | succ m ih =>
    rw [sm_s, ih, cN_s]
    unfold loB
    cases hb : a.testBit m
    · simp [bI]
    · rw [Bool.true_and, if_pos rfl]
      by_cases h : (cN a.testBit m : Int) < w
      · rw [if_pos h, decide_eq_true h, bI_t]
        split <;> omega
      · rw [if_neg h, decide_eq_false h, bI_f, if_neg (by omega)]
        omega
theorem ior_bit {m : Nat} (hm : m < 12) (f : Nat → Bool) (hf : f m = true) : ior (mkB m f) (ishl 1 m) = ((mkB (m + 1) f : Nat) : Int) := by
  have h1 := mkB_lt m f
  have h2 := mkB_4096 (show m ≤ 12 by omega) f
  have hp : 2 ^ m < 4096 := p2 (n := 12) hm
  rw [ishl_1 (by omega), ior_nn (by omega) (by omega)]
  congr 1
  show _ = mkB m f + _
  rw [if_pos hf, Nat.add_comm, two_pow_or h1, Nat.or_comm]
theorem mkB_no {m : Nat} {f : Nat → Bool} (hf : f m = false) : mkB (m + 1) f = mkB m f := by
  show mkB m f + _ = _
  rw [if_neg (by rw [hf]; decide), Nat.add_zero]
theorem wo_0 (b : Nat) : wo 0 b = 0 := by unfold wo; simp
section D3
variable {G : GT} {d : Nat} {mem : Mem} {Q : Option AV → Mem → Prop}
theorem ct_lowerHalf (hd : 1 ≤ d) {a : Nat} (ha : mem 42 4 = a) (ha2 : a < 4096) (hq : Q (some (vI (mkB 12 (loB a ((pc a + 1) / 2))))) mem) : C_X0_lowerHalf G d [vR 42] mem Q := by
  have p0 := pc_nn a
  have p1 := pc_le a
  refine B_X0_lowerHalf hd ?_
  rw [ha, bitc_n ha2, tdiv2 (by omega)]
  refine ⟨by omega, ?_⟩
  refine it_loop (n := 12) (E := fun i => E_X0_lowerHalf G d 16 [(0, vR 42), (1, vI (mkB i (loB a ((pc a + 1) / 2)))), (2, vI ((pc a + 1) / 2)), (3, vI i)] [] mem Q) ?_ ?_ 0 (by omega)
  · exact B_X0_lowerHalf_16 hd ⟨by omega, fun _ => hq, fun y => absurd (by decide) y⟩
  · intro i hi hE
    have e1 : bitc (mkB i (loB a ((pc a + 1) / 2)) : Nat) = if (cN a.testBit i : Int) < (pc a + 1) / 2 then (cN a.testBit i : Int) else (pc a + 1) / 2 := by
      rw [bitc_n (mkB_4096 (by omega) _), pc_mkB (by omega), sm_lo a (by omega)]
    refine B_X0_lowerHalf_16 hd ?_
    rw [ha, bt_n (by omega) (by omega), e1]
    refine ⟨by omega, fun y => by omega, fun _ => ⟨fun y => ?_, fun y => ⟨by omega, fun x => ?_, fun x => ?_⟩⟩⟩
    · rw [mkB_no (by unfold loB; rw [bI_eq0.mp y]; rfl)] at hE
      exact hE
    · rw [mkB_no (by
        unfold loB
        rw [decide_eq_false (fun q => by rw [if_pos q] at x; omega), Bool.and_false])] at hE
      exact hE
    · have hl : loB a ((pc a + 1) / 2) i = true := by
        unfold loB
        rw [bI_ne0.mp y, decide_eq_true (by split at x <;> omega)]
        rfl
      rw [ior_bit hi _ hl]
      exact hE
theorem ct_greaterWith (hd : 3 ≤ d) {S : NS} {n f t : Nat} (hn : mem 1 0 = n) (hn2 : n ≤ 12) (hD : DP S n mem) (hf : f < n) (ht : t < n) {e : Int} (h0 : 0 ≤ e) (h1 : e ≤ 13) (hq : ∀ z : Int, 0 ≤ z → z ≤ 13 → (e < z ↔ e < (fpU (chF S n f t) (2 ^ n - 1)).2) → (e < z → z = (fpU (chF S n f t) (2 ^ n - 1)).2) → Q (some (vI z)) mem) : C_X0_greaterWith G d [vR 42, vI f, vI t, vI e] mem Q := by
  have p4 := p2n hn2
  obtain ⟨r1, z1, d1, d2, d3⟩ := hD
  have cf := chF_F (S := S) (f := f) (t := t) hn2
  have u := fpU_r (frS_F (S := S) hn2) (show 2 ^ n - 1 < 2 ^ n by omega)
  have hc : chG (mem 42 3) (mem 42 4) f t = chN (chF S n f t) (fpU (frS S n) (2 ^ n - 1)).1 := by
    rw [d1, d2]
    exact chG_n hn2 (by omega) (by omega) (by omega)
  refine B_X0_greaterWith hd ?_
  rw [hc, hn, ishl_1 (by omega)]
  have fin : ∀ i, i < 2 ^ n → 0 ≤ (fpU (chF S n f t) i).2 ∧ (fpU (chF S n f t) i).2 ≤ 13 := fun i hi => by
    have := (fpU_r cf hi).2
    omega
  refine ⟨by omega, fun y => ?_, fun y => ?_⟩
  · refine it_loop (n := 2 ^ n - 1) (E := fun i => E_X0_greaterWith G d 37 [(0, vR 42), (1, vI f), (2, vI t), (3, vI e), (4, vI (fpU (chF S n f t) i).2), (5, vI ((2 ^ n : Nat) : Int)), (6, vI ((i : Int) + 1))] [] mem Q) ?_ ?_ 0 (by omega)
    · have b := fin (2 ^ n - 1) (by omega)
      exact B_X0_greaterWith_37 hd ⟨⟨by omega, by omega⟩, fun _ => hq _ b.1 b.2 Iff.rfl (fun _ => rfl), fun w => absurd (by omega) w⟩
    · intro i hi hE
      have b := fin i (by omega)
      have ap := apart_eq hn hn2 r1 (set := i + 1) (by omega)
      have cn := chG_n (S := S) (n := n) (f := f) (t := t) (set := i + 1) hn2 (by omega) (by omega) (by omega)
      refine B_X0_greaterWith_37 hd ?_
      rw [show ((i : Int) + 1) = ((i + 1 : Nat) : Int) by omega, ap.2, cn]
      refine ⟨⟨by omega, by omega⟩, fun w => by omega, fun _ => ⟨⟨by omega, by omega⟩, fun w => ?_, fun w => ⟨ap.1, ?_⟩⟩⟩
      · have m1 := fpU_mono cf (show i ≤ 2 ^ n - 1 by omega) (show 2 ^ n - 1 < 2 ^ n by omega)
        exact hq _ b.1 b.2 ⟨fun q => by omega, fun q => by omega⟩ (fun q => by omega)
      · have mn := fpU_min cf (k := i) (by omega)
        have et : tmin (fpU (chF S n f t) i).2 (chN (chF S n f t) (i + 1)) = (fpU (chF S n f t) (i + 1)).2 := by
          rw [mn]
          unfold tmin
          split <;> split <;> omega
        rw [et]
        exact hE
  · refine hq e h0 h1 ⟨fun q => by omega, fun q => ?_⟩ (fun q => by omega)
    exfalso
    have hl : (fpU (chF S n f t) (2 ^ n - 1)).2 ≤ chN (chF S n f t) (fpU (frS S n) (2 ^ n - 1)).1 := by
      by_cases hz : (fpU (frS S n) (2 ^ n - 1)).1 = 0
      · rw [hz]
        have e0 : chN (chF S n f t) 0 = 13 := by
          unfold chN chF
          rw [fr0 hn2]
          rw [if_pos (by split <;> first | rfl | exact wo_0 _)]
        rw [e0]
        exact (fin _ (by omega)).2
      · exact fpU_le cf hz (by omega) (by omega)
    omega
/-- the best missing tie so far: 100 times from, and to; how many -/
def mtS (S : NS) (n : Nat) (f t : Nat) (σ : Int × Int) : Int × Int := if f ≠ t ∧ S (41 + 12 * (f : Int) + t) = 0 ∧ σ.2 < (fpU (chF S n f t) (2 ^ n - 1)).2 then (100 * (f : Int) + t, (fpU (chF S n f t) (2 ^ n - 1)).2) else σ
def mtR (S : NS) (n f : Nat) (σ : Int × Int) : Nat → Int × Int
  | 0 => σ
  | t + 1 => mtS S n f t (mtR S n f σ t)
def mtA (S : NS) (n : Nat) : Nat → Int × Int
  | 0 => (-1, 0)
  | f + 1 => mtR S n f (mtA S n f) n
/-- either nothing yet, or something of one at least -/
def mtI (σ : Int × Int) : Prop := (σ.1 = -1 ∧ σ.2 = 0) ∨ (0 ≤ σ.1 ∧ σ.1 ≤ 2000 ∧ 1 ≤ σ.2 ∧ σ.2 ≤ 13)
theorem gw_r {S : NS} {n f t : Nat} (hn : n ≤ 12) : 1 ≤ (fpU (chF S n f t) (2 ^ n - 1)).2 ∧ (fpU (chF S n f t) (2 ^ n - 1)).2 ≤ 13 := by
  have p4 := p2n hn
  have := (fpU_r (chF_F (S := S) (f := f) (t := t) hn) (show 2 ^ n - 1 < 2 ^ n by omega)).2
  omega
theorem mtS_I {S : NS} {n f t : Nat} (hn : n ≤ 12) (hf : f < 12) (ht : t < 12) {σ : Int × Int} (h : mtI σ) : mtI (mtS S n f t σ) := by
  have g := gw_r (S := S) (f := f) (t := t) hn
  unfold mtS
  split
  · right
    exact ⟨by simp only []; omega, by simp only []; omega, g.1, g.2⟩
  · exact h
theorem mtR_I {S : NS} {n f : Nat} (hn : n ≤ 12) (hf : f < 12) {σ : Int × Int} (h : mtI σ) : ∀ t, t ≤ n → mtI (mtR S n f σ t) := by
  intro t
  induction t with
  | zero => intro _; exact h
  | succ t ih => intro ht; exact mtS_I hn hf (by omega) (ih (by omega))
theorem mtA_I {S : NS} {n : Nat} (hn : n ≤ 12) : ∀ f, f ≤ n → mtI (mtA S n f) := by
  intro f
  induction f with
  | zero => intro _; exact Or.inl ⟨rfl, rfl⟩
  | succ f ih => intro hf; exact mtR_I hn (by omega) (ih (by omega)) n (Nat.le_refl _)
theorem ct_bestMissingTie (hd : 4 ≤ d) {S : NS} (hR : HR 1 S mem) (hV : VN S) {n : Nat} (hn : S 0 = n) (hD : DP S n mem) (hq : Q (some (vI (mtA S n n).1)) mem) : C_X0_bestMissingTie G d [vR 42] mem Q := by
  have v0 := hV.1
  have hn2 : n ≤ 12 := by omega
  have hn1 : mem 1 0 = n := by rw [hR.1.1, hn]
  refine B_X0_bestMissingTie (by omega) ?_
  refine it_loop (n := n) (E := fun f => E_X0_bestMissingTie G d 6 [(0, vR 42), (1, vI (mtA S n f).1), (2, vI (mtA S n f).2), (3, vI f)] [] mem Q) ?_ ?_ 0 (by omega)
  · refine B_X0_bestMissingTie_6 (by omega) ?_
    rw [hn1]
    exact ⟨by omega, fun _ => hq, fun y => absurd (by omega) y⟩
  · intro f hf hE
    refine B_X0_bestMissingTie_6 (by omega) ?_
    rw [hn1]
    refine ⟨by omega, fun y => by omega, fun _ => ?_⟩
    refine it_loop (n := n) (E := fun t => E_X0_bestMissingTie G d 20 [(0, vR 42), (1, vI (mtR S n f (mtA S n f) t).1), (2, vI (mtR S n f (mtA S n f) t).2), (3, vI f), (4, vI t)] [] mem Q) ?_ ?_ 0 (by omega)
    · refine B_X0_bestMissingTie_20 (by omega) ?_
      rw [hn1]
      exact ⟨by omega, fun _ => hE, fun y => absurd (by omega) y⟩
    · intro t ht hE2
      have I := mtR_I (S := S) hn2 (show f < 12 by omega) (mtA_I (S := S) hn2 f (by omega)) t (by omega)
      have tv := hV.2.2.2.2.2.2.2.1 f t (by omega) (by omega) (by omega) (by omega)
      have eR : mtR S n f (mtA S n f) (t + 1) = mtS S n f t (mtR S n f (mtA S n f) t) := rfl
      have tb := hR.tied (i := f) (j := t) (by omega) (by omega)
      rw [eR] at hE2
      have no : ¬ (f ≠ t ∧ S (41 + 12 * (f : Int) + t) = 0 ∧ (mtR S n f (mtA S n f) t).2 < (fpU (chF S n f t) (2 ^ n - 1)).2) → E_X0_bestMissingTie G d 20 [(0, vR 42), (1, vI (mtR S n f (mtA S n f) t).1), (2, vI (mtR S n f (mtA S n f) t).2), (3, vI f), (4, vI ((t : Int) + 1))] [] mem Q := fun h => by
        unfold mtS at hE2
        rw [if_neg h] at hE2
        exact hE2
      have yes : (f ≠ t ∧ S (41 + 12 * (f : Int) + t) = 0 ∧ (mtR S n f (mtA S n f) t).2 < (fpU (chF S n f t) (2 ^ n - 1)).2) → E_X0_bestMissingTie G d 20 [(0, vR 42), (1, vI (100 * (f : Int) + t)), (2, vI (fpU (chF S n f t) (2 ^ n - 1)).2), (3, vI f), (4, vI ((t : Int) + 1))] [] mem Q := fun h => by
        unfold mtS at hE2
        rw [if_pos h] at hE2
        exact hE2
      refine B_X0_bestMissingTie_20 (by omega) ?_
      rw [hn1, show mem 5 (f : Int) = mem (1 + 4) (f : Int) from rfl, tb]
      refine ⟨by omega, fun y => by omega, fun _ => ⟨by omega, fun y => no (fun q => q.1 (by omega)), fun y => ⟨by omega, fun x => no (fun q => ?_), fun x => ?_⟩⟩⟩
      · have := of_decide_eq_true (bI_ne0.mp x)
        omega
      · have hx : S (41 + 12 * (f : Int) + t) = 0 := by
          have h3 : ¬ 0 < S (41 + 12 * (f : Int) + t) := fun q => x (by rw [decide_eq_true q]; decide)
          omega
        refine ct_greaterWith (by omega) hn1 hn2 hD hf ht (by unfold mtI at I; omega) (by unfold mtI at I; omega) (fun z z0 z1 hz1 hz2 => ⟨z, rfl, ⟨by omega, by unfold mtI at I; omega⟩, fun w => no (fun q => ?_), fun w => ?_⟩)
        · have := hz1.mpr q.2.2
          omega
        · have w' : (mtR S n f (mtA S n f) t).2 < z := by omega
          rw [hz2 w']
          exact yes ⟨by omega, hx, hz1.mp w'⟩
/-- what the model works out of who can try whom -/
def FR (S : NS) (n : Nat) (mem : Mem) : Prop := ∀ set : Nat, set < 2 ^ n → mem 80 set = (frS S n set : Int)
theorem ct_findFree (hd : 1 ≤ d) {S : NS} (hS : mem 72 = S) {n : Nat} (hn : S 0 = n) (hn2 : n ≤ 12) (hq : ∀ m' : Mem, FR S n m' → (∀ (a : Nat) (b : Int), a ≠ 80 → m' a b = mem a b) → Q none m') : C_X11_findFree G d [vR 71] mem Q := by
  have p4 := p2n hn2
  have h72 : ∀ m' : Mem, (∀ (a : Nat) (b : Int), a ≠ 80 → m' a b = mem a b) → m' 72 = S := fun m' h => by rw [← hS]; funext b; exact h 72 b (by omega)
  refine B_X11_findFree hd ?_
  refine up_loop (n := 2 ^ n) (E := fun i m => E_X11_findFree G d 2 [(0, vR 71), (1, vI i)] [] m Q) (I := fun i m => (∀ (a : Nat) (b : Int), a ≠ 80 → m a b = mem a b) ∧ ∀ set : Nat, set < i → m 80 set = (frS S n set : Int)) ?_ ?_ (i := 0) (by omega) ⟨fun _ _ _ => rfl, fun set hs => by omega⟩
  · intro m2 ⟨f2, g2⟩
    refine B_X11_findFree_2 hd ?_
    rw [h72 m2 f2, hn, ishl_1 (by omega)]
    exact ⟨⟨by omega, by omega⟩, fun _ => hq m2 g2 f2, fun y => absurd (by omega) y⟩
  · intro set m2 hs ⟨f2, g2⟩ hE
    refine B_X11_findFree_2 hd ?_
    rw [h72 m2 f2, hn, ishl_1 (by omega)]
    refine ⟨⟨by omega, by omega⟩, fun y => by omega, fun _ => ⟨by omega, fun m3 e3 => ?_⟩⟩
    refine up_loop (n := n) (E := fun i m => E_X11_findFree G d 19 [(0, vR 71), (1, vI set), (2, vI i)] [] m Q) (I := fun i m => (∀ (a : Nat) (b : Int), a ≠ 80 → m a b = mem a b) ∧ (∀ t : Nat, t < set → m 80 t = (frS S n t : Int)) ∧ m 80 set = (mkB i (fun m => set.testBit m && !trd S n set m) : Int)) ?_ ?_ (i := 0) (by omega) ⟨fun a b h => by rw [e3, upM_ne (by omega)]; exact f2 a b h, fun t ht => by rw [e3, upM_ne (by omega)]; exact g2 t ht, by rw [e3, upM_same]; rfl⟩
    · intro m4 ⟨f4, g4, k4⟩
      refine B_X11_findFree_19 hd ?_
      rw [h72 m4 f4, hn]
      refine ⟨by omega, fun _ => hE m4 ⟨f4, fun t ht => ?_⟩, fun y => absurd (by omega) y⟩
      by_cases q : t = set
      · subst q; exact k4
      · exact g4 t (by omega)
    · intro k m4 hk ⟨f4, g4, k4⟩ hE2
      refine B_X11_findFree_19 hd ?_
      rw [h72 m4 f4, hn]
      refine ⟨by omega, fun y => by omega, fun _ => ?_⟩
      refine it_loop (n := n) (E := fun b => E_X11_findFree G d 34 [(0, vR 71), (1, vI set), (2, vI k), (3, vI (bI (anyB b (fun b => !set.testBit b && decide (0 < S (41 + 12 * (b : Int) + k)))))), (4, vI b)] [] m4 Q) ?_ ?_ 0 (by omega)
      · have ml := mkB_4096 (show k ≤ 12 by omega) (fun m => set.testBit m && !trd S n set m)
        have z0 : ior (m4 80 set) 0 = m4 80 set := by
          rw [k4]
          have := ior_nn (a := mkB k (fun m => set.testBit m && !trd S n set m)) (b := 0) (by omega) (by decide)
          rw [Nat.or_zero] at this
          exact this
        have nx : ∀ m5 : Mem, m5 = upM m4 80 set ((mkB (k + 1) (fun m => set.testBit m && !trd S n set m) : Nat) : Int) → E_X11_findFree G d 19 [(0, vR 71), (1, vI set), (2, vI ((k : Int) + 1))] [] m5 Q := fun m5 e5 => hE2 m5 ⟨fun a b h => by rw [e5, upM_ne (by omega)]; exact f4 a b h, fun t ht => by rw [e5, upM_ne (by omega)]; exact g4 t ht, by rw [e5, upM_same]⟩
        refine B_X11_findFree_34 hd ?_
        rw [h72 m4 f4, hn, bt_n (by omega) (by omega), z0, k4]
        show inr ((n : Nat) : Int) ∧ _
        refine ⟨by omega, fun _ => ⟨by omega, fun y m5 e5 => nx m5 ?_, fun y => ⟨by have := bI_01 (anyB n (fun b => !set.testBit b && decide (0 < S (41 + 12 * (b : Int) + k)))); omega, fun x m5 e5 => nx m5 ?_, fun x m5 e5 => nx m5 ?_⟩⟩, fun y => absurd (by omega) y⟩
        · rw [mkB_no]
          · exact e5
          · cases hb : set.testBit k
            · rfl
            · rw [hb] at y; exact absurd rfl y
        · rw [mkB_no]
          · exact e5
          · have : trd S n set k = true := bI_ne0.mp x
            rw [this]; simp
        · rw [← ior_bit (by omega) _ (by
            have : trd S n set k = false := by
              cases h : trd S n set k
              · rfl
              · exact absurd (by rw [show anyB n (fun b => !set.testBit b && decide (0 < S (41 + 12 * (b : Int) + k))) = true from h]; decide) x
            rw [this, bI_eq1.mp y]; rfl)]
          exact e5
      · intro b hb hE3
        have s1 : anyB (b + 1) (fun b => !set.testBit b && decide (0 < S (41 + 12 * (b : Int) + k))) = (anyB b (fun b => !set.testBit b && decide (0 < S (41 + 12 * (b : Int) + k))) || (!set.testBit b && decide (0 < S (41 + 12 * (b : Int) + k)))) := rfl
        rw [s1] at hE3
        refine B_X11_findFree_34 hd ?_
        rw [h72 m4 f4, hn, bt_n (a := set) (k := b) (by omega) (by omega)]
        generalize hA : anyB b (fun b => !set.testBit b && decide (0 < S (41 + 12 * (b : Int) + k))) = A at hE3 ⊢
        refine ⟨by omega, fun y => by omega, fun _ => ⟨by have := bI_01 A; omega, fun y => ?_, fun y => ⟨fun x => ?_, fun x => ⟨by omega, fun w => ?_, fun w => ?_⟩⟩⟩⟩
        · rw [bI_ne0.mp y] at hE3; exact hE3
        · have : A = false := by
            cases h : A
            · rfl
            · rw [h] at y; exact absurd (by decide) y
          rw [this, bI_eq1.mp x] at hE3; exact hE3
        · have : A = false := by
            cases h : A
            · rfl
            · rw [h] at y; exact absurd (by decide) y
          rw [this, decide_eq_false (show ¬ 0 < S (41 + 12 * (b : Int) + k) by omega), Bool.and_false] at hE3; exact hE3
        · have h3 : set.testBit b = false := by
            cases h : set.testBit b
            · rfl
            · rw [h] at x; exact absurd rfl x
          rw [h3, decide_eq_true (show 0 < S (41 + 12 * (b : Int) + k) by omega), Bool.not_false, Bool.true_and, Bool.or_true] at hE3; exact hE3
/-- the free ones, as unionWith takes them -/
def uwF (S : NS) (n f t : Nat) : Nat → Nat := if f = t then frS S n else chF S n f t
theorem uwF_F {S : NS} {n f t : Nat} (hn : n ≤ 12) : ∀ set, set < 2 ^ n → uwF S n f t set < 4096 ∧ ∀ k, k < 12 → (uwF S n f t set).testBit k = true → set.testBit k = true := by
  unfold uwF
  split
  · exact frS_F hn
  · exact chF_F hn
theorem ct_unionWith (hd : 1 ≤ d) {S : NS} {n f t : Nat} (hn : mem 72 0 = n) (hn2 : n ≤ 12) (hF : FR S n mem) (hf : f < 12) (ht : t < 12) (hq : Q (some (vI (if (fpU (uwF S n f t) (2 ^ n - 1)).1 = 0 then -1 else ((fpU (uwF S n f t) (2 ^ n - 1)).1 : Int)))) (upM mem 71 14 (if (fpU (uwF S n f t) (2 ^ n - 1)).1 = 0 then 0 else (fpU (uwF S n f t) (2 ^ n - 1)).2))) : C_X11_unionWith G d [vR 71, vI f, vI t] mem Q := by
  have p4 := p2n hn2
  have uf := uwF_F (S := S) (f := f) (t := t) hn2
  refine B_X11_unionWith hd ?_
  refine it_loop (n := 2 ^ n - 1) (E := fun i => E_X11_unionWith G d 8 [(0, vR 71), (1, vI f), (2, vI t), (3, vI (if (fpU (uwF S n f t) i).1 = 0 then -1 else ((fpU (uwF S n f t) i).1 : Int))), (4, vI (if (fpU (uwF S n f t) i).1 = 0 then 0 else (fpU (uwF S n f t) i).2)), (5, vI ((i : Int) + 1))] [] mem Q) ?_ ?_ 0 (by omega)
  · refine B_X11_unionWith_8 hd ?_
    rw [hn, ishl_1 (by omega)]
    have r := (fpU_r uf (show 2 ^ n - 1 < 2 ^ n by omega)).2
    exact ⟨⟨by omega, by omega⟩, fun _ => ⟨by split <;> omega, fun m5 e5 => by rw [e5]; exact hq⟩, fun y => absurd (by omega) y⟩
  · intro i hi hE
    have r := fpU_r uf (show i < 2 ^ n by omega)
    have hs := hF (i + 1) (by omega)
    have hl := frS_lt (S := S) (set := i + 1) hn2
    have hp : 2 ^ t < 4096 := p2 (n := 12) ht
    have ub := uf (i + 1) (by omega)
    rw [show ((i + 1 : Nat) : Int) = (i : Int) + 1 by omega] at hs
    have go : E_X11_unionWith G d 56 [(0, vR 71), (1, vI f), (2, vI t), (3, vI (if (fpU (uwF S n f t) i).1 = 0 then -1 else ((fpU (uwF S n f t) i).1 : Int))), (4, vI (if (fpU (uwF S n f t) i).1 = 0 then 0 else (fpU (uwF S n f t) i).2)), (5, vI ((i : Int) + 1)), (6, vI (uwF S n f t (i + 1)))] [] mem Q := by
      have no : ¬ (uwF S n f t (i + 1) ≠ 0 ∧ grN (i + 1) (uwF S n f t (i + 1)) < (fpU (uwF S n f t) i).2) → E_X11_unionWith G d 8 [(0, vR 71), (1, vI f), (2, vI t), (3, vI (if (fpU (uwF S n f t) i).1 = 0 then -1 else ((fpU (uwF S n f t) i).1 : Int))), (4, vI (if (fpU (uwF S n f t) i).1 = 0 then 0 else (fpU (uwF S n f t) i).2)), (5, vI ((i : Int) + 1 + 1))] [] mem Q := fun h => by
        have e : fpU (uwF S n f t) (i + 1) = fpU (uwF S n f t) i := by
          show (if _ then _ else _) = _
          rw [if_neg h]
        rw [e] at hE
        exact hE
      have yes : (uwF S n f t (i + 1) ≠ 0 ∧ grN (i + 1) (uwF S n f t (i + 1)) < (fpU (uwF S n f t) i).2) → E_X11_unionWith G d 8 [(0, vR 71), (1, vI f), (2, vI t), (3, vI ((i : Int) + 1)), (4, vI (grN (i + 1) (uwF S n f t (i + 1)))), (5, vI ((i : Int) + 1 + 1))] [] mem Q := fun h => by
        have e : fpU (uwF S n f t) (i + 1) = (i + 1, grN (i + 1) (uwF S n f t (i + 1))) := by
          show (if _ then _ else _) = _
          rw [if_pos h]
        rw [e] at hE
        rw [if_neg (by simp), if_neg (by simp)] at hE
        exact hE
      have b1 := bits_pc (s := uwF S n f t (i + 1)) (by omega)
      have b2 := bits_pc (s := i + 1) (by omega)
      have pn := pc_nn (uwF S n f t (i + 1))
      have pl := pc_le (uwF S n f t (i + 1))
      have pn2 := pc_nn (i + 1)
      have pl2 := pc_le (i + 1)
      rw [show ((i + 1 : Nat) : Int) = (i : Int) + 1 by omega] at b2
      have eg : pc (i + 1) - Int.tdiv (pc (uwF S n f t (i + 1))) 2 = grN (i + 1) (uwF S n f t (i + 1)) := by
        unfold grN; rw [tdiv2 pn]
      refine B_X11_unionWith_56 hd ?_
      rw [b1, b2, eg]
      have r2 := r.2
      refine ⟨by omega, by omega, fun y => no (fun q => q.1 (by omega)), fun y => ?_⟩
      have gr := grN_r ub.1 ub.2 (show uwF S n f t (i + 1) ≠ 0 by omega)
      by_cases h0 : (fpU (uwF S n f t) i).1 = 0
      · rw [if_pos h0, if_pos h0]
        exact ⟨by omega, fun _ => yes ⟨by omega, by omega⟩, fun z => absurd (by decide) z⟩
      · rw [if_neg h0, if_neg h0] at no
        rw [if_neg h0, if_neg h0]
        exact ⟨by omega, fun z => absurd z (by omega), fun _ => ⟨⟨by omega, by omega⟩, fun z => no (fun q => by have := q.2; omega), fun z => yes ⟨by omega, by omega⟩⟩⟩
    refine B_X11_unionWith_8 hd ?_
    have hb : iand (ishr ((i : Int) + 1) f) 1 = bI ((i + 1).testBit f) := by
      rw [show (i : Int) + 1 = ((i + 1 : Nat) : Int) by omega]
      exact bt_n (by omega) (by omega)
    rw [hn, ishl_1 (k := n) (by omega), hs, hb, ishl_1 (k := t) (by omega), iand_wo (by omega) (by omega)]
    refine ⟨⟨by omega, by omega⟩, fun y => by omega, fun _ => ⟨⟨by omega, by omega⟩, fun y => ⟨by omega, ?_⟩, fun y => ⟨fun x => ⟨by omega, ?_⟩, fun x => ⟨by omega, ?_⟩⟩⟩⟩
    · have e : uwF S n f t (i + 1) = frS S n (i + 1) := by unfold uwF; rw [if_pos (by omega)]
      rw [e] at go; exact go
    · have e : uwF S n f t (i + 1) = frS S n (i + 1) := by unfold uwF; rw [if_neg (by omega)]; unfold chF; rw [if_pos (bI_eq1.mp x)]
      rw [e] at go; exact go
    · have e : uwF S n f t (i + 1) = wo (frS S n (i + 1)) (2 ^ t) := by
        unfold uwF
        rw [if_neg (by omega)]
        unfold chF
        rw [if_neg (fun q => x (by rw [q]; rfl))]
      rw [e] at go; exact go
theorem ct_knownWith (hd : 2 ≤ d) {S : NS} {n f t : Nat} (hn : mem 72 0 = n) (hn2 : n ≤ 12) (hF : FR S n mem) (hf : f < 12) (ht : t < 12) (hq : ∀ m' : Mem, (∀ (a : Nat) (b : Int), ¬ (a = 71 ∧ b = 14) → m' a b = mem a b) → Q (some (vI ((fpU (uwF S n f t) (2 ^ n - 1)).2 - 1))) m') : C_X11_knownWith G d [vR 71, vI f, vI t] mem Q := by
  have p4 := p2n hn2
  have r := (fpU_r (uwF_F (S := S) (f := f) (t := t) hn2) (show 2 ^ n - 1 < 2 ^ n by omega))
  refine B_X11_knownWith (by omega) (ct_unionWith (by omega) hn hn2 hF hf ht ⟨_, rfl, ?_⟩)
  have q := hq (upM mem 71 14 (if (fpU (uwF S n f t) (2 ^ n - 1)).1 = 0 then 0 else (fpU (uwF S n f t) (2 ^ n - 1)).2)) (fun a b h => upM_ne h)
  rcases r.2 with ⟨h1, h2⟩ | ⟨h1, h2, h3, h4⟩
  · rw [if_pos h1] at q ⊢
    rw [h2] at q
    exact ⟨by decide, fun z => absurd z (by decide), fun _ => by rw [if_pos h1]; exact q⟩
  · rw [if_neg h1] at q ⊢
    refine ⟨by omega, fun _ => ?_, fun z => absurd (by omega) z⟩
    rw [if_neg h1, upM_same]
    exact q
end D3
