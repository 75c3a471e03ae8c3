/-! ===== counts over all sets ===== -/
noncomputable def zt (S : NS) : Nat → Nat → Int
  | 0, set => bI (fitB S set)
  | m + 1, set => zt S m set + (if set.testBit m = true then zt S m (set - 2 ^ m) else 0)
noncomputable def yt (S : NS) : Nat → Nat → Int
  | 0, set => bI (fitB S set)
  | m + 1, set => yt S m set + (if set.testBit m = true then 0 else yt S m (set + 2 ^ m))
theorem zt_r (S : NS) (m : Nat) : ∀ set, 0 ≤ zt S m set ∧ zt S m set ≤ ((2 ^ m : Nat) : Int) := by
  induction m with
  | zero => intro set; exact ⟨bI_nn _, bI_le _⟩
  | succ m ih =>
    intro set
    have h1 := ih set
    have h2 := ih (set - 2 ^ m)
    unfold zt
    rw [Nat.pow_succ]
    split <;> omega
theorem yt_r (S : NS) (m : Nat) : ∀ set, 0 ≤ yt S m set ∧ yt S m set ≤ ((2 ^ m : Nat) : Int) := by
  induction m with
  | zero => intro set; exact ⟨bI_nn _, bI_le _⟩
  | succ m ih =>
    intro set
    have h1 := ih set
    have h2 := ih (set + 2 ^ m)
    unfold yt
    rw [Nat.pow_succ]
    split <;> omega
/-- where block q begins -/
def bq (m q : Nat) : Nat := 2 ^ (m + 1) * q
theorem bq_0 (m : Nat) : bq m 0 = 0 := rfl
theorem bq_s (m q : Nat) : bq m (q + 1) = bq m q + 2 * 2 ^ m := by
  unfold bq
  rw [Nat.mul_succ, Nat.pow_succ]
  omega
theorem bq_f {m q j : Nat} (hj : j < 2 ^ m) : (bq m q + j).testBit m = false := by
  unfold bq
  rw [Nat.testBit_two_pow_mul_add q (show j < 2 ^ (m + 1) by rw [Nat.pow_succ]; omega), if_pos (by omega)]
  exact tb_lt hj (Nat.le_refl _)
theorem bq_t {m q j : Nat} (hj : j < 2 ^ m) : (bq m q + (2 ^ m + j)).testBit m = true := by
  unfold bq
  rw [Nat.testBit_two_pow_mul_add q (show 2 ^ m + j < 2 ^ (m + 1) by rw [Nat.pow_succ]; omega), if_pos (by omega)]
  exact tb_top hj
theorem bq_K {m n : Nat} (h : m < n) : bq m (2 ^ (n - m - 1)) = 2 ^ n := by
  unfold bq
  rw [← Nat.pow_add]
  congr 1
  omega
theorem bq_le {m n q : Nat} (h : m < n) (hq : q < 2 ^ (n - m - 1)) : bq m q + 2 * 2 ^ m ≤ 2 ^ n := by
  rw [← bq_s, ← bq_K h]
  unfold bq
  exact Nat.mul_le_mul_left _ hq
/-- both bits: superset of set below m, equal from m on -/
def agr (m set t : Nat) : Prop := (∀ k, k < m → set.testBit k = true → t.testBit k = true) ∧ (∀ k, m ≤ k → t.testBit k = set.testBit k)
noncomputable def agB (m set t : Nat) : Bool := @decide (agr m set t) (Classical.propDecidable _)
theorem agB_iff {m set t : Nat} : agB m set t = true ↔ agr m set t := by unfold agB; exact @decide_eq_true_iff _ (Classical.propDecidable _)
theorem tb_plus {set m : Nat} (h : set.testBit m = false) (k : Nat) : (set + 2 ^ m).testBit k = (decide (m = k) || set.testBit k) := by
  have e : set + 2 ^ m = set ||| 2 ^ m := by
    rw [Nat.add_comm, Nat.or_comm]
    have h1 := Nat.div_add_mod set (2 ^ m)
    have h3 : set / 2 ^ m % 2 = 0 := by
      have := tb_div set m
      rw [h] at this
      exact this
    have h2 : set = 2 ^ (m + 1) * (set / 2 ^ m / 2) + set % 2 ^ m := by
      have h4 : set / 2 ^ m = 2 * (set / 2 ^ m / 2) := by omega
      rw [Nat.pow_succ, Nat.mul_assoc, ← h4]
      exact h1.symm
    have hr : set % 2 ^ m < 2 ^ m := Nat.mod_lt _ (Nat.two_pow_pos m)
    generalize set / 2 ^ m / 2 = q at h2
    generalize set % 2 ^ m = r at h2 hr
    subst h2
    apply Nat.eq_of_testBit_eq
    intro k
    have h5 : 2 ^ m + (2 ^ (m + 1) * q + r) = 2 ^ (m + 1) * q + (2 ^ m + r) := by omega
    rw [h5, Nat.testBit_two_pow_mul_add q (show 2 ^ m + r < 2 ^ (m + 1) by rw [Nat.pow_succ]; omega), Nat.testBit_or, Nat.testBit_two_pow, Nat.testBit_two_pow_mul_add q (show r < 2 ^ (m + 1) by rw [Nat.pow_succ]; omega)]
    by_cases hk : k < m + 1
    · rw [if_pos hk, if_pos hk, tb_1 hr]
    · rw [if_neg hk, if_neg hk, decide_eq_false (show ¬ m = k by omega), Bool.false_or]
  rw [e, Nat.testBit_or, Nat.testBit_two_pow, Bool.or_comm]
theorem plus_lt {set m n : Nat} (h : set.testBit m = false) (hs : set < 2 ^ n) (hm : m < n) : set + 2 ^ m < 2 ^ n := by
  have e : set + 2 ^ m = set ||| 2 ^ m := by
    apply Nat.eq_of_testBit_eq
    intro k
    rw [tb_plus h, Nat.testBit_or, Nat.testBit_two_pow, Bool.or_comm]
  rw [e]
  exact Nat.or_lt_two_pow hs (p2 hm)
theorem yt_sum (S : NS) {n : Nat} : ∀ m, m ≤ n → ∀ set, set < 2 ^ n → yt S m set = sm (2 ^ n) (fun t => bI (fitB S t && agB m set t)) := by
  intro m
  induction m with
  | zero =>
    intro _ set hs
    rw [sm_one hs (fun t ht hne => by
      have : agB 0 set t = false := by
        cases h : agB 0 set t
        · rfl
        · exact absurd (Nat.eq_of_testBit_eq (fun k => (agB_iff.mp h).2 k (Nat.zero_le _))) hne
      rw [this, Bool.and_false, bI_f])]
    have : agB 0 set set = true := agB_iff.mpr ⟨fun k hk => by omega, fun k _ => rfl⟩
    rw [this, Bool.and_true]
    rfl
  | succ m ih =>
    intro hm set hs
    have ih1 := ih (by omega) set hs
    show yt S m set + _ = _
    rw [ih1]
    cases hb : set.testBit m
    · have ih2 := ih (by omega) (set + 2 ^ m) (plus_lt hb hs hm)
      rw [if_neg (by decide), ih2, ← sm_add]
      refine sm_congr (fun t _ => ?_)
      have key : (agB (m + 1) set t = true ↔ (agB m set t = true ∨ agB m (set + 2 ^ m) t = true)) ∧ ¬ (agB m set t = true ∧ agB m (set + 2 ^ m) t = true) := by
        rw [agB_iff, agB_iff, agB_iff]
        constructor
        · constructor
          · intro ⟨h1, h2⟩
            cases ht : t.testBit m
            · left
              refine ⟨fun k hk => h1 k (by omega), fun k hk => ?_⟩
              by_cases e : k = m
              · subst e; rw [ht, hb]
              · exact h2 k (by omega)
            · right
              refine ⟨fun k hk hk2 => ?_, fun k hk => ?_⟩
              · rw [tb_plus hb, decide_eq_false (show ¬ m = k by omega), Bool.false_or] at hk2
                exact h1 k (by omega) hk2
              · rw [tb_plus hb]
                by_cases e : m = k
                · subst e; rw [ht, decide_eq_true rfl]; rfl
                · rw [decide_eq_false e, Bool.false_or]; exact h2 k (by omega)
          · intro h
            rcases h with ⟨h1, h2⟩ | ⟨h1, h2⟩
            · refine ⟨fun k hk hk2 => ?_, fun k hk => h2 k (by omega)⟩
              by_cases e : k = m
              · subst e; rw [hb] at hk2; cases hk2
              · exact h1 k (by omega) hk2
            · refine ⟨fun k hk hk2 => ?_, fun k hk => ?_⟩
              · by_cases e : k = m
                · subst e; rw [hb] at hk2; cases hk2
                · exact h1 k (by omega) (by rw [tb_plus hb, hk2, Bool.or_true])
              · have := h2 k (by omega)
                rw [tb_plus hb, decide_eq_false (show ¬ m = k by omega), Bool.false_or] at this
                exact this
        · intro ⟨h1, h2⟩
          have a := h1.2 m (Nat.le_refl _)
          have b := h2.2 m (Nat.le_refl _)
          rw [tb_plus hb, decide_eq_true rfl, Bool.true_or] at b
          rw [b, hb] at a
          cases a
      cases fitB S t
      · rfl
      · rw [Bool.true_and, Bool.true_and, Bool.true_and]
        cases h1 : agB m set t <;> cases h2 : agB m (set + 2 ^ m) t <;> cases h3 : agB (m + 1) set t <;> simp_all [bI]
    · rw [if_pos rfl, Int.add_zero]
      refine sm_congr (fun t _ => ?_)
      have key : agB (m + 1) set t = agB m set t := by
        have : agr (m + 1) set t ↔ agr m set t := by
          constructor
          · intro ⟨h1, h2⟩
            refine ⟨fun k hk => h1 k (by omega), fun k hk => ?_⟩
            by_cases e : k = m
            · subst e; rw [hb]; exact h1 k (by omega) hb
            · exact h2 k (by omega)
          · intro ⟨h1, h2⟩
            refine ⟨fun k hk hk2 => ?_, fun k hk => h2 k (by omega)⟩
            by_cases e : k = m
            · subst e; rw [h2 k (Nat.le_refl _)]; exact hk2
            · exact h1 k (by omega) hk2
        cases h1 : agB m set t
        · cases h3 : agB (m + 1) set t
          · rfl
          · rw [agB_iff.mpr (this.mp (agB_iff.mp h3))] at h1; cases h1
        · exact agB_iff.mpr (this.mpr (agB_iff.mp h1))
      rw [key]
section ZT
variable {G : GT} {d : Nat} {mem : Mem} {Q : Option AV → Mem → Prop}
theorem ct_countIn (hd : 1 ≤ d) {S : NS} (hR : HR 1 S mem) (hV : VN S) {n : Nat} (hn : S 0 = n) (hF : FT S mem) (hq : ∀ m' : Mem, (∀ set : Nat, set < 2 ^ n → m' 39 set = zt S n set) → (∀ (a : Nat) (b : Int), a ≠ 39 → m' a b = mem a b) → Q none m') : C_X1_countThoseIn G d [vR 32] mem Q := by
  have v0 := hV.1
  have p4 := p2n (show n ≤ 12 by omega)
  refine B_X1_countThoseIn hd (ct_markEach hR hV hn hF (fun m1 g1 f1 => ⟨rfl, ?_⟩))
  rw [f1 1 0 (by omega), hR.1.1, hn, ishl_1 (by omega)]
  refine up_loop (n := n) (E := fun m mm => E_X1_countThoseIn G d 16 [(0, vR 32), (1, vI ((2 ^ n : Nat) : Int)), (2, vI ((2 ^ m : Nat) : Int))] [] mm Q) (I := fun m mm => (∀ (a : Nat) (b : Int), a ≠ 39 → mm a b = mem a b) ∧ ∀ set : Nat, set < 2 ^ n → mm 39 set = zt S m set) ?_ ?_ (i := 0) (by omega) ⟨f1, g1⟩
  · intro m2 ⟨f2, g2⟩
    exact B_X1_countThoseIn_16 hd ⟨⟨by omega, by omega⟩, fun _ => hq m2 g2 f2, fun y => absurd (Int.le_refl _) y⟩
  · intro m m2 hm ⟨f2, g2⟩ hE
    have pm := p2 hm
    have pm0 := Nat.two_pow_pos m
    have hE : ∀ s', ((∀ (a : Nat) (b : Int), a ≠ 39 → s' a b = mem a b) ∧ ∀ set : Nat, set < 2 ^ n → s' 39 set = zt S (m + 1) set) → E_X1_countThoseIn G d 16 [(0, vR 32), (1, vI ((2 ^ n : Nat) : Int)), (2, vI (((2 ^ m : Nat) : Int) * 2))] [] s' Q := fun s' h => by
      have := hE s' h
      rw [Nat.pow_succ, show ((2 ^ m * 2 : Nat) : Int) = ((2 ^ m : Nat) : Int) * 2 by omega] at this
      exact this
    refine B_X1_countThoseIn_16 hd ⟨⟨by omega, by omega⟩, fun y => by omega, fun _ => ?_⟩
    refine up_loop (n := 2 ^ (n - m - 1)) (E := fun q mm => E_X1_countThoseIn G d 23 [(0, vR 32), (1, vI ((2 ^ n : Nat) : Int)), (2, vI ((2 ^ m : Nat) : Int)), (3, vI ((bq m q : Nat) : Int))] [] mm Q) (I := fun q mm => (∀ (a : Nat) (b : Int), a ≠ 39 → mm a b = mem a b) ∧ ∀ set : Nat, set < 2 ^ n → mm 39 set = if set.testBit m = true ∧ set < bq m q + 2 ^ m then zt S (m + 1) set else zt S m set) ?_ ?_ (i := 0) (Nat.zero_le _) ⟨f2, fun set hs => by
        rw [g2 set hs, if_neg (fun h => by
          have := h.2
          rw [bq_0] at this
          rw [tb_lt (show set < 2 ^ m by omega) (Nat.le_refl _)] at h
          cases h.1)]⟩
    · intro m3 ⟨f3, g3⟩
      rw [bq_K hm] at g3 ⊢
      refine B_X1_countThoseIn_23 hd ⟨⟨by omega, by omega⟩, fun _ => hE m3 ⟨f3, fun set hs => ?_⟩, fun y => absurd (Int.le_refl _) y⟩
      rw [g3 set hs]
      by_cases hb : set.testBit m = true
      · rw [if_pos ⟨hb, by omega⟩]
      · rw [if_neg (fun h => hb h.1)]
        show _ = zt S m set + _
        rw [if_neg hb, Int.add_zero]
    · intro q m3 hq' ⟨f3, g3⟩ hE2
      have bl := bq_le hm hq'
      refine B_X1_countThoseIn_23 hd ⟨⟨by omega, by omega⟩, fun y => by omega, fun _ => ?_⟩
      refine up_loop (n := 2 ^ m) (E := fun j mm => E_X1_countThoseIn G d 31 [(0, vR 32), (1, vI ((2 ^ n : Nat) : Int)), (2, vI ((2 ^ m : Nat) : Int)), (3, vI ((bq m q : Nat) : Int)), (4, vI ((bq m q + j : Nat) : Int))] [] mm Q) (I := fun j mm => (∀ (a : Nat) (b : Int), a ≠ 39 → mm a b = mem a b) ∧ ∀ set : Nat, set < 2 ^ n → mm 39 set = if set.testBit m = true ∧ set < bq m q + j + 2 ^ m then zt S (m + 1) set else zt S m set) ?_ ?_ (i := 0) (by omega) ⟨f3, g3⟩
      · intro m4 ⟨f4, g4⟩
        refine B_X1_countThoseIn_31 hd ⟨⟨by omega, by omega⟩, fun _ => ?_, fun y => absurd (by omega) y⟩
        have nx := hE2 m4 ⟨f4, fun set hs => ?_⟩
        · rw [bq_s, show ((bq m q + 2 * 2 ^ m : Nat) : Int) = ((bq m q : Nat) : Int) + 2 * ((2 ^ m : Nat) : Int) by omega] at nx
          exact nx
        · rw [g4 set hs, bq_s]
          by_cases hb : set.testBit m = true
          · by_cases hl : set < bq m q + 2 ^ m + 2 ^ m
            · rw [if_pos ⟨hb, hl⟩, if_pos ⟨hb, by omega⟩]
            · by_cases hl2 : set < bq m q + 2 * 2 ^ m + 2 ^ m
              · exfalso
                have := bq_f (m := m) (q := q + 1) (j := set - bq m (q + 1)) (by rw [bq_s]; omega)
                rw [bq_s, show bq m q + 2 * 2 ^ m + (set - (bq m q + 2 * 2 ^ m)) = set by omega, hb] at this
                cases this
              · rw [if_neg (fun h => hl h.2), if_neg (fun h => hl2 h.2)]
          · rw [if_neg (fun h => hb h.1), if_neg (fun h => hb h.1)]
      · intro j m4 hj ⟨f4, g4⟩ hE3
        have t0 := bq_f (m := m) (q := q) hj
        have t1 := bq_t (m := m) (q := q) hj
        have e1 : m4 39 ((bq m q + j : Nat) : Int) = zt S m (bq m q + j) := by
          rw [g4 _ (by omega), if_neg (fun h => by rw [t0] at h; cases h.1)]
        have e2 : m4 39 ((bq m q + (2 ^ m + j) : Nat) : Int) = zt S m (bq m q + (2 ^ m + j)) := by
          rw [g4 _ (by omega), if_neg (fun h => by have := h.2; omega)]
        have e3 : zt S (m + 1) (bq m q + (2 ^ m + j)) = zt S m (bq m q + (2 ^ m + j)) + zt S m (bq m q + j) := by
          show zt S m _ + _ = _
          rw [if_pos t1, show bq m q + (2 ^ m + j) - 2 ^ m = bq m q + j by omega]
        have c1 : ((bq m q + j : Nat) : Int) + ((2 ^ m : Nat) : Int) = ((bq m q + (2 ^ m + j) : Nat) : Int) := by omega
        have r := zt_r S (m + 1) (bq m q + (2 ^ m + j))
        have pr : (2 : Nat) ^ (m + 1) ≤ 2 ^ n := Nat.pow_le_pow_right (by decide) hm
        refine B_X1_countThoseIn_31 hd ?_
        rw [c1, e1, e2, ← e3]
        refine ⟨⟨by omega, by omega⟩, fun y => by omega, fun _ => ⟨by omega, by omega, by omega, fun m5 g5 => ?_⟩⟩
        refine hE3 m5 ⟨fun a b h => by rw [g5, upM_ne (by omega)]; exact f4 a b h, fun set hs => ?_⟩
        by_cases hh : set = bq m q + (2 ^ m + j)
        · subst hh
          rw [g5, upM_same, if_pos ⟨t1, by omega⟩]
        · rw [g5, upM_ne (by omega), g4 set hs]
          by_cases hb : set.testBit m = true
          · by_cases hl : set < bq m q + j + 2 ^ m
            · rw [if_pos ⟨hb, hl⟩, if_pos ⟨hb, by omega⟩]
            · rw [if_neg (fun h => hl h.2), if_neg (fun h => by have := h.2; omega)]
          · rw [if_neg (fun h => hb h.1), if_neg (fun h => hb h.1)]
theorem ct_countWith (hd : 1 ≤ d) {S : NS} (hR : HR 1 S mem) (hV : VN S) {n : Nat} (hn : S 0 = n) (hF : FT S mem) (hq : ∀ m' : Mem, (∀ set : Nat, set < 2 ^ n → m' 39 set = yt S n set) → (∀ (a : Nat) (b : Int), a ≠ 39 → m' a b = mem a b) → Q none m') : C_X1_countThoseWith G d [vR 32] mem Q := by
  have v0 := hV.1
  have p4 := p2n (show n ≤ 12 by omega)
  refine B_X1_countThoseWith hd (ct_markEach hR hV hn hF (fun m1 g1 f1 => ⟨rfl, ?_⟩))
  rw [f1 1 0 (by omega), hR.1.1, hn, ishl_1 (by omega)]
  refine up_loop (n := n) (E := fun m mm => E_X1_countThoseWith G d 16 [(0, vR 32), (1, vI ((2 ^ n : Nat) : Int)), (2, vI ((2 ^ m : Nat) : Int))] [] mm Q) (I := fun m mm => (∀ (a : Nat) (b : Int), a ≠ 39 → mm a b = mem a b) ∧ ∀ set : Nat, set < 2 ^ n → mm 39 set = yt S m set) ?_ ?_ (i := 0) (by omega) ⟨f1, g1⟩
  · intro m2 ⟨f2, g2⟩
    exact B_X1_countThoseWith_16 hd ⟨⟨by omega, by omega⟩, fun _ => hq m2 g2 f2, fun y => absurd (Int.le_refl _) y⟩
  · intro m m2 hm ⟨f2, g2⟩ hE
    have pm := p2 hm
    have pm0 := Nat.two_pow_pos m
    have hE : ∀ s', ((∀ (a : Nat) (b : Int), a ≠ 39 → s' a b = mem a b) ∧ ∀ set : Nat, set < 2 ^ n → s' 39 set = yt S (m + 1) set) → E_X1_countThoseWith G d 16 [(0, vR 32), (1, vI ((2 ^ n : Nat) : Int)), (2, vI (((2 ^ m : Nat) : Int) * 2))] [] s' Q := fun s' h => by
      have := hE s' h
      rw [Nat.pow_succ, show ((2 ^ m * 2 : Nat) : Int) = ((2 ^ m : Nat) : Int) * 2 by omega] at this
      exact this
    refine B_X1_countThoseWith_16 hd ⟨⟨by omega, by omega⟩, fun y => by omega, fun _ => ?_⟩
    refine up_loop (n := 2 ^ (n - m - 1)) (E := fun q mm => E_X1_countThoseWith G d 23 [(0, vR 32), (1, vI ((2 ^ n : Nat) : Int)), (2, vI ((2 ^ m : Nat) : Int)), (3, vI ((bq m q : Nat) : Int))] [] mm Q) (I := fun q mm => (∀ (a : Nat) (b : Int), a ≠ 39 → mm a b = mem a b) ∧ ∀ set : Nat, set < 2 ^ n → mm 39 set = if set.testBit m = false ∧ set < bq m q then yt S (m + 1) set else yt S m set) ?_ ?_ (i := 0) (Nat.zero_le _) ⟨f2, fun set hs => by
        rw [g2 set hs, if_neg (fun h => by
          have := h.2
          rw [bq_0] at this
          omega)]⟩
    · intro m3 ⟨f3, g3⟩
      rw [bq_K hm] at g3 ⊢
      refine B_X1_countThoseWith_23 hd ⟨⟨by omega, by omega⟩, fun _ => hE m3 ⟨f3, fun set hs => ?_⟩, fun y => absurd (Int.le_refl _) y⟩
      rw [g3 set hs]
      cases hb : set.testBit m
      · rw [if_pos ⟨rfl, hs⟩]
      · rw [if_neg (fun h => by cases h.1)]
        show _ = yt S m set + _
        rw [if_pos hb, Int.add_zero]
    · intro q m3 hq' ⟨f3, g3⟩ hE2
      have bl := bq_le hm hq'
      refine B_X1_countThoseWith_23 hd ⟨⟨by omega, by omega⟩, fun y => by omega, fun _ => ?_⟩
      refine up_loop (n := 2 ^ m) (E := fun j mm => E_X1_countThoseWith G d 31 [(0, vR 32), (1, vI ((2 ^ n : Nat) : Int)), (2, vI ((2 ^ m : Nat) : Int)), (3, vI ((bq m q : Nat) : Int)), (4, vI ((bq m q + j : Nat) : Int))] [] mm Q) (I := fun j mm => (∀ (a : Nat) (b : Int), a ≠ 39 → mm a b = mem a b) ∧ ∀ set : Nat, set < 2 ^ n → mm 39 set = if set.testBit m = false ∧ set < bq m q + j then yt S (m + 1) set else yt S m set) ?_ ?_ (i := 0) (by omega) ⟨f3, g3⟩
      · intro m4 ⟨f4, g4⟩
        refine B_X1_countThoseWith_31 hd ⟨⟨by omega, by omega⟩, fun _ => ?_, fun y => absurd (by omega) y⟩
        have nx := hE2 m4 ⟨f4, fun set hs => ?_⟩
        · rw [bq_s, show ((bq m q + 2 * 2 ^ m : Nat) : Int) = ((bq m q : Nat) : Int) + 2 * ((2 ^ m : Nat) : Int) by omega] at nx
          exact nx
        · rw [g4 set hs, bq_s]
          cases hb : set.testBit m
          · by_cases hl : set < bq m q + 2 ^ m
            · rw [if_pos ⟨rfl, hl⟩, if_pos ⟨rfl, by omega⟩]
            · by_cases hl2 : set < bq m q + 2 * 2 ^ m
              · exfalso
                have := bq_t (m := m) (q := q) (j := set - bq m q - 2 ^ m) (by omega)
                rw [show bq m q + (2 ^ m + (set - bq m q - 2 ^ m)) = set by omega, hb] at this
                cases this
              · rw [if_neg (fun h => hl h.2), if_neg (fun h => hl2 h.2)]
          · rw [if_neg (fun h => by cases h.1), if_neg (fun h => by cases h.1)]
      · intro j m4 hj ⟨f4, g4⟩ hE3
        have t0 := bq_f (m := m) (q := q) hj
        have t1 := bq_t (m := m) (q := q) hj
        have e1 : m4 39 ((bq m q + j : Nat) : Int) = yt S m (bq m q + j) := by
          rw [g4 _ (by omega), if_neg (fun h => by have := h.2; omega)]
        have e2 : m4 39 ((bq m q + (2 ^ m + j) : Nat) : Int) = yt S m (bq m q + (2 ^ m + j)) := by
          rw [g4 _ (by omega), if_neg (fun h => by rw [t1] at h; cases h.1)]
        have e3 : yt S (m + 1) (bq m q + j) = yt S m (bq m q + j) + yt S m (bq m q + (2 ^ m + j)) := by
          show yt S m _ + _ = _
          rw [if_neg (by rw [t0]; decide), show bq m q + j + 2 ^ m = bq m q + (2 ^ m + j) by omega]
        have c1 : ((bq m q + j : Nat) : Int) + ((2 ^ m : Nat) : Int) = ((bq m q + (2 ^ m + j) : Nat) : Int) := by omega
        have r := yt_r S (m + 1) (bq m q + j)
        have pr : (2 : Nat) ^ (m + 1) ≤ 2 ^ n := Nat.pow_le_pow_right (by decide) hm
        refine B_X1_countThoseWith_31 hd ?_
        rw [c1, e1, e2, ← e3]
        refine ⟨⟨by omega, by omega⟩, fun y => by omega, fun _ => ⟨by omega, by omega, by omega, fun m5 g5 => ?_⟩⟩
        refine hE3 m5 ⟨fun a b h => by rw [g5, upM_ne (by omega)]; exact f4 a b h, fun set hs => ?_⟩
        by_cases hh : set = bq m q + j
        · subst hh
          rw [g5, upM_same, if_pos ⟨t0, by omega⟩]
        · rw [g5, upM_ne (by omega), g4 set hs]
          cases hb : set.testBit m
          · by_cases hl : set < bq m q + j
            · rw [if_pos ⟨rfl, hl⟩, if_pos ⟨rfl, by omega⟩]
            · rw [if_neg (fun h => hl h.2), if_neg (fun h => by have := h.2; omega)]
          · rw [if_neg (fun h => by cases h.1), if_neg (fun h => by cases h.1)]
end ZT
