/-! ===== the next tie to try ===== -/
/-- whether a set lets what f says of t -/
def lt2 (S : NS) (f t : Nat) (w : Bool) (set : Nat) : Bool := letB (S (5 + 3 * (f : Int))) (set.testBit f) (set.testBit t) w
noncomputable def ltN (S : NS) (n f t : Nat) (w : Bool) : Int := sm (2 ^ n) (fun s => bI (fitB S s) * bI (lt2 S f t w s))
noncomputable def ltG (S : NS) (n f t : Nat) : Int := tmax (ltN S n f t true) (ltN S n f t false)
theorem ltN_r (S : NS) (n f t : Nat) (w : Bool) : 0 ≤ ltN S n f t w ∧ ltN S n f t w ≤ ((2 ^ n : Nat) : Int) := by
  unfold ltN
  refine ⟨sm_nn (fun s _ => ?_), sm_le1 (fun s _ => ?_)⟩
  · rcases bI_01 (fitB S s) with h | h <;> rcases bI_01 (lt2 S f t w s) with h' | h' <;> rw [h, h'] <;> decide
  · rcases bI_01 (fitB S s) with h | h <;> rcases bI_01 (lt2 S f t w s) with h' | h' <;> rw [h, h'] <;> decide
theorem ltG_r (S : NS) {n : Nat} (f t : Nat) (hn : n ≤ 12) : 0 ≤ ltG S n f t ∧ ltG S n f t ≤ 4096 := by
  have p := p2n hn
  have a := ltN_r S n f t true
  have b := ltN_r S n f t false
  unfold ltG tmax
  split <;> omega
theorem sl_lin (n : Nat) (c0 c1 c2 c3 : Int) (a b f t : Nat → Int) : sm n (fun s => c0 * (a s - b s - (f s - b s) - (t s - b s)) + c1 * (t s - b s) + c2 * (f s - b s) + c3 * b s) = c0 * (sm n a - sm n b - (sm n f - sm n b) - (sm n t - sm n b)) + c1 * (sm n t - sm n b) + c2 * (sm n f - sm n b) + c3 * sm n b := by
  rw [sm_add, sm_add, sm_add, sm_mul, sm_mul, sm_mul, sm_mul, sm_sub, sm_sub, sm_sub, sm_sub, sm_sub]
theorem ag1 {n f s : Nat} (hf : f < n) (hs : s < 2 ^ n) : agB n (2 ^ f) s = s.testBit f := by
  have h : agr n (2 ^ f) s ↔ s.testBit f = true := by
    constructor
    · intro h; exact h.1 f hf (by rw [Nat.testBit_two_pow, decide_eq_true rfl])
    · intro h
      refine ⟨fun k hk h2 => ?_, fun k hk => ?_⟩
      · rw [Nat.testBit_two_pow] at h2
        have := of_decide_eq_true h2
        subst this; exact h
      · rw [tb_lt hs hk, tb_lt (p2 hf) hk]
  cases hb : s.testBit f
  · cases ha : agB n (2 ^ f) s
    · rfl
    · rw [h.mp (agB_iff.mp ha)] at hb; cases hb
  · exact agB_iff.mpr (h.mpr hb)
theorem ag2 {n f t s : Nat} (hf : f < n) (ht : t < n) (hs : s < 2 ^ n) : agB n (2 ^ f ||| 2 ^ t) s = (s.testBit f && s.testBit t) := by
  have h : agr n (2 ^ f ||| 2 ^ t) s ↔ (s.testBit f = true ∧ s.testBit t = true) := by
    constructor
    · intro h
      exact ⟨h.1 f hf (by rw [Nat.testBit_or, Nat.testBit_two_pow, decide_eq_true rfl, Bool.true_or]), h.1 t ht (by rw [Nat.testBit_or, Nat.testBit_two_pow, Nat.testBit_two_pow, decide_eq_true (show t = t from rfl), Bool.or_true])⟩
    · intro ⟨h1, h2⟩
      refine ⟨fun k hk h3 => ?_, fun k hk => ?_⟩
      · rw [Nat.testBit_or, Nat.testBit_two_pow, Nat.testBit_two_pow] at h3
        by_cases e : f = k
        · subst e; exact h1
        · rw [decide_eq_false e, Bool.false_or] at h3
          have := of_decide_eq_true h3
          subst this; exact h2
      · rw [tb_lt hs hk, tb_lt (Nat.or_lt_two_pow (p2 hf) (p2 ht)) hk]
  cases hb : agB n (2 ^ f ||| 2 ^ t) s
  · cases h1 : s.testBit f
    · rfl
    · cases h2 : s.testBit t
      · rfl
      · rw [agB_iff.mpr (h.mpr ⟨h1, h2⟩)] at hb; cases hb
  · have := h.mp (agB_iff.mp hb)
    rw [this.1, this.2]; rfl
theorem setsLeft_eq (S : NS) {n f t : Nat} (w : Bool) (hf : f < n) (ht : t < n) :
    bI (letB (S (5 + 3 * (f : Int))) false false w) * ((cN (fitB S) (2 ^ n) : Int) - yt S n (2 ^ f ||| 2 ^ t) - (yt S n (2 ^ f) - yt S n (2 ^ f ||| 2 ^ t)) - (yt S n (2 ^ t) - yt S n (2 ^ f ||| 2 ^ t))) + bI (letB (S (5 + 3 * (f : Int))) false true w) * (yt S n (2 ^ t) - yt S n (2 ^ f ||| 2 ^ t)) + bI (letB (S (5 + 3 * (f : Int))) true false w) * (yt S n (2 ^ f) - yt S n (2 ^ f ||| 2 ^ t)) + bI (letB (S (5 + 3 * (f : Int))) true true w) * yt S n (2 ^ f ||| 2 ^ t) = ltN S n f t w := by
  rw [cN_sm, yt_sum S n (Nat.le_refl _) _ (p2 hf), yt_sum S n (Nat.le_refl _) _ (p2 ht), yt_sum S n (Nat.le_refl _) _ (Nat.or_lt_two_pow (p2 hf) (p2 ht)), ← sl_lin]
  unfold ltN lt2
  refine sm_congr (fun s hs => ?_)
  rw [ag1 hf hs, ag1 ht hs, ag2 hf ht hs]
  cases fitB S s <;> cases s.testBit f <;> cases s.testBit t <;> simp [bI_f, bI_t]
/-- the best tie so far: 100 times from, and to; how many it leaves; its cost -/
noncomputable def btS (S : NS) (n f t : Nat) (σ : Int × Int × Int) : Int × Int × Int := @ite _ (0 < S (41 + 12 * (f : Int) + t) ∧ (σ.1 < 0 ∨ ltG S n f t < σ.2.1 ∨ (ltG S n f t = σ.2.1 ∧ S (41 + 12 * (f : Int) + t) < σ.2.2))) (Classical.propDecidable _) (100 * (f : Int) + t, ltG S n f t, S (41 + 12 * (f : Int) + t)) σ
noncomputable def btR (S : NS) (n f : Nat) (σ : Int × Int × Int) : Nat → Int × Int × Int
  | 0 => σ
  | t + 1 => btS S n f t (btR S n f σ t)
noncomputable def btA (S : NS) (n : Nat) : Nat → Int × Int × Int
  | 0 => (-1, 0, 0)
  | f + 1 => btR S n f (btA S n f) n
def btI (σ : Int × Int × Int) : Prop := (σ.1 = -1 ∧ σ.2.1 = 0 ∧ σ.2.2 = 0) ∨ (0 ≤ σ.1 ∧ σ.1 ≤ 2000 ∧ 0 ≤ σ.2.1 ∧ σ.2.1 ≤ 4096 ∧ 0 ≤ σ.2.2 ∧ σ.2.2 ≤ 99)
theorem btS_I {S : NS} (hV : VN S) {n f t : Nat} (hn : n ≤ 12) (hf : f < 12) (ht : t < 12) {σ : Int × Int × Int} (h : btI σ) : btI (btS S n f t σ) := by
  have g := ltG_r S f t hn
  have tv := hV.2.2.2.2.2.2.2.1 f t (by omega) (by omega) (by omega) (by omega)
  unfold btS
  split
  · right
    exact ⟨by simp only []; omega, by simp only []; omega, g.1, g.2, tv.1, tv.2.1⟩
  · exact h
theorem btR_I {S : NS} (hV : VN S) {n f : Nat} (hn : n ≤ 12) (hf : f < 12) {σ : Int × Int × Int} (h : btI σ) : ∀ t, t ≤ n → btI (btR S n f σ t) := by
  intro t
  induction t with
  | zero => intro _; exact h
  | succ t ih => intro ht; exact btS_I hV hn hf (by omega) (ih (by omega))
theorem btA_I {S : NS} (hV : VN S) {n : Nat} (hn : n ≤ 12) : ∀ f, f ≤ n → btI (btA S n f) := by
  intro f
  induction f with
  | zero => intro _; exact Or.inl ⟨rfl, rfl, rfl⟩
  | succ f ih => intro hf; exact btR_I hV hn (by omega) (ih (by omega)) n (Nat.le_refl _)
/-- what Trials has read of the kinds -/
def RK (S : NS) (n : Nat) (mem : Mem) : Prop := ∀ i : Nat, i < n → mem 46 i = lcs (S (5 + 3 * (i : Int))) true ∧ mem 47 i = lcs (S (5 + 3 * (i : Int))) false
section TR
variable {G : GT} {d : Nat} {mem : Mem} {Q : Option AV → Mem → Prop}
theorem ct_readKinds (hd : 4 ≤ d) {S : NS} (hR : HR 1 S mem) (hV : VN S) {n : Nat} (hn : S 0 = n) (hq : ∀ m' : Mem, RK S n m' → (∀ (a : Nat) (b : Int), a ≠ 46 → a ≠ 47 → m' a b = mem a b) → Q none m') : C_X8_readKinds G d [vR 45] mem Q := by
  have v0 := hV.1
  refine B_X8_readKinds (by omega) ?_
  refine up_loop (n := n) (E := fun i m => E_X8_readKinds G d 2 [(0, vR 45), (1, vI i)] [] m Q) (I := fun i m => (∀ (a : Nat) (b : Int), a ≠ 46 → a ≠ 47 → m a b = mem a b) ∧ ∀ k : Nat, k < i → m 46 k = lcs (S (5 + 3 * (k : Int))) true ∧ m 47 k = lcs (S (5 + 3 * (k : Int))) false) ?_ ?_ (i := 0) (by omega) ⟨fun _ _ _ _ => rfl, fun k hk => by omega⟩
  · intro m2 ⟨f2, g2⟩
    refine B_X8_readKinds_2 hd ?_
    rw [f2 1 0 (by omega) (by omega), hR.1.1, hn]
    exact ⟨by omega, fun _ => hq m2 g2 f2, fun y => absurd (by omega) y⟩
  · intro i m2 hi ⟨f2, g2⟩ hE
    have e2 : m2 2 i = S (5 + 3 * (i : Int)) := by rw [f2 2 _ (by omega) (by omega)]; exact (hR.2.1 i (by omega) (by omega)).1
    have kd := hV.kind (i := i) (by omega) (by omega)
    refine B_X8_readKinds_2 hd ?_
    rw [f2 1 0 (by omega) (by omega), hR.1.1, hn, e2]
    refine ⟨by omega, fun y => by omega, fun _ => ⟨by omega, by omega, fun m3 e3 => ?_⟩⟩
    have e4 : m3 2 i = S (5 + 3 * (i : Int)) := by rw [e3, upM_ne (by omega)]; exact e2
    rw [e4]
    refine ⟨by omega, fun m4 g4 => hE m4 ⟨fun a b x y => by rw [g4, upM_ne (by omega), e3, upM_ne (by omega)]; exact f2 a b x y, fun k hk => ?_⟩⟩
    by_cases q : k = i
    · subst q
      exact ⟨by rw [g4, upM_ne (by omega), e3, upM_same]; rfl, by rw [g4, upM_same]; rfl⟩
    · rw [g4, upM_ne (by omega), e3, upM_ne (by omega), upM_ne (by omega), upM_ne (by omega)]
      exact g2 k (by omega)
theorem ct_setsLeft {S : NS} {n f t : Nat} {w : Bool} (hn2 : n ≤ 12) (hf : f < n) (ht : t < n) (hz : mem 32 7 = cN (fitB S) (2 ^ n)) (hy : ∀ set : Nat, set < 2 ^ n → mem 39 set = yt S n set) (hq : Q (some (vI (ltN S n f t w))) mem) : C_X8_setsLeft G d [vR 45, vI (lcs (S (5 + 3 * (f : Int))) w), vI f, vI t] mem Q := by
  have p4 := p2n hn2
  have pf := p2 hf
  have pt := p2 ht
  have pf0 := Nat.two_pow_pos f
  have pt0 := Nat.two_pow_pos t
  have po : 2 ^ f ||| 2 ^ t < 2 ^ n := Nat.or_lt_two_pow pf pt
  obtain ⟨l0, l1, l2, l3⟩ := lcs_bits (S (5 + 3 * (f : Int))) w
  refine B_X8_setsLeft ?_
  rw [ishl_1 (by omega), ishl_1 (by omega), ior_nn (by omega) (by omega), l0, l1, l2, l3, hz, hy _ po, hy _ pf, hy _ pt, setsLeft_eq S w hf ht]
  exact ⟨by omega, by omega, by omega, hq⟩
theorem ct_bestTie (hd : 5 ≤ d) {S : NS} (hR : HR 1 S mem) (hV : VN S) {n : Nat} (hn : S 0 = n) (hF : FT S mem) (hq : ∀ m' : Mem, (0 ≤ (btA S n n).1 → m' 45 5 = (btA S n n).2.1) → (∀ (a : Nat) (b : Int), ¬ (a = 45 ∧ b = 5) → a ≠ 39 → a ≠ 46 → a ≠ 47 → m' a b = mem a b) → Q (some (vI (btA S n n).1)) m') : C_X8_bestTie G d [vR 45] mem Q := by
  have v0 := hV.1
  have hn2 : n ≤ 12 := by omega
  have p4 := p2n hn2
  have F3 := hF.2.2
  rw [show (S 0).toNat = n by omega] at F3
  refine B_X8_bestTie (by omega) (ct_readKinds (by omega) hR hV hn (fun m1 k1 f1 => ⟨rfl, ?_⟩))
  have hR1 : HR 1 S m1 := hR.congr (fun c b hc _ => f1 _ _ (by omega) (by omega))
  have hF1 : FT S m1 := ⟨fun set hs => by rw [f1 34 _ (by omega) (by omega)]; exact hF.1 set hs, fun s hs hp => by rw [f1 37 _ (by omega) (by omega)]; exact hF.2.1 s hs hp, by rw [f1 32 7 (by omega) (by omega)]; exact hF.2.2⟩
  refine ct_countWith (by omega) hR1 hV hn hF1 (fun m2 y2 f2 => ⟨rfl, ?_⟩)
  have g2 : ∀ (a : Nat) (b : Int), a ≠ 39 → a ≠ 46 → a ≠ 47 → m2 a b = mem a b := fun a b x y z => by rw [f2 a b x, f1 a b y z]
  have k2 : RK S n m2 := fun i hi => by rw [f2 46 _ (by omega), f2 47 _ (by omega)]; exact k1 i hi
  refine up_loop (n := n) (E := fun f m => E_X8_bestTie G d 17 [(0, vR 45), (1, vI (btA S n f).1), (2, vI (btA S n f).2.2), (3, vI f)] [] m Q) (I := fun f m => (∀ (a : Nat) (b : Int), ¬ (a = 45 ∧ b = 5) → m a b = m2 a b) ∧ (0 ≤ (btA S n f).1 → m 45 5 = (btA S n f).2.1)) ?_ ?_ (i := 0) (by omega) ⟨fun _ _ _ => rfl, fun h => absurd h (show ¬ (0 : Int) ≤ -1 by decide)⟩
  · intro m3 ⟨f3, h3⟩
    refine B_X8_bestTie_17 (by omega) ?_
    rw [f3 1 0 (by omega), g2 1 0 (by omega) (by omega) (by omega), hR.1.1, hn]
    exact ⟨by omega, fun _ => hq m3 h3 (fun a b w x y z => by rw [f3 a b w, g2 a b x y z]), fun y => absurd (by omega) y⟩
  · intro f m3 hf ⟨f3, h3⟩ hE
    refine B_X8_bestTie_17 (by omega) ?_
    rw [f3 1 0 (by omega), g2 1 0 (by omega) (by omega) (by omega), hR.1.1, hn]
    refine ⟨by omega, fun y => by omega, fun _ => ?_⟩
    refine up_loop (n := n) (E := fun t m => E_X8_bestTie G d 31 [(0, vR 45), (1, vI (btR S n f (btA S n f) t).1), (2, vI (btR S n f (btA S n f) t).2.2), (3, vI f), (4, vI t)] [] m Q) (I := fun t m => (∀ (a : Nat) (b : Int), ¬ (a = 45 ∧ b = 5) → m a b = m2 a b) ∧ (0 ≤ (btR S n f (btA S n f) t).1 → m 45 5 = (btR S n f (btA S n f) t).2.1)) ?_ ?_ (i := 0) (by omega) ⟨f3, h3⟩
    · intro m4 ⟨f4, h4⟩
      refine B_X8_bestTie_31 (by omega) ?_
      rw [f4 1 0 (by omega), g2 1 0 (by omega) (by omega) (by omega), hR.1.1, hn]
      exact ⟨by omega, fun _ => hE m4 ⟨f4, h4⟩, fun y => absurd (by omega) y⟩
    · intro t m4 ht ⟨f4, h4⟩ hE2
      have I := btR_I hV hn2 (show f < 12 by omega) (btA_I hV hn2 f (by omega)) t (by omega)
      have tv := hV.2.2.2.2.2.2.2.1 f t (by omega) (by omega) (by omega) (by omega)
      have tb := hR.tied (i := f) (j := t) (by omega) (by omega)
      have e5 : m4 5 f = mem (1 + 4) f := by rw [f4 5 _ (by omega), g2 5 _ (by omega) (by omega) (by omega)]
      have e6 : m4 6 ((f : Int) * 12 + t) = S (41 + 12 * (f : Int) + t) := by rw [f4 6 _ (by omega), g2 6 _ (by omega) (by omega) (by omega)]; exact hR.2.2.1 f t (by omega) (by omega) (by omega) (by omega)
      have e46 : m4 46 f = lcs (S (5 + 3 * (f : Int))) true := by rw [f4 46 _ (by omega)]; exact (k2 f hf).1
      have e47 : m4 47 f = lcs (S (5 + 3 * (f : Int))) false := by rw [f4 47 _ (by omega)]; exact (k2 f hf).2
      have ez : m4 32 7 = cN (fitB S) (2 ^ n) := by rw [f4 32 7 (by omega), g2 32 7 (by omega) (by omega) (by omega)]; exact F3
      have ey : ∀ set : Nat, set < 2 ^ n → m4 39 set = yt S n set := fun set hs => by rw [f4 39 _ (by omega)]; exact y2 set hs
      have r1 := ltN_r S n f t true
      have r2 := ltN_r S n f t false
      have gr := ltG_r S f t hn2
      generalize hσ : btR S n f (btA S n f) t = σ at *
      have eR : btR S n f (btA S n f) (t + 1) = btS S n f t σ := by rw [← hσ]; rfl
      rw [eR] at hE2
      have no : ¬ (0 < S (41 + 12 * (f : Int) + t) ∧ (σ.1 < 0 ∨ ltG S n f t < σ.2.1 ∨ (ltG S n f t = σ.2.1 ∧ S (41 + 12 * (f : Int) + t) < σ.2.2))) → E_X8_bestTie G d 31 [(0, vR 45), (1, vI σ.1), (2, vI σ.2.2), (3, vI f), (4, vI ((t : Int) + 1))] [] m4 Q := fun h => by
        have e : btS S n f t σ = σ := by unfold btS; rw [if_neg h]
        rw [e] at hE2
        exact hE2 m4 ⟨f4, h4⟩
      have yes : (0 < S (41 + 12 * (f : Int) + t) ∧ (σ.1 < 0 ∨ ltG S n f t < σ.2.1 ∨ (ltG S n f t = σ.2.1 ∧ S (41 + 12 * (f : Int) + t) < σ.2.2))) → ∀ m5 : Mem, m5 = upM m4 45 5 (ltG S n f t) → E_X8_bestTie G d 31 [(0, vR 45), (1, vI (100 * (f : Int) + t)), (2, vI (S (41 + 12 * (f : Int) + t))), (3, vI f), (4, vI ((t : Int) + 1))] [] m5 Q := fun h m5 g5 => by
        have e : btS S n f t σ = (100 * (f : Int) + t, ltG S n f t, S (41 + 12 * (f : Int) + t)) := by unfold btS; rw [if_pos h]
        rw [e] at hE2
        exact hE2 m5 ⟨fun a b h => by rw [g5, upM_ne h]; exact f4 a b h, fun _ => by rw [g5, upM_same]⟩
      refine B_X8_bestTie_31 (by omega) ?_
      rw [f4 1 0 (by omega), g2 1 0 (by omega) (by omega) (by omega), hR.1.1, hn, e5, tb, e46]
      refine ⟨by omega, fun y => by omega, fun _ => ⟨by omega, fun y => no (fun q => ?_), fun y => ⟨by omega, ?_⟩⟩⟩
      · exact y (by rw [decide_eq_true q.1]; decide)
      · have hpos : 0 < S (41 + 12 * (f : Int) + t) := of_decide_eq_true (bI_ne0.mp y)
        refine ct_setsLeft hn2 hf ht ez ey ⟨_, rfl, ?_⟩
        rw [e47]
        refine ct_setsLeft hn2 hf ht ez ey ⟨_, rfl, ?_⟩
        rw [e6]
        rw [show tmax (ltN S n f t true) (ltN S n f t false) = ltG S n f t from rfl]
        unfold btI at I
        refine ⟨⟨by omega, by omega⟩, by omega, by omega, fun x => yes ⟨hpos, Or.inl x⟩, fun x => ?_⟩
        have e45 := h4 (by omega)
        rw [e45]
        exact ⟨fun w => yes ⟨hpos, Or.inr (Or.inl w)⟩, fun w => ⟨fun v => no (fun q => by have := q.2; omega), fun v => ⟨by omega, fun u => no (fun q => by have := q.2; omega), fun u => yes ⟨hpos, Or.inr (Or.inr ⟨by omega, by omega⟩)⟩⟩⟩⟩
theorem ct_letting (hd : 2 ≤ d) {S : NS} (hS : mem 72 = S) {n f t : Nat} (hn : S 0 = n) (hn2 : n ≤ 12) (hF : FF S mem) (hf : f < 12) (ht : t < 12) {w : Int} (hw : w = 0 ∨ w = 1) (hq : Q (some (vI (ltN S n f t (nz w)))) mem) : C_X11_letting G d [vR 71, vI f, vI t, vI w] mem Q := by
  have p4 := p2n hn2
  obtain ⟨F1, F2⟩ := hF
  rw [show (S 0).toNat = n by omega] at F1 F2
  have cl := cN_le (fitB S) (2 ^ n)
  have es := SL_sum F1 (fun z => bI (letB (S (5 + 3 * (f : Int))) (z.toNat.testBit f) (z.toNat.testBit t) (nz w)))
  have es2 : ltN S n f t (nz w) = sm (cN (fitB S) (2 ^ n)) (fun i => bI (letB (S (5 + 3 * (f : Int))) ((mem 77 i).toNat.testBit f) ((mem 77 i).toNat.testBit t) (nz w))) := by
    rw [es]
    unfold ltN lt2
    exact sm_congr (fun s _ => by rw [Int.toNat_natCast])
  rw [es2] at hq
  refine B_X11_letting (by omega) ?_
  refine it_loop (n := cN (fitB S) (2 ^ n)) (E := fun i => E_X11_letting G d 6 [(0, vR 71), (1, vI f), (2, vI t), (3, vI w), (4, vI (sm i (fun i => bI (letB (S (5 + 3 * (f : Int))) ((mem 77 i).toNat.testBit f) ((mem 77 i).toNat.testBit t) (nz w))))), (5, vI i)] [] mem Q) ?_ ?_ 0 (by omega)
  · refine B_X11_letting_6 hd ?_
    rw [F2]
    exact ⟨by omega, fun _ => hq, fun y => absurd (by omega) y⟩
  · intro i hi hE
    have r := SL_r F1 (i := i) (by omega) (by omega)
    have h1 : ∀ k : Nat, k < 12 → hb (mem 77 i) k = (mem 77 i).toNat.testBit k := fun k hk => by
      have := hb_n (s := (mem 77 i).toNat) (k := k) (by omega) (by omega)
      rw [show (((mem 77 i).toNat : Nat) : Int) = mem 77 i by omega] at this
      exact this
    rw [sm_s] at hE
    refine B_X11_letting_6 hd ?_
    rw [F2, hS, h1 f hf, h1 t ht]
    refine ⟨by omega, fun y => by omega, fun _ => ⟨by omega, by omega, hw, fun y => ?_, fun y => ?_⟩⟩
    · have : letB (S (5 + 3 * (f : Int))) ((mem 77 i).toNat.testBit f) ((mem 77 i).toNat.testBit t) (nz w) = false := by
        cases h : letB (S (5 + 3 * (f : Int))) ((mem 77 i).toNat.testBit f) ((mem 77 i).toNat.testBit t) (nz w)
        · rfl
        · exact absurd h y
      rw [this] at hE
      exact hE
    · rw [y] at hE
      exact hE
end TR
