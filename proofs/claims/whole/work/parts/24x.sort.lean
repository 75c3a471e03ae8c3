/-! ===== sets in order ===== -/
section HO
variable {G : GT} {d : Nat} {mem : Mem} {Q : Option AV → Mem → Prop}
theorem ct_holds {s : Int} (hd : 1 ≤ d) (h0 : 0 ≤ s) (h1 : s < 4096) (hq : Q (some (vI (bz (mem 34 s = 0 ∧ bitc s ≤ mem 1 11)))) mem) : C_X1_holds G d [vR 32, vI s] mem Q := by
  refine B_X1_holds hd ⟨⟨h0, h1⟩, fun z => ?_, fun z => ⟨fun y => ?_, fun y => ?_⟩⟩
  · rw [bz_f (by omega)] at hq; exact hq
  · rw [bz_f (by omega)] at hq; exact hq
  · rw [bz_t (by omega)] at hq; exact hq
theorem ct_notLetBy {s : Int} (h0 : 0 ≤ s) (h1 : s < 4096) (hq : Q (some (vI (mem 34 s))) mem) : C_X1_notLetBy G d [vR 32, vI s] mem Q := B_X1_notLetBy ⟨⟨h0, h1⟩, hq⟩
end HO
/-- how many before M -/
def cN (p : Nat → Bool) : Nat → Nat
  | 0 => 0
  | M + 1 => cN p M + (if p M then 1 else 0)
theorem cN_s (p : Nat → Bool) (M : Nat) : cN p (M + 1) = cN p M + (if p M then 1 else 0) := rfl
theorem cN_mono {p : Nat → Bool} {a b : Nat} (h : a ≤ b) : cN p a ≤ cN p b := by
  induction b with
  | zero => have : a = 0 := by omega
            subst this; exact Nat.le_refl _
  | succ b ih =>
    by_cases e : a = b + 1
    · subst e; exact Nat.le_refl _
    · have := ih (by omega)
      rw [cN_s]
      omega
theorem cN_lt {p : Nat → Bool} {a b : Nat} (h : a < b) (hp : p a = true) : cN p a < cN p b := by
  have h1 := cN_mono (p := p) (show a + 1 ≤ b from h)
  rw [cN_s, hp, if_pos rfl] at h1
  omega
theorem cN_le (p : Nat → Bool) (M : Nat) : cN p M ≤ M := by
  induction M with
  | zero => exact Nat.le_refl _
  | succ M ih => rw [cN_s]; split <;> omega
theorem cN_ex {p : Nat → Bool} {M j : Nat} (h : j < cN p M) : ∃ s, s < M ∧ p s = true ∧ cN p s = j := by
  induction M with
  | zero => exact absurd h (Nat.not_lt_zero _)
  | succ M ih =>
    by_cases e : j < cN p M
    · obtain ⟨s, a, b, c⟩ := ih e
      exact ⟨s, by omega, b, c⟩
    · rw [cN_s] at h
      by_cases q : p M = true
      · rw [if_pos q] at h
        exact ⟨M, by omega, q, by omega⟩
      · rw [if_neg q] at h; omega
theorem cN_sm (p : Nat → Bool) (M : Nat) : (cN p M : Int) = sm M (fun s => bI (p s)) := by
  induction M with
  | zero => rfl
  | succ M ih =>
    rw [cN_s, sm_s, ← ih]
    cases p M <;> simp [bI]
/-- P, and of rank k -/
def rk (P : Nat → Bool) (κ : Nat → Nat) (k s : Nat) : Bool := P s && decide (κ s = k)
/-- where those of rank k begin -/
def bs (P : Nat → Bool) (κ : Nat → Nat) (N : Nat) : Nat → Nat
  | 0 => 0
  | k + 1 => bs P κ N k + cN (rk P κ k) N
theorem bs_s (P : Nat → Bool) (κ : Nat → Nat) (N k : Nat) : bs P κ N (k + 1) = bs P κ N k + cN (rk P κ k) N := rfl
theorem bs_mono {P : Nat → Bool} {κ : Nat → Nat} {N a b : Nat} (h : a ≤ b) : bs P κ N a ≤ bs P κ N b := by
  induction b with
  | zero => have : a = 0 := by omega
            subst this; exact Nat.le_refl _
  | succ b ih =>
    by_cases e : a = b + 1
    · subst e; exact Nat.le_refl _
    · have := ih (by omega)
      rw [bs_s]; omega
theorem bs_N (P : Nat → Bool) (κ : Nat → Nat) (N K : Nat) : bs P κ (N + 1) K = bs P κ N K + (if P N = true ∧ κ N < K then 1 else 0) := by
  induction K with
  | zero => simp [bs]
  | succ K ih =>
    rw [bs_s, bs_s, ih, cN_s]
    unfold rk
    by_cases hP : P N = true
    · rw [hP]
      by_cases e : κ N = K
      · simp [e]
        omega
      · by_cases e2 : κ N < K
        · have e3 : κ N < K + 1 := by omega
          simp [e, e2, e3]; omega
        · have e3 : ¬ κ N < K + 1 := by omega
          simp [e, e2, e3]
    · have hf : P N = false := by cases h : P N <;> simp_all
      simp [hf]
theorem bs_all {P : Nat → Bool} {κ : Nat → Nat} {K : Nat} (hκ : ∀ s, κ s < K) (N : Nat) : bs P κ N K = cN P N := by
  induction N with
  | zero =>
    have : ∀ K, bs P κ 0 K = 0 := by
      intro K
      induction K with
      | zero => rfl
      | succ K ih => rw [bs_s, ih]; rfl
    rw [this]; rfl
  | succ N ih =>
    rw [bs_N, cN_s, ih]
    by_cases hP : P N = true
    · rw [if_pos ⟨hP, hκ N⟩, if_pos hP]
    · rw [if_neg (fun q => hP q.1), if_neg hP]
theorem bs_ex {P : Nat → Bool} {κ : Nat → Nat} {N K i : Nat} (h : i < bs P κ N K) : ∃ s, s < N ∧ P s = true ∧ κ s < K ∧ i = bs P κ N (κ s) + cN (rk P κ (κ s)) s := by
  induction K with
  | zero => exact absurd h (Nat.not_lt_zero _)
  | succ K ih =>
    by_cases e : i < bs P κ N K
    · obtain ⟨s, a, b, c, d⟩ := ih e
      exact ⟨s, a, b, by omega, d⟩
    · rw [bs_s] at h
      obtain ⟨s, a, b, c⟩ := cN_ex (p := rk P κ K) (M := N) (j := i - bs P κ N K) (by omega)
      unfold rk at b
      have b1 : P s = true := by
        cases hp : P s
        · rw [hp] at b; cases b
        · rfl
      have b2 : κ s = K := by
        rw [b1] at b
        exact of_decide_eq_true b
      exact ⟨s, a, b1, by omega, by rw [b2, c]; omega⟩
/-- the place of s -/
def plc (P : Nat → Bool) (κ : Nat → Nat) (N s : Nat) : Nat := bs P κ N (κ s) + cN (rk P κ (κ s)) s
theorem rk_self {P : Nat → Bool} {κ : Nat → Nat} {s : Nat} (h : P s = true) : rk P κ (κ s) s = true := by unfold rk; rw [h, decide_eq_true rfl]; rfl
theorem plc_lt {P : Nat → Bool} {κ : Nat → Nat} {N s K : Nat} (hs : s < N) (hP : P s = true) (hK : κ s < K) : plc P κ N s < bs P κ N K := by
  have h1 := cN_lt (p := rk P κ (κ s)) hs (rk_self hP)
  have h2 := bs_mono (P := P) (κ := κ) (N := N) (show κ s + 1 ≤ K from hK)
  rw [bs_s] at h2
  unfold plc
  omega
theorem plc_inj {P : Nat → Bool} {κ : Nat → Nat} {N s t : Nat} (hs : s < N) (ht : t < N) (h1 : P s = true) (h2 : P t = true) (e : plc P κ N s = plc P κ N t) : s = t := by
  rcases Nat.lt_trichotomy (κ s) (κ t) with h | h | h
  · have a := plc_lt (K := κ t) hs h1 h
    rw [e] at a; unfold plc at a; omega
  · unfold plc at e
    rw [h] at e
    have e2 : cN (rk P κ (κ t)) s = cN (rk P κ (κ t)) t := by omega
    have r1 : rk P κ (κ t) s = true := by rw [← h]; exact rk_self h1
    have r2 : rk P κ (κ t) t = true := rk_self h2
    rcases Nat.lt_trichotomy s t with g | g | g
    · have := cN_lt g r1; omega
    · exact g
    · have := cN_lt g r2; omega
  · have a := plc_lt (K := κ s) ht h2 h
    rw [← e] at a; unfold plc at a; omega
def κp (s : Nat) : Nat := (pc s).toNat
/-- those with P, in order, lie in a row -/
def SL (P : Nat → Bool) (N : Nat) (arr : Int → Int) : Prop := ∀ s : Nat, s < N → P s = true → arr (plc P κp N s) = s
theorem κp_lt (s : Nat) : κp s < 13 := by have := pc_le s; have := pc_nn s; unfold κp; omega
theorem SL_at {P : Nat → Bool} {N : Nat} {arr : Int → Int} (h : SL P N arr) {i : Nat} (hi : i < cN P N) : ∃ s : Nat, s < N ∧ P s = true ∧ arr i = s ∧ i = plc P κp N s := by
  rw [← bs_all (κ := κp) (K := 13) κp_lt] at hi
  obtain ⟨s, a, b, c, e⟩ := bs_ex hi
  refine ⟨s, a, b, ?_, e⟩
  have := h s a b
  rw [e]
  exact this
theorem SL_eq {P : Nat → Bool} {N : Nat} {arr arr' : Int → Int} (h : SL P N arr) (h' : SL P N arr') {i : Nat} (hi : i < cN P N) : arr i = arr' i := by
  obtain ⟨s, a, b, c, e⟩ := SL_at h hi
  rw [c, e]
  exact (h' s a b).symm
theorem SL_congr {P P' : Nat → Bool} {N : Nat} {arr : Int → Int} (h : SL P N arr) (e : P = P') : SL P' N arr := by rw [← e]; exact h
theorem SL_in {P : Nat → Bool} {N : Nat} {arr : Int → Int} (h : SL P N arr) {s : Nat} (hs : s < N) (hP : P s = true) : ∃ i : Nat, i < cN P N ∧ arr i = s := by
  refine ⟨plc P κp N s, ?_, h s hs hP⟩
  rw [← bs_all (κ := κp) (K := 13) κp_lt]
  exact plc_lt hs hP (κp_lt s)
/-- the sum over a row is the sum over all sets -/
theorem SL_sum {P : Nat → Bool} {N : Nat} {arr : Int → Int} (h : SL P N arr) (g : Int → Int) : sm (cN P N) (fun i => g (arr i)) = sm N (fun s => bI (P s) * g s) := by
  have inner : ∀ K M, M ≤ N → sm (bs P κp N K + cN (rk P κp K) M) (fun i => g (arr i)) = sm (bs P κp N K) (fun i => g (arr i)) + sm M (fun s => bI (rk P κp K s) * g s) := by
    intro K M
    induction M with
    | zero => intro _; simp [cN, sm_0]
    | succ M ih =>
      intro hM
      have ih := ih (by omega)
      rw [sm_s, cN_s]
      by_cases q : rk P κp K M = true
      · rw [if_pos q, ← Nat.add_assoc, sm_s, ih, q, bI_t, Int.one_mul]
        unfold rk at q
        have b1 : P M = true := by
          cases hp : P M
          · rw [hp] at q; cases q
          · rfl
        have b2 : κp M = K := by
          rw [b1] at q
          exact of_decide_eq_true q
        have e : arr ((bs P κp N K + cN (rk P κp K) M : Nat) : Int) = M := by
          have := h M (by omega) b1
          unfold plc at this
          rw [b2] at this
          exact this
        rw [e]
        omega
      · rw [if_neg q]
        have q2 : rk P κp K M = false := by
          cases hq : rk P κp K M
          · rfl
          · exact absurd hq q
        rw [q2, bI_f, Int.zero_mul, Nat.add_zero, ih]
        omega
  have outer : ∀ K, sm (bs P κp N K) (fun i => g (arr i)) = sm K (fun k => sm N (fun s => bI (rk P κp k s) * g s)) := by
    intro K
    induction K with
    | zero => rfl
    | succ K ih => rw [bs_s, inner K N (Nat.le_refl _), ih, sm_s]
  have e1 := outer 13
  rw [bs_all κp_lt] at e1
  rw [e1, sm_swap]
  refine sm_congr (fun s hs => ?_)
  rw [sm_one (κp_lt s) (fun k _ hk => by
    unfold rk
    rw [decide_eq_false (fun q => hk q.symm), Bool.and_false, bI_f, Int.zero_mul])]
  unfold rk
  rw [decide_eq_true rfl, Bool.and_true]
/-- how many sayings a set does not let; whether it fits -/
def nl (S : NS) (set : Nat) : Int := sm (S 1).toNat (fun s => bI (bad S set s))
noncomputable def fitB (S : NS) (set : Nat) : Bool := decide (barsS S set < 0)
theorem fbad_neg {S : NS} {set : Int} : ∀ k i : Nat, (fbad S set k i < 0 ↔ sm k (fun s => bI (bad S set ((i + s : Nat) : Int))) = 0) ∧ -1 ≤ fbad S set k i := by
  intro k
  induction k with
  | zero => intro i; unfold fbad; simp [sm_0]
  | succ k ih =>
    intro i
    have e : sm (k + 1) (fun s => bI (bad S set ((i + s : Nat) : Int))) = bI (bad S set i) + sm k (fun s => bI (bad S set ((i + 1 + s : Nat) : Int))) := by
      have := sm_app 1 k (fun s => bI (bad S set ((i + s : Nat) : Int)))
      rw [Nat.add_comm] at this
      rw [this, sm_s, sm_0]
      congr 1
      · simp
      · exact sm_congr (fun s _ => by rw [show i + (1 + s) = i + 1 + s by omega])
    have nn : 0 ≤ sm k (fun s => bI (bad S set ((i + 1 + s : Nat) : Int))) := sm_nn (fun _ _ => bI_nn _)
    have ih := ih (i + 1)
    rw [e]
    unfold fbad
    cases hb : bad S set i
    · rw [if_neg (by decide), bI_f]
      refine ⟨?_, ih.2⟩
      constructor
      · intro h
        have := ih.1.mp h
        omega
      · intro h
        exact ih.1.mpr (by omega)
    · rw [if_pos rfl, bI_t]
      refine ⟨⟨fun h => by omega, fun h => by omega⟩, by omega⟩
theorem nl_r {S : NS} (hV : VN S) (set : Nat) : 0 ≤ nl S set ∧ nl S set ≤ 60 := by
  have v1 := hV.2.1
  have h1 := sm_le1 (n := (S 1).toNat) (f := fun s => bI (bad S set s)) (fun _ _ => bI_le _)
  have h2 := sm_nn (n := (S 1).toNat) (f := fun s => bI (bad S set s)) (fun _ _ => bI_nn _)
  unfold nl
  omega
theorem fitB_iff {S : NS} {set : Nat} : fitB S set = true ↔ (nl S set = 0 ∧ pc set ≤ S 2) := by
  have hf := (fbad_neg (S := S) (set := set) (S 1).toNat 0).1
  have e : sm (S 1).toNat (fun s => bI (bad S set ((0 + s : Nat) : Int))) = nl S set := sm_congr (fun s _ => by rw [Nat.zero_add])
  rw [e] at hf
  unfold fitB barsS
  rw [decide_eq_true_iff]
  by_cases h : S 2 < pc set
  · rw [if_pos h]
    constructor
    · intro z; omega
    · intro z; omega
  · rw [if_neg h]
    have h0 : ((0 : Nat) : Int) = 0 := rfl
    constructor
    · intro z
      exact ⟨hf.mp z, by omega⟩
    · intro z
      exact hf.mpr z.1
