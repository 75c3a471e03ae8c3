/-! ===== how many trials it takes ===== -/
/-- a row of numbers from off on -/
def Ar (arr : Int → Int) (off : Int) (l : List Nat) : Prop := ∀ i : Nat, i < l.length → arr (off + i) = ((l.getD i 0 : Nat) : Int)
theorem gd_mem {l : List Nat} {i : Nat} (h : i < l.length) : l.getD i 0 ∈ l := by
  rw [List.getD_eq_getElem?_getD, List.getElem?_eq_getElem h]
  exact List.getElem_mem h
theorem ft_s (p : Nat → Bool) (l : List Nat) {i : Nat} (hi : i < l.length) : (l.take (i + 1)).filter p = (l.take i).filter p ++ (if p (l.getD i 0) = true then [l.getD i 0] else []) := by
  rw [List.take_add_one, List.filter_append, List.getD_eq_getElem?_getD, List.getElem?_eq_getElem hi]
  congr 1
  simp only [Option.toList, Option.getD_some, List.filter_cons, List.filter_nil]
theorem ft_le (p : Nat → Bool) (l : List Nat) (i : Nat) : ((l.take i).filter p).length ≤ (l.filter p).length := ((List.take_sublist i l).filter p).length_le
theorem ft_len (p : Nat → Bool) (l : List Nat) : (l.filter p).length ≤ l.length := List.length_filter_le p l
theorem ft_y {p : Nat → Bool} {l : List Nat} {i : Nat} (hi : i < l.length) (h : p (l.getD i 0) = true) : ((l.take (i + 1)).filter p).length = ((l.take i).filter p).length + 1 := by
  rw [ft_s p l hi, if_pos h, List.length_append]; rfl
theorem ft_n {p : Nat → Bool} {l : List Nat} {i : Nat} (hi : i < l.length) (h : p (l.getD i 0) = false) : (l.take (i + 1)).filter p = (l.take i).filter p := by
  rw [ft_s p l hi, if_neg (by rw [h]; decide), List.append_nil]
theorem Ar_push {arr arr' : Int → Int} {off : Int} {l : List Nat} {v : Nat} (h : Ar arr off l) (h1 : arr' (off + (l.length : Int)) = v) (h2 : ∀ i : Nat, i < l.length → arr' (off + i) = arr (off + i)) : Ar arr' off (l ++ [v]) := by
  intro i hi
  rw [List.length_append] at hi
  simp only [List.length_cons, List.length_nil] at hi
  rw [List.getD_eq_getElem?_getD]
  by_cases e : i < l.length
  · rw [List.getElem?_append_left e, h2 i e, h i e, List.getD_eq_getElem?_getD]
  · have e2 : i = l.length := by omega
    subst e2
    rw [List.getElem?_append_right (Nat.le_refl _), Nat.sub_self, h1]
    rfl
/-- one trial leaves one at most -/
def oneP (S : NS) (n : Nat) (l : List Nat) : Prop := ∃ f t : Nat, f < n ∧ t < n ∧ 0 < S (41 + 12 * (f : Int) + t) ∧ (l.filter (lt2 S f t true)).length ≤ 1 ∧ (l.filter (lt2 S f t false)).length ≤ 1
def twoP (S : NS) (n : Nat) (l : List Nat) : Prop := ∃ f t : Nat, f < n ∧ t < n ∧ 0 < S (41 + 12 * (f : Int) + t) ∧ ∀ w : Bool, (l.filter (lt2 S f t w)).length ≤ 1 ∨ oneP S n (l.filter (lt2 S f t w))
/-- in so many rounds one at most is left -/
def D (S : NS) : Nat → List Nat → Prop
  | 0, l => l.length < 2
  | r + 1, l => l.length < 2 ∨ ∃ k : Nat, k < 144 ∧ 0 < S (41 + (k : Int)) ∧ D S r (l.filter (lt2 S (k / 12) (k % 12) true)) ∧ D S r (l.filter (lt2 S (k / 12) (k % 12) false))
theorem D_1 {S : NS} (hV : VN S) {n : Nat} (hn : S 0 = n) (l : List Nat) : D S 1 l ↔ (l.length ≤ 1 ∨ oneP S n l) := by
  have v0 := hV.1
  constructor
  · intro h
    rcases h with h | ⟨k, h0, h1, h2, h3⟩
    · left; omega
    · right
      have tv := hV.2.2.2.2.2.2.2.1 ((k / 12 : Nat) : Int) ((k % 12 : Nat) : Int) (by omega) (by omega) (by omega) (by omega)
      have e : 41 + 12 * ((k / 12 : Nat) : Int) + ((k % 12 : Nat) : Int) = 41 + (k : Int) := by omega
      rw [e] at tv
      have t2 := tv.2.2 (by omega)
      refine ⟨k / 12, k % 12, by omega, by omega, by rw [e]; exact h1, ?_, ?_⟩
      · have : ((l.filter (lt2 S (k / 12) (k % 12) true)).length < 2) := h2
        omega
      · have : ((l.filter (lt2 S (k / 12) (k % 12) false)).length < 2) := h3
        omega
  · intro h
    rcases h with h | ⟨f, t, h0, h1, h2, h3, h4⟩
    · left; omega
    · right
      have e1 : (12 * f + t) / 12 = f := by omega
      have e2 : (12 * f + t) % 12 = t := by omega
      refine ⟨12 * f + t, by omega, ?_, ?_, ?_⟩
      · rw [show (41 : Int) + ((12 * f + t : Nat) : Int) = 41 + 12 * (f : Int) + t by omega]; exact h2
      · rw [e1, e2]; show _ < 2; omega
      · rw [e1, e2]; show _ < 2; omega
theorem D_2 {S : NS} (hV : VN S) {n : Nat} (hn : S 0 = n) (l : List Nat) : D S 2 l ↔ (l.length ≤ 1 ∨ twoP S n l) := by
  have v0 := hV.1
  constructor
  · intro h
    rcases h with h | ⟨k, h0, h1, h2, h3⟩
    · left; omega
    · right
      have tv := hV.2.2.2.2.2.2.2.1 ((k / 12 : Nat) : Int) ((k % 12 : Nat) : Int) (by omega) (by omega) (by omega) (by omega)
      have e : 41 + 12 * ((k / 12 : Nat) : Int) + ((k % 12 : Nat) : Int) = 41 + (k : Int) := by omega
      rw [e] at tv
      have t2 := tv.2.2 (by omega)
      refine ⟨k / 12, k % 12, by omega, by omega, by rw [e]; exact h1, fun w => ?_⟩
      cases w
      · exact (D_1 hV hn _).mp h3
      · exact (D_1 hV hn _).mp h2
  · intro h
    rcases h with h | ⟨f, t, h0, h1, h2, h3⟩
    · left; omega
    · right
      have e1 : (12 * f + t) / 12 = f := by omega
      have e2 : (12 * f + t) % 12 = t := by omega
      refine ⟨12 * f + t, by omega, ?_, ?_, ?_⟩
      · rw [show (41 : Int) + ((12 * f + t : Nat) : Int) = 41 + 12 * (f : Int) + t by omega]; exact h2
      · rw [e1, e2]; exact (D_1 hV hn _).mpr (h3 true)
      · rw [e1, e2]; exact (D_1 hV hn _).mpr (h3 false)
section RO
variable {G : GT} {d : Nat} {mem : Mem} {Q : Option AV → Mem → Prop}
theorem let_bit {S : NS} {f t x : Nat} {w : Bool} (hx : x < 4096) (hf : f < 12) (ht : t < 12) : iand (ishr (lcs (S (5 + 3 * (f : Int))) w) (2 * iand (ishr (x : Int) f) 1 + iand (ishr (x : Int) t) 1)) 1 = bI (lt2 S f t w x) := by
  rw [bt_n (by omega) (by omega), bt_n (by omega) (by omega), lcs_bit]
  rfl
theorem ct_leaves {ka nk : Nat} (ska : shp ka = .inl (0, nk)) (hd : 1 ≤ d) {S : NS} {n f t : Nat} (hK : RK S n mem) (hf : f < n) (ht : t < 12) (hn2 : n ≤ 12) {l : List Nat} (hA : Ar (mem ka) 0 l) (hl : l.length ≤ nk) (hnk : nk ≤ 4096) (hb : ∀ x ∈ l, x < 4096) (hq : Q (some (vI (bz ((l.filter (lt2 S f t true)).length ≤ 1 ∧ (l.filter (lt2 S f t false)).length ≤ 1)))) mem) : C_X8_leavesAtMostOne G d [vR 45, vR ka, vI l.length, vI f, vI t] mem Q := by
  have q0 : ¬ ((l.filter (lt2 S f t true)).length ≤ 1 ∧ (l.filter (lt2 S f t false)).length ≤ 1) → Q (some (vI 0)) mem := fun h => by rw [bz_f h] at hq; exact hq
  have q1 : ((l.filter (lt2 S f t true)).length ≤ 1 ∧ (l.filter (lt2 S f t false)).length ≤ 1) → Q (some (vI 1)) mem := fun h => by rw [bz_t h] at hq; exact hq
  refine B_X8_leavesAtMostOne ska hd ?_
  refine it_loop (n := l.length) (E := fun i => E_X8_leavesAtMostOne G d 9 [(0, vR 45), (1, vR ka), (2, vI l.length), (3, vI f), (4, vI t), (5, vI ((l.take i).filter (lt2 S f t true)).length), (6, vI ((l.take i).filter (lt2 S f t false)).length), (7, vI i)] [] mem Q) ?_ ?_ 0 (by omega)
  · have a := ft_len (lt2 S f t true) l
    have b := ft_len (lt2 S f t false) l
    rw [List.take_length]
    exact B_X8_leavesAtMostOne_9 ska hd ⟨⟨by omega, by omega⟩, fun _ => ⟨by omega, fun y => q0 (by omega), fun y => ⟨by omega, fun x => q0 (by omega), fun x => q1 (by omega)⟩⟩, fun y => absurd (by omega) y⟩
  · intro i hi hE
    have a := ft_len (lt2 S f t true) (l.take i)
    have b := ft_len (lt2 S f t false) (l.take i)
    have c := List.length_take_le i l
    have a' := ft_le (lt2 S f t true) l i
    have b' := ft_le (lt2 S f t false) l i
    have hx := hb _ (gd_mem hi)
    have ex := hA i hi
    rw [Int.zero_add] at ex
    refine B_X8_leavesAtMostOne_9 ska hd ?_
    rw [ex, (hK f hf).1, (hK f hf).2, let_bit hx (by omega) ht, let_bit hx (by omega) ht]
    refine ⟨⟨by omega, by omega⟩, fun y => by omega, fun _ => ⟨by omega, fun y => ⟨fun _ => q0 (by omega), fun z => absurd y z⟩, fun y => ⟨by omega, fun x => ⟨fun z => absurd z y, fun _ => ⟨fun _ => q0 (by omega), fun z => absurd x z⟩⟩, fun x => ⟨by omega, by omega, fun w => ⟨fun v => ?_, fun v => ?_⟩, fun w => ⟨fun v => ?_, fun v => ?_⟩⟩⟩⟩⟩
    all_goals
      first
      | (have w' := bI_ne0.mp w; have v' := bI_ne0.mp v; rw [ft_y hi w', ft_y hi v'] at hE; exact hE)
      | (have w' := bI_ne0.mp w; have v' : lt2 S f t false (l.getD i 0) = false := (by cases h : lt2 S f t false (l.getD i 0) <;> first | rfl | (rw [h] at v; exact absurd (by decide) v)); rw [ft_y hi w', ft_n hi v'] at hE; rw [Int.add_zero]; exact hE)
      | (have v' := bI_ne0.mp v; have w' : lt2 S f t true (l.getD i 0) = false := (by cases h : lt2 S f t true (l.getD i 0) <;> first | rfl | (rw [h] at w; exact absurd (by decide) w)); rw [ft_n hi w', ft_y hi v'] at hE; rw [Int.add_zero]; exact hE)
      | (have v' : lt2 S f t false (l.getD i 0) = false := (by cases h : lt2 S f t false (l.getD i 0) <;> first | rfl | (rw [h] at v; exact absurd (by decide) v)); have w' : lt2 S f t true (l.getD i 0) = false := (by cases h : lt2 S f t true (l.getD i 0) <;> first | rfl | (rw [h] at w; exact absurd (by decide) w)); rw [ft_n hi w', ft_n hi v'] at hE; rw [Int.add_zero, Int.add_zero]; exact hE)
theorem ct_oneTrial {ka nk : Nat} (ska : shp ka = .inl (0, nk)) (hd : 2 ≤ d) {S : NS} (hR : HR 1 S mem) (hV : VN S) {n : Nat} (hn : S 0 = n) (hK : RK S n mem) {l : List Nat} (hA : Ar (mem ka) 0 l) (hl : l.length ≤ nk) (hnk : nk ≤ 4096) (hb : ∀ x ∈ l, x < 4096) (hq : Q (some (vI (bz (oneP S n l)))) mem) : C_X8_oneTrialDoes G d [vR 45, vR ka, vI l.length] mem Q := by
  have v0 := hV.1
  have hn1 : mem 1 0 = n := by rw [hR.1.1, hn]
  refine B_X8_oneTrialDoes ska (by omega) ?_
  refine up_loop (σ := Unit) (n := n) (E := fun f _ => E_X8_oneTrialDoes G d 2 [(0, vR 45), (1, vR ka), (2, vI l.length), (3, vI f)] [] mem Q) (I := fun f _ => ∀ f' t' : Nat, f' < f → t' < n → ¬ (0 < S (41 + 12 * (f' : Int) + t') ∧ (l.filter (lt2 S f' t' true)).length ≤ 1 ∧ (l.filter (lt2 S f' t' false)).length ≤ 1)) ?_ ?_ (i := 0) (s := ()) (by omega) (fun f' t' h => by omega)
  · intro _ hI
    refine B_X8_oneTrialDoes_2 ska (by omega) ?_
    rw [hn1]
    refine ⟨by omega, fun _ => ?_, fun y => absurd (by omega) y⟩
    rw [bz_f (fun ⟨f, t, h0, h1, h2⟩ => hI f t h0 h1 h2)] at hq
    exact hq
  · intro f _ hf hI hE
    refine B_X8_oneTrialDoes_2 ska (by omega) ?_
    rw [hn1]
    refine ⟨by omega, fun y => by omega, fun _ => ?_⟩
    refine up_loop (σ := Unit) (n := n) (E := fun t _ => E_X8_oneTrialDoes G d 16 [(0, vR 45), (1, vR ka), (2, vI l.length), (3, vI f), (4, vI t)] [] mem Q) (I := fun t _ => ∀ t' : Nat, t' < t → ¬ (0 < S (41 + 12 * (f : Int) + t') ∧ (l.filter (lt2 S f t' true)).length ≤ 1 ∧ (l.filter (lt2 S f t' false)).length ≤ 1)) ?_ ?_ (i := 0) (s := ()) (by omega) (fun t' h => by omega)
    · intro _ hI2
      refine B_X8_oneTrialDoes_16 ska (by omega) ?_
      rw [hn1]
      refine ⟨by omega, fun _ => hE () (fun f' t' h0 h1 => ?_), fun y => absurd (by omega) y⟩
      by_cases e : f' = f
      · subst e; exact hI2 t' h1
      · exact hI f' t' (by omega) h1
    · intro t _ ht hI2 hE2
      have tb := hR.tied (i := f) (j := t) (by omega) (by omega)
      have no : ¬ (0 < S (41 + 12 * (f : Int) + t) ∧ (l.filter (lt2 S f t true)).length ≤ 1 ∧ (l.filter (lt2 S f t false)).length ≤ 1) → E_X8_oneTrialDoes G d 16 [(0, vR 45), (1, vR ka), (2, vI l.length), (3, vI f), (4, vI ((t : Int) + 1))] [] mem Q := fun h => hE2 () (fun t' ht' => by
        by_cases e : t' = t
        · subst e; exact h
        · exact hI2 t' (by omega))
      refine B_X8_oneTrialDoes_16 ska (by omega) ?_
      rw [hn1, show mem 5 (f : Int) = mem (1 + 4) (f : Int) from rfl, tb]
      refine ⟨by omega, fun y => by omega, fun _ => ⟨by omega, fun y => no (fun q => y (by rw [decide_eq_true q.1]; decide)), fun y => ?_⟩⟩
      refine ct_leaves ska (by omega) hK hf (by omega) (by omega) hA hl hnk hb ⟨_, rfl, bz_inr _, fun z => no (fun q => bz_0.mp z q.2), fun z => ?_⟩
      rw [bz_t ⟨f, t, hf, ht, of_decide_eq_true (bI_ne0.mp y), bz_n0.mp z⟩] at hq
      exact hq
theorem ct_oneMore (hd : 3 ≤ d) {S : NS} (hR : HR 1 S mem) (hV : VN S) {n f t : Nat} (hn : S 0 = n) (hK : RK S n mem) {l : List Nat} (hA : Ar (mem 37) 0 l) (hl : l.length ≤ 256) (hz : mem 32 7 = l.length) (hb : ∀ x ∈ l, x < 4096) (hf : f < 12) (ht : t < 12) {w : Bool} (hq : ∀ m' : Mem, (∀ (a : Nat) (b : Int), a ≠ 48 → m' a b = mem a b) → Q (some (vI (bz ((l.filter (lt2 S f t w)).length ≤ 1 ∨ oneP S n (l.filter (lt2 S f t w)))))) m') : C_X8_oneMoreDoes G d [vR 45, vI (lcs (S (5 + 3 * (f : Int))) w), vI f, vI t] mem Q := by
  refine B_X8_oneMoreDoes (by omega) ?_
  refine up_loop (n := l.length) (E := fun i m => E_X8_oneMoreDoes G d 6 [(0, vR 45), (1, vI (lcs (S (5 + 3 * (f : Int))) w)), (2, vI f), (3, vI t), (4, vI ((l.take i).filter (lt2 S f t w)).length), (5, vI i)] [] m Q) (I := fun i m => (∀ (a : Nat) (b : Int), a ≠ 48 → m a b = mem a b) ∧ Ar (m 48) 0 ((l.take i).filter (lt2 S f t w))) ?_ ?_ (i := 0) (by omega) ⟨fun _ _ _ => rfl, fun i hi => absurd hi (Nat.not_lt_zero _)⟩
  · intro m2 ⟨f2, g2⟩
    rw [List.take_length] at g2 ⊢
    have a := ft_len (lt2 S f t w) l
    have hq2 := hq m2 f2
    have hR2 : HR 1 S m2 := hR.congr (fun c b hc _ => f2 _ _ (by omega))
    refine B_X8_oneMoreDoes_6 (by omega) ?_
    rw [f2 32 7 (by omega), hz]
    refine ⟨by omega, fun _ => ⟨by omega, fun y => ?_, fun y => ?_⟩, fun y => absurd (by omega) y⟩
    · rw [bz_t (Or.inl (by omega))] at hq2; exact hq2
    · refine ct_oneTrial sh_48 (by omega) hR2 hV hn (fun i hi => by rw [f2 46 _ (by omega), f2 47 _ (by omega)]; exact hK i hi) g2 (by omega) (by decide) (fun x hx => hb x (List.mem_filter.mp hx).1) ⟨_, rfl, bz_inr _, fun z => ?_, fun z => ?_⟩
      · rw [bz_f (fun q => by rcases q with q | q <;> first | omega | exact bz_0.mp z q)] at hq2; exact hq2
      · rw [bz_t (Or.inr (bz_n0.mp z))] at hq2; exact hq2
  · intro i m2 hi ⟨f2, g2⟩ hE
    have a := ft_len (lt2 S f t w) (l.take i)
    have c := List.length_take_le i l
    have hx := hb _ (gd_mem hi)
    have ex := hA i hi
    rw [Int.zero_add] at ex
    refine B_X8_oneMoreDoes_6 (by omega) ?_
    rw [f2 32 7 (by omega), hz, f2 37 _ (by omega), ex, let_bit hx hf ht]
    refine ⟨by omega, fun y => by omega, fun _ => ⟨by omega, fun y => absurd y (by omega), fun y => ⟨by omega, fun x => ?_, fun x => ⟨by omega, fun m3 e3 => ?_⟩⟩⟩⟩
    · have x' : lt2 S f t w (l.getD i 0) = false := by
        cases h : lt2 S f t w (l.getD i 0)
        · rfl
        · rw [h] at x; exact absurd (by decide) x
      rw [ft_n hi x'] at hE
      exact hE m2 ⟨f2, g2⟩
    · have x' := bI_ne0.mp x
      have e9 := ft_s (lt2 S f t w) l hi
      rw [if_pos x'] at e9
      have hE := hE m3 ⟨fun a b h => by rw [e3, upM_ne (by omega)]; exact f2 a b h, by
        rw [e9]
        exact Ar_push g2 (by rw [e3, Int.zero_add, upM_same]) (fun k hk => by rw [e3, upM_ne (by omega)])⟩
      rw [ft_y hi x'] at hE
      exact hE
noncomputable def rnS (S : NS) (l : List Nat) : Int := @ite _ (D S 0 l) (Classical.propDecidable _) 0 (@ite _ (D S 1 l) (Classical.propDecidable _) 1 (@ite _ (D S 2 l) (Classical.propDecidable _) 2 (-1)))
theorem ct_roundsNeeded (hd : 5 ≤ d) {S : NS} (hR : HR 1 S mem) (hV : VN S) {n : Nat} (hn : S 0 = n) {l : List Nat} (hA : Ar (mem 37) 0 l) (hl : l.length ≤ 256) (hz : mem 32 7 = l.length) (hb : ∀ x ∈ l, x < 4096) (hq : ∀ m' : Mem, (∀ (a : Nat) (b : Int), a ≠ 46 → a ≠ 47 → a ≠ 48 → m' a b = mem a b) → Q (some (vI (rnS S l))) m') : C_X8_roundsNeeded G d [vR 45] mem Q := by
  have v0 := hV.1
  have d1 := D_1 hV hn l
  have d2 := D_2 hV hn l
  refine B_X8_roundsNeeded (by omega) ?_
  rw [hz]
  refine ⟨fun y => ?_, fun y => ?_⟩
  · have n0 : ¬ D S 0 l := fun q => by have : l.length < 2 := q; omega
    refine ct_readKinds (by omega) hR hV hn (fun m1 k1 f1 => ⟨rfl, ?_⟩)
    have hR1 : HR 1 S m1 := hR.congr (fun c b hc _ => f1 _ _ (by omega) (by omega))
    rw [f1 32 7 (by omega) (by omega), hz]
    refine ct_oneTrial sh_37 (by omega) hR1 hV hn k1 (fun i hi => by rw [f1 37 _ (by omega) (by omega)]; exact hA i hi) (by omega) (by decide) hb ⟨_, rfl, bz_inr _, fun z => ?_, fun z => ?_⟩
    · have z' := bz_0.mp z
      have n1 : ¬ D S 1 l := fun q => by rcases d1.mp q with q | q <;> first | omega | exact z' q
      refine up_loop (n := n) (E := fun f m => E_X8_roundsNeeded G d 42 [(0, vR 45), (1, vI f)] [] m Q) (I := fun f m => (∀ (a : Nat) (b : Int), a ≠ 48 → m a b = m1 a b) ∧ ∀ f' t' : Nat, f' < f → t' < n → ¬ (0 < S (41 + 12 * (f' : Int) + t') ∧ ∀ w : Bool, (l.filter (lt2 S f' t' w)).length ≤ 1 ∨ oneP S n (l.filter (lt2 S f' t' w)))) ?_ ?_ (i := 0) (by omega) ⟨fun _ _ _ => rfl, fun f' t' h => by omega⟩
      · intro m2 ⟨f2, hI⟩
        refine B_X8_roundsNeeded_42 (by omega) ?_
        rw [f2 1 0 (by omega), hR1.1.1, hn]
        refine ⟨by omega, fun _ => ?_, fun y => absurd (by omega) y⟩
        have n2 : ¬ D S 2 l := fun q => by
          rcases d2.mp q with q | ⟨f, t, h0, h1, h2⟩
          · omega
          · exact hI f t h0 h1 h2
        have := hq m2 (fun a b x y z => by rw [f2 a b z, f1 a b x y])
        unfold rnS at this
        rw [if_neg n0, if_neg n1, if_neg n2] at this
        exact this
      · intro f m2 hf ⟨f2, hI⟩ hE
        refine B_X8_roundsNeeded_42 (by omega) ?_
        rw [f2 1 0 (by omega), hR1.1.1, hn]
        refine ⟨by omega, fun y => by omega, fun _ => ?_⟩
        refine up_loop (n := n) (E := fun t m => E_X8_roundsNeeded G d 55 [(0, vR 45), (1, vI f), (2, vI t)] [] m Q) (I := fun t m => (∀ (a : Nat) (b : Int), a ≠ 48 → m a b = m1 a b) ∧ ∀ t' : Nat, t' < t → ¬ (0 < S (41 + 12 * (f : Int) + t') ∧ ∀ w : Bool, (l.filter (lt2 S f t' w)).length ≤ 1 ∨ oneP S n (l.filter (lt2 S f t' w)))) ?_ ?_ (i := 0) (by omega) ⟨f2, fun t' h => by omega⟩
        · intro m3 ⟨f3, hI2⟩
          refine B_X8_roundsNeeded_55 (by omega) ?_
          rw [f3 1 0 (by omega), hR1.1.1, hn]
          refine ⟨by omega, fun _ => hE m3 ⟨f3, fun f' t' h0 h1 => ?_⟩, fun y => absurd (by omega) y⟩
          by_cases e : f' = f
          · subst e; exact hI2 t' h1
          · exact hI f' t' (by omega) h1
        · intro t m3 ht ⟨f3, hI2⟩ hE2
          have tb := hR1.tied (i := f) (j := t) (by omega) (by omega)
          have no : ∀ m4 : Mem, (∀ (a : Nat) (b : Int), a ≠ 48 → m4 a b = m1 a b) → ¬ (0 < S (41 + 12 * (f : Int) + t) ∧ ∀ w : Bool, (l.filter (lt2 S f t w)).length ≤ 1 ∨ oneP S n (l.filter (lt2 S f t w))) → E_X8_roundsNeeded G d 55 [(0, vR 45), (1, vI f), (2, vI ((t : Int) + 1))] [] m4 Q := fun m4 f4 h => hE2 m4 ⟨f4, fun t' ht' => by
            by_cases e : t' = t
            · subst e; exact h
            · exact hI2 t' (by omega)⟩
          have prep : ∀ m4 : Mem, (∀ (a : Nat) (b : Int), a ≠ 48 → m4 a b = m1 a b) → HR 1 S m4 ∧ RK S n m4 ∧ Ar (m4 37) 0 l ∧ m4 32 7 = l.length := fun m4 f4 => ⟨hR1.congr (fun c b hc _ => f4 _ _ (by omega)), fun i hi => by rw [f4 46 _ (by omega), f4 47 _ (by omega)]; exact k1 i hi, fun i hi => by rw [f4 37 _ (by omega), f1 37 _ (by omega) (by omega)]; exact hA i hi, by rw [f4 32 7 (by omega), f1 32 7 (by omega) (by omega)]; exact hz⟩
          have P3 := prep m3 f3
          refine B_X8_roundsNeeded_55 (by omega) ?_
          rw [f3 1 0 (by omega), hR1.1.1, hn, f3 5 _ (by omega), show m1 5 (f : Int) = m1 (1 + 4) (f : Int) from rfl, tb, (P3.2.1 f hf).1]
          refine ⟨by omega, fun y => by omega, fun _ => ⟨by omega, fun y => no m3 f3 (fun q => y (by rw [decide_eq_true q.1]; decide)), fun y => ⟨by omega, ?_⟩⟩⟩
          refine ct_oneMore (by omega) P3.1 hV hn P3.2.1 P3.2.2.1 hl P3.2.2.2 hb (by omega) (by omega) (fun m4 f4 => ⟨_, rfl, bz_inr _, fun x => no m4 (fun a b h => by rw [f4 a b h, f3 a b h]) (fun q => bz_0.mp x (q.2 true)), fun x => ?_⟩)
          have g4 : ∀ (a : Nat) (b : Int), a ≠ 48 → m4 a b = m1 a b := fun a b h => by rw [f4 a b h, f3 a b h]
          have P4 := prep m4 g4
          rw [(P4.2.1 f hf).2]
          refine ct_oneMore (by omega) P4.1 hV hn P4.2.1 P4.2.2.1 hl P4.2.2.2 hb (by omega) (by omega) (fun m5 f5 => ⟨_, rfl, bz_inr _, fun v => no m5 (fun a b h => by rw [f5 a b h, g4 a b h]) (fun q => bz_0.mp v (q.2 false)), fun v => ?_⟩)
          have y2 : D S 2 l := d2.mpr (Or.inr ⟨f, t, hf, ht, of_decide_eq_true (bI_ne0.mp y), fun w => by
            cases w
            · exact bz_n0.mp v
            · exact bz_n0.mp x⟩)
          have := hq m5 (fun a b x y z => by rw [f5 a b z, g4 a b z, f1 a b x y])
          unfold rnS at this
          rw [if_neg n0, if_neg n1, if_pos y2] at this
          exact this
    · have y1 : D S 1 l := d1.mpr (Or.inr (bz_n0.mp z))
      have := hq m1 (fun a b x y z => f1 a b x y)
      unfold rnS at this
      rw [if_neg n0, if_pos y1] at this
      exact this
  · have y0 : D S 0 l := by show l.length < 2; omega
    have := hq mem (fun _ _ _ _ _ => rfl)
    unfold rnS at this
    rw [if_pos y0] at this
    exact this
/-- only deeper rows -/
def drF (row : Nat) (mem mem' : Mem) : Prop := (∀ (a : Nat) (b : Int), a ≠ 81 → a ≠ 82 → mem' a b = mem a b) ∧ (∀ b : Int, b < 256 * ((row : Int) + 1) → mem' 81 b = mem 81 b) ∧ (∀ b : Int, b ≤ row → mem' 82 b = mem 82 b)
theorem drF_r (row : Nat) (mem : Mem) : drF row mem mem := ⟨fun _ _ _ _ => rfl, fun _ _ => rfl, fun _ _ => rfl⟩
theorem drF_t {row : Nat} {m1 m2 m3 : Mem} (h : drF row m1 m2) (h' : drF row m2 m3) : drF row m1 m3 := ⟨fun a b x y => by rw [h'.1 a b x y, h.1 a b x y], fun b x => by rw [h'.2.1 b x, h.2.1 b x], fun b x => by rw [h'.2.2 b x, h.2.2 b x]⟩
def DoesC (G : GT) (S : NS) (r : Nat) : Prop := ∀ (d : Nat) (mem : Mem) (Q : Option AV → Mem → Prop) (row : Nat) (l : List Nat), 2 * r + 3 ≤ d → row + r ≤ 2 → mem 72 = S → Ar (mem 81) (256 * (row : Int)) l → mem 82 row = l.length → l.length ≤ 256 → (∀ x ∈ l, x < 4096) → (∀ m', drF row mem m' → Q (some (vI (bz (D S r l)))) m') → C_X11_does G d [vR 71, vI row, vI r] mem Q
theorem ct_doesWith {S : NS} {r : Nat} (IH : DoesC G S r) {row f t : Nat} {l : List Nat} {w : Int} (hd : 2 * r + 4 ≤ d) (hrow : row + (r + 1) ≤ 2) (hS : mem 72 = S) (hA : Ar (mem 81) (256 * (row : Int)) l) (hz : mem 82 row = l.length) (hl : l.length ≤ 256) (hb9 : ∀ x ∈ l, x < 4096) (hf : f < 12) (ht : t < 12) (hw : w = 0 ∨ w = 1) (hq : ∀ m', drF row mem m' → Q (some (vI (bz (D S r (l.filter (lt2 S f t (nz w))))))) m') : C_X11_doesWith G d [vR 71, vI row, vI f, vI t, vI w, vI ((r + 1 : Nat) : Int)] mem Q := by
  refine B_X11_doesWith (by omega) ⟨by omega, fun m1 e1 => ?_⟩
  refine up_loop (n := l.length) (E := fun i m => E_X11_doesWith G d 12 [(0, vR 71), (1, vI row), (2, vI f), (3, vI t), (4, vI w), (5, vI ((r + 1 : Nat) : Int)), (6, vI i)] [] m Q) (I := fun i m => drF row mem m ∧ m 82 ((row : Int) + 1) = ((l.take i).filter (lt2 S f t (nz w))).length ∧ Ar (m 81) (256 * ((row : Int) + 1)) ((l.take i).filter (lt2 S f t (nz w)))) ?_ ?_ (i := 0) (by omega) ⟨⟨fun a b x y => by rw [e1, upM_ne (by omega)], fun b x => by rw [e1, upM_ne (by omega)], fun b x => by rw [e1, upM_ne (by omega)]⟩, by rw [e1, upM_same]; rfl, fun i hi => absurd hi (Nat.not_lt_zero _)⟩
  · intro m2 ⟨f2, c2, a2⟩
    rw [List.take_length] at c2 a2
    have a := ft_len (lt2 S f t (nz w)) l
    refine B_X11_doesWith_12 (by omega) ?_
    rw [f2.2.2 row (by omega), hz]
    refine ⟨by omega, by omega, fun _ => ?_, fun y => absurd (by omega) y⟩
    have e3 : ((r + 1 : Nat) : Int) - 1 = (r : Int) := by omega
    have e4 : (row : Int) + 1 = ((row + 1 : Nat) : Int) := by omega
    rw [e3, e4]
    rw [e4] at c2 a2
    refine IH (d - 1) m2 _ (row + 1) (l.filter (lt2 S f t (nz w))) (by omega) (by omega) (by rw [← hS]; funext b; exact f2.1 72 b (by omega) (by omega)) a2 c2 (by omega) (fun x hx => hb9 x (List.mem_filter.mp hx).1) (fun m3 f3 => ⟨_, rfl, bz_01 _, hq m3 (drF_t f2 ⟨f3.1, fun b x => f3.2.1 b (by omega), fun b x => f3.2.2 b (by omega)⟩)⟩)
  · intro i m2 hi ⟨f2, c2, a2⟩ hE
    have hx := hb9 _ (gd_mem hi)
    have ex : m2 81 (256 * (row : Int) + i) = ((l.getD i 0 : Nat) : Int) := by
      rw [f2.2.1 _ (by omega)]
      exact hA i hi
    have a := ft_len (lt2 S f t (nz w)) (l.take i)
    have c := List.length_take_le i l
    have h72 : m2 72 = S := by rw [← hS]; funext b; exact f2.1 72 b (by omega) (by omega)
    refine B_X11_doesWith_12 (by omega) ?_
    rw [f2.2.2 row (by omega), hz, ex, h72, hb_n (by omega) (by omega), hb_n (by omega) (by omega)]
    refine ⟨by omega, by omega, fun y => by omega, fun _ => ⟨by omega, by omega, hw, fun y => ?_, fun y => ?_⟩⟩
    · have x' : lt2 S f t (nz w) (l.getD i 0) = false := by
        cases h : lt2 S f t (nz w) (l.getD i 0)
        · rfl
        · exact absurd h y
      rw [ft_n hi x'] at hE
      exact hE m2 ⟨f2, c2, a2⟩
    · have x' : lt2 S f t (nz w) (l.getD i 0) = true := y
      rw [c2]
      refine ⟨by omega, by omega, fun m3 e3 => ?_⟩
      have c3 : m3 82 ((row : Int) + 1) = ((l.take i).filter (lt2 S f t (nz w))).length := by rw [e3, upM_ne (by omega)]; exact c2
      rw [c3]
      refine ⟨by omega, fun m4 e4 => ?_⟩
      have e9 := ft_s (lt2 S f t (nz w)) l hi
      rw [if_pos x'] at e9
      refine hE m4 ⟨drF_t f2 ⟨fun a b x y => by rw [e4, upM_ne (by omega), e3, upM_ne (by omega)], fun b x => by rw [e4, upM_ne (by omega), e3, upM_ne (by omega)], fun b x => by rw [e4, upM_ne (by omega), e3, upM_ne (by omega)]⟩, by rw [e4, upM_same, ft_y hi x']; omega, ?_⟩
      rw [e9]
      exact Ar_push a2 (by rw [e4, upM_ne (by omega), e3, upM_same]) (fun k hk => by rw [e4, upM_ne (by omega), e3, upM_ne (by omega)])
theorem ct_does (S : NS) : ∀ r : Nat, DoesC G S r := by
  intro r
  induction r with
  | zero =>
    intro d mem Q row l hd hrow hS hA hz hl hb9 hq
    refine B_X11_does (by omega) ?_
    rw [hz]
    refine ⟨by omega, fun y => ?_, fun y => ?_⟩
    · have := hq mem (drF_r row mem)
      rw [bz_f (show ¬ D S 0 l from fun q => by have : l.length < 2 := q; omega)] at this
      exact B_X11_does_17 (by omega) ⟨by decide, fun z => absurd z (by decide), fun _ => ⟨by decide, fun _ => ⟨Or.inl rfl, this⟩, fun z => absurd (by decide) z⟩⟩
    · have := hq mem (drF_r row mem)
      rw [bz_t (show D S 0 l from (by show l.length < 2; omega))] at this
      exact this
  | succ r ih =>
    intro d mem Q row l hd hrow hS hA hz hl hb9 hq
    refine B_X11_does (by omega) ?_
    rw [hz]
    refine ⟨by omega, fun y => ?_, fun y => ?_⟩
    · refine up_loop (n := 144) (E := fun k m => E_X11_does G d 17 [(0, vR 71), (1, vI row), (2, vI ((r + 1 : Nat) : Int)), (3, vI 0), (4, vI k)] [] m Q) (I := fun k m => drF row mem m ∧ ∀ k' : Nat, k' < k → ¬ (0 < S (41 + (k' : Int)) ∧ D S r (l.filter (lt2 S (k' / 12) (k' % 12) true)) ∧ D S r (l.filter (lt2 S (k' / 12) (k' % 12) false)))) ?_ ?_ (i := 0) (by omega) ⟨drF_r row mem, fun k' h => by omega⟩
      · intro m2 ⟨f2, hI⟩
        have := hq m2 f2
        rw [bz_f (show ¬ D S (r + 1) l from fun q => by
          rcases q with q | ⟨k, h0, h1, h2⟩
          · omega
          · exact hI k h0 ⟨h1, h2⟩)] at this
        exact B_X11_does_17 (by omega) ⟨by decide, fun _ => ⟨Or.inl rfl, this⟩, fun z => absurd (by decide) z⟩
      · intro k m2 hk ⟨f2, hI⟩ hE
        have h72 : ∀ m3 : Mem, drF row mem m3 → m3 72 = S := fun m3 f3 => by rw [← hS]; funext b; exact f3.1 72 b (by omega) (by omega)
        have no : ∀ m3 : Mem, drF row mem m3 → ¬ (0 < S (41 + (k : Int)) ∧ D S r (l.filter (lt2 S (k / 12) (k % 12) true)) ∧ D S r (l.filter (lt2 S (k / 12) (k % 12) false))) → E_X11_does G d 17 [(0, vR 71), (1, vI row), (2, vI ((r + 1 : Nat) : Int)), (3, vI 0), (4, vI ((k : Int) + 1))] [] m3 Q := fun m3 f3 h => hE m3 ⟨f3, fun k' hk' => by
          by_cases e : k' = k
          · subst e; exact h
          · exact hI k' (by omega)⟩
        have ed : Int.tdiv (k : Int) 12 = ((k / 12 : Nat) : Int) := by rw [Int.tdiv_eq_ediv_of_nonneg (by omega)]; omega
        have em : Int.tmod (k : Int) 12 = ((k % 12 : Nat) : Int) := by rw [Int.tmod_eq_emod_of_nonneg (by omega)]; omega
        refine B_X11_does_17 (by omega) ?_
        rw [h72 m2 f2, ed, em]
        refine ⟨by omega, fun z => by omega, fun _ => ⟨by omega, fun z => by omega, fun _ => ⟨by decide, fun z => absurd rfl z, fun _ => ⟨by omega, fun x => no m2 f2 (fun q => by have := q.1; omega), fun x => ?_⟩⟩⟩⟩
        refine ct_doesWith ih (by omega) (by omega) (h72 m2 f2) (fun i hi => by rw [f2.2.1 _ (by omega)]; exact hA i hi) (by rw [f2.2.2 row (by omega)]; exact hz) hl hb9 (by omega) (by omega) (Or.inr rfl) (fun m3 f3 => ⟨_, rfl, bz_inr _, fun v => no m3 (drF_t f2 f3) (fun q => bz_0.mp v q.2.1), fun v => ?_⟩)
        have f3' := drF_t f2 f3
        refine ct_doesWith ih (by omega) (by omega) (h72 m3 f3') (fun i hi => by rw [f3'.2.1 _ (by omega)]; exact hA i hi) (by rw [f3'.2.2 row (by omega)]; exact hz) hl hb9 (by omega) (by omega) (Or.inl rfl) (fun m4 f4 => ⟨_, rfl, bz_inr _, fun u => no m4 (drF_t f3' f4) (fun q => bz_0.mp u q.2.2), fun u => ?_⟩)
        have := hq m4 (drF_t f3' f4)
        rw [bz_t (show D S (r + 1) l from Or.inr ⟨k, hk, by omega, bz_n0.mp v, bz_n0.mp u⟩)] at this
        exact B_X11_does_17 (by omega) ⟨by omega, fun _ => ⟨Or.inr rfl, this⟩, fun _ => ⟨by omega, fun z => by omega, fun _ => ⟨by decide, fun _ => ⟨Or.inr rfl, this⟩, fun z => absurd (by decide) z⟩⟩⟩
    · have := hq mem (drF_r row mem)
      rw [bz_t (show D S (r + 1) l from Or.inl (by omega))] at this
      exact this
end RO
