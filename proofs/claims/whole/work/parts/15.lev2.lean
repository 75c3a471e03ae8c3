/-! ===== contracts, second level ===== -/
/-- whether what one of kind k says is let: bb it is broken, ob the other one is broken, w it says whole -/
def letB (k : Int) (bb ob w : Bool) : Bool :=
  if bb then (if k = 1 then w else if k = 2 then w == ob else if k = 4 then w || !ob else if k = 5 then false else true)
  else (if k = 3 ∨ k = 5 then w || ob else w != ob)
def nz (z : Int) : Bool := decide (z ≠ 0)
def hb (s k : Int) : Bool := decide (iand (ishr s k) 1 = 1)
theorem hb_n {s k : Nat} (hs : s < 2147483648) (hk : k < 32) : hb s k = s.testBit k := by
  unfold hb
  rw [bt_n hs hk]
  cases s.testBit k <;> decide
theorem bt_hb {s k : Nat} (hs : s < 2147483648) (hk : k < 32) : iand (ishr s k) 1 = bI (hb s k) := by rw [hb_n hs hk, bt_n hs hk]
section L2
variable {G : GT} {d : Nat} {mem : Mem} {Q : Option AV → Mem → Prop}
theorem ct_broken {k a b : Int} (h0 : 0 ≤ k) (h1 : k < 6) (ha : a = 0 ∨ a = 1) (hb : b = 0 ∨ b = 1) (hq : Q (some (vI (bz (letB k true (nz a) (nz b) = true)))) mem) : C_X3_brokenMaySay G d [vI k, vI a, vI b] mem Q := by
  refine B_X3_brokenMaySay ?_
  rcases (show k = 0 ∨ k = 1 ∨ k = 2 ∨ k = 3 ∨ k = 4 ∨ k = 5 by omega) with rfl | rfl | rfl | rfl | rfl | rfl <;> rcases ha with rfl | rfl <;> rcases hb with rfl | rfl <;>
  ((repeat' first | apply And.intro | intro _) <;> first | omega | (rw [bz_t (by decide)] at hq; exact hq) | (rw [bz_f (by decide)] at hq; exact hq))
theorem ct_wholeM {k a b : Int} (hd : 1 ≤ d) (h0 : 0 ≤ k) (h1 : k < 6) (ha : a = 0 ∨ a = 1) (hb : b = 0 ∨ b = 1) (hq : Q (some (vI (bz (letB k false (nz a) (nz b) = true)))) mem) : C_X3_wholeMaySay G d [vI k, vI a, vI b] mem Q := by
  refine B_X3_wholeMaySay hd ?_
  unfold isUnd
  rcases (show k = 0 ∨ k = 1 ∨ k = 2 ∨ k = 3 ∨ k = 4 ∨ k = 5 by omega) with rfl | rfl | rfl | rfl | rfl | rfl <;> rcases ha with rfl | rfl <;> rcases hb with rfl | rfl <;>
  ((repeat' first | apply And.intro | intro _) <;> first | omega | (rw [bz_t (by decide)] at hq; exact hq) | (rw [bz_f (by decide)] at hq; exact hq))
theorem ct_vouches {k : Int} (hd : 1 ≤ d) (h0 : 0 ≤ k) (h1 : k < 6) (hq : Q (some (vI (bz (k ≠ 3 ∧ k ≠ 5)))) mem) : C_X3_vouches G d [vI k] mem Q := by
  refine B_X3_vouches hd ?_
  unfold isUnd
  (repeat' first | apply And.intro | intro _) <;> first | omega | (rw [bz_t (by omega)] at hq; exact hq) | (rw [bz_f (by omega)] at hq; exact hq)
theorem ct_is {m : Int} {c : Int} (hd : 1 ≤ d) (hc : 0 ≤ c) (hc2 : c < 553) (h0 : inr m) (hq : 0 ≤ mem 72 c → Q (some (vI (bz (0 ≤ m ∧ m < mem 72 c)))) mem) (hn : 0 ≤ mem 72 c) : C_X11_is G d [vR 71, vI m, vI c] mem Q := by
  refine c_ok (fun hm => ?_)
  have h2 : inr (mem 72 c) := ok_ai hm sh_72 (by decide) c
  refine B_X11_is hd ⟨⟨hc, hc2⟩, ⟨h0, by omega⟩, ?_⟩
  rw [bz_iff (show (0 ≤ m ∧ m ≤ mem 72 c - 1) ↔ (0 ≤ m ∧ m < mem 72 c) by omega)]
  exact hq hn
theorem ct_counts {s : Int} (hd : 1 ≤ d) (h0 : 0 ≤ s) (h1 : s < 60) (hq : Q (some (vI (bz (mem 72 (185 + 4 * s + 3) = 1)))) mem) : C_X11_counts G d [vR 71, vI s] mem Q := by
  refine B_X11_counts hd ?_
  (repeat' first | apply And.intro | intro _) <;> first | omega | (rw [bz_t (by omega)] at hq; exact hq) | (rw [bz_f (by omega)] at hq; exact hq)
theorem ct_isSheet {s : Int} (hd : 1 ≤ d) (h0 : inr s) (hq : Q (some (vI (bz (0 ≤ s ∧ s ≤ 3)))) mem) : C_X11_isSheet G d [vI s] mem Q := B_X11_isSheet hd ⟨h0, hq⟩
theorem ct_hasAll {h : Nat} (hh : isH h) {s : Int} (hd : 1 ≤ d) (hq : Q (some (vI (bz (iand s (ixor (ishl 1 (mem h 0) - 1) (-1)) = 0)))) mem) : C_X2_hasAll G d [vR h, vI s] mem Q := by
  refine B_X2_hasAll hh hd ?_
  (repeat' first | apply And.intro | intro _) <;> first | omega | (rw [bz_t (by omega)] at hq; exact hq) | (rw [bz_f (by omega)] at hq; exact hq)
/-- why a saying is refused; 0: it isn't -/
def objS (mem : Mem) (h : Nat) (i j : Int) : Int :=
  if ¬ ((0 ≤ i ∧ i < mem h 0) ∧ (0 ≤ j ∧ j < mem h 0)) then -1000001
  else if i = j ∨ iand (ishr (mem (h + 4) i) j) 1 = 0 then -1000003
  else if mem h 6 < 60 then 0 else -1000004
theorem objS_r (mem : Mem) (h : Nat) (i j : Int) : objS mem h i j = 0 ∨ objS mem h i j = -1000001 ∨ objS mem h i j = -1000003 ∨ objS mem h i j = -1000004 := by
  unfold objS
  split
  · omega
  · split
    · omega
    · split <;> omega
theorem objS_inr (mem : Mem) (h : Nat) (i j : Int) : inr (objS mem h i j) := by
  rcases objS_r mem h i j with e | e | e | e <;> rw [e] <;> decide
theorem ct_objS {h : Nat} (hh : isH h) {i j : Int} (hd : 1 ≤ d) (hi : inr i) (hj : inr j) (hn : mem h 0 ≤ 12) (hq : Q (some (vI (objS mem h i j))) mem) : C_X2_objectionToSaying G d [vR h, vI i, vI j] mem Q := by
  refine B_X2_objectionToSaying hh hd ?_
  unfold objS at hq
  refine ⟨hi, fun a => ?_, fun a => ⟨hj, fun b => ⟨fun c => ?_, fun c => ⟨by omega, fun e => ⟨fun f => ?_, fun f => ?_⟩, fun e => ?_⟩⟩, fun b => ?_⟩⟩
  · rw [if_pos (by omega)] at hq; exact hq
  · rw [if_neg (by omega), if_pos (by omega)] at hq; exact hq
  · rw [if_neg (by omega), if_neg (by omega), if_neg (by omega)] at hq; exact hq
  · rw [if_neg (by omega), if_neg (by omega), if_pos (by omega)] at hq; exact hq
  · rw [if_neg (by omega), if_pos (by omega)] at hq; exact hq
  · rw [if_pos (by omega)] at hq; exact hq
/-- one machine more -/
def addMcM (mem : Mem) (h : Nat) (k p c : Int) : Mem := upM (upM (upM (upM (upM mem (h + 1) (mem h 0) k) (h + 2) (mem h 0) p) (h + 3) (mem h 0) c) h 0 (mem h 0 + 1)) h 16 1
theorem ct_addMachine {h : Nat} (hh : isH h) {k p c : Int} (h0 : 0 ≤ mem h 0) (h1 : mem h 0 < 12) (hk : inr k) (hp : inr p) (hc : inr c) (hq : Q (some (vI (mem h 0))) (addMcM mem h k p c)) : C_X2_addMachine G d [vR h, vI k, vI p, vI c] mem Q := by
  refine B_X2_addMachine hh ⟨⟨h0, h1⟩, hk, fun m4 e4 => ?_⟩
  have r4 : m4 h 0 = mem h 0 := by rw [e4]; exact upM_ne (by omega)
  rw [r4]
  refine ⟨⟨h0, h1⟩, hp, fun m9 e9 => ?_⟩
  have r9 : m9 h 0 = mem h 0 := by rw [e9, upM_ne (by omega), r4]
  rw [r9]
  refine ⟨⟨h0, h1⟩, hc, fun m14 e14 => ?_⟩
  have r14 : m14 h 0 = mem h 0 := by rw [e14, upM_ne (by omega), r9]
  rw [r14]
  refine ⟨by omega, fun m17 e17 m19 e19 => ?_⟩
  have r19 : m19 h 0 - 1 = mem h 0 := by rw [e19, upM_ne (by omega), e17, upM_same]; omega
  rw [r19]
  have e : m19 = addMcM mem h k p c := by rw [e19, e17, e14, e9, e4]; rfl
  rw [e]
  exact hq
/-- a tie's cost -/
def setTieM (mem : Mem) (h : Nat) (i j c : Int) : Mem := upM (upM mem (h + 5) (i * 12 + j) c) (h + 4) i (if c = 0 then iand (mem (h + 4) i) (ixor (ishl 1 j) (-1)) else ior (mem (h + 4) i) (ishl 1 j))
theorem ct_setTie {h : Nat} (hh : isH h) {i j c : Int} (hd : 1 ≤ d) (hi : 0 ≤ i) (hi2 : i < 12) (hj : 0 ≤ j) (hj2 : j < 12) (hc : inr c) (hq : Q (some (vI (mem (h + 5) (i * 12 + j)))) (setTieM mem h i j c)) : C_X2_setTie G d [vR h, vI i, vI j, vI c] mem Q := by
  refine B_X2_setTie hh hd ⟨by omega, by omega, hc, fun m5 e5 => ?_⟩
  have r5 : m5 (h + 4) i = mem (h + 4) i := by rw [e5]; exact upM_ne (by omega)
  rw [r5, e5]
  unfold setTieM at hq
  refine ⟨fun z => ⟨by omega, fun m e => ?_⟩, fun z => ⟨by omega, fun m e => ?_⟩⟩
  · rw [e]; rw [if_neg z] at hq; exact hq
  · rw [e]; rw [if_pos (by omega)] at hq; exact hq
theorem ct_costAll {h : Nat} (hh : isH h) (hq : Q (some (vI (sm 144 (fun k => mem (h + 5) k)))) mem) : C_X2_costOfAllTies G d [vR h] mem Q := by
  refine B_X2_costOfAllTies hh ?_
  have lp : ∀ n i : Nat, i + n = 144 → E_X2_costOfAllTies G d 4 [(0, vR h), (1, vI (sm i (fun k => mem (h + 5) k))), (2, vI i)] [] mem Q := by
    intro n
    induction n with
    | zero =>
      intro i hi
      refine B_X2_costOfAllTies_4 hh ⟨by omega, fun _ => ?_, fun z => absurd (by omega) z⟩
      rw [show i = 144 by omega]
      exact hq
    | succ n ih =>
      intro i hi
      refine B_X2_costOfAllTies_4 hh ⟨by omega, fun z => by omega, fun _ => ⟨by omega, ?_⟩⟩
      have h9 := ih (i + 1) (by omega)
      rw [sm_s] at h9
      exact h9
  exact lp 144 0 rfl
theorem ct_ties {h : Nat} (hh : isH h) (hd : 1 ≤ d) {n : Nat} (hn : mem h 0 = n) (hn2 : n ≤ 12) (hq : Q (some (vI (sm n (fun k => bitc (mem (h + 4) k))))) mem) : C_X2_ties G d [vR h] mem Q := by
  refine B_X2_ties hh hd ?_
  have lp : ∀ m i : Nat, i + m = n → E_X2_ties G d 4 [(0, vR h), (1, vI (sm i (fun k => bitc (mem (h + 4) k)))), (2, vI i)] [] mem Q := by
    intro m
    induction m with
    | zero =>
      intro i hi
      refine B_X2_ties_4 hh hd ⟨by omega, fun _ => ?_, fun z => absurd (by omega) z⟩
      rw [show i = n by omega]
      exact hq
    | succ m ih =>
      intro i hi
      refine B_X2_ties_4 hh hd ⟨by omega, fun z => by omega, fun _ => ⟨by omega, ?_⟩⟩
      have h9 := ih (i + 1) (by omega)
      rw [sm_s] at h9
      exact h9
  exact lp n 0 (by omega)
/-- one saying more -/
def addSyM (mem : Mem) (h : Nat) (i j w : Int) : Mem :=
  upM (upM (upM (upM (upM (upM mem (h + 6) (mem h 6) i) (h + 7) (mem h 6) j) h 9 (if w = 0 then land (mem h 9) (lxor (lshl 1 (mem h 6)) (-1)) else lor (mem h 9) (lshl 1 (mem h 6)))) h 10 (lor (mem h 10) (lshl 1 (mem h 6)))) h 6 (mem h 6 + 1)) h 16 1
theorem ct_addSaying {h : Nat} (hh : isH h) {i j w : Int} (h0 : 0 ≤ mem h 6) (h1 : mem h 6 < 60) (hi : inr i) (hj : inr j) (hw : inr w) (hq : Q (some (vI (mem h 6))) (addSyM mem h i j w)) : C_X2_addSaying G d [vR h, vI i, vI j, vI w] mem Q := by
  refine B_X2_addSaying hh ⟨⟨h0, h1⟩, hi, fun m4 e4 => ?_⟩
  have r4 : m4 h 6 = mem h 6 := by rw [e4]; exact upM_ne (by omega)
  rw [r4]
  refine ⟨⟨h0, h1⟩, hj, fun m9 e9 => ⟨hw, ?_⟩⟩
  have r9 : m9 h 6 = mem h 6 := by rw [e9, upM_ne (by omega), r4]
  have s9 : m9 h 9 = mem h 9 := by rw [e9, upM_ne (by omega), e4]; exact upM_ne (by omega)
  have t9 : m9 h 10 = mem h 10 := by rw [e9, upM_ne (by omega), e4]; exact upM_ne (by omega)
  rw [r9, s9]
  unfold addSyM at hq
  refine ⟨fun z m16 e16 m18 e18 => ?_, fun z m16 e16 m18 e18 => ?_⟩ <;> (
    have t16 : m16 h 10 = mem h 10 := by rw [e16, upM_ne (by omega), t9]
    have r18 : m18 h 6 = mem h 6 := by rw [e18, upM_ne (by omega), e16, upM_ne (by omega), r9]
    rw [r18]
    refine ⟨by omega, fun m20 e20 m22 e22 => ?_⟩
    have r22 : m22 h 6 - 1 = mem h 6 := by rw [e22, upM_ne (by omega), e20, upM_same]; omega
    rw [r22, e22, e20, e18, t16, e16, e9, e4])
  · rw [if_pos z] at hq; exact hq
  · rw [if_neg z] at hq; exact hq
def silM (mem : Mem) (h : Nat) (s : Int) : Mem := upM (upM mem h 10 (land (mem h 10) (lxor (lshl 1 s) (-1)))) h 16 1
theorem ct_silence {h : Nat} (hh : isH h) {s : Int} (hq : Q none (silM mem h s)) : C_X2_silence G d [vR h, vI s] mem Q := by
  refine B_X2_silence hh (fun m2 e2 m3 e3 => ?_)
  rw [e3, e2]; exact hq
theorem ct_setMost {h : Nat} (hh : isH h) {v : Int} (hv : inr v) (hq : Q (some (vI (mem h 11))) (upM (upM mem h 11 v) h 16 1)) : C_X2_setMost G d [vR h, vI v] mem Q := by
  refine B_X2_setMost hh ⟨hv, fun m2 e2 m3 e3 => ?_⟩
  rw [e3, e2]; exact hq
theorem ct_addWaiting {h : Nat} (hh : isH h) {v : Int} (hv : inr v) (h0 : 0 ≤ mem h 15) (h1 : mem h 15 < 48) (hq : Q (some (vI (mem h 15 + 1))) (upM (upM mem (h + 9) (mem h 15) v) h 15 (mem h 15 + 1))) : C_X2_addWaiting G d [vR h, vI v] mem Q := by
  refine B_X2_addWaiting hh ⟨⟨h0, h1⟩, hv, fun m4 e4 => ?_⟩
  have r4 : m4 h 15 = mem h 15 := by rw [e4]; exact upM_ne (by omega)
  rw [r4]
  refine ⟨by omega, fun m7 e7 => ?_⟩
  have r7 : m7 h 15 = mem h 15 + 1 := by rw [e7, upM_same]
  rw [r7, e7, e4]
  exact hq
theorem ct_tieMany (hq : Q (some (vI (sm 144 (fun k => bI (decide (0 < mem 72 (41 + (k : Int)))))))) mem) : C_X11_tieMany G d [vR 71] mem Q := by
  refine B_X11_tieMany ?_
  have lp : ∀ n i : Nat, i + n = 144 → E_X11_tieMany G d 4 [(0, vR 71), (1, vI (sm i (fun k => bI (decide (0 < mem 72 (41 + (k : Int))))))), (2, vI i)] [] mem Q := by
    intro n
    induction n with
    | zero =>
      intro i hi
      refine B_X11_tieMany_4 ⟨by omega, fun _ => ?_, fun z => absurd (by omega) z⟩
      rw [show i = 144 by omega]
      exact hq
    | succ n ih =>
      intro i hi
      have h9 := ih (i + 1) (by omega)
      rw [sm_s] at h9
      refine B_X11_tieMany_4 ⟨by omega, fun z => by omega, fun _ => ⟨by omega, fun z => ?_, fun z => ?_⟩⟩
      · rw [decide_eq_false (by omega)] at h9; exact h9
      · rw [decide_eq_true (by omega)] at h9; exact h9
  exact lp 144 0 rfl
theorem ct_isByte {i a b : Int} (hd : 1 ≤ d) (hi : inr i) (h0 : 0 ≤ i) (hn : mem 72 3 ≤ 80) (ha : inr a) (hb : inr b) (hq : Q (some (vI (bz (i < mem 72 3 ∧ a ≤ mem 72 (425 + i) ∧ mem 72 (425 + i) ≤ b)))) mem) : C_X11_isByte G d [vR 71, vI i, vI a, vI b] mem Q := by
  refine B_X11_isByte hd ?_
  (repeat' first | apply And.intro | intro _) <;> first | omega | (rw [bz_t (by omega)] at hq; exact hq) | (rw [bz_f (by omega)] at hq; exact hq)
theorem ct_objSheet {s : Int} (hd : 1 ≤ d) (hs : inr s) (hq : Q (some (vI (if s < 0 ∨ 3 < s then -1000001 else if mem (63 + 2 * s.toNat) 1 = 0 then -1000002 else 0))) mem) : C_X10_objectionToSheet G d [vR 0, vI s] mem Q := by
  refine B_X10_objectionToSheet hd ⟨hs, fun a => ⟨by omega, fun b => ?_, fun b => ?_⟩, fun a => ?_⟩
  · rw [if_neg a, if_neg b] at hq; exact hq
  · rw [if_neg a, if_pos b] at hq; exact hq
  · rw [if_pos a] at hq; exact hq
theorem ct_isLet {s i j w : Int} (hd : 1 ≤ d) (h0 : 0 ≤ i) (h1 : i < 12) (hw : w = 0 ∨ w = 1) (hq : Q (some (vI (bz (letB (mem 72 (5 + 3 * i)) (hb s i) (hb s j) (nz w) = true)))) mem) : C_X11_isLet G d [vR 71, vI s, vI i, vI j, vI w] mem Q := by
  refine B_X11_isLet hd ?_
  rw [show 5 + 3 * i + 0 = 5 + 3 * i by omega]
  generalize mem 72 (5 + 3 * i) = k at hq
  unfold hb at hq
  generalize iand (ishr s i) 1 = p at hq
  have lf : ∀ (v : Int) (b : Bool), letB k (decide (p = 1)) (decide (iand (ishr s j) 1 = 1)) (nz w) = b → v = bI b → Q (some (vI v)) mem := by
    intro v b e ev
    rw [e] at hq
    cases b
    · rw [bz_f (by decide)] at hq; rw [ev]; exact hq
    · rw [bz_t rfl] at hq; rw [ev]; exact hq
  unfold letB nz at lf
  by_cases c2 : iand (ishr s j) 1 = 1 <;> by_cases c1 : p = 1 <;> rcases hw with rfl | rfl <;> simp only [c2, c1, bz_t, bz_f, not_false_eq_true] at lf ⊢ <;>
    ((repeat' first | apply And.intro | intro _) <;> first | omega | contradiction | (simp; done) | (refine lf _ false ?_ rfl; simp_all; done) | (refine lf _ true ?_ rfl; simp_all; done) | (refine lf _ false ?_ rfl; simp_all; omega) | (refine lf _ true ?_ rfl; simp_all; omega))
end L2
