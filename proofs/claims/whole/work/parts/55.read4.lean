/-! ===== the reference's reader ===== -/
def x71 (mem m : Mem) : Prop := ∀ (a : Nat) (b : Int), ¬ (a = 71 ∧ (b = 6 ∨ b = 7 ∨ b = 8)) → m a b = mem a b
theorem x71_r (m : Mem) : x71 m m := fun _ _ _ => rfl
theorem x71_t {a b c : Mem} (h : x71 a b) (h' : x71 b c) : x71 a c := fun x y z => by rw [h' x y z, h x y z]
theorem x71_72 {a b : Mem} (h : x71 a b) : b 72 = a 72 := funext (fun z => h 72 z (by omega))
theorem x71_u (mem : Mem) {j : Int} (v : Int) (hj : j = 6 ∨ j = 7 ∨ j = 8) : x71 mem (upM mem 71 j v) := fun x y z => by rw [upM_ne (by omega)]
def RS (S : NS) (p : Nat) (m : Mem) : Prop := m 72 = S ∧ m 71 8 = 0 ∧ m 71 6 = sk S p ∧ m 71 7 = nx S p
def WS (S : NS) (flt : Int) (m : Mem) : Prop := m 72 = S ∧ m 71 8 = 1 ∧ m 71 6 = flt
section RF
variable {G : GT} {d : Nat} {mem : Mem} {Q : Option AV → Mem → Prop}
theorem go_97 (hd : 2 ≤ d) {S : NS} (hV : VN S) {y l1 l2 : Int} (hy : (y = 1 ∧ l1 = 1 ∧ l2 = 0) ∨ (y = 2 ∧ l1 = 0 ∧ l2 = 1)) : ∀ (k q : Nat) (mem : Mem), tl S - q = k → q ≤ tl S → mem 72 = S → mem 71 7 = (q : Nat) → (∀ m' : Mem, m' 71 7 = rn S y q → (∀ (a : Nat) (b : Int), ¬ (a = 71 ∧ b = 7) → m' a b = mem a b) → Q none m') → E_X11_goOn G d 97 [(0, vR 71), (1, vI l1), (2, vI l2)] [] mem Q := by
  have t8 := tl_VN hV
  intro k
  induction k with
  | zero =>
    intro q mem hk hq hS h1 H
    rw [rn_f (by omega)] at H
    have Hm := H mem h1 (fun _ _ _ => rfl)
    refine B_X11_goOn_97 hd ?_
    rw [h1, hS]
    rcases hy with ⟨rfl, rfl, rfl⟩ | ⟨rfl, rfl, rfl⟩
    · exact ⟨by decide, fun z => absurd z (by decide), fun _ => ⟨by omega, fun z => by omega, fun _ => ⟨by decide, fun _ => Hm, fun z => absurd rfl z⟩⟩⟩
    · exact ⟨by decide, fun _ => ⟨by decide, fun z => absurd z (by decide), fun _ => ⟨by omega, fun _ => Hm, fun z => by omega⟩⟩, fun z => absurd rfl z⟩
  | succ k ih =>
    intro q mem hk hq hS h1 H
    have nxt : tyB (tc S q) = y → ∀ m2 : Mem, m2 = upM mem 71 7 ((q : Int) + 1) → E_X11_goOn G d 97 [(0, vR 71), (1, vI l1), (2, vI l2)] [] m2 Q := fun h m2 e2 => by
      rw [rn_t (by omega) h] at H
      exact ih (q + 1) m2 (by omega) (by omega) (by rw [e2, upM_cell (by omega)]; exact hS) (by rw [e2, upM_same]; omega) (fun m' g f => H m' g (fun a b x => by rw [f a b x, e2, upM_ne x]))
    have stop : tyB (tc S q) ≠ y → Q none mem := fun h => by
      rw [rn_f (fun x => h x.2)] at H
      exact H mem h1 (fun _ _ _ => rfl)
    refine B_X11_goOn_97 hd ?_
    rw [h1, hS]
    change _ ∧ (_ → _ ∧ (_ → _) ∧ (_ → _ ∧ (¬ (((q : Int) < S 3) ∧ 48 ≤ tc S q ∧ tc S q ≤ 57) → _) ∧ (((q : Int) < S 3 ∧ 48 ≤ tc S q ∧ tc S q ≤ 57) → _))) ∧ (_ → _ ∧ (((q : Int) < S 3 ∧ 97 ≤ tc S q ∧ tc S q ≤ 122) → _) ∧ (¬ ((q : Int) < S 3 ∧ 97 ≤ tc S q ∧ tc S q ≤ 122) → _ ∧ (_ → _) ∧ (_ → _)))
    rcases hy with ⟨rfl, rfl, rfl⟩ | ⟨rfl, rfl, rfl⟩
    · refine ⟨by decide, fun z => absurd z (by decide), fun _ => ⟨by omega, fun z => ⟨by omega, nxt (tyB_1.mpr z.2)⟩, fun z => ⟨by decide, fun _ => stop (fun h => z ⟨by omega, tyB_1.mp h⟩), fun z => absurd rfl z⟩⟩⟩
    · exact ⟨by decide, fun _ => ⟨by decide, fun z => absurd z (by decide), fun _ => ⟨by omega, fun z => stop (fun h => z ⟨by omega, tyB_2.mp h⟩), fun z => ⟨by omega, nxt (tyB_2.mpr z.2)⟩⟩⟩, fun z => absurd rfl z⟩
theorem go_8 (hd : 2 ≤ d) {S : NS} (hV : VN S) : ∀ (k p : Nat) (mem : Mem), tl S - p = k → p ≤ tl S → mem 72 = S → mem 71 6 = (p : Nat) → (∀ m' : Mem, m' 71 6 = sk S p → m' 71 7 = nx S p → (∀ (a : Nat) (b : Int), ¬ (a = 71 ∧ (b = 6 ∨ b = 7)) → m' a b = mem a b) → Q none m') → E_X11_goOn G d 8 [(0, vR 71)] [] mem Q := by
  have t8 := tl_VN hV
  have fin : ∀ (p : Nat) (mem m1 : Mem), p ≤ tl S → sk S p = p → mem 72 = S → mem 71 6 = (p : Nat) → (∀ m' : Mem, m' 71 6 = sk S p → m' 71 7 = nx S p → (∀ (a : Nat) (b : Int), ¬ (a = 71 ∧ (b = 6 ∨ b = 7)) → m' a b = mem a b) → Q none m') → m1 = upM mem 71 7 p → (0 ≤ m1 71 6 ∧ m1 72 3 ≤ 80) ∧ ((0 ≤ m1 71 6 ∧ m1 72 3 ≤ 80) ∧ (((m1 72 3 ≤ m1 71 6) → ((inr ((m1 71 7) + 0)) ∧ (∀ m21 : Mem, m21 = upM m1 71 7 ((m1 71 7) + 0) → (E_X11_goOn G d 97 [(0, vR 71), (1, vI (bz (m1 71 6 < m1 72 3 ∧ 97 ≤ m1 72 (425 + (m1 71 6)) ∧ m1 72 (425 + (m1 71 6)) ≤ 122))), (2, vI (bz (m1 71 6 < m1 72 3 ∧ 48 ≤ m1 72 (425 + (m1 71 6)) ∧ m1 72 (425 + (m1 71 6)) ≤ 57)))] [] m21 Q)))) ∧ (¬ (m1 72 3 ≤ m1 71 6) → ((inr ((m1 71 7) + 1)) ∧ (∀ m23 : Mem, m23 = upM m1 71 7 ((m1 71 7) + 1) → (E_X11_goOn G d 97 [(0, vR 71), (1, vI (bz (m1 71 6 < m1 72 3 ∧ 97 ≤ m1 72 (425 + (m1 71 6)) ∧ m1 72 (425 + (m1 71 6)) ≤ 122))), (2, vI (bz (m1 71 6 < m1 72 3 ∧ 48 ≤ m1 72 (425 + (m1 71 6)) ∧ m1 72 (425 + (m1 71 6)) ≤ 57)))] [] m23 Q)))))) := by
    intro p mem m1 hp hs hS h6 H e1
    have g6 : m1 71 6 = p := by rw [e1, upM_ne (by omega)]; exact h6
    have g7 : m1 71 7 = p := by rw [e1, upM_same]
    have gS : m1 72 = S := by rw [e1, upM_cell (by omega)]; exact hS
    rw [g6, g7, gS]
    refine ⟨by omega, by omega, fun z => ⟨by omega, fun m2 e2 => ?_⟩, fun z => ⟨by omega, fun m2 e2 => ?_⟩⟩
    · rw [bz_f (by omega), bz_f (by omega)]
      have en0 : en S p = p := by unfold en; rw [if_neg (by omega)]
      refine B_X11_goOn_97 hd ⟨by decide, fun _ => ⟨by decide, fun _ => H m2 ?_ ?_ (fun a b x => by rw [e2, upM_ne (by omega), e1, upM_ne (by omega)]), fun z => absurd rfl z⟩, fun z => absurd rfl z⟩
      · rw [e2, upM_ne (by omega), hs]; exact g6
      · unfold nx; rw [hs, en0, e2, upM_same]; omega
    · change E_X11_goOn G d 97 [(0, vR 71), (1, vI (bz ((p : Int) < S 3 ∧ 97 ≤ tc S p ∧ tc S p ≤ 122))), (2, vI (bz ((p : Int) < S 3 ∧ 48 ≤ tc S p ∧ tc S p ≤ 57)))] [] m2 Q
      have k6 : m2 71 6 = p := by rw [e2, upM_ne (by omega)]; exact g6
      have k7 : m2 71 7 = ((p + 1 : Nat) : Int) := by rw [e2, upM_same]; omega
      have kS : m2 72 = S := by rw [e2, upM_cell (by omega)]; exact gS
      have fr : ∀ (a : Nat) (b : Int), ¬ (a = 71 ∧ (b = 6 ∨ b = 7)) → m2 a b = mem a b := fun a b x => by rw [e2, upM_ne (by omega), e1, upM_ne (by omega)]
      have ye : ∀ y : Int, y ≠ 3 → tyB (tc S p) = y → ∀ m' : Mem, m' 71 7 = rn S y (p + 1) → (∀ (a : Nat) (b : Int), ¬ (a = 71 ∧ b = 7) → m' a b = m2 a b) → Q none m' := fun y y3 hy m' g f => by
        refine H m' (by rw [f 71 6 (by omega), hs]; exact k6) ?_ (fun a b x => by rw [f a b (by omega)]; exact fr a b x)
        unfold nx en
        rw [hs, if_pos (by omega), hy, if_neg y3]; exact g
      have tr := tyB_r (tc S p)
      have t1 := @tyB_1 (tc S p)
      have t2 := @tyB_2 (tc S p)
      have three : tyB (tc S p) = 1 ∨ tyB (tc S p) = 2 ∨ tyB (tc S p) = 3 := by omega
      rcases three with t | t | t
      · rw [bz_t ⟨by omega, t1.mp t⟩, bz_f (by have := t1.mp t; omega)]
        exact go_97 hd hV (Or.inl ⟨rfl, rfl, rfl⟩) _ (p + 1) m2 rfl (by omega) kS k7 (ye 1 (by decide) t)
      · rw [bz_f (by have := t2.mp t; omega), bz_t ⟨by omega, t2.mp t⟩]
        exact go_97 hd hV (Or.inr ⟨rfl, rfl, rfl⟩) _ (p + 1) m2 rfl (by omega) kS k7 (ye 2 (by decide) t)
      · rw [bz_f (fun x => by have := t1.mpr x.2; omega), bz_f (fun x => by have := t2.mpr x.2; omega)]
        refine B_X11_goOn_97 hd ⟨by decide, fun _ => ⟨by decide, fun _ => H m2 (by rw [hs]; exact k6) ?_ fr, fun z => absurd rfl z⟩, fun z => absurd rfl z⟩
        unfold nx en
        rw [hs, if_pos (by omega), if_pos t]; exact k7
  intro k
  induction k with
  | zero =>
    intro p mem hk hp hS h6 H
    refine B_X11_goOn_8 hd ?_
    rw [h6, hS]
    exact ⟨by omega, fun _ m1 e1 => fin p mem m1 hp (sk_f (by omega)) hS h6 H e1, fun z => by omega⟩
  | succ k ih =>
    intro p mem hk hp hS h6 H
    refine B_X11_goOn_8 hd ?_
    rw [h6, hS]
    change _ ∧ (¬ ((p : Int) < S 3 ∧ 32 ≤ tc S p ∧ tc S p ≤ 32) → _) ∧ (((p : Int) < S 3 ∧ 32 ≤ tc S p ∧ tc S p ≤ 32) → _)
    refine ⟨by omega, fun z m1 e1 => fin p mem m1 hp (sk_f (fun x => z ⟨by omega, by omega, by omega⟩)) hS h6 H e1, fun z => ⟨by omega, fun m2 e2 => ?_⟩⟩
    have es := sk_t (S := S) (p := p) (by omega) (by omega)
    refine ih (p + 1) m2 (by omega) (by omega) (by rw [e2, upM_cell (by omega)]; exact hS) (by rw [e2, upM_same]; omega) (fun m' a b f => H m' (by rw [es]; exact a) ?_ (fun x y z => by rw [f x y z, e2, upM_ne (by omega)]))
    unfold nx
    rw [es]; exact b
theorem ct_goOn (hd : 2 ≤ d) {S : NS} (hV : VN S) {p : Nat} (hp : p ≤ tl S) (hS : mem 72 = S) (h7 : mem 71 7 = p) (h8 : mem 71 8 = 0) (hq : ∀ m' : Mem, RS S p m' → x71 mem m' → Q none m') : C_X11_goOn G d [vR 71] mem Q := by
  refine B_X11_goOn (by omega) (fun m2 e2 => ?_)
  rw [h7] at e2
  exact go_8 hd hV _ p m2 rfl hp (by rw [e2, upM_cell (by omega)]; exact hS) (by rw [e2, upM_same]) (fun m' a b f => hq m' ⟨funext (fun z => by rw [f 72 z (by omega), e2, upM_ne (by omega), hS]), by rw [f 71 8 (by omega), e2, upM_ne (by omega)]; exact h8, a, b⟩ (fun x y z => by rw [f x y (by omega), e2, upM_ne (by omega)]))
theorem ct_isAt (hd : 5 ≤ d) {S : NS} (hV : VN S) {p t : Nat} (hp : p ≤ tl S) (ht : t < 25) (hA : RS S p mem) (hq : Q (some (vI (bz (wd S (litB t) p = true)))) mem) : C_X11_isAt G d [vR 71, vS t] mem Q := by
  have t8 := tl_VN hV
  have n := nx_le hp
  have s := sk_le hp
  have l8 := (lit_tab t ht).1
  have no : ¬ (wd S (litB t) p = true) → Q (some (vI 0)) mem := fun h => by rw [bz_f h] at hq; exact hq
  have out : ∀ l3 : Int, ¬ (wd S (litB t) p = true) → E_X11_isAt G d 31 [(0, vR 71), (1, vS t), (2, vI 0), (3, vI l3)] [] mem Q := fun l3 h => B_X11_isAt_31 ht hd ⟨by decide, fun _ => ⟨Or.inl rfl, no h⟩, fun z => absurd rfl z⟩
  refine B_X11_isAt ht (by omega) ?_
  rw [hA.2.1, hA.2.2.1, hA.2.2.2]
  refine ⟨fun z => absurd rfl z, fun _ => ⟨by omega, fun z2 => out 0 (fun h => z2 (by have := (wd_iff.mp h).1; omega)), fun z2 => ?_⟩⟩
  refine it_loop (n := (litB t).length) (E := fun k => (∀ j, j < k → tc S (sk S p + j) = (litB t).getD j 0) → E_X11_isAt G d 31 [(0, vR 71), (1, vS t), (2, vI 1), (3, vI k)] [] mem Q) ?_ ?_ 0 (by omega) (fun j hj => absurd hj (Nat.not_lt_zero _))
  · intro h
    have : wd S (litB t) p = true := wd_iff.mpr ⟨by omega, h⟩
    rw [bz_t this] at hq
    exact B_X11_isAt_31 ht hd ⟨by decide, fun z => absurd z (by decide), fun _ => ⟨by omega, fun _ => ⟨Or.inr rfl, hq⟩, fun z => absurd (by omega) z⟩⟩
  · intro k hk hE h
    refine B_X11_isAt_31 ht hd ?_
    rw [hA.2.2.1, hA.1, show 425 + ((sk S p : Nat) : Int) + (k : Int) = 425 + ((sk S p + k : Nat) : Int) by omega, show Int.toNat (k : Int) = k by omega]
    change _ ∧ _ ∧ (_ → _ ∧ (_ → _) ∧ (_ → _ ∧ _ ∧ (tc S (sk S p + k) ≠ _ → _) ∧ (¬ (tc S (sk S p + k) ≠ _) → _)))
    refine ⟨by decide, fun z => absurd z (by decide), fun _ => ⟨by omega, fun z => by omega, fun _ => ⟨by omega, by omega, fun z => out _ (fun w => z ((wd_iff.mp w).2 k hk)), fun z => hE (fun j hj => ?_)⟩⟩⟩
    by_cases e : j = k
    · subst e
      exact Classical.byContradiction z
    · exact h j (by omega)
theorem ct_isAt_w (hd : 5 ≤ d) {t : Nat} (ht : t < 25) (h : mem 71 8 ≠ 0) (hq : Q (some (vI 0)) mem) : C_X11_isAt G d [vR 71, vS t] mem Q := B_X11_isAt ht (by omega) ⟨fun _ => B_X11_isAt_31 ht hd ⟨by decide, fun _ => ⟨Or.inl rfl, hq⟩, fun z => absurd rfl z⟩, fun z => absurd h z⟩
theorem ct_takes (hd : 6 ≤ d) {S : NS} (hV : VN S) {p t : Nat} (hp : p ≤ tl S) (ht : t < 25) (hA : RS S p mem) (hq1 : wd S (litB t) p = true → ∀ m' : Mem, RS S (nx S p) m' → x71 mem m' → Q (some (vI 1)) m') (hq2 : ¬ (wd S (litB t) p = true) → Q (some (vI 0)) mem) : C_X11_takes G d [vR 71, vS t] mem Q := by
  refine B_X11_takes ht (by omega) (ct_isAt (by omega) hV hp ht hA ⟨_, rfl, bz_inr _, fun z => ⟨bz_01 _, ?_⟩, fun z => ?_⟩)
  · have := bz_0.mp z
    rw [bz_f this]; exact hq2 this
  · have h := bz_n0.mp z
    rw [bz_t h]
    exact ct_goOn (by omega) hV (nx_le hp).2.1 hA.1 hA.2.2.2 hA.2.1 (fun m' r f => ⟨rfl, Or.inr rfl, hq1 h m' r f⟩)
theorem ct_takes_w (hd : 6 ≤ d) {t : Nat} (ht : t < 25) (h : mem 71 8 ≠ 0) (hq : Q (some (vI 0)) mem) : C_X11_takes G d [vR 71, vS t] mem Q :=
  B_X11_takes ht (by omega) (ct_isAt_w (by omega) ht h ⟨_, rfl, by decide, fun _ => ⟨Or.inl rfl, hq⟩, fun z => absurd rfl z⟩)
theorem num_bad (hd : 2 ≤ d) {S : NS} {flt lo hi l3 : Int} (hW : WS S flt mem) (hq : ∀ (m' : Mem) (z : Int), WS S flt m' → x71 mem m' → Q (some (vI z)) m') : E_X11_number G d 94 [(0, vR 71), (1, vI lo), (2, vI hi), (3, vI l3)] [] mem Q := by
  have h8 : mem 71 8 ≠ 0 := by rw [hW.2.1]; decide
  refine B_X11_number_94 hd ⟨fun _ m1 e1 => B_X11_number_119 hd ⟨fun _ => hq m1 l3 ⟨by rw [e1, upM_cell (by omega)]; exact hW.1, by rw [e1, upM_same], by rw [e1, upM_ne (by omega)]; exact hW.2.2⟩ (by rw [e1]; exact x71_u _ _ (by omega)), fun z => absurd (by rw [e1, upM_same]; decide) z⟩, fun z => absurd h8 z⟩
theorem num_bad46 (hd : 2 ≤ d) {S : NS} {flt lo hi l3 : Int} (hf : inr flt) (hW : WS S flt mem) (hq : ∀ (m' : Mem) (z : Int), WS S flt m' → x71 mem m' → Q (some (vI z)) m') : E_X11_number G d 46 [(0, vR 71), (1, vI lo), (2, vI hi), (3, vI l3)] [] mem Q := by
  have h8 : mem 71 8 ≠ 0 := by rw [hW.2.1]; decide
  refine B_X11_number_46 hd (B_X11_number_52 hd ?_)
  rw [hW.2.2]
  exact ⟨hf, fun _ => num_bad hd hW hq, fun _ => ⟨fun _ => num_bad hd hW hq, fun z => absurd h8 z⟩⟩
theorem ct_number_w (hd : 2 ≤ d) {S : NS} {flt lo hi : Int} (hf : inr flt) (hW : WS S flt mem) (hq : ∀ (m' : Mem) (z : Int), WS S flt m' → x71 mem m' → Q (some (vI z)) m') : C_X11_number G d [vR 71, vI lo, vI hi] mem Q := by
  have h8 : mem 71 8 ≠ 0 := by rw [hW.2.1]; decide
  refine B_X11_number hd ⟨fun _ m1 e1 => ?_, fun z => absurd h8 z⟩
  have f1 : x71 mem m1 := by rw [e1]; exact x71_u _ _ (by omega)
  exact num_bad46 hd hf ⟨by rw [e1, upM_cell (by omega)]; exact hW.1, by rw [e1, upM_same], by rw [e1, upM_ne (by omega)]; exact hW.2.2⟩ (fun m' z w f => hq m' z w (x71_t f1 f))
theorem ct_number (hd : 3 ≤ d) {S : NS} (hV : VN S) {p : Nat} (hp : p ≤ tl S) (hA : RS S p mem) {lo hi : Int} (hlo : 0 ≤ lo ∧ lo ≤ 99) (hhi : -1 ≤ hi ∧ hi ≤ 99)
    (hq1 : lo ≤ nv S p → nv S p ≤ hi → ∀ m' : Mem, RS S (nx S p) m' → x71 mem m' → Q (some (vI (nv S p))) m')
    (hq2 : ¬ (lo ≤ nv S p ∧ nv S p ≤ hi) → ∀ (m' : Mem) (z : Int), WS S (sk S p) m' → x71 mem m' → Q (some (vI z)) m') : C_X11_number G d [vR 71, vI lo, vI hi] mem Q := by
  have t8 := tl_VN hV
  have n := nx_le hp
  have s := sk_le hp
  have bad : ¬ (lo ≤ nv S p ∧ nv S p ≤ hi) → ∀ m1 : Mem, m1 = upM mem 71 8 1 → E_X11_number G d 46 [(0, vR 71), (1, vI lo), (2, vI hi), (3, vI 0)] [] m1 Q := fun h m1 e1 => by
    have f1 : x71 mem m1 := by rw [e1]; exact x71_u _ _ (by omega)
    exact num_bad46 (by omega) (by omega) ⟨by rw [e1, upM_cell (by omega)]; exact hA.1, by rw [e1, upM_same], by rw [e1, upM_ne (by omega)]; exact hA.2.2.1⟩ (fun m' z w f => hq2 h m' z w (x71_t f1 f))
  refine B_X11_number (by omega) ?_
  rw [hA.2.1, hA.2.2.1, hA.2.2.2, hA.1]
  change _ ∧ (_ → _ ∧ (¬ (((sk S p : Nat) : Int) < S 3 ∧ 48 ≤ tc S (sk S p) ∧ tc S (sk S p) ≤ 57) → _) ∧ ((((sk S p : Nat) : Int) < S 3 ∧ 48 ≤ tc S (sk S p) ∧ tc S (sk S p) ≤ 57) → _))
  refine ⟨fun z => absurd rfl z, fun _ => ⟨by omega, fun z => bad ?_, fun z => ⟨by omega, fun z2 m1 e1 => ?_, fun z2 => bad ?_⟩⟩⟩
  · intro h
    unfold nv at h
    rw [if_neg] at h
    · omega
    · intro x
      have := num_dig x.1
      have b := this.2 (sk S p) (by omega) (by have := n.2.2.2 this.1; omega)
      exact z ⟨by omega, b⟩
  · have ty : tt S (sk S p) = 2 := by unfold tt; rw [if_pos (by omega)]; exact tyB_2.mpr z.2
    have env : nv S p = vlf S (sk S p) (nx S p - sk S p) := by unfold nv; rw [if_pos ⟨ty, by omega⟩]
    have r := nv_r hp
    have dg := num_dig ty
    have g72 : m1 72 = S := by rw [e1, upM_cell (by omega)]; exact hA.1
    have g8 : m1 71 8 = 0 := by rw [e1, upM_same]
    have g6 : m1 71 6 = sk S p := by rw [e1, upM_ne (by omega)]; exact hA.2.2.1
    have g7 : m1 71 7 = nx S p := by rw [e1, upM_ne (by omega)]; exact hA.2.2.2
    have f1 : x71 mem m1 := by rw [e1]; exact x71_u _ _ (by omega)
    refine B_X11_number_46 (by omega) ?_
    rw [g6]
    have lp := it_loop (n := nx S p - sk S p) (E := fun k => E_X11_number G d 52 [(0, vR 71), (1, vI lo), (2, vI hi), (3, vI (vlf S (sk S p) k)), (4, vI ((sk S p + k : Nat) : Int))] [] m1 Q) ?_ ?_ 0 (by omega)
    · exact lp
    · refine B_X11_number_52 (by omega) ?_
      rw [g7]
      refine ⟨by omega, fun _ => B_X11_number_94 (by omega) ?_, fun z => absurd (by omega) z⟩
      rw [g8, ← env]
      refine ⟨fun z => absurd rfl z, fun _ => ⟨⟨by omega, by omega, by omega⟩, fun c m2 e2 => ?_, fun c m2 e2 => ?_⟩⟩
      · have f2 : x71 m1 m2 := by rw [e2]; exact x71_u _ _ (by omega)
        have k8 : m2 71 8 = 0 := by rw [e2, upM_same]
        refine B_X11_number_119 (by omega) ⟨fun z => absurd k8 z, fun _ => ct_goOn (by omega) hV n.2.1 (by rw [x71_72 f2]; exact g72) (by rw [e2, upM_ne (by omega)]; exact g7) k8 (fun m' r f => ⟨rfl, hq1 c.1 c.2 m' r (x71_t f1 (x71_t f2 f))⟩)⟩
      · have f2 : x71 m1 m2 := by rw [e2]; exact x71_u _ _ (by omega)
        refine B_X11_number_119 (by omega) ⟨fun _ => hq2 c m2 _ ⟨by rw [x71_72 f2]; exact g72, by rw [e2, upM_same], by rw [e2, upM_ne (by omega)]; exact g6⟩ (x71_t f1 f2), fun z => absurd (by rw [e2, upM_same]; decide) z⟩
    · intro k hk hE
      refine B_X11_number_52 (by omega) ?_
      rw [g7, g8, g72]
      refine ⟨by omega, fun z => by omega, fun _ => ⟨fun z => absurd rfl z, fun _ => ⟨by omega, ?_⟩⟩⟩
      rw [show 10 * vlf S (sk S p) k + S (425 + ((sk S p + k : Nat) : Int)) - 48 = vlf S (sk S p) (k + 1) by show _ = vlf S (sk S p) k * 10 + S (425 + ((sk S p + k : Nat) : Int)) - 48; omega, show ((sk S p + k : Nat) : Int) + 1 = ((sk S p + (k + 1) : Nat) : Int) by omega]
      exact hE
  · intro h
    unfold nv at h
    rw [if_neg (by omega)] at h
    omega
theorem ct_other (hd : 4 ≤ d) {S : NS} (hV : VN S) {p : Nat} (hp : p ≤ tl S) (hA : RS S p mem) {one l2 : Int} (h1 : 0 ≤ one ∧ one ≤ S 0 - 1) (h2 : l2 = 0 ∨ l2 = 1)
    (hq1 : (0 ≤ nv S p ∧ nv S p ≤ S 0 - 1) → one ≠ nv S p → (l2 ≠ 0 → S (41 + 12 * one + nv S p) ≠ 0) → ∀ m' : Mem, RS S (nx S p) m' → x71 mem m' → Q (some (vI (nv S p))) m')
    (hq2 : ¬ ((0 ≤ nv S p ∧ nv S p ≤ S 0 - 1) ∧ one ≠ nv S p ∧ (l2 ≠ 0 → S (41 + 12 * one + nv S p) ≠ 0)) → ∀ (m' : Mem) (z : Int), WS S (sk S p) m' → x71 mem m' → Q (some (vI z)) m') : C_X11_other G d [vR 71, vI one, vI l2] mem Q := by
  have v0 := hV.1
  refine B_X11_other (by omega) ?_
  rw [hA.1, hA.2.2.1, hA.2.2.2]
  refine ct_number (by omega) hV hp hA (by omega) (by omega) (fun c1 c2 m1 r1 f1 => ⟨_, rfl, ?_⟩) (fun c m1 z w f => ⟨_, rfl, fun _ => hq2 (fun x => c x.1) m1 z w f, fun y => absurd (by rw [w.2.1]; decide) y⟩)
  have back : ∀ m2 m3 m4 : Mem, m2 = upM m1 71 8 1 → m3 = upM m2 71 6 (sk S p) → m4 = upM m3 71 7 (nx S p) → WS S (sk S p) m4 ∧ x71 mem m4 := fun m2 m3 m4 e2 e3 e4 => by
    refine ⟨⟨?_, ?_, ?_⟩, fun a b x => ?_⟩
    · rw [e4, upM_cell (by omega), e3, upM_cell (by omega), e2, upM_cell (by omega)]; exact r1.1
    · rw [e4, upM_ne (by omega), e3, upM_ne (by omega), e2, upM_same]
    · rw [e4, upM_ne (by omega), e3, upM_same]
    · rw [e4, upM_ne (by omega), e3, upM_ne (by omega), e2, upM_ne (by omega)]; exact f1 a b x
  rw [r1.2.1, r1.1]
  refine ⟨fun z => absurd rfl z, fun _ => ⟨by omega, fun z m2 e2 m3 e3 m4 e4 => ?_, fun z => ⟨by omega, fun y => hq1 ⟨c1, c2⟩ (fun h => z h.symm) (fun h => absurd y h) m1 r1 f1, fun y => ⟨by omega, fun x => hq1 ⟨c1, c2⟩ (fun h => z h.symm) (fun _ => x) m1 r1 f1, fun x m2 e2 m3 e3 m4 e4 => ?_⟩⟩⟩⟩
  · have w := back m2 m3 m4 e2 e3 e4
    exact hq2 (fun x => x.2.1 z.symm) m4 _ w.1 w.2
  · have w := back m2 m3 m4 e2 e3 e4
    exact hq2 (fun h => x (h.2.2 y)) m4 _ w.1 w.2
theorem ct_other_w (hd : 4 ≤ d) {S : NS} {flt one l2 : Int} (hf : inr flt) (hW : WS S flt mem) (hq : ∀ (m' : Mem) (z : Int), WS S flt m' → x71 mem m' → Q (some (vI z)) m') : C_X11_other G d [vR 71, vI one, vI l2] mem Q :=
  B_X11_other (by omega) (ct_number_w (by omega) hf hW (fun m1 z w f => ⟨_, rfl, fun _ => hq m1 z w f, fun y => absurd (by rw [w.2.1]; decide) y⟩))
end RF
