/-! ===== the reader ===== -/
def r31 (mem m : Mem) : Prop := ∀ (a : Nat) (b : Int), a ≠ 31 → m a b = mem a b
theorem r31_r (m : Mem) : r31 m m := fun _ _ _ => rfl
theorem r31_t {a b c : Mem} (h : r31 a b) (h' : r31 b c) : r31 a c := fun x y z => by rw [h' x y z, h x y z]
theorem r31_u (mem : Mem) (j v : Int) : r31 mem (upM mem 31 j v) := fun x y z => by rw [upM_ne (by omega)]
theorem HR31 {S : NS} {mem m : Mem} (h : HR 21 S mem) (f : r31 mem m) : HR 21 S m := h.congr (fun c b hc _ => f _ _ (by omega))
def TW (S : NS) (m : Mem) : Prop := 0 ≤ m 31 2 ∧ m 31 2 ≤ m 31 1 ∧ m 31 1 ≤ tl S
def AT (S : NS) (p : Nat) (m : Mem) : Prop := HR 21 S m ∧ m 31 4 = -1 ∧ m 31 2 = sk S p ∧ m 31 1 = nx S p ∧ m 31 3 = tt S (sk S p)
def RT (S : NS) (p : Nat) (m : Mem) : Prop := HR 21 S m ∧ m 31 4 = -1 ∧ m 31 1 = p
def WR (S : NS) (flt : Int) (m : Mem) : Prop := HR 21 S m ∧ m 31 4 = flt ∧ TW S m
theorem AT.rt {S : NS} {p : Nat} {m : Mem} (h : AT S p m) : RT S (nx S p) m := ⟨h.1, h.2.1, h.2.2.2.1⟩
theorem AT.tw {S : NS} {p : Nat} {m : Mem} (h : AT S p m) (hp : p ≤ tl S) : TW S m := by
  have := nx_le hp
  unfold TW
  rw [h.2.2.1, h.2.2.2.1]
  omega
theorem flM_r {m : Mem} (h : m 31 4 = -1) : flM m = upM m 31 4 (m 31 2) := if_pos h
theorem flM_w {m : Mem} (h : m 31 4 ≠ -1) : flM m = m := if_neg h
theorem AT.fl {S : NS} {p : Nat} {m : Mem} (h : AT S p m) (hp : p ≤ tl S) : WR S (sk S p) (flM m) ∧ r31 m (flM m) := by
  have tw := h.tw hp
  unfold TW at tw
  rw [flM_r h.2.1, h.2.2.1]
  refine ⟨⟨HR31 h.1 (r31_u _ _ _), upM_same, ?_⟩, r31_u _ _ _⟩
  unfold TW
  rw [upM_ne (by omega), upM_ne (by omega)]
  exact tw
section RD
variable {G : GT} {d : Nat} {mem : Mem} {Q : Option AV → Mem → Prop}
theorem tape_at {S : NS} (hR : HR 21 S mem) {i : Nat} (hi : i < 80) : mem 29 i = sgb (tc S i) := hR.2.2.2.2.2.2.2.1 i (by omega) (by omega)
theorem adv_102 (hd : 1 ≤ d) {S : NS} (hV : VN S) {y : Int} (hy : y ≠ 3) : ∀ k q mem, tl S - q = k → q ≤ tl S → HR 21 S mem → mem 31 1 = (q : Nat) → mem 31 3 = y → (∀ m' : Mem, m' 31 1 = rn S y q → (∀ (a : Nat) (b : Int), ¬ (a = 31 ∧ b = 1) → m' a b = mem a b) → Q none m') → E_X4_advance G d 102 [(0, vR 31)] [] mem Q := by
  have t8 := tl_VN hV
  intro k
  induction k with
  | zero =>
    intro q mem hk hq hR h1 h3 H
    refine B_X4_advance_102 hd ?_
    rw [h3, h1, hR.1.2.2.2.1]
    rw [rn_f (by omega)] at H
    exact ⟨fun z => absurd z hy, fun _ => ⟨fun _ => H mem h1 (fun _ _ _ => rfl), fun z => absurd (by omega) z⟩⟩
  | succ k ih =>
    intro q mem hk hq hR h1 h3 H
    have tcq := tc_VN hV (i := q) (by omega)
    refine B_X4_advance_102 hd ?_
    rw [h3, h1, hR.1.2.2.2.1, tape_at hR (by omega), tyB_sgb tcq.1 tcq.2]
    refine ⟨fun z => absurd z hy, fun _ => ⟨fun z => by omega, fun _ => ⟨by omega, fun z => ?_, fun z => ⟨by omega, fun m2 e2 => ?_⟩⟩⟩⟩
    · rw [rn_f (fun x => z x.2)] at H
      exact H mem h1 (fun _ _ _ => rfl)
    · rw [rn_t (by omega) (by omega)] at H
      refine ih (q + 1) m2 (by omega) (by omega) (HR31 hR (by rw [e2]; exact r31_u _ _ _)) (by rw [e2, upM_same]; omega) (by rw [e2, upM_ne (by omega)]; exact h3) (fun m' g f => H m' g (fun a b x => by rw [f a b x, e2, upM_ne x]))
theorem adv_8 (hd : 1 ≤ d) {S : NS} (hV : VN S) : ∀ k p mem, tl S - p = k → p ≤ tl S → RT S p mem → (∀ m' : Mem, AT S p m' → r31 mem m' → Q none m') → E_X4_advance G d 8 [(0, vR 31)] [] mem Q := by
  have t8 := tl_VN hV
  -- what is done once blanks are over
  have fin : ∀ (p : Nat) (mem m1 : Mem), p ≤ tl S → sk S p = p → RT S p mem → (∀ m' : Mem, AT S p m' → r31 mem m' → Q none m') → m1 = upM mem 31 2 p → ((m1 31 1 < m1 21 13) → ((0 ≤ m1 31 1 ∧ m1 31 1 < 80) ∧ (∀ m16 : Mem, m16 = upM m1 31 3 (tyB (m1 29 (m1 31 1))) → ((inr ((m16 31 1) + 1)) ∧ (∀ m18 : Mem, m18 = upM m16 31 1 ((m16 31 1) + 1) → (E_X4_advance G d 102 [(0, vR 31)] [] m18 Q)))))) ∧ (¬ (m1 31 1 < m1 21 13) → (∀ m20 : Mem, m20 = upM m1 31 3 0 → (Q none m20))) := by
    intro p mem m1 hp hs hT H e1
    have f1 : r31 mem m1 := by rw [e1]; exact r31_u _ _ _
    have R1 := HR31 hT.1 f1
    have g1 : m1 31 1 = p := by rw [e1, upM_ne (by omega)]; exact hT.2.2
    have g4 : m1 31 4 = -1 := by rw [e1, upM_ne (by omega)]; exact hT.2.1
    have g2 : m1 31 2 = p := by rw [e1, upM_same]
    rw [g1, R1.1.2.2.2.1]
    refine ⟨fun z => ⟨by omega, fun m2 e2 => ?_⟩, fun z m2 e2 => ?_⟩
    · have tcq := tc_VN hV (i := p) (by omega)
      rw [tape_at R1 (by omega), tyB_sgb tcq.1 tcq.2] at e2
      have h1 : m2 31 1 = p := by rw [e2, upM_ne (by omega)]; exact g1
      rw [h1]
      refine ⟨by omega, fun m3 e3 => ?_⟩
      have f3 : r31 mem m3 := r31_t f1 (r31_t (b := m2) (by rw [e2]; exact r31_u _ _ _) (by rw [e3]; exact r31_u _ _ _))
      have k1 : m3 31 1 = ((p + 1 : Nat) : Int) := by rw [e3, upM_same]; omega
      have k2 : m3 31 2 = p := by rw [e3, upM_ne (by omega), e2, upM_ne (by omega)]; exact g2
      have k3 : m3 31 3 = tyB (tc S p) := by rw [e3, upM_ne (by omega), e2, upM_same]
      have k4 : m3 31 4 = -1 := by rw [e3, upM_ne (by omega), e2, upM_ne (by omega)]; exact g4
      have tp : tt S p = tyB (tc S p) := if_pos (by omega)
      by_cases y3 : tyB (tc S p) = 3
      · have e : en S p = p + 1 := by unfold en; rw [if_pos (by omega), if_pos y3]
        refine B_X4_advance_102 hd ⟨fun _ => H m3 ⟨HR31 hT.1 f3, k4, by rw [hs]; exact k2, ?_, by rw [hs, tp]; exact k3⟩ f3, fun z => absurd (by rw [k3]; exact y3) z⟩
        unfold nx
        rw [hs, e]; exact k1
      · have e : en S p = rn S (tyB (tc S p)) (p + 1) := by unfold en; rw [if_pos (by omega), if_neg y3]
        refine adv_102 hd hV y3 _ (p + 1) m3 rfl (by omega) (HR31 hT.1 f3) k1 k3 (fun m' g f => H m' ⟨HR31 hT.1 (r31_t f3 (fun a b x => f a b (by omega))), by rw [f 31 4 (by omega)]; exact k4, by rw [f 31 2 (by omega), hs]; exact k2, ?_, by rw [f 31 3 (by omega), hs, tp]; exact k3⟩ (r31_t f3 (fun a b x => f a b (by omega))))
        unfold nx
        rw [hs, e]; exact g
    · have f2 : r31 mem m2 := r31_t f1 (by rw [e2]; exact r31_u _ _ _)
      have tp : tt S p = 0 := if_neg (by omega)
      have e : en S p = p := by unfold en; rw [if_neg (by omega)]
      refine H m2 ⟨HR31 hT.1 f2, by rw [e2, upM_ne (by omega)]; exact g4, by rw [e2, upM_ne (by omega), hs]; exact g2, ?_, by rw [e2, upM_same, hs, tp]⟩ f2
      unfold nx
      rw [hs, e, e2, upM_ne (by omega)]; exact g1
  intro k
  induction k with
  | zero =>
    intro p mem hk hp hT H
    refine B_X4_advance_8 hd ?_
    rw [hT.2.2, hT.1.1.2.2.2.1]
    refine ⟨fun _ m1 e1 => fin p mem m1 hp (sk_f (by omega)) hT H e1, fun z => absurd (by omega) z⟩
  | succ k ih =>
    intro p mem hk hp hT H
    have tcq := tc_VN hV (i := p) (by omega)
    have s32 := sgb_eq tcq.1 tcq.2 (show (0 : Int) ≤ 32 by decide) (by decide)
    refine B_X4_advance_8 hd ?_
    rw [hT.2.2, hT.1.1.2.2.2.1, tape_at hT.1 (by omega)]
    refine ⟨fun z => by omega, fun _ => ⟨by omega, fun z m1 e1 => fin p mem m1 hp (sk_f (fun x => z (s32.mpr x.2))) hT H e1, fun z => ⟨by omega, fun m2 e2 => ?_⟩⟩⟩
    have t32 : tc S p = 32 := s32.mp (by omega)
    have es := sk_t (S := S) (p := p) (by omega) t32
    have f2 : r31 mem m2 := by rw [e2]; exact r31_u _ _ _
    refine ih (p + 1) m2 (by omega) (by omega) ⟨HR31 hT.1 f2, by rw [e2, upM_ne (by omega)]; exact hT.2.1, by rw [e2, upM_same]; omega⟩ (fun m' a f => H m' ⟨a.1, a.2.1, by rw [es]; exact a.2.2.1, ?_, by rw [es]; exact a.2.2.2.2⟩ (r31_t f2 f))
    unfold nx
    rw [es]; exact a.2.2.2.1
theorem ct_adv (hd : 1 ≤ d) {S : NS} (hV : VN S) {p : Nat} (hp : p ≤ tl S) (hT : RT S p mem) (hq : ∀ m' : Mem, AT S p m' → r31 mem m' → Q none m') : C_X4_advance G d [vR 31] mem Q := B_X4_advance hd ⟨fun _ => adv_8 hd hV _ p mem rfl hp hT hq, fun z => absurd hT.2.1 z⟩
theorem ct_adv_w (hd : 1 ≤ d) (h : mem 31 4 ≠ -1) (hq : Q none mem) : C_X4_advance G d [vR 31] mem Q := B_X4_advance hd ⟨fun z => absurd z h, fun _ => hq⟩
/-- words begin with a letter -/
theorem lit_word : ∀ t, t < 12 → 0 < (litB t).length ∧ 97 ≤ (litB t).getD 0 0 ∧ (litB t).getD 0 0 ≤ 122 := by decide +kernel
theorem wd_ty {S : NS} (hV : VN S) {p t : Nat} (hp : p ≤ tl S) (ht : t < 12) (h : wd S (litB t) p = true) : tt S (sk S p) = 1 ∧ sk S p < tl S := by
  have w := wd_iff.mp h
  have l := lit_word t ht
  have n := nx_le hp
  have s := sk_le hp
  have c := w.2 0 l.1
  rw [Nat.add_zero] at c
  have lt : sk S p < tl S := by omega
  unfold tt
  rw [if_pos lt, c]
  exact ⟨tyB_1.mpr l.2, lt⟩
theorem ct_isWord (hd : 5 ≤ d) {S : NS} (hV : VN S) {p t : Nat} (hp : p ≤ tl S) (ht : t < 12) (hA : AT S p mem) (hq : Q (some (vI (bz (wd S (litB t) p = true)))) mem) : C_X4_isWord G d [vR 31, vS t] mem Q := by
  have t8 := tl_VN hV
  have n := nx_le hp
  have s := sk_le hp
  have no : ¬ (wd S (litB t) p = true) → Q (some (vI 0)) mem := fun h => by rw [bz_f h] at hq; exact hq
  refine B_X4_isWord (by omega) (by omega) ?_
  rw [hA.2.2.2.2, hA.2.2.2.1, hA.2.2.1]
  refine ⟨fun z => no (fun h => z (wd_ty hV hp ht h).1), fun z => ⟨by omega, fun z2 => ?_, fun z2 => no (fun h => z2 (by have := (wd_iff.mp h).1; omega))⟩⟩
  refine it_loop (n := (litB t).length) (E := fun k => (∀ j, j < k → tc S (sk S p + j) = (litB t).getD j 0) → E_X4_isWord G d 28 [(0, vR 31), (1, vS t), (2, vI k)] [] mem Q) ?_ ?_ 0 (by omega) (fun j hj => absurd hj (Nat.not_lt_zero _))
  · intro h
    have : wd S (litB t) p = true := wd_iff.mpr ⟨by omega, h⟩
    rw [bz_t this] at hq
    exact B_X4_isWord_28 (by omega) hd ⟨by omega, fun _ => hq, fun z => absurd (by omega) z⟩
  · intro k hk hE h
    have tcq := tc_VN hV (i := sk S p + k) (by omega)
    have lc := lit_chr' (t := t) (by omega) k
    have se := sgb_eq tcq.1 tcq.2 lc.1 lc.2
    refine B_X4_isWord_28 (by omega) hd ?_
    rw [hA.2.2.1, show ((sk S p : Nat) : Int) + (k : Int) = ((sk S p + k : Nat) : Int) by omega, tape_at hA.1 (by omega), show Int.toNat (k : Int) = k by omega]
    refine ⟨by omega, fun z => by omega, fun _ => ⟨by omega, by omega, fun z => hE (fun j hj => ?_), fun z => no (fun w => ?_)⟩⟩
    · by_cases e : j = k
      · subst e; exact se.mp z
      · exact h j (by omega)
    · exact z (se.mpr ((wd_iff.mp w).2 k hk))
theorem ct_isWord_w (hd : 5 ≤ d) {S : NS} (hV : VN S) {t : Nat} (ht : t < 12) (hW : TW S mem) (hq : ∀ z : Int, z = 0 ∨ z = 1 → Q (some (vI z)) mem) : C_X4_isWord G d [vR 31, vS t] mem Q := by
  have t8 := tl_VN hV
  unfold TW at hW
  refine B_X4_isWord (by omega) (by omega) ⟨fun z => hq 0 (Or.inl rfl), fun z => ⟨by omega, fun z2 => ?_, fun z2 => hq 0 (Or.inl rfl)⟩⟩
  refine it_loop (n := (litB t).length) (E := fun k => E_X4_isWord G d 28 [(0, vR 31), (1, vS t), (2, vI k)] [] mem Q) ?_ ?_ 0 (by omega)
  · exact B_X4_isWord_28 (by omega) hd ⟨by omega, fun _ => hq 1 (Or.inr rfl), fun z => absurd (by omega) z⟩
  · intro k hk hE
    exact B_X4_isWord_28 (by omega) hd ⟨by omega, fun z => by omega, fun _ => ⟨by omega, by omega, fun z => hE, fun z => hq 0 (Or.inl rfl)⟩⟩
theorem run_ty {S : NS} {y : Int} : ∀ k q, tl S - q = k → ∀ i, q ≤ i → i < rn S y q → i < tl S ∧ tyB (tc S i) = y := by
  intro k
  induction k with
  | zero => intro q h i h1 h2; rw [rn_f (by omega)] at h2; omega
  | succ k ih =>
    intro q h i h1 h2
    by_cases e : tyB (tc S q) = y
    · rw [rn_t (by omega) e] at h2
      by_cases e2 : i = q
      · subst e2; exact ⟨by omega, e⟩
      · exact ih (q + 1) (by omega) i (by omega) h2
    · rw [rn_f (fun x => e x.2)] at h2; omega
theorem num_dig {S : NS} {p : Nat} (h : tt S (sk S p) = 2) : sk S p < tl S ∧ ∀ i, sk S p ≤ i → i < nx S p → 48 ≤ tc S i ∧ tc S i ≤ 57 := by
  unfold tt at h
  by_cases lt : sk S p < tl S
  · rw [if_pos lt] at h
    refine ⟨lt, fun i h1 h2 => ?_⟩
    unfold nx en at h2
    rw [if_pos lt, if_neg (by omega), h] at h2
    by_cases e : i = sk S p
    · subst e; exact tyB_2.mp h
    · exact tyB_2.mp (run_ty _ (sk S p + 1) rfl i (by omega) h2).2
  · rw [if_neg lt] at h; omega
theorem vlf_r {S : NS} {f n : Nat} (h : ∀ i, f ≤ i → i < f + n → 48 ≤ tc S i ∧ tc S i ≤ 57) : ∀ k, k ≤ n → 0 ≤ vlf S f k ∧ vlf S f k < 10 ^ k := by
  intro k
  induction k with
  | zero => intro _; exact ⟨Int.le_refl _, show (0 : Int) < 10 ^ 0 by decide⟩
  | succ k ih =>
    intro hk
    have a := ih (by omega)
    have b := h (f + k) (by omega) (by omega)
    show 0 ≤ vlf S f k * 10 + tc S (f + k) - 48 ∧ vlf S f k * 10 + tc S (f + k) - 48 < 10 ^ (k + 1)
    rw [Int.pow_succ]
    omega
theorem nv_r {S : NS} {p : Nat} (hp : p ≤ tl S) : -1 ≤ nv S p ∧ nv S p < 1000 := by
  unfold nv
  by_cases h : tt S (sk S p) = 2 ∧ nx S p - sk S p ≤ 3
  · rw [if_pos h]
    have dg := num_dig h.1
    have n := nx_le hp
    have r := vlf_r (S := S) (f := sk S p) (n := nx S p - sk S p) (fun i h1 h2 => dg.2 i h1 (by omega)) _ (Nat.le_refl _)
    have : (10 : Int) ^ (nx S p - sk S p) ≤ 1000 := by
      have : nx S p - sk S p = 0 ∨ nx S p - sk S p = 1 ∨ nx S p - sk S p = 2 ∨ nx S p - sk S p = 3 := by omega
      rcases this with h | h | h | h <;> rw [h] <;> decide
    omega
  · rw [if_neg h]; decide
theorem ct_taken {S : NS} (hV : VN S) {p : Nat} (hp : p ≤ tl S) (hA : AT S p mem) (hq : Q (some (vI (nv S p))) mem) : C_X4_takenNumber G d [vR 31] mem Q := by
  have t8 := tl_VN hV
  have n := nx_le hp
  have s := sk_le hp
  unfold nv at hq
  refine B_X4_takenNumber ?_
  rw [hA.2.2.2.2, hA.2.2.2.1, hA.2.2.1]
  refine ⟨fun z => by rw [if_neg (fun x => z x.1)] at hq; exact hq, fun z => ⟨by omega, fun z2 => ?_, fun z2 => by rw [if_neg (by omega)] at hq; exact hq⟩⟩
  rw [if_pos ⟨by omega, by omega⟩] at hq
  have dg := num_dig (S := S) (p := p) (by omega)
  have lp := it_loop (n := nx S p - sk S p) (E := fun k => E_X4_takenNumber G d 30 [(0, vR 31), (1, vI (vlf S (sk S p) k)), (2, vI ((sk S p + k : Nat) : Int))] [] mem Q) ?_ ?_ 0 (by omega)
  · exact lp
  · refine B_X4_takenNumber_30 ?_
    rw [hA.2.2.2.1]
    exact ⟨by omega, fun _ => hq, fun z => absurd (by omega) z⟩
  · intro k hk hE
    have b := dg.2 (sk S p + k) (by omega) (by omega)
    refine B_X4_takenNumber_30 ?_
    rw [hA.2.2.2.1, tape_at hA.1 (by omega)]
    refine ⟨by omega, fun z => by omega, fun _ => ⟨by omega, ?_⟩⟩
    rw [show sgb (tc S (sk S p + k)) = tc S (sk S p + k) by unfold sgb; rw [if_pos (by omega)], show ((sk S p + k : Nat) : Int) + 1 = ((sk S p + (k + 1) : Nat) : Int) by omega]
    exact hE
theorem ct_taken_w {S : NS} (hV : VN S) (hR : HR 21 S mem) (hW : TW S mem) (hq : ∀ z : Int, inr z → Q (some (vI z)) mem) : C_X4_takenNumber G d [vR 31] mem Q := by
  have t8 := tl_VN hV
  unfold TW at hW
  have by1 : ∀ i : Int, 0 ≤ i → i < 80 → -128 ≤ mem 29 i ∧ mem 29 i < 128 := hR.tape hV
  refine B_X4_takenNumber ⟨fun z => hq (-1) (by decide), fun z => ⟨by omega, fun z2 => ?_, fun z2 => hq (-1) (by decide)⟩⟩
  refine B_X4_takenNumber_30 ⟨by omega, fun _ => hq 0 (by decide), fun z3 => ⟨by omega, ?_⟩⟩
  have b1 := by1 (mem 31 2) (by omega) (by omega)
  refine B_X4_takenNumber_30 ⟨by omega, fun _ => hq _ (by omega), fun z4 => ⟨by omega, ?_⟩⟩
  have b2 := by1 (mem 31 2 + 1) (by omega) (by omega)
  refine B_X4_takenNumber_30 ⟨by omega, fun _ => hq _ (by omega), fun z5 => ⟨by omega, ?_⟩⟩
  have b3 := by1 (mem 31 2 + 1 + 1) (by omega) (by omega)
  exact B_X4_takenNumber_30 ⟨by omega, fun _ => hq _ (by omega), fun z6 => absurd (by omega) z6⟩
theorem ct_readNumber (hd : 2 ≤ d) {S : NS} (hV : VN S) {p : Nat} (hp : p ≤ tl S) (hT : RT S p mem) {lo hi : Int} (hlo : 0 ≤ lo ∧ lo ≤ 99) (hhi : -1 ≤ hi ∧ hi ≤ 99)
    (hq1 : lo ≤ nv S p → nv S p ≤ hi → ∀ m' : Mem, AT S p m' → r31 mem m' → Q (some (vI (nv S p))) m')
    (hq2 : ¬ (lo ≤ nv S p ∧ nv S p ≤ hi) → ∀ (m' : Mem) (z : Int), inr z → WR S (sk S p) m' → r31 mem m' → Q (some (vI z)) m') : C_X4_readNumber G d [vR 31, vI lo, vI hi] mem Q := by
  have r := nv_r hp
  refine B_X4_readNumber hd (ct_adv (by omega) hV hp hT (fun m1 a1 f1 => ⟨rfl, ct_taken hV hp a1 ⟨_, rfl, ⟨by omega, by omega, by omega⟩, fun z => hq1 (by omega) (by omega) m1 a1 f1, fun z m2 e2 => ?_⟩⟩))
  have w := a1.fl hp
  rw [← e2] at w
  exact hq2 (by omega) m2 _ (by omega) w.1 (r31_t f1 w.2)
theorem ct_readNumber_w (hd : 2 ≤ d) {S : NS} (hV : VN S) {flt : Int} (hf : flt ≠ -1) (hW : WR S flt mem) {lo hi : Int} (hlo : inr lo) (hhi : inr hi) (hq : ∀ z : Int, inr z → Q (some (vI z)) mem) : C_X4_readNumber G d [vR 31, vI lo, vI hi] mem Q := by
  have w : mem 31 4 ≠ -1 := by rw [hW.2.1]; exact hf
  refine B_X4_readNumber hd (ct_adv_w (by omega) w ⟨rfl, ct_taken_w hV hW.1 hW.2.2 (fun z hz => ⟨_, rfl, ⟨hz, hlo, hhi⟩, fun _ => hq z hz, fun _ m2 e2 => ?_⟩)⟩)
  rw [e2, flM_w w]
  exact hq z hz
/-- the first kind whose word is at p; 6: none -/
def kdf (S : NS) (p : Nat) : Nat → Int
  | 0 => 6
  | k + 1 => if wd S (litB (wdK (((6 - (k + 1) : Nat)) : Int))) p = true then ((6 - (k + 1) : Nat) : Int) else kdf S p k
def kd (S : NS) (p : Nat) : Int := kdf S p 6
theorem kdf_r (S : NS) (p : Nat) : ∀ k, 0 ≤ kdf S p k ∧ kdf S p k ≤ 6 := by
  intro k
  induction k with
  | zero => exact ⟨show (0 : Int) ≤ 6 by decide, show (6 : Int) ≤ 6 by decide⟩
  | succ k ih =>
    show 0 ≤ (if wd S (litB (wdK (((6 - (k + 1) : Nat)) : Int))) p = true then ((6 - (k + 1) : Nat) : Int) else kdf S p k) ∧ (if wd S (litB (wdK (((6 - (k + 1) : Nat)) : Int))) p = true then ((6 - (k + 1) : Nat) : Int) else kdf S p k) ≤ 6
    split <;> omega
theorem wdK_12 (k : Int) : wdK k < 12 := by
  unfold wdK
  (repeat' split) <;> omega
theorem ct_readKind (hd : 6 ≤ d) {S : NS} (hV : VN S) {p : Nat} (hp : p ≤ tl S) (hT : RT S p mem)
    (hq1 : kd S p ≤ 5 → ∀ m' : Mem, AT S p m' → r31 mem m' → Q (some (vI (kd S p))) m')
    (hq2 : ¬ (kd S p ≤ 5) → ∀ (m' : Mem), WR S (sk S p) m' → r31 mem m' → Q (some (vI 0)) m') : C_X4_readKind G d [vR 31] mem Q := by
  refine B_X4_readKind (by omega) (ct_adv (by omega) hV hp hT (fun m1 a1 f1 => ⟨rfl, ?_⟩))
  have lp := it_loop (n := 6) (E := fun k => kd S p = kdf S p (6 - k) → E_X4_readKind G d 6 [(0, vR 31), (1, vI k)] [] m1 Q) ?_ ?_ 0 (by omega) rfl
  · exact lp
  · intro h
    have h6 : kd S p = 6 := h
    refine B_X4_readKind_6 (by omega) ⟨by omega, fun _ m2 e2 => ?_, fun z => absurd (by omega) z⟩
    have w := a1.fl hp
    rw [← e2] at w
    exact hq2 (by omega) m2 w.1 (r31_t f1 w.2)
  · intro k hk hE h
    rw [show 6 - k = (6 - (k + 1)) + 1 by omega] at h
    have h' : kd S p = if wd S (litB (wdK (((6 - (6 - (k + 1) + 1) : Nat)) : Int))) p = true then ((6 - (6 - (k + 1) + 1) : Nat) : Int) else kdf S p (6 - (k + 1)) := h
    rw [show 6 - (6 - (k + 1) + 1) = k by omega] at h'
    refine B_X4_readKind_6 (by omega) ⟨by omega, fun z => by omega, fun _ => ct_isWord (by omega) hV hp (wdK_12 _) a1 ⟨_, rfl, bz_inr _, fun z => hE ?_, fun z => ?_⟩⟩
    · rw [if_neg (bz_0.mp z)] at h'; exact h'
    · rw [if_pos (bz_n0.mp z)] at h'
      rw [← h']
      exact hq1 (by omega) m1 a1 f1
/-! an item: -1 or where the fault is; the state; how far -/
noncomputable def iF (c : Prop) (x y : Int × NS × Nat) : Int × NS × Nat := @ite _ c (Classical.propDecidable _) x y
theorem iF_t {c : Prop} {x y : Int × NS × Nat} (h : c) : iF c x y = x := if_pos h
theorem iF_f {c : Prop} {x y : Int × NS × Nat} (h : ¬ c) : iF c x y = y := if_neg h
def fS (S : NS) (p : Nat) : Int × NS × Nat := ((sk S p : Nat), S, 0)
noncomputable def iMk (S : NS) (p : Nat) : Int × NS × Nat := iF (kd S p ≤ 5) (iF (1 ≤ nv S (nx S p) ∧ nv S (nx S p) ≤ 99) (iF (1 ≤ nv S (nx S (nx S p)) ∧ nv S (nx S (nx S p)) ≤ 9) (-1, aM S (kd S p) (nv S (nx S p)) (nv S (nx S (nx S p))), nx S (nx S (nx S p))) (fS S (nx S (nx S p)))) (fS S (nx S p))) (fS S p)
noncomputable def iTie (S : NS) (p : Nat) : Int × NS × Nat := iF (0 ≤ nv S p ∧ nv S p ≤ S 0 - 1) (iF ((0 ≤ nv S (nx S p) ∧ nv S (nx S p) ≤ S 0 - 1) ∧ nv S p ≠ nv S (nx S p)) (iF (1 ≤ nv S (nx S (nx S p)) ∧ nv S (nx S (nx S p)) ≤ 99) (-1, sU S (41 + 12 * nv S p + nv S (nx S p)) (nv S (nx S (nx S p))), nx S (nx S (nx S p))) (fS S (nx S (nx S p)))) (fS S (nx S p))) (fS S p)
noncomputable def iSay (S : NS) (p : Nat) : Int × NS × Nat := iF (0 ≤ nv S p ∧ nv S p ≤ S 0 - 1) (iF ((0 ≤ nv S (nx S p) ∧ nv S (nx S p) ≤ S 0 - 1) ∧ nv S p ≠ nv S (nx S p) ∧ S (41 + 12 * nv S p + nv S (nx S p)) ≠ 0) (iF (wd S (litB 9) (nx S (nx S p)) = true ∨ wd S (litB 10) (nx S (nx S p)) = true) (-1, aS S (nv S p) (nv S (nx S p)) (bz (wd S (litB 9) (nx S (nx S p)) = true)), nx S (nx S (nx S p))) (fS S (nx S (nx S p)))) (fS S (nx S p))) (fS S p)
noncomputable def iMost (S : NS) (p : Nat) : Int × NS × Nat := iF (0 ≤ nv S p ∧ nv S p ≤ 12) (-1, sU S 2 (nv S p), nx S p) (fS S p)
noncomputable def itm (S : NS) (p : Nat) : Int × NS × Nat := iF (wd S (litB 0) p = true) (iF (S 0 < 12) (iMk S (nx S p)) (fS S p)) (iF (wd S (litB 7) p = true) (iTie S (nx S p)) (iF (wd S (litB 8) p = true) (iF (S 1 < 60) (iSay S (nx S p)) (fS S p)) (iF (wd S (litB 11) p = true) (iMost S (nx S p)) (fS S p))))
end RD
