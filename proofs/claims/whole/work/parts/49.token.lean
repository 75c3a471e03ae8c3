/-! ===== texts: literals, tokens ===== -/
theorem lit_tab : ∀ t, t < 25 → (litB t).length ≤ 8 ∧ ∀ k, k < (litB t).length → 0 ≤ (litB t).getD k 0 ∧ (litB t).getD k 0 < 128 := by decide +kernel
theorem lit_lr {t : Nat} (ht : t < 25) : inr ((litB t).length : Int) := by have := (lit_tab t ht).1; omega
theorem lit_chr' {t : Nat} (ht : t < 25) (k : Nat) : 0 ≤ (litB t).getD k 0 ∧ (litB t).getD k 0 < 128 := by
  by_cases h : k < (litB t).length
  · exact (lit_tab t ht).2 k h
  · rw [List.getD_eq_getElem?_getD, List.getElem?_eq_none (by omega)]; decide
theorem lit_chr {t : Nat} (ht : t < 25) (k : Nat) : inr ((litB t).getD k 0) := by have := lit_chr' ht k; omega
theorem nar_char : ∀ z : Nat, z < 128 → i2c (iand (z : Int) 255) = z ∧ narrow .char (.int (Int32.ofInt (z : Int))) = .int (Int32.ofInt (z : Int)) := by decide +kernel
def wdK (k : Int) : Nat := if k = 1 then 1 else if k = 2 then 2 else if k = 3 then 3 else if k = 4 then 4 else if k = 5 then 5 else 6
theorem wdK_lt (k : Int) : wdK k < 25 := by
  unfold wdK
  (repeat' split) <;> omega
noncomputable def flM (mem : Mem) : Mem := @ite Mem (mem 31 4 = -1) (Classical.propDecidable _) (upM mem 31 4 (mem 31 2)) mem
def tyB (v : Int) : Int := if 97 ≤ v ∧ v ≤ 122 then 1 else if 48 ≤ v ∧ v ≤ 57 then 2 else 3
theorem tyB_r (v : Int) : 1 ≤ tyB v ∧ tyB v ≤ 3 := by unfold tyB; (repeat' split) <;> omega
theorem tyB_inr (v : Int) : inr (tyB v) := by have := tyB_r v; omega
theorem tyB_1 {v : Int} : tyB v = 1 ↔ (97 ≤ v ∧ v ≤ 122) := by unfold tyB; (repeat' split) <;> omega
theorem tyB_2 {v : Int} : tyB v = 2 ↔ (48 ≤ v ∧ v ≤ 57) := by unfold tyB; (repeat' split) <;> omega
theorem tyB_sgb {v : Int} (h0 : 0 ≤ v) (h1 : v ≤ 255) : tyB (sgb v) = tyB v := by unfold tyB sgb; (repeat' split) <;> omega
theorem sgb_eq {v c : Int} (h0 : 0 ≤ v) (h1 : v ≤ 255) (c0 : 0 ≤ c) (c1 : c < 128) : sgb v = c ↔ v = c := by unfold sgb; split <;> omega
section RL
variable {G : GT} {d : Nat} {mem : Mem} {Q : Option AV → Mem → Prop}
theorem ct_len {t : Nat} (ht : t < 25) (hd : 1 ≤ d) (hq : Q (some (vI ((litB t).length : Int))) mem) : C_J0_length_8abf5 G d [vS t] mem Q := by
  refine B_J0_length_8abf5 ht hd (B_J0_coder_7d493 ht ⟨by decide +kernel, _, rfl, ?_⟩)
  have := (lit_tab t ht).1
  have e := ishr_n (a := (litB t).length) (k := 0) (by omega) (by omega)
  rw [Nat.pow_zero, Nat.div_one] at e
  rw [show ishr ((litB t).length : Int) 0 = ((litB t).length : Int) from e]
  exact hq
theorem ct_charAt {t : Nat} (ht : t < 25) (hd : 4 ≤ d) {k : Int} (h0 : 0 ≤ k) (h1 : k < ((litB t).length : Int)) (hq : Q (some (vI ((litB t).getD (Int.toNat k) 0))) mem) : C_J0_charAt_5068e G d [vS t, vI k] mem Q := by
  have l := (lit_tab t ht).1
  have c := lit_chr' ht k.toNat
  obtain ⟨z, hz⟩ : ∃ z : Nat, (litB t).getD k.toNat 0 = z := ⟨((litB t).getD k.toNat 0).toNat, by omega⟩
  have nc := nar_char z (by omega)
  refine B_J0_charAt_5068e ht (by omega) (B_J0_isLatin1_aae02 ht ⟨_, rfl, by decide, fun h => absurd h (by decide), fun _ => ?_⟩)
  refine B_J1_charAt_3b067 ht (by omega) (B_J0_checkIndex_df160 (by omega) (B_J3_checkIndex_8e157 (by omega) ⟨by omega, fun h => by omega, fun _ => ⟨by omega, fun _ => ⟨_, rfl, rfl, ?_⟩, fun h => absurd h1 h⟩⟩))
  rw [hz] at hq ⊢
  rw [nc.1]
  exact ⟨⟨h0, h1⟩, nc.2, _, rfl, nc.2, hq⟩
theorem ct_isRight (hq : Q (some (vI (bz (mem 31 4 = -1)))) mem) : C_X4_isRight G d [vR 31] mem Q := by
  refine B_X4_isRight ⟨fun h => ?_, fun h => ?_⟩
  · rw [bz_f h] at hq; exact hq
  · rw [bz_t (by omega)] at hq; exact hq
theorem ct_fail (hd : 1 ≤ d) (hq : Q none (flM mem)) : C_X4_fail G d [vR 31] mem Q := by
  refine B_X4_fail hd (ct_isRight ⟨_, rfl, bz_inr _, fun h => ?_, fun h m7 e => ?_⟩)
  · unfold flM at hq
    rw [if_neg (bz_0.mp h)] at hq
    exact hq
  · unfold flM at hq
    rw [if_pos (bz_n0.mp h)] at hq
    rw [e]; exact hq
theorem ct_typeAt {k : Int} (h0 : 0 ≤ k) (h1 : k < 80) (hq : Q (some (vI (tyB (mem 29 k)))) mem) : C_X4_typeAt G d [vR 31, vI k] mem Q := by
  unfold tyB at hq
  refine B_X4_typeAt ⟨⟨h0, h1⟩, ?_⟩
  (repeat' first | apply And.intro | intro _) <;> first | (rw [if_neg (by omega), if_neg (by omega)] at hq; exact hq) | (rw [if_neg (by omega), if_pos (by omega)] at hq; exact hq) | (rw [if_pos (by omega)] at hq; exact hq)
theorem ct_wordOf {k : Int} (h0 : inr k) (hq : Q (some (vS (wdK k))) mem) : C_X4_wordOf G d [vI k] mem Q := by
  unfold wdK at hq
  refine B_X4_wordOf ⟨h0, fun h => ?_, fun h => ?_, fun h => ?_, fun h => ?_, fun h => ?_, fun h => ?_⟩
  · rw [if_pos h] at hq; exact hq
  · rw [if_neg (by omega), if_pos h] at hq; exact hq
  · rw [if_neg (by omega), if_neg (by omega), if_pos h] at hq; exact hq
  · rw [if_neg (by omega), if_neg (by omega), if_neg (by omega), if_pos h] at hq; exact hq
  · rw [if_neg (by omega), if_neg (by omega), if_neg (by omega), if_neg (by omega), if_pos h] at hq; exact hq
  · rw [if_neg (by omega), if_neg (by omega), if_neg (by omega), if_neg (by omega), if_neg (by omega)] at hq; exact hq
end RL
/-! tokens -/
def tl (S : NS) : Nat := (S 3).toNat
def tc (S : NS) (i : Nat) : Int := S (425 + (i : Int))
def skf (S : NS) : Nat → Nat → Nat
  | 0, p => p
  | k + 1, p => if tc S p = 32 then skf S k (p + 1) else p
def sk (S : NS) (p : Nat) : Nat := skf S (tl S - p) p
def rnf (S : NS) (y : Int) : Nat → Nat → Nat
  | 0, p => p
  | k + 1, p => if tyB (tc S p) = y then rnf S y k (p + 1) else p
def rn (S : NS) (y : Int) (p : Nat) : Nat := rnf S y (tl S - p) p
def tt (S : NS) (f : Nat) : Int := if f < tl S then tyB (tc S f) else 0
def en (S : NS) (f : Nat) : Nat := if f < tl S then (if tyB (tc S f) = 3 then f + 1 else rn S (tyB (tc S f)) (f + 1)) else f
def nx (S : NS) (p : Nat) : Nat := en S (sk S p)
theorem sk_t {S : NS} {p : Nat} (h : p < tl S) (h2 : tc S p = 32) : sk S p = sk S (p + 1) := by
  unfold sk
  rw [show tl S - p = (tl S - (p + 1)) + 1 by omega]
  exact if_pos h2
theorem sk_f {S : NS} {p : Nat} (h : ¬ (p < tl S ∧ tc S p = 32)) : sk S p = p := by
  unfold sk
  by_cases e : p < tl S
  · rw [show tl S - p = (tl S - (p + 1)) + 1 by omega]
    exact if_neg (fun x => h ⟨e, x⟩)
  · rw [show tl S - p = 0 by omega]; rfl
theorem rn_t {S : NS} {y : Int} {p : Nat} (h : p < tl S) (h2 : tyB (tc S p) = y) : rn S y p = rn S y (p + 1) := by
  unfold rn
  rw [show tl S - p = (tl S - (p + 1)) + 1 by omega]
  exact if_pos h2
theorem rn_f {S : NS} {y : Int} {p : Nat} (h : ¬ (p < tl S ∧ tyB (tc S p) = y)) : rn S y p = p := by
  unfold rn
  by_cases e : p < tl S
  · rw [show tl S - p = (tl S - (p + 1)) + 1 by omega]
    exact if_neg (fun x => h ⟨e, x⟩)
  · rw [show tl S - p = 0 by omega]; rfl
theorem sk_r {S : NS} : ∀ k p, tl S - p = k → p ≤ tl S → p ≤ sk S p ∧ sk S p ≤ tl S := by
  intro k
  induction k with
  | zero => intro p h h2; rw [sk_f (by omega)]; omega
  | succ k ih =>
    intro p h h2
    by_cases e : tc S p = 32
    · rw [sk_t (by omega) e]; have := ih (p + 1) (by omega) (by omega); omega
    · rw [sk_f (fun x => e x.2)]; omega
theorem rn_r {S : NS} {y : Int} : ∀ k p, tl S - p = k → p ≤ tl S → p ≤ rn S y p ∧ rn S y p ≤ tl S := by
  intro k
  induction k with
  | zero => intro p h h2; rw [rn_f (by omega)]; omega
  | succ k ih =>
    intro p h h2
    by_cases e : tyB (tc S p) = y
    · rw [rn_t (by omega) e]; have := ih (p + 1) (by omega) (by omega); omega
    · rw [rn_f (fun x => e x.2)]; omega
theorem sk_le {S : NS} {p : Nat} (h : p ≤ tl S) : p ≤ sk S p ∧ sk S p ≤ tl S := sk_r _ p rfl h
theorem en_le {S : NS} {f : Nat} (h : f ≤ tl S) : f ≤ en S f ∧ en S f ≤ tl S ∧ (f < tl S → f < en S f) := by
  unfold en
  by_cases e : f < tl S
  · rw [if_pos e]
    split
    · omega
    · have := rn_r (S := S) (y := tyB (tc S f)) _ (f + 1) rfl (by omega); omega
  · rw [if_neg e]; omega
theorem nx_le {S : NS} {p : Nat} (h : p ≤ tl S) : sk S p ≤ nx S p ∧ nx S p ≤ tl S ∧ p ≤ nx S p ∧ (sk S p < tl S → sk S p < nx S p) := by
  have a := sk_le h
  have b := en_le a.2
  unfold nx
  exact ⟨b.1, b.2.1, by omega, b.2.2⟩
theorem tt_r (S : NS) (f : Nat) : 0 ≤ tt S f ∧ tt S f ≤ 3 := by unfold tt; split <;> (try have := tyB_r (tc S f)) <;> omega
theorem tl_VN {S : NS} (hV : VN S) : (tl S : Int) = S 3 ∧ tl S ≤ 80 := by have := hV.2.2.2.1; unfold tl; omega
theorem tc_VN {S : NS} (hV : VN S) {i : Nat} (hi : i < 80) : 0 ≤ tc S i ∧ tc S i ≤ 255 := hV.2.2.2.2.2.2.2.2.2 i (by omega) (by omega)
/-- whether the token from p is a word -/
def wdk (S : NS) (l : List Int) (f : Nat) : Nat → Bool
  | 0 => true
  | k + 1 => wdk S l f k && decide (tc S (f + k) = l.getD k 0)
def wd (S : NS) (l : List Int) (p : Nat) : Bool := decide (nx S p - sk S p = l.length) && wdk S l (sk S p) l.length
theorem wdk_iff {S : NS} {l : List Int} {f : Nat} : ∀ n, wdk S l f n = true ↔ ∀ k, k < n → tc S (f + k) = l.getD k 0 := by
  intro n
  induction n with
  | zero => exact ⟨fun _ k hk => absurd hk (Nat.not_lt_zero _), fun _ => rfl⟩
  | succ n ih =>
    show (wdk S l f n && decide (tc S (f + n) = l.getD n 0)) = true ↔ _
    rw [Bool.and_eq_true, ih, decide_eq_true_iff]
    constructor
    · intro h k hk
      by_cases e : k = n
      · subst e; exact h.2
      · exact h.1 k (by omega)
    · intro h
      exact ⟨fun k hk => h k (by omega), h n (by omega)⟩
theorem wd_iff {S : NS} {l : List Int} {p : Nat} : wd S l p = true ↔ (nx S p - sk S p = l.length ∧ ∀ k, k < l.length → tc S (sk S p + k) = l.getD k 0) := by
  unfold wd
  rw [Bool.and_eq_true, decide_eq_true_iff, wdk_iff]
/-- the number of at most three digits at p; -1: none -/
def vlf (S : NS) (f : Nat) : Nat → Int
  | 0 => 0
  | k + 1 => vlf S f k * 10 + tc S (f + k) - 48
def nv (S : NS) (p : Nat) : Int := if tt S (sk S p) = 2 ∧ nx S p - sk S p ≤ 3 then vlf S (sk S p) (nx S p - sk S p) else -1
