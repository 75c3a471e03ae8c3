/-! ===== contracts that write ===== -/
section L3
variable {G : GT} {d : Nat} {mem : Mem} {Q : Option AV → Mem → Prop}
def mkM (mem : Mem) (k p c : Int) : Mem := upM (upM (upM (upM mem 72 (5 + 3 * mem 72 0 + 0) k) 72 (5 + 3 * mem 72 0 + 1) p) 72 (5 + 3 * mem 72 0 + 2) c) 72 0 (mem 72 0 + 1)
theorem ct_makes {k p c : Int} (h0 : 0 ≤ mem 72 0) (h1 : mem 72 0 < 12) (hk : inr k) (hp : inr p) (hc : inr c) (hq : Q none (mkM mem k p c)) : C_X11_makes G d [vR 71, vI k, vI p, vI c] mem Q := by
  refine B_X11_makes ⟨by omega, hk, fun m4 e4 => ⟨by omega, hp, fun m8 e8 => ⟨by omega, hc, fun m12 e12 => ?_⟩⟩⟩
  have r12 : m12 72 0 = mem 72 0 := by rw [e12, upM_ne (by omega), e8, upM_ne (by omega), e4, upM_ne (by omega)]
  rw [r12]
  refine ⟨by omega, fun m15 e15 => ?_⟩
  rw [e15, e12, e8, e4]
  exact hq
def ssM (mem : Mem) (i j w : Int) : Mem := upM (upM (upM (upM (upM mem 72 (185 + 4 * mem 72 1 + 0) i) 72 (185 + 4 * mem 72 1 + 1) j) 72 (185 + 4 * mem 72 1 + 2) (if w = 0 then 0 else 1)) 72 (185 + 4 * mem 72 1 + 3) 1) 72 1 (mem 72 1 + 1)
theorem ct_saysSo {i j w : Int} (h0 : 0 ≤ mem 72 1) (h1 : mem 72 1 < 60) (hi : inr i) (hj : inr j) (hw : inr w) (hq : Q none (ssM mem i j w)) : C_X11_saysSo G d [vR 71, vI i, vI j, vI w] mem Q := by
  unfold ssM at hq
  refine B_X11_saysSo ⟨by omega, hi, fun m4 e4 => ⟨by omega, hj, fun m8 e8 => ⟨hw, fun z => ⟨by omega, fun m15 e15 => ⟨by omega, fun m18 e18 => ?_⟩⟩, fun z => ⟨by omega, fun m15 e15 => ⟨by omega, fun m18 e18 => ?_⟩⟩⟩⟩⟩ <;> (
    have r18 : m18 72 1 = mem 72 1 := by rw [e18, upM_ne (by omega), e15, upM_ne (by omega), e8, upM_ne (by omega), e4, upM_ne (by omega)]
    rw [r18]
    refine ⟨by omega, fun m20 e20 => ?_⟩
    rw [e20, e18, e15, e8, e4])
  · rw [if_pos z] at hq; exact hq
  · rw [if_neg z] at hq; exact hq
theorem cpM_s {ka kb : Nat} {i : Int} (hne : ka ≠ kb) (hi : 0 ≤ i) : upM (cpM mem ka kb 0 0 i) kb i (cpM mem ka kb 0 0 i ka i) = cpM mem ka kb 0 0 (i + 1) := by
  have e : cpM mem ka kb 0 0 i ka i = mem ka i := by unfold cpM; rw [if_neg (fun z => hne z.1)]
  rw [e]
  funext a b
  by_cases h1 : a = kb ∧ b = i
  · rw [h1.1, h1.2, upM_same]
    unfold cpM
    rw [if_pos ⟨rfl, by omega, by omega⟩]
    congr 1
    omega
  · rw [upM_ne h1]
    unfold cpM
    by_cases h2 : a = kb ∧ 0 ≤ b ∧ b < 0 + i
    · rw [if_pos h2, if_pos ⟨h2.1, by omega, by omega⟩]
    · rw [if_neg h2, if_neg (fun z => h2 ⟨z.1, by omega, by omega⟩)]
theorem ct_copy {ka kb : Nat} (ha : isN ka) (hb : isN kb) (hne : ka ≠ kb) (hq : Q none (cpM mem ka kb 0 0 553)) : C_X11_copy G d [vR ka, vR kb] mem Q := by
  refine B_X11_copy ha hb ?_
  have lp : ∀ n i : Nat, i + n = 553 → E_X11_copy G d 2 [(0, vR ka), (1, vR kb), (2, vI i)] [] (cpM mem ka kb 0 0 i) Q := by
    intro n
    induction n with
    | zero =>
      intro i hi
      refine B_X11_copy_2 ha hb ⟨by omega, fun _ => ?_, fun z => absurd (by omega) z⟩
      rw [show i = 553 by omega]
      exact hq
    | succ n ih =>
      intro i hi
      refine B_X11_copy_2 ha hb ⟨by omega, fun z => by omega, fun _ => ⟨by omega, fun m e => ?_⟩⟩
      rw [e, cpM_s hne (by omega)]
      exact ih (i + 1) (by omega)
  have e0 : cpM mem ka kb 0 0 ((0 : Nat) : Int) = mem := by
    funext a b
    unfold cpM
    rw [if_neg (by omega)]
  have h9 := lp 553 0 rfl
  rw [e0] at h9
  exact h9
/-- hall h is as hall g was -/
def cfP (mem mem' : Mem) (h g : Nat) : Prop := mem' h 0 = mem g 0 ∧ (∀ b : Int, 0 ≤ b → b < 12 → mem' (h + 1) b = mem (g + 1) b) ∧ (∀ b : Int, 0 ≤ b → b < 12 → mem' (h + 2) b = mem (g + 2) b) ∧ (∀ b : Int, 0 ≤ b → b < 12 → mem' (h + 3) b = mem (g + 3) b) ∧ (∀ b : Int, 0 ≤ b → b < 12 → mem' (h + 4) b = mem (g + 4) b) ∧ (∀ b : Int, 0 ≤ b → b < 144 → mem' (h + 5) b = mem (g + 5) b) ∧ mem' h 6 = mem g 6 ∧ (∀ b : Int, 0 ≤ b → b < 60 → mem' (h + 6) b = mem (g + 6) b) ∧ (∀ b : Int, 0 ≤ b → b < 60 → mem' (h + 7) b = mem (g + 7) b) ∧ mem' h 9 = mem g 9 ∧ mem' h 10 = mem g 10 ∧ mem' h 11 = mem g 11 ∧ (∀ b : Int, 0 ≤ b → b < 80 → mem' (h + 8) b = mem (g + 8) b) ∧ mem' h 13 = mem g 13 ∧ (∀ b : Int, 0 ≤ b → b < 48 → mem' (h + 9) b = mem (g + 9) b) ∧ mem' h 15 = mem g 15 ∧ mem' h 16 = 1 ∧ (∀ (a : Nat) (b : Int), a < h ∨ h + 10 ≤ a → mem' a b = mem a b)
set_option maxHeartbeats 4000000 in
theorem ct_copyFrom {h g : Nat} (hh : isH h) (hg : isH g) (hne : h ≠ g) (hd : 1 ≤ d) (hb : ∀ i : Int, 0 ≤ i → i < 80 → -128 ≤ mem (g + 8) i ∧ mem (g + 8) i < 128) (hq : ∀ mem', cfP mem mem' h g → Q none mem') : C_X2_copyFrom G d [vR h, vR g] mem Q := by
  have hg2 : ∀ c : Nat, c < 10 → (g + c < h ∨ h + 10 ≤ g + c) := by
    intro c hc
    rcases hh with rfl | rfl | rfl <;> rcases hg with rfl | rfl | rfl <;> omega
  have hg0 : g < h ∨ h + 10 ≤ g := hg2 0 (by decide)
  refine B_X2_copyFrom hh hg hd ?_
  intro m1 e1
  have f1 : ∀ (a : Nat) (b : Int), a < h ∨ h + 10 ≤ a → m1 a b = mem a b := by
    intro a b q
    rw [e1, upM_ne (by omega)]
  have u0 : m1 h 0 = mem g 0 := by rw [e1, upM_same]
  intro m2 e2
  have f2 : ∀ (a : Nat) (b : Int), a < h ∨ h + 10 ≤ a → m2 a b = mem a b := by
    intro a b q
    rw [e2]
    unfold cpM
    rw [if_neg (by omega)]
    exact f1 a b q
  have u0 : m2 h 0 = mem g 0 := by
    rw [e2]
    unfold cpM
    rw [if_neg (by omega)]
    exact u0
  have c1 : ∀ b : Int, 0 ≤ b → b < 12 → m2 (h + 1) b = mem (g + 1) b := by
    intro b b0 b1
    rw [e2]
    unfold cpM
    rw [if_pos ⟨rfl, by omega, by omega⟩, f1 (g + 1) _ (hg2 1 (by decide))]
    congr 1
    omega
  intro m3 e3
  have f3 : ∀ (a : Nat) (b : Int), a < h ∨ h + 10 ≤ a → m3 a b = mem a b := by
    intro a b q
    rw [e3]
    unfold cpM
    rw [if_neg (by omega)]
    exact f2 a b q
  have u0 : m3 h 0 = mem g 0 := by
    rw [e3]
    unfold cpM
    rw [if_neg (by omega)]
    exact u0
  have c1 : ∀ b : Int, 0 ≤ b → b < 12 → m3 (h + 1) b = mem (g + 1) b := by
    intro b b0 b1
    rw [e3]
    unfold cpM
    rw [if_neg (by omega)]
    exact c1 b b0 b1
  have c2 : ∀ b : Int, 0 ≤ b → b < 12 → m3 (h + 2) b = mem (g + 2) b := by
    intro b b0 b1
    rw [e3]
    unfold cpM
    rw [if_pos ⟨rfl, by omega, by omega⟩, f2 (g + 2) _ (hg2 2 (by decide))]
    congr 1
    omega
  intro m4 e4
  have f4 : ∀ (a : Nat) (b : Int), a < h ∨ h + 10 ≤ a → m4 a b = mem a b := by
    intro a b q
    rw [e4]
    unfold cpM
    rw [if_neg (by omega)]
    exact f3 a b q
  have u0 : m4 h 0 = mem g 0 := by
    rw [e4]
    unfold cpM
    rw [if_neg (by omega)]
    exact u0
  have c1 : ∀ b : Int, 0 ≤ b → b < 12 → m4 (h + 1) b = mem (g + 1) b := by
    intro b b0 b1
    rw [e4]
    unfold cpM
    rw [if_neg (by omega)]
    exact c1 b b0 b1
  have c2 : ∀ b : Int, 0 ≤ b → b < 12 → m4 (h + 2) b = mem (g + 2) b := by
    intro b b0 b1
    rw [e4]
    unfold cpM
    rw [if_neg (by omega)]
    exact c2 b b0 b1
  have c3 : ∀ b : Int, 0 ≤ b → b < 12 → m4 (h + 3) b = mem (g + 3) b := by
    intro b b0 b1
    rw [e4]
    unfold cpM
    rw [if_pos ⟨rfl, by omega, by omega⟩, f3 (g + 3) _ (hg2 3 (by decide))]
    congr 1
    omega
  intro m5 e5
  have f5 : ∀ (a : Nat) (b : Int), a < h ∨ h + 10 ≤ a → m5 a b = mem a b := by
    intro a b q
    rw [e5]
    unfold cpM
    rw [if_neg (by omega)]
    exact f4 a b q
  have u0 : m5 h 0 = mem g 0 := by
    rw [e5]
    unfold cpM
    rw [if_neg (by omega)]
    exact u0
  have c1 : ∀ b : Int, 0 ≤ b → b < 12 → m5 (h + 1) b = mem (g + 1) b := by
    intro b b0 b1
    rw [e5]
    unfold cpM
    rw [if_neg (by omega)]
    exact c1 b b0 b1
  have c2 : ∀ b : Int, 0 ≤ b → b < 12 → m5 (h + 2) b = mem (g + 2) b := by
    intro b b0 b1
    rw [e5]
    unfold cpM
    rw [if_neg (by omega)]
    exact c2 b b0 b1
  have c3 : ∀ b : Int, 0 ≤ b → b < 12 → m5 (h + 3) b = mem (g + 3) b := by
    intro b b0 b1
    rw [e5]
    unfold cpM
    rw [if_neg (by omega)]
    exact c3 b b0 b1
  have c4 : ∀ b : Int, 0 ≤ b → b < 12 → m5 (h + 4) b = mem (g + 4) b := by
    intro b b0 b1
    rw [e5]
    unfold cpM
    rw [if_pos ⟨rfl, by omega, by omega⟩, f4 (g + 4) _ (hg2 4 (by decide))]
    congr 1
    omega
  intro m6 e6
  have f6 : ∀ (a : Nat) (b : Int), a < h ∨ h + 10 ≤ a → m6 a b = mem a b := by
    intro a b q
    rw [e6]
    unfold cpM
    rw [if_neg (by omega)]
    exact f5 a b q
  have u0 : m6 h 0 = mem g 0 := by
    rw [e6]
    unfold cpM
    rw [if_neg (by omega)]
    exact u0
  have c1 : ∀ b : Int, 0 ≤ b → b < 12 → m6 (h + 1) b = mem (g + 1) b := by
    intro b b0 b1
    rw [e6]
    unfold cpM
    rw [if_neg (by omega)]
    exact c1 b b0 b1
  have c2 : ∀ b : Int, 0 ≤ b → b < 12 → m6 (h + 2) b = mem (g + 2) b := by
    intro b b0 b1
    rw [e6]
    unfold cpM
    rw [if_neg (by omega)]
    exact c2 b b0 b1
  have c3 : ∀ b : Int, 0 ≤ b → b < 12 → m6 (h + 3) b = mem (g + 3) b := by
    intro b b0 b1
    rw [e6]
    unfold cpM
    rw [if_neg (by omega)]
    exact c3 b b0 b1
  have c4 : ∀ b : Int, 0 ≤ b → b < 12 → m6 (h + 4) b = mem (g + 4) b := by
    intro b b0 b1
    rw [e6]
    unfold cpM
    rw [if_neg (by omega)]
    exact c4 b b0 b1
  have c5 : ∀ b : Int, 0 ≤ b → b < 144 → m6 (h + 5) b = mem (g + 5) b := by
    intro b b0 b1
    rw [e6]
    unfold cpM
    rw [if_pos ⟨rfl, by omega, by omega⟩, f5 (g + 5) _ (hg2 5 (by decide))]
    congr 1
    omega
  intro m7 e7
  have f7 : ∀ (a : Nat) (b : Int), a < h ∨ h + 10 ≤ a → m7 a b = mem a b := by
    intro a b q
    rw [e7, upM_ne (by omega)]; exact f6 a b q
  have u0 : m7 h 0 = mem g 0 := by rw [e7, upM_ne (by omega)]; exact u0
  have c1 : ∀ b : Int, 0 ≤ b → b < 12 → m7 (h + 1) b = mem (g + 1) b := by
    intro b b0 b1
    rw [e7, upM_ne (by omega)]; exact c1 b b0 b1
  have c2 : ∀ b : Int, 0 ≤ b → b < 12 → m7 (h + 2) b = mem (g + 2) b := by
    intro b b0 b1
    rw [e7, upM_ne (by omega)]; exact c2 b b0 b1
  have c3 : ∀ b : Int, 0 ≤ b → b < 12 → m7 (h + 3) b = mem (g + 3) b := by
    intro b b0 b1
    rw [e7, upM_ne (by omega)]; exact c3 b b0 b1
  have c4 : ∀ b : Int, 0 ≤ b → b < 12 → m7 (h + 4) b = mem (g + 4) b := by
    intro b b0 b1
    rw [e7, upM_ne (by omega)]; exact c4 b b0 b1
  have c5 : ∀ b : Int, 0 ≤ b → b < 144 → m7 (h + 5) b = mem (g + 5) b := by
    intro b b0 b1
    rw [e7, upM_ne (by omega)]; exact c5 b b0 b1
  have u6 : m7 h 6 = mem g 6 := by rw [e7, upM_same]; exact f6 g 6 hg0
  intro m8 e8
  have f8 : ∀ (a : Nat) (b : Int), a < h ∨ h + 10 ≤ a → m8 a b = mem a b := by
    intro a b q
    rw [e8]
    unfold cpM
    rw [if_neg (by omega)]
    exact f7 a b q
  have u0 : m8 h 0 = mem g 0 := by
    rw [e8]
    unfold cpM
    rw [if_neg (by omega)]
    exact u0
  have c1 : ∀ b : Int, 0 ≤ b → b < 12 → m8 (h + 1) b = mem (g + 1) b := by
    intro b b0 b1
    rw [e8]
    unfold cpM
    rw [if_neg (by omega)]
    exact c1 b b0 b1
  have c2 : ∀ b : Int, 0 ≤ b → b < 12 → m8 (h + 2) b = mem (g + 2) b := by
    intro b b0 b1
    rw [e8]
    unfold cpM
    rw [if_neg (by omega)]
    exact c2 b b0 b1
  have c3 : ∀ b : Int, 0 ≤ b → b < 12 → m8 (h + 3) b = mem (g + 3) b := by
    intro b b0 b1
    rw [e8]
    unfold cpM
    rw [if_neg (by omega)]
    exact c3 b b0 b1
  have c4 : ∀ b : Int, 0 ≤ b → b < 12 → m8 (h + 4) b = mem (g + 4) b := by
    intro b b0 b1
    rw [e8]
    unfold cpM
    rw [if_neg (by omega)]
    exact c4 b b0 b1
  have c5 : ∀ b : Int, 0 ≤ b → b < 144 → m8 (h + 5) b = mem (g + 5) b := by
    intro b b0 b1
    rw [e8]
    unfold cpM
    rw [if_neg (by omega)]
    exact c5 b b0 b1
  have u6 : m8 h 6 = mem g 6 := by
    rw [e8]
    unfold cpM
    rw [if_neg (by omega)]
    exact u6
  have c6 : ∀ b : Int, 0 ≤ b → b < 60 → m8 (h + 6) b = mem (g + 6) b := by
    intro b b0 b1
    rw [e8]
    unfold cpM
    rw [if_pos ⟨rfl, by omega, by omega⟩, f7 (g + 6) _ (hg2 6 (by decide))]
    congr 1
    omega
  intro m9 e9
  have f9 : ∀ (a : Nat) (b : Int), a < h ∨ h + 10 ≤ a → m9 a b = mem a b := by
    intro a b q
    rw [e9]
    unfold cpM
    rw [if_neg (by omega)]
    exact f8 a b q
  have u0 : m9 h 0 = mem g 0 := by
    rw [e9]
    unfold cpM
    rw [if_neg (by omega)]
    exact u0
  have c1 : ∀ b : Int, 0 ≤ b → b < 12 → m9 (h + 1) b = mem (g + 1) b := by
    intro b b0 b1
    rw [e9]
    unfold cpM
    rw [if_neg (by omega)]
    exact c1 b b0 b1
  have c2 : ∀ b : Int, 0 ≤ b → b < 12 → m9 (h + 2) b = mem (g + 2) b := by
    intro b b0 b1
    rw [e9]
    unfold cpM
    rw [if_neg (by omega)]
    exact c2 b b0 b1
  have c3 : ∀ b : Int, 0 ≤ b → b < 12 → m9 (h + 3) b = mem (g + 3) b := by
    intro b b0 b1
    rw [e9]
    unfold cpM
    rw [if_neg (by omega)]
    exact c3 b b0 b1
  have c4 : ∀ b : Int, 0 ≤ b → b < 12 → m9 (h + 4) b = mem (g + 4) b := by
    intro b b0 b1
    rw [e9]
    unfold cpM
    rw [if_neg (by omega)]
    exact c4 b b0 b1
  have c5 : ∀ b : Int, 0 ≤ b → b < 144 → m9 (h + 5) b = mem (g + 5) b := by
    intro b b0 b1
    rw [e9]
    unfold cpM
    rw [if_neg (by omega)]
    exact c5 b b0 b1
  have u6 : m9 h 6 = mem g 6 := by
    rw [e9]
    unfold cpM
    rw [if_neg (by omega)]
    exact u6
  have c6 : ∀ b : Int, 0 ≤ b → b < 60 → m9 (h + 6) b = mem (g + 6) b := by
    intro b b0 b1
    rw [e9]
    unfold cpM
    rw [if_neg (by omega)]
    exact c6 b b0 b1
  have c7 : ∀ b : Int, 0 ≤ b → b < 60 → m9 (h + 7) b = mem (g + 7) b := by
    intro b b0 b1
    rw [e9]
    unfold cpM
    rw [if_pos ⟨rfl, by omega, by omega⟩, f8 (g + 7) _ (hg2 7 (by decide))]
    congr 1
    omega
  intro m10 e10
  have f10 : ∀ (a : Nat) (b : Int), a < h ∨ h + 10 ≤ a → m10 a b = mem a b := by
    intro a b q
    rw [e10, upM_ne (by omega)]; exact f9 a b q
  have u0 : m10 h 0 = mem g 0 := by rw [e10, upM_ne (by omega)]; exact u0
  have c1 : ∀ b : Int, 0 ≤ b → b < 12 → m10 (h + 1) b = mem (g + 1) b := by
    intro b b0 b1
    rw [e10, upM_ne (by omega)]; exact c1 b b0 b1
  have c2 : ∀ b : Int, 0 ≤ b → b < 12 → m10 (h + 2) b = mem (g + 2) b := by
    intro b b0 b1
    rw [e10, upM_ne (by omega)]; exact c2 b b0 b1
  have c3 : ∀ b : Int, 0 ≤ b → b < 12 → m10 (h + 3) b = mem (g + 3) b := by
    intro b b0 b1
    rw [e10, upM_ne (by omega)]; exact c3 b b0 b1
  have c4 : ∀ b : Int, 0 ≤ b → b < 12 → m10 (h + 4) b = mem (g + 4) b := by
    intro b b0 b1
    rw [e10, upM_ne (by omega)]; exact c4 b b0 b1
  have c5 : ∀ b : Int, 0 ≤ b → b < 144 → m10 (h + 5) b = mem (g + 5) b := by
    intro b b0 b1
    rw [e10, upM_ne (by omega)]; exact c5 b b0 b1
  have u6 : m10 h 6 = mem g 6 := by rw [e10, upM_ne (by omega)]; exact u6
  have c6 : ∀ b : Int, 0 ≤ b → b < 60 → m10 (h + 6) b = mem (g + 6) b := by
    intro b b0 b1
    rw [e10, upM_ne (by omega)]; exact c6 b b0 b1
  have c7 : ∀ b : Int, 0 ≤ b → b < 60 → m10 (h + 7) b = mem (g + 7) b := by
    intro b b0 b1
    rw [e10, upM_ne (by omega)]; exact c7 b b0 b1
  have u9 : m10 h 9 = mem g 9 := by rw [e10, upM_same]; exact f9 g 9 hg0
  intro m11 e11
  have f11 : ∀ (a : Nat) (b : Int), a < h ∨ h + 10 ≤ a → m11 a b = mem a b := by
    intro a b q
    rw [e11, upM_ne (by omega)]; exact f10 a b q
  have u0 : m11 h 0 = mem g 0 := by rw [e11, upM_ne (by omega)]; exact u0
  have c1 : ∀ b : Int, 0 ≤ b → b < 12 → m11 (h + 1) b = mem (g + 1) b := by
    intro b b0 b1
    rw [e11, upM_ne (by omega)]; exact c1 b b0 b1
  have c2 : ∀ b : Int, 0 ≤ b → b < 12 → m11 (h + 2) b = mem (g + 2) b := by
    intro b b0 b1
    rw [e11, upM_ne (by omega)]; exact c2 b b0 b1
  have c3 : ∀ b : Int, 0 ≤ b → b < 12 → m11 (h + 3) b = mem (g + 3) b := by
    intro b b0 b1
    rw [e11, upM_ne (by omega)]; exact c3 b b0 b1
  have c4 : ∀ b : Int, 0 ≤ b → b < 12 → m11 (h + 4) b = mem (g + 4) b := by
    intro b b0 b1
    rw [e11, upM_ne (by omega)]; exact c4 b b0 b1
  have c5 : ∀ b : Int, 0 ≤ b → b < 144 → m11 (h + 5) b = mem (g + 5) b := by
    intro b b0 b1
    rw [e11, upM_ne (by omega)]; exact c5 b b0 b1
  have u6 : m11 h 6 = mem g 6 := by rw [e11, upM_ne (by omega)]; exact u6
  have c6 : ∀ b : Int, 0 ≤ b → b < 60 → m11 (h + 6) b = mem (g + 6) b := by
    intro b b0 b1
    rw [e11, upM_ne (by omega)]; exact c6 b b0 b1
  have c7 : ∀ b : Int, 0 ≤ b → b < 60 → m11 (h + 7) b = mem (g + 7) b := by
    intro b b0 b1
    rw [e11, upM_ne (by omega)]; exact c7 b b0 b1
  have u9 : m11 h 9 = mem g 9 := by rw [e11, upM_ne (by omega)]; exact u9
  have u10 : m11 h 10 = mem g 10 := by rw [e11, upM_same]; exact f10 g 10 hg0
  intro m12 e12
  have f12 : ∀ (a : Nat) (b : Int), a < h ∨ h + 10 ≤ a → m12 a b = mem a b := by
    intro a b q
    rw [e12, upM_ne (by omega)]; exact f11 a b q
  have u0 : m12 h 0 = mem g 0 := by rw [e12, upM_ne (by omega)]; exact u0
  have c1 : ∀ b : Int, 0 ≤ b → b < 12 → m12 (h + 1) b = mem (g + 1) b := by
    intro b b0 b1
    rw [e12, upM_ne (by omega)]; exact c1 b b0 b1
  have c2 : ∀ b : Int, 0 ≤ b → b < 12 → m12 (h + 2) b = mem (g + 2) b := by
    intro b b0 b1
    rw [e12, upM_ne (by omega)]; exact c2 b b0 b1
  have c3 : ∀ b : Int, 0 ≤ b → b < 12 → m12 (h + 3) b = mem (g + 3) b := by
    intro b b0 b1
    rw [e12, upM_ne (by omega)]; exact c3 b b0 b1
  have c4 : ∀ b : Int, 0 ≤ b → b < 12 → m12 (h + 4) b = mem (g + 4) b := by
    intro b b0 b1
    rw [e12, upM_ne (by omega)]; exact c4 b b0 b1
  have c5 : ∀ b : Int, 0 ≤ b → b < 144 → m12 (h + 5) b = mem (g + 5) b := by
    intro b b0 b1
    rw [e12, upM_ne (by omega)]; exact c5 b b0 b1
  have u6 : m12 h 6 = mem g 6 := by rw [e12, upM_ne (by omega)]; exact u6
  have c6 : ∀ b : Int, 0 ≤ b → b < 60 → m12 (h + 6) b = mem (g + 6) b := by
    intro b b0 b1
    rw [e12, upM_ne (by omega)]; exact c6 b b0 b1
  have c7 : ∀ b : Int, 0 ≤ b → b < 60 → m12 (h + 7) b = mem (g + 7) b := by
    intro b b0 b1
    rw [e12, upM_ne (by omega)]; exact c7 b b0 b1
  have u9 : m12 h 9 = mem g 9 := by rw [e12, upM_ne (by omega)]; exact u9
  have u10 : m12 h 10 = mem g 10 := by rw [e12, upM_ne (by omega)]; exact u10
  have u11 : m12 h 11 = mem g 11 := by rw [e12, upM_same]; exact f11 g 11 hg0
  refine ⟨fun i i0 i1 => ?_, ?_⟩
  · have q := f12 (g + 8) (0 + i) (hg2 8 (by decide))
    rw [q, Int.zero_add]
    exact hb i i0 i1
  intro m13 e13
  have f13 : ∀ (a : Nat) (b : Int), a < h ∨ h + 10 ≤ a → m13 a b = mem a b := by
    intro a b q
    rw [e13]
    unfold cpM
    rw [if_neg (by omega)]
    exact f12 a b q
  have u0 : m13 h 0 = mem g 0 := by
    rw [e13]
    unfold cpM
    rw [if_neg (by omega)]
    exact u0
  have c1 : ∀ b : Int, 0 ≤ b → b < 12 → m13 (h + 1) b = mem (g + 1) b := by
    intro b b0 b1
    rw [e13]
    unfold cpM
    rw [if_neg (by omega)]
    exact c1 b b0 b1
  have c2 : ∀ b : Int, 0 ≤ b → b < 12 → m13 (h + 2) b = mem (g + 2) b := by
    intro b b0 b1
    rw [e13]
    unfold cpM
    rw [if_neg (by omega)]
    exact c2 b b0 b1
  have c3 : ∀ b : Int, 0 ≤ b → b < 12 → m13 (h + 3) b = mem (g + 3) b := by
    intro b b0 b1
    rw [e13]
    unfold cpM
    rw [if_neg (by omega)]
    exact c3 b b0 b1
  have c4 : ∀ b : Int, 0 ≤ b → b < 12 → m13 (h + 4) b = mem (g + 4) b := by
    intro b b0 b1
    rw [e13]
    unfold cpM
    rw [if_neg (by omega)]
    exact c4 b b0 b1
  have c5 : ∀ b : Int, 0 ≤ b → b < 144 → m13 (h + 5) b = mem (g + 5) b := by
    intro b b0 b1
    rw [e13]
    unfold cpM
    rw [if_neg (by omega)]
    exact c5 b b0 b1
  have u6 : m13 h 6 = mem g 6 := by
    rw [e13]
    unfold cpM
    rw [if_neg (by omega)]
    exact u6
  have c6 : ∀ b : Int, 0 ≤ b → b < 60 → m13 (h + 6) b = mem (g + 6) b := by
    intro b b0 b1
    rw [e13]
    unfold cpM
    rw [if_neg (by omega)]
    exact c6 b b0 b1
  have c7 : ∀ b : Int, 0 ≤ b → b < 60 → m13 (h + 7) b = mem (g + 7) b := by
    intro b b0 b1
    rw [e13]
    unfold cpM
    rw [if_neg (by omega)]
    exact c7 b b0 b1
  have u9 : m13 h 9 = mem g 9 := by
    rw [e13]
    unfold cpM
    rw [if_neg (by omega)]
    exact u9
  have u10 : m13 h 10 = mem g 10 := by
    rw [e13]
    unfold cpM
    rw [if_neg (by omega)]
    exact u10
  have u11 : m13 h 11 = mem g 11 := by
    rw [e13]
    unfold cpM
    rw [if_neg (by omega)]
    exact u11
  have c8 : ∀ b : Int, 0 ≤ b → b < 80 → m13 (h + 8) b = mem (g + 8) b := by
    intro b b0 b1
    rw [e13]
    unfold cpM
    rw [if_pos ⟨rfl, by omega, by omega⟩, f12 (g + 8) _ (hg2 8 (by decide))]
    congr 1
    omega
  intro m14 e14
  have f14 : ∀ (a : Nat) (b : Int), a < h ∨ h + 10 ≤ a → m14 a b = mem a b := by
    intro a b q
    rw [e14, upM_ne (by omega)]; exact f13 a b q
  have u0 : m14 h 0 = mem g 0 := by rw [e14, upM_ne (by omega)]; exact u0
  have c1 : ∀ b : Int, 0 ≤ b → b < 12 → m14 (h + 1) b = mem (g + 1) b := by
    intro b b0 b1
    rw [e14, upM_ne (by omega)]; exact c1 b b0 b1
  have c2 : ∀ b : Int, 0 ≤ b → b < 12 → m14 (h + 2) b = mem (g + 2) b := by
    intro b b0 b1
    rw [e14, upM_ne (by omega)]; exact c2 b b0 b1
  have c3 : ∀ b : Int, 0 ≤ b → b < 12 → m14 (h + 3) b = mem (g + 3) b := by
    intro b b0 b1
    rw [e14, upM_ne (by omega)]; exact c3 b b0 b1
  have c4 : ∀ b : Int, 0 ≤ b → b < 12 → m14 (h + 4) b = mem (g + 4) b := by
    intro b b0 b1
    rw [e14, upM_ne (by omega)]; exact c4 b b0 b1
  have c5 : ∀ b : Int, 0 ≤ b → b < 144 → m14 (h + 5) b = mem (g + 5) b := by
    intro b b0 b1
    rw [e14, upM_ne (by omega)]; exact c5 b b0 b1
  have u6 : m14 h 6 = mem g 6 := by rw [e14, upM_ne (by omega)]; exact u6
  have c6 : ∀ b : Int, 0 ≤ b → b < 60 → m14 (h + 6) b = mem (g + 6) b := by
    intro b b0 b1
    rw [e14, upM_ne (by omega)]; exact c6 b b0 b1
  have c7 : ∀ b : Int, 0 ≤ b → b < 60 → m14 (h + 7) b = mem (g + 7) b := by
    intro b b0 b1
    rw [e14, upM_ne (by omega)]; exact c7 b b0 b1
  have u9 : m14 h 9 = mem g 9 := by rw [e14, upM_ne (by omega)]; exact u9
  have u10 : m14 h 10 = mem g 10 := by rw [e14, upM_ne (by omega)]; exact u10
  have u11 : m14 h 11 = mem g 11 := by rw [e14, upM_ne (by omega)]; exact u11
  have c8 : ∀ b : Int, 0 ≤ b → b < 80 → m14 (h + 8) b = mem (g + 8) b := by
    intro b b0 b1
    rw [e14, upM_ne (by omega)]; exact c8 b b0 b1
  have u13 : m14 h 13 = mem g 13 := by rw [e14, upM_same]; exact f13 g 13 hg0
  intro m15 e15
  have f15 : ∀ (a : Nat) (b : Int), a < h ∨ h + 10 ≤ a → m15 a b = mem a b := by
    intro a b q
    rw [e15]
    unfold cpM
    rw [if_neg (by omega)]
    exact f14 a b q
  have u0 : m15 h 0 = mem g 0 := by
    rw [e15]
    unfold cpM
    rw [if_neg (by omega)]
    exact u0
  have c1 : ∀ b : Int, 0 ≤ b → b < 12 → m15 (h + 1) b = mem (g + 1) b := by
    intro b b0 b1
    rw [e15]
    unfold cpM
    rw [if_neg (by omega)]
    exact c1 b b0 b1
  have c2 : ∀ b : Int, 0 ≤ b → b < 12 → m15 (h + 2) b = mem (g + 2) b := by
    intro b b0 b1
    rw [e15]
    unfold cpM
    rw [if_neg (by omega)]
    exact c2 b b0 b1
  have c3 : ∀ b : Int, 0 ≤ b → b < 12 → m15 (h + 3) b = mem (g + 3) b := by
    intro b b0 b1
    rw [e15]
    unfold cpM
    rw [if_neg (by omega)]
    exact c3 b b0 b1
  have c4 : ∀ b : Int, 0 ≤ b → b < 12 → m15 (h + 4) b = mem (g + 4) b := by
    intro b b0 b1
    rw [e15]
    unfold cpM
    rw [if_neg (by omega)]
    exact c4 b b0 b1
  have c5 : ∀ b : Int, 0 ≤ b → b < 144 → m15 (h + 5) b = mem (g + 5) b := by
    intro b b0 b1
    rw [e15]
    unfold cpM
    rw [if_neg (by omega)]
    exact c5 b b0 b1
  have u6 : m15 h 6 = mem g 6 := by
    rw [e15]
    unfold cpM
    rw [if_neg (by omega)]
    exact u6
  have c6 : ∀ b : Int, 0 ≤ b → b < 60 → m15 (h + 6) b = mem (g + 6) b := by
    intro b b0 b1
    rw [e15]
    unfold cpM
    rw [if_neg (by omega)]
    exact c6 b b0 b1
  have c7 : ∀ b : Int, 0 ≤ b → b < 60 → m15 (h + 7) b = mem (g + 7) b := by
    intro b b0 b1
    rw [e15]
    unfold cpM
    rw [if_neg (by omega)]
    exact c7 b b0 b1
  have u9 : m15 h 9 = mem g 9 := by
    rw [e15]
    unfold cpM
    rw [if_neg (by omega)]
    exact u9
  have u10 : m15 h 10 = mem g 10 := by
    rw [e15]
    unfold cpM
    rw [if_neg (by omega)]
    exact u10
  have u11 : m15 h 11 = mem g 11 := by
    rw [e15]
    unfold cpM
    rw [if_neg (by omega)]
    exact u11
  have c8 : ∀ b : Int, 0 ≤ b → b < 80 → m15 (h + 8) b = mem (g + 8) b := by
    intro b b0 b1
    rw [e15]
    unfold cpM
    rw [if_neg (by omega)]
    exact c8 b b0 b1
  have u13 : m15 h 13 = mem g 13 := by
    rw [e15]
    unfold cpM
    rw [if_neg (by omega)]
    exact u13
  have c9 : ∀ b : Int, 0 ≤ b → b < 48 → m15 (h + 9) b = mem (g + 9) b := by
    intro b b0 b1
    rw [e15]
    unfold cpM
    rw [if_pos ⟨rfl, by omega, by omega⟩, f14 (g + 9) _ (hg2 9 (by decide))]
    congr 1
    omega
  intro m16 e16
  have f16 : ∀ (a : Nat) (b : Int), a < h ∨ h + 10 ≤ a → m16 a b = mem a b := by
    intro a b q
    rw [e16, upM_ne (by omega)]; exact f15 a b q
  have u0 : m16 h 0 = mem g 0 := by rw [e16, upM_ne (by omega)]; exact u0
  have c1 : ∀ b : Int, 0 ≤ b → b < 12 → m16 (h + 1) b = mem (g + 1) b := by
    intro b b0 b1
    rw [e16, upM_ne (by omega)]; exact c1 b b0 b1
  have c2 : ∀ b : Int, 0 ≤ b → b < 12 → m16 (h + 2) b = mem (g + 2) b := by
    intro b b0 b1
    rw [e16, upM_ne (by omega)]; exact c2 b b0 b1
  have c3 : ∀ b : Int, 0 ≤ b → b < 12 → m16 (h + 3) b = mem (g + 3) b := by
    intro b b0 b1
    rw [e16, upM_ne (by omega)]; exact c3 b b0 b1
  have c4 : ∀ b : Int, 0 ≤ b → b < 12 → m16 (h + 4) b = mem (g + 4) b := by
    intro b b0 b1
    rw [e16, upM_ne (by omega)]; exact c4 b b0 b1
  have c5 : ∀ b : Int, 0 ≤ b → b < 144 → m16 (h + 5) b = mem (g + 5) b := by
    intro b b0 b1
    rw [e16, upM_ne (by omega)]; exact c5 b b0 b1
  have u6 : m16 h 6 = mem g 6 := by rw [e16, upM_ne (by omega)]; exact u6
  have c6 : ∀ b : Int, 0 ≤ b → b < 60 → m16 (h + 6) b = mem (g + 6) b := by
    intro b b0 b1
    rw [e16, upM_ne (by omega)]; exact c6 b b0 b1
  have c7 : ∀ b : Int, 0 ≤ b → b < 60 → m16 (h + 7) b = mem (g + 7) b := by
    intro b b0 b1
    rw [e16, upM_ne (by omega)]; exact c7 b b0 b1
  have u9 : m16 h 9 = mem g 9 := by rw [e16, upM_ne (by omega)]; exact u9
  have u10 : m16 h 10 = mem g 10 := by rw [e16, upM_ne (by omega)]; exact u10
  have u11 : m16 h 11 = mem g 11 := by rw [e16, upM_ne (by omega)]; exact u11
  have c8 : ∀ b : Int, 0 ≤ b → b < 80 → m16 (h + 8) b = mem (g + 8) b := by
    intro b b0 b1
    rw [e16, upM_ne (by omega)]; exact c8 b b0 b1
  have u13 : m16 h 13 = mem g 13 := by rw [e16, upM_ne (by omega)]; exact u13
  have c9 : ∀ b : Int, 0 ≤ b → b < 48 → m16 (h + 9) b = mem (g + 9) b := by
    intro b b0 b1
    rw [e16, upM_ne (by omega)]; exact c9 b b0 b1
  have u15 : m16 h 15 = mem g 15 := by rw [e16, upM_same]; exact f15 g 15 hg0
  intro m17 e17
  have f17 : ∀ (a : Nat) (b : Int), a < h ∨ h + 10 ≤ a → m17 a b = mem a b := by
    intro a b q
    rw [e17, upM_ne (by omega)]; exact f16 a b q
  have u0 : m17 h 0 = mem g 0 := by rw [e17, upM_ne (by omega)]; exact u0
  have c1 : ∀ b : Int, 0 ≤ b → b < 12 → m17 (h + 1) b = mem (g + 1) b := by
    intro b b0 b1
    rw [e17, upM_ne (by omega)]; exact c1 b b0 b1
  have c2 : ∀ b : Int, 0 ≤ b → b < 12 → m17 (h + 2) b = mem (g + 2) b := by
    intro b b0 b1
    rw [e17, upM_ne (by omega)]; exact c2 b b0 b1
  have c3 : ∀ b : Int, 0 ≤ b → b < 12 → m17 (h + 3) b = mem (g + 3) b := by
    intro b b0 b1
    rw [e17, upM_ne (by omega)]; exact c3 b b0 b1
  have c4 : ∀ b : Int, 0 ≤ b → b < 12 → m17 (h + 4) b = mem (g + 4) b := by
    intro b b0 b1
    rw [e17, upM_ne (by omega)]; exact c4 b b0 b1
  have c5 : ∀ b : Int, 0 ≤ b → b < 144 → m17 (h + 5) b = mem (g + 5) b := by
    intro b b0 b1
    rw [e17, upM_ne (by omega)]; exact c5 b b0 b1
  have u6 : m17 h 6 = mem g 6 := by rw [e17, upM_ne (by omega)]; exact u6
  have c6 : ∀ b : Int, 0 ≤ b → b < 60 → m17 (h + 6) b = mem (g + 6) b := by
    intro b b0 b1
    rw [e17, upM_ne (by omega)]; exact c6 b b0 b1
  have c7 : ∀ b : Int, 0 ≤ b → b < 60 → m17 (h + 7) b = mem (g + 7) b := by
    intro b b0 b1
    rw [e17, upM_ne (by omega)]; exact c7 b b0 b1
  have u9 : m17 h 9 = mem g 9 := by rw [e17, upM_ne (by omega)]; exact u9
  have u10 : m17 h 10 = mem g 10 := by rw [e17, upM_ne (by omega)]; exact u10
  have u11 : m17 h 11 = mem g 11 := by rw [e17, upM_ne (by omega)]; exact u11
  have c8 : ∀ b : Int, 0 ≤ b → b < 80 → m17 (h + 8) b = mem (g + 8) b := by
    intro b b0 b1
    rw [e17, upM_ne (by omega)]; exact c8 b b0 b1
  have u13 : m17 h 13 = mem g 13 := by rw [e17, upM_ne (by omega)]; exact u13
  have c9 : ∀ b : Int, 0 ≤ b → b < 48 → m17 (h + 9) b = mem (g + 9) b := by
    intro b b0 b1
    rw [e17, upM_ne (by omega)]; exact c9 b b0 b1
  have u15 : m17 h 15 = mem g 15 := by rw [e17, upM_ne (by omega)]; exact u15
  have x : m17 h 16 = 1 := by rw [e17, upM_same]
  exact hq m17 ⟨u0, c1, c2, c3, c4, c5, u6, c6, c7, u9, u10, u11, c8, u13, c9, u15, x, f17⟩
theorem ct_addToTape {h : Nat} (hh : isH h) {w : Int} {n t : Nat} (hn : n ≤ 8) (ht : mem h 13 = t) (htn : t + n ≤ 80)
    (hq : ∀ mem' : Mem, mem' h 13 = (t : Int) + n → (∀ i : Nat, i < n → mem' (h + 8) ((t : Int) + i) = i2b (i2b (lshr w (8 * i)))) → (∀ (a : Nat) (b : Int), ¬ (a = h ∧ b = 13) → ¬ (a = h + 8 ∧ (t : Int) ≤ b ∧ b < (t : Int) + n) → mem' a b = mem a b) → Q (some (vI ((t : Int) + n))) mem') : C_X2_addToTape G d [vR h, vL w, vI n] mem Q := by
  refine B_X2_addToTape hh ?_
  have lp : ∀ (m i : Nat), i + m = n → ∀ mem' : Mem, mem' h 13 = (t : Int) + i → (∀ j : Nat, j < i → mem' (h + 8) ((t : Int) + j) = i2b (i2b (lshr w (8 * j)))) → (∀ (a : Nat) (b : Int), ¬ (a = h ∧ b = 13) → ¬ (a = h + 8 ∧ (t : Int) ≤ b ∧ b < (t : Int) + i) → mem' a b = mem a b) → E_X2_addToTape G d 3 [(0, vR h), (1, vL w), (3, vI n), (4, vI i)] [] mem' Q := by
    intro m
    induction m with
    | zero =>
      intro i hi mem' h1 h2 h3
      refine B_X2_addToTape_3 hh ⟨by omega, fun _ => ?_, fun z => absurd (by omega) z⟩
      have e : i = n := by omega
      subst e
      rw [h1]
      exact hq mem' h1 h2 h3
    | succ m ih =>
      intro i hi mem' h1 h2 h3
      refine B_X2_addToTape_3 hh ⟨by omega, fun z => by omega, fun _ => ⟨by omega, fun m9 e9 => ?_⟩⟩
      have r9 : m9 h 13 = (t : Int) + i := by rw [e9, upM_ne (by omega), h1]
      rw [r9]
      refine ⟨by omega, fun m11 e11 => ?_⟩
      refine ih (i + 1) (by omega) m11 ?_ ?_ ?_
      · rw [e11, upM_same]; omega
      · intro j hj
        rw [e11, upM_ne (by omega), e9, h1]
        by_cases hji : j = i
        · subst hji; rw [upM_same]
        · rw [upM_ne (by omega)]; exact h2 j (by omega)
      · intro a b q1 q2
        rw [e11, upM_ne q1, e9, h1, upM_ne (by omega)]
        exact h3 a b q1 (by omega)
  exact lp n 0 (by omega) mem (by rw [ht]; omega) (fun j hj => by omega) (fun _ _ _ _ => rfl)
def bgM (mem : Mem) (b : Int) : Mem := if mem 71 21 < 30 then upM (upM mem 86 (mem 71 21) b) 71 21 (mem 71 21 + 1) else mem
theorem ct_began {b : Int} (hb : inr b) (h0 : 0 ≤ mem 71 21) (hq : Q none (bgM mem b)) : C_X11_began G d [vR 71, vI b] mem Q := by
  unfold bgM at hq
  refine B_X11_began ⟨fun z => ?_, fun z => ⟨by omega, hb, fun m7 e7 => ?_⟩⟩
  · rw [if_neg (by omega)] at hq; exact hq
  · rw [if_pos (by omega)] at hq
    have r7 : m7 71 21 = mem 71 21 := by rw [e7]; exact upM_ne (by omega)
    rw [r7]
    refine ⟨by omega, fun m10 e10 => ?_⟩
    rw [e10, e7]
    exact hq
theorem ct_lay {k : Nat} (hk : isSh k) {b n : Int} (hb : inr b) (hn : inr n) (hq : ∀ mem' : Mem, mem' k 1 = b → mem' k 2 = n → (∀ i : Int, 0 ≤ i → i < 24 → mem' (k + 1) i = 0) → (∀ (a : Nat) (c : Int), ¬ (a = k ∧ (c = 1 ∨ c = 2)) → ¬ (a = k + 1 ∧ 0 ≤ c ∧ c < 24) → mem' a c = mem a c) → Q none mem') : C_X6_lay G d [vR k, vI b, vI n] mem Q := by
  refine B_X6_lay hk ⟨hb, fun m1 e1 => ⟨hn, fun m3 e3 => ?_⟩⟩
  have lp : ∀ (m i : Nat), i + m = 24 → ∀ mem' : Mem, mem' k 1 = b → mem' k 2 = n → (∀ j : Int, 0 ≤ j → j < i → mem' (k + 1) j = 0) → (∀ (a : Nat) (c : Int), ¬ (a = k ∧ (c = 1 ∨ c = 2)) → ¬ (a = k + 1 ∧ 0 ≤ c ∧ c < i) → mem' a c = mem a c) → E_X6_lay G d 12 [(0, vR k), (3, vI i)] [] mem' Q := by
    intro m
    induction m with
    | zero =>
      intro i hi mem' h1 h2 h3 h4
      refine B_X6_lay_12 hk ⟨by omega, fun _ => ?_, fun z => absurd (by omega) z⟩
      have e : i = 24 := by omega
      subst e
      exact hq mem' h1 h2 h3 h4
    | succ m ih =>
      intro i hi mem' h1 h2 h3 h4
      refine B_X6_lay_12 hk ⟨by omega, fun z => by omega, fun _ => ⟨by omega, fun m9 e9 => ?_⟩⟩
      refine ih (i + 1) (by omega) m9 (by rw [e9, upM_ne (by omega), h1]) (by rw [e9, upM_ne (by omega), h2]) ?_ ?_
      · intro j j0 j1
        rw [e9]
        by_cases hji : j = i
        · subst hji; rw [upM_same]
        · rw [upM_ne (by omega)]; exact h3 j j0 (by omega)
      · intro a c q1 q2
        rw [e9, upM_ne (by omega)]
        exact h4 a c q1 (by omega)
  refine lp 24 0 rfl m3 ?_ ?_ (fun j j0 j1 => by omega) ?_
  · rw [e3, upM_ne (by omega), e1, upM_same]
  · rw [e3, upM_same]
  · intro a c q1 _
    rw [e3, upM_ne (by omega), e1, upM_ne (by omega)]
def wrM (mem : Mem) (k : Nat) (i v : Int) : Mem := upM mem (k + 1) i (if mem k 1 = 8 then i2b v else if mem k 1 = 16 then i2s v else v)
theorem ct_write {k : Nat} (hk : isSh k) {i v : Int} (h0 : 0 ≤ i) (h1 : i < 24) (hv : inr v) (hq : Q none (wrM mem k i v)) : C_X6_write G d [vR k, vI i, vI v] mem Q := by
  unfold wrM at hq
  refine B_X6_write hk ⟨fun z => ⟨fun y => ⟨by omega, hv, fun m e => ?_⟩, fun y => ⟨by omega, fun m e => ?_⟩⟩, fun z => ⟨by omega, fun m e => ?_⟩⟩
  · rw [if_neg z, if_neg y] at hq; rw [e]; exact hq
  · rw [if_neg z, if_pos (by omega)] at hq; rw [e]; exact hq
  · rw [if_pos (by omega)] at hq; rw [e]; exact hq
end L3
