/-! ===== voices ===== -/
def cdB (o a : Int) : Int := (tbl 1).getD (Int.toNat ((o * 4) + a)) 0
def abv (o : Int) : Int := (tbl 0).getD (Int.toNat o) 0
def lw (k a : Int) : Int := if cdB k a ≠ 0 then k else if cdB (abv k) a ≠ 0 then abv k else abv (abv k)
abbrev VS : Type := (Int → Int) × Int × Int
def vbg (c : Int) (σ : VS) : VS := if σ.2.1 < 30 then (sU σ.1 σ.2.1 c, σ.2.1 + 1, σ.2.2) else σ
def vr (K P C N : Int) (rec : Int → Int → Int → VS → Int × VS) (c x : Int) (σ : VS) : Int × VS :=
  if c = 10 then (x + C, σ)
  else if c = 11 then ((rec K 0 x σ).1 * 3, (rec K 0 x σ).2)
  else if c = 12 then ((rec K 1 x σ).1 - P, (rec K 1 x σ).2)
  else if c = 13 then (if P - N = 0 then (0, (σ.1, σ.2.1, 1)) else (Int.tdiv x (P - N), σ))
  else if c = 20 then ((rec 0 0 x σ).1 + 1, (rec 0 0 x σ).2)
  else if c = 21 then (ixor (rec 0 2 x σ).1 P, (rec 0 2 x σ).2)
  else if c = 30 then (0 - (rec 0 1 x σ).1, (rec 0 1 x σ).2)
  else if c = 31 then ((rec 0 3 x σ).1 + (rec K 0 N (rec 0 3 x σ).2).1, (rec K 0 N (rec 0 3 x σ).2).2)
  else if c = 40 then rec 0 0 (Int.tdiv x 2) σ
  else if c = 41 then ((rec 0 2 x σ).1 + (rec K 1 1 (rec 0 2 x σ).2).1, (rec K 1 1 (rec 0 2 x σ).2).2)
  else if c = 50 then rec 2 1 (x + 1) σ
  else if c = 51 then ((rec 2 2 x σ).1 - (rec 2 1 0 (rec 2 2 x σ).2).1, (rec 2 1 0 (rec 2 2 x σ).2).2)
  else if c = 61 then ((rec K 2 x σ).1 - (rec 3 3 x (rec K 2 x σ).2).1, (rec 3 3 x (rec K 2 x σ).2).2)
  else (0, σ)
def vf (K P C N : Int) : Nat → Int → Int → Int → VS → Int × VS
  | 0 => fun _ _ _ σ => (0, σ)
  | f + 1 => fun k a x σ => if σ.2.2 ≠ 0 then (0, σ) else vr K P C N (vf K P C N f) (cdB (lw k a) a) x (vbg (cdB (lw k a) a) σ)
def vk (K : Int) (rec : Int → Int → Bool → Bool) (c : Int) (r : Bool) : Bool :=
  if c = 10 then true else if c = 11 then rec K 0 r else if c = 12 then rec K 1 r else if c = 13 then r
  else if c = 20 then rec 0 0 r else if c = 21 then rec 0 2 r else if c = 30 then rec 0 1 r else if c = 31 then (rec 0 3 r && rec K 0 true)
  else if c = 40 then (r && rec 0 0 true) else if c = 41 then (rec 0 2 r && rec K 1 true) else if c = 50 then rec 2 1 false
  else if c = 51 then (rec 2 2 r && rec 2 1 true) else if c = 61 then (rec K 2 r && rec 3 3 r) else true
def vo (K : Int) : Nat → Int → Int → Bool → Bool
  | 0 => fun _ _ _ => false
  | f + 1 => fun k a r => decide (0 ≤ k) && decide (k < 6) && decide (0 ≤ a) && decide (a < 4) && vk K (vo K f) (cdB (lw k a) a) r
theorem vo_ok0 : ∀ K, K < 6 → ∀ a, a < 4 → vo ((K : Nat) : Int) 6 ((K : Nat) : Int) ((a : Nat) : Int) true = true := by decide +kernel
theorem vo_ok {K a : Int} (h0 : 0 ≤ K) (h1 : K ≤ 5) (h2 : 0 ≤ a) (h3 : a ≤ 3) : vo K 6 K a true = true := by
  have := vo_ok0 K.toNat (by omega) a.toNat (by omega)
  rw [show ((K.toNat : Nat) : Int) = K by omega, show ((a.toNat : Nat) : Int) = a by omega] at this
  exact this
theorem int6 {k : Int} (h0 : 0 ≤ k) (h1 : k < 6) : k = 0 ∨ k = 1 ∨ k = 2 ∨ k = 3 ∨ k = 4 ∨ k = 5 := by omega
theorem int4 {k : Int} (h0 : 0 ≤ k) (h1 : k < 4) : k = 0 ∨ k = 1 ∨ k = 2 ∨ k = 3 := by omega
theorem cd_tab {k a : Int} (h0 : 0 ≤ k) (h1 : k < 6) (h2 : 0 ≤ a) (h3 : a < 4) : (cdB k a = 0 → 0 ≤ abv k ∧ abv k < 6 ∧ (cdB (abv k) a = 0 → 0 ≤ abv (abv k) ∧ abv (abv k) < 6 ∧ cdB (abv (abv k)) a ≠ 0)) := by
  rcases int6 h0 h1 with rfl | rfl | rfl | rfl | rfl | rfl <;> rcases int4 h2 h3 with rfl | rfl | rfl | rfl <;> intro h <;> first | (exact absurd h (by decide)) | (refine ⟨by decide, by decide, fun h' => ?_⟩; first | (exact absurd h' (by decide)) | decide)
theorem cd_own {k a : Int} (h0 : 0 ≤ k) (h1 : k < 6) (h2 : 0 ≤ a) (h3 : a < 4) (h : cdB k a ≠ 0) : (k = 0 → cdB k a = 10 ∨ cdB k a = 11 ∨ cdB k a = 12 ∨ cdB k a = 13) ∧ (k ≠ 0 → (abv k = 0 ∧ (cdB k a = 20 ∨ cdB k a = 21 ∨ cdB k a = 30 ∨ cdB k a = 31 ∨ cdB k a = 40 ∨ cdB k a = 41)) ∨ (abv k = 2 ∧ (cdB k a = 50 ∨ cdB k a = 51)) ∨ (abv k = 3 ∧ (cdB k a = 60 ∨ cdB k a = 61))) := by
  rcases int6 h0 h1 with rfl | rfl | rfl | rfl | rfl | rfl <;> rcases int4 h2 h3 with rfl | rfl | rfl | rfl <;> first | (exact absurd h (by decide)) | (refine ⟨fun h' => ?_, fun h' => ?_⟩ <;> first | (exact absurd h' (by decide)) | decide)
def VM (K P C N : Int) (σ : VS) (m : Mem) : Prop := m 59 1 = σ.2.1 ∧ m 59 2 = σ.2.2 ∧ (∀ z : Int, 0 ≤ z → z < 30 → m 60 z = σ.1 z) ∧ m 59 3 = K ∧ m 59 4 = N ∧ m 59 5 = P ∧ m 59 6 = C ∧ 0 ≤ σ.2.1 ∧ σ.2.1 ≤ 30
def vmF (mem m : Mem) : Prop := ∀ (a : Nat) (b : Int), a ≠ 59 → a ≠ 60 → m a b = mem a b
theorem vmF_r (m : Mem) : vmF m m := fun _ _ _ _ => rfl
theorem vmF_t {a b c : Mem} (h : vmF a b) (h' : vmF b c) : vmF a c := fun x y z w => by rw [h' x y z w, h x y z w]
def PF (G : GT) (K P C N : Int) (f : Nat) : Prop := ∀ (d : Nat) (k a : Int) (r : Bool) (x dep : Int) (mem : Mem) (Q : Option AV → Mem → Prop) (σ : VS), vo K f k a r = true → (r = true → inr x) → 2 * f + 1 ≤ d → 0 ≤ dep → dep + f ≤ 41 → VM K P C N σ mem → (∀ m', VM K P C N (vf K P C N f k a x σ).2 m' → vmF mem m' → Q (some (vI (vf K P C N f k a x σ).1)) m') → C_X9_perform G d [vR 59, vI k, vI a, vI x, vI dep] mem Q
theorem tdiv2_inr {x : Int} (h : inr x) : inr (Int.tdiv x 2) := by
  rcases Int.lt_or_le x 0 with h0 | h0
  · rw [← Int.neg_neg x, Int.neg_tdiv, Int.tdiv_eq_ediv_of_nonneg (by omega)]; omega
  · rw [Int.tdiv_eq_ediv_of_nonneg h0]; omega
section VC
variable {G : GT} {d : Nat} {mem : Mem} {Q : Option AV → Mem → Prop} {K P C N : Int}
theorem ct_high {f : Nat} (IH : PF G K P C N f) (hP : 1 ≤ P ∧ P ≤ 99) (hN : 0 ≤ N ∧ N < 12) {c : Int} (hc : c = 10 ∨ c = 11 ∨ c = 12 ∨ c = 13) {r : Bool} {x dep : Int} {σ : VS} (hv : vk K (vo K f) c r = true) (hr : r = true → inr x) (hd : 2 * f + 2 ≤ d) (h0 : 0 ≤ dep) (h1 : dep + f ≤ 41) (hM : VM K P C N σ mem) (hq : ∀ m', VM K P C N (vr K P C N (vf K P C N f) c x σ).2 m' → vmF mem m' → Q (some (vI (vr K P C N (vf K P C N f) c x σ).1)) m') : C_X9_runHighest G d [vR 59, vI c, vI x, vI dep] mem Q := by
  have M := hM
  obtain ⟨a1, a2, a3, a4, a5, a6, a7, a8, a9⟩ := hM
  refine B_X9_runHighest (by omega) ?_
  rw [a4, a7]
  rcases hc with rfl | rfl | rfl | rfl
  · refine ⟨by decide, fun _ => hq mem M (vmF_r _), fun h => absurd h (by decide), fun h => absurd h (by decide), fun h => absurd h (by decide)⟩
  · refine ⟨by decide, fun h => absurd h (by decide), fun _ => ?_, fun h => absurd h (by decide), fun h => absurd h (by decide)⟩
    exact IH (d - 1) K 0 r x dep mem _ σ hv hr (by omega) h0 h1 M (fun m' v f => ⟨_, rfl, hq m' v f⟩)
  · refine ⟨by decide, fun h => absurd h (by decide), fun h => absurd h (by decide), fun _ => ?_, fun h => absurd h (by decide)⟩
    refine IH (d - 1) K 1 r x dep mem _ σ hv hr (by omega) h0 h1 M (fun m' v f => ⟨_, rfl, ?_⟩)
    rw [v.2.2.2.2.2.1]
    exact hq m' v f
  · refine ⟨by decide, fun h => absurd h (by decide), fun h => absurd h (by decide), fun h => absurd h (by decide), fun _ => B_X9_shareOut ?_⟩
    rw [a5, a6]
    have e : vr K P C N (vf K P C N f) 13 x σ = if P - N = 0 then (0, (σ.1, σ.2.1, 1)) else (Int.tdiv x (P - N), σ) := rfl
    rw [e] at hq
    refine ⟨by omega, fun z => ⟨hr hv, z, _, rfl, ?_⟩, fun z m8 e8 => ⟨_, rfl, ?_⟩⟩
    · rw [if_neg z] at hq
      exact hq mem M (vmF_r _)
    · rw [if_pos (by omega)] at hq
      exact hq m8 ⟨by rw [e8, upM_ne (by omega)]; exact a1, by rw [e8, upM_same], fun z x y => by rw [e8, upM_ne (by omega)]; exact a3 z x y, by rw [e8, upM_ne (by omega)]; exact a4, by rw [e8, upM_ne (by omega)]; exact a5, by rw [e8, upM_ne (by omega)]; exact a6, by rw [e8, upM_ne (by omega)]; exact a7, a8, a9⟩ (fun a b x _ => by rw [e8, upM_ne (by omega)])
theorem ct_run {f : Nat} (IH : PF G K P C N f) (hN : 0 ≤ N ∧ N < 12) {c ab : Int} (hc : (ab = 0 ∧ (c = 20 ∨ c = 21 ∨ c = 30 ∨ c = 31 ∨ c = 40 ∨ c = 41)) ∨ (ab = 2 ∧ (c = 50 ∨ c = 51)) ∨ (ab = 3 ∧ (c = 60 ∨ c = 61))) {r : Bool} {x dep : Int} {σ : VS} (hv : vk K (vo K f) c r = true) (hr : r = true → inr x) (hd : 2 * f + 2 ≤ d) (h0 : 0 ≤ dep) (h1 : dep + f ≤ 41) (hM : VM K P C N σ mem) (hq : ∀ m', VM K P C N (vr K P C N (vf K P C N f) c x σ).2 m' → vmF mem m' → Q (some (vI (vr K P C N (vf K P C N f) c x σ).1)) m') : C_X9_run G d [vR 59, vI c, vI ab, vI x, vI dep] mem Q := by
  have M := hM
  have a4 := hM.2.2.2.1
  refine B_X9_run (by omega) ?_
  rw [a4]
  have no : ∀ {p : Prop}, False → p := fun h => h.elim
  rcases hc with ⟨rfl, rfl | rfl | rfl | rfl | rfl | rfl⟩ | ⟨rfl, rfl | rfl⟩ | ⟨rfl, rfl | rfl⟩
  · refine ⟨by decide, ?_, ?_, ?_, ?_, ?_, ?_, ?_, ?_, ?_, ?_⟩ <;> intro h <;> first | (exact absurd h (by decide)) | skip
    exact IH (d - 1) 0 0 r x dep mem _ σ hv hr (by omega) h0 h1 M (fun m' v f => ⟨_, rfl, hq m' v f⟩)
  · refine ⟨by decide, ?_, ?_, ?_, ?_, ?_, ?_, ?_, ?_, ?_, ?_⟩ <;> intro h <;> first | (exact absurd h (by decide)) | skip
    refine IH (d - 1) 0 2 r x dep mem _ σ hv hr (by omega) h0 h1 M (fun m' v f => ⟨_, rfl, ?_⟩)
    rw [v.2.2.2.2.2.1]
    exact hq m' v f
  · refine ⟨by decide, ?_, ?_, ?_, ?_, ?_, ?_, ?_, ?_, ?_, ?_⟩ <;> intro h <;> first | (exact absurd h (by decide)) | skip
    exact IH (d - 1) 0 1 r x dep mem _ σ hv hr (by omega) h0 h1 M (fun m' v f => ⟨_, rfl, hq m' v f⟩)
  · refine ⟨by decide, ?_, ?_, ?_, ?_, ?_, ?_, ?_, ?_, ?_, ?_⟩ <;> intro h <;> first | (exact absurd h (by decide)) | skip
    have hv' : (vo K f 0 3 r && vo K f K 0 true) = true := hv
    rw [Bool.and_eq_true] at hv'
    refine IH (d - 1) 0 3 r x dep mem _ σ hv'.1 hr (by omega) h0 h1 M (fun m' v f1 => ⟨_, rfl, ?_⟩)
    rw [v.2.2.2.1, v.2.2.2.2.1]
    exact IH (d - 1) K 0 true N dep m' _ _ hv'.2 (fun _ => by omega) (by omega) h0 h1 v (fun m2 v2 f2 => ⟨_, rfl, hq m2 v2 (vmF_t f1 f2)⟩)
  · refine ⟨by decide, ?_, ?_, ?_, ?_, ?_, ?_, ?_, ?_, ?_, ?_⟩ <;> intro h <;> first | (exact absurd h (by decide)) | skip
    have hv' : (r && vo K f 0 0 true) = true := hv
    rw [Bool.and_eq_true] at hv'
    exact ⟨hr hv'.1, IH (d - 1) 0 0 true (Int.tdiv x 2) dep mem _ σ hv'.2 (fun _ => tdiv2_inr (hr hv'.1)) (by omega) h0 h1 M (fun m' v f => ⟨_, rfl, hq m' v f⟩)⟩
  · refine ⟨by decide, ?_, ?_, ?_, ?_, ?_, ?_, ?_, ?_, ?_, ?_⟩ <;> intro h <;> first | (exact absurd h (by decide)) | skip
    have hv' : (vo K f 0 2 r && vo K f K 1 true) = true := hv
    rw [Bool.and_eq_true] at hv'
    refine IH (d - 1) 0 2 r x dep mem _ σ hv'.1 hr (by omega) h0 h1 M (fun m' v f1 => ⟨_, rfl, ?_⟩)
    rw [v.2.2.2.1]
    exact IH (d - 1) K 1 true 1 dep m' _ _ hv'.2 (fun _ => by decide) (by omega) h0 h1 v (fun m2 v2 f2 => ⟨_, rfl, hq m2 v2 (vmF_t f1 f2)⟩)
  · refine ⟨by decide, ?_, ?_, ?_, ?_, ?_, ?_, ?_, ?_, ?_, ?_⟩ <;> intro h <;> first | (exact absurd h (by decide)) | skip
    exact IH (d - 1) 2 1 false (x + 1) dep mem _ σ hv (fun h => absurd h (by decide)) (by omega) h0 h1 M (fun m' v f => ⟨_, rfl, hq m' v f⟩)
  · refine ⟨by decide, ?_, ?_, ?_, ?_, ?_, ?_, ?_, ?_, ?_, ?_⟩ <;> intro h <;> first | (exact absurd h (by decide)) | skip
    have hv' : (vo K f 2 2 r && vo K f 2 1 true) = true := hv
    rw [Bool.and_eq_true] at hv'
    refine IH (d - 1) 2 2 r x dep mem _ σ hv'.1 hr (by omega) h0 h1 M (fun m' v f1 => ⟨_, rfl, ?_⟩)
    exact IH (d - 1) 2 1 true 0 dep m' _ _ hv'.2 (fun _ => by decide) (by omega) h0 h1 v (fun m2 v2 f2 => ⟨_, rfl, hq m2 v2 (vmF_t f1 f2)⟩)
  · refine ⟨by decide, ?_, ?_, ?_, ?_, ?_, ?_, ?_, ?_, ?_, ?_⟩ <;> intro h <;> first | (exact absurd h (by decide)) | skip
    exact hq mem M (vmF_r _)
  · refine ⟨by decide, ?_, ?_, ?_, ?_, ?_, ?_, ?_, ?_, ?_, ?_⟩ <;> intro h <;> first | (exact absurd h (by decide)) | skip
    have hv' : (vo K f K 2 r && vo K f 3 3 r) = true := hv
    rw [Bool.and_eq_true] at hv'
    refine IH (d - 1) K 2 r x dep mem _ σ hv'.1 hr (by omega) h0 h1 M (fun m' v f1 => ⟨_, rfl, ?_⟩)
    exact IH (d - 1) 3 3 r x dep m' _ _ hv'.2 hr (by omega) h0 h1 v (fun m2 v2 f2 => ⟨_, rfl, hq m2 v2 (vmF_t f1 f2)⟩)
theorem pf_up {a x dep k s : Int} (hd : 1 ≤ d) (h : cdB k a = 0) (hk : 0 ≤ k) (hk2 : k < 6) (ha : 0 ≤ a) (ha2 : a < 4) (hb : 0 ≤ abv k) (hs : 0 ≤ s) (hs2 : s < 6) (H : E_X9_perform G d 22 [(0, vR 59), (2, vI a), (3, vI x), (4, vI dep), (5, vI (abv k)), (6, vI (s + 1))] [] mem Q) : E_X9_perform G d 22 [(0, vR 59), (2, vI a), (3, vI x), (4, vI dep), (5, vI k), (6, vI s)] [] mem Q := by
  unfold cdB at h
  unfold abv at hb H
  refine B_X9_perform_22 hd ⟨by omega, fun z => by omega, fun _ => ⟨by omega, fun z => absurd h z, fun _ => ⟨by omega, fun z => by omega, fun _ => H⟩⟩⟩
theorem vbg_VM {σ : VS} {c : Int} (hM : VM K P C N σ mem) {m2 : Mem} (h : (30 ≤ mem 59 1 ∧ m2 = mem) ∨ (mem 59 1 < 30 ∧ m2 = upM (upM mem 60 (mem 59 1) c) 59 1 (mem 59 1 + 1))) : VM K P C N (vbg c σ) m2 := by
  obtain ⟨a1, a2, a3, a4, a5, a6, a7, a8, a9⟩ := hM
  rw [a1] at h
  unfold vbg
  rcases h with ⟨h, rfl⟩ | ⟨h, rfl⟩
  · rw [if_neg (by omega)]; exact ⟨a1, a2, a3, a4, a5, a6, a7, a8, a9⟩
  · rw [if_pos h]
    refine ⟨by rw [upM_same], by rw [upM_ne (by omega), upM_ne (by omega)]; exact a2, fun z x y => ?_, by rw [upM_ne (by omega), upM_ne (by omega)]; exact a4, by rw [upM_ne (by omega), upM_ne (by omega)]; exact a5, by rw [upM_ne (by omega), upM_ne (by omega)]; exact a6, by rw [upM_ne (by omega), upM_ne (by omega)]; exact a7, by show 0 ≤ σ.2.1 + 1; omega, by show σ.2.1 + 1 ≤ 30; omega⟩
    rw [upM_ne (by omega)]
    show _ = sU σ.1 σ.2.1 c z
    by_cases e : z = σ.2.1
    · rw [e, upM_same, sU_same]
    · rw [upM_ne (by omega), sU_ne e]; exact a3 z x y
theorem pf_at {a x dep k s : Int} {σ : VS} (hd : 1 ≤ d) (h : cdB k a ≠ 0) (hk : 0 ≤ k) (hk2 : k < 6) (ha : 0 ≤ a) (ha2 : a < 4) (hs : 0 ≤ s) (hs2 : s ≤ 6) (hM : VM K P C N σ mem)
    (H1 : ∀ m2, VM K P C N (vbg (cdB k a) σ) m2 → vmF mem m2 → k ≠ 0 → C_X9_run G (d - 1) [vR 59, vI (cdB k a), vI (abv k), vI x, vI (dep + 1)] m2 (fun r9 m => ∃ z : Int, r9 = some (vI z) ∧ Q (some (vI z)) m))
    (H2 : ∀ m2, VM K P C N (vbg (cdB k a) σ) m2 → vmF mem m2 → k = 0 → C_X9_runHighest G (d - 1) [vR 59, vI (cdB k a), vI x, vI (dep + 1)] m2 (fun r9 m => ∃ z : Int, r9 = some (vI z) ∧ Q (some (vI z)) m)) : E_X9_perform G d 22 [(0, vR 59), (2, vI a), (3, vI x), (4, vI dep), (5, vI k), (6, vI s)] [] mem Q := by
  have b8 := hM.2.2.2.2.2.2.2.1
  have b9 := hM.2.2.2.2.2.2.2.2
  have b1 := hM.1
  have full : 30 ≤ mem 59 1 → VM K P C N (vbg (cdB k a) σ) mem := fun z => vbg_VM hM (Or.inl ⟨z, rfl⟩)
  have notf : ∀ m1 m2 : Mem, mem 59 1 < 30 → m1 = upM mem 60 (mem 59 1) (cdB k a) → m2 = upM m1 59 1 (m1 59 1 + 1) → VM K P C N (vbg (cdB k a) σ) m2 ∧ vmF mem m2 := fun m1 m2 z e1 e2 => by
    have e3 : m1 59 1 = mem 59 1 := by rw [e1, upM_ne (by omega)]
    rw [e3, e1] at e2
    exact ⟨vbg_VM hM (Or.inr ⟨z, e2⟩), fun a b x y => by rw [e2, upM_ne (by omega), upM_ne (by omega)]⟩
  have inn : ∀ m1 : Mem, mem 59 1 < 30 → m1 = upM mem 60 (mem 59 1) (cdB k a) → inr (m1 59 1 + 1) := fun m1 z e1 => by
    have e3 : m1 59 1 = mem 59 1 := by rw [e1, upM_ne (by omega)]
    rw [e3]; omega
  unfold cdB at *
  unfold abv at H1
  refine B_X9_perform_22 hd ⟨by omega, fun z => ⟨by omega, fun z2 => ⟨by omega, fun z3 => ⟨by omega, H1 mem (full z2) (vmF_r _) z3⟩, fun z3 => H2 mem (full z2) (vmF_r _) (by omega)⟩, fun z2 => ⟨by omega, fun m1 e1 => ⟨inn m1 (by omega) e1, fun m2 e2 => ⟨by omega, fun z3 => ⟨by omega, ?_⟩, fun z3 => ?_⟩⟩⟩⟩, fun z => ⟨by omega, fun _ => ⟨fun z2 => ⟨by omega, fun z3 => ⟨by omega, H1 mem (full z2) (vmF_r _) z3⟩, fun z3 => H2 mem (full z2) (vmF_r _) (by omega)⟩, fun z2 => ⟨by omega, fun m1 e1 => ⟨inn m1 (by omega) e1, fun m2 e2 => ⟨by omega, fun z3 => ⟨by omega, ?_⟩, fun z3 => ?_⟩⟩⟩⟩, fun y => absurd h y⟩⟩
  · have w := notf m1 m2 (by omega) e1 e2; exact H1 m2 w.1 w.2 z3
  · have w := notf m1 m2 (by omega) e1 e2; exact H2 m2 w.1 w.2 (by omega)
  · have w := notf m1 m2 (by omega) e1 e2; exact H1 m2 w.1 w.2 z3
  · have w := notf m1 m2 (by omega) e1 e2; exact H2 m2 w.1 w.2 (by omega)
theorem lw_1 {k a : Int} (h : cdB k a ≠ 0) : lw k a = k := if_pos h
theorem lw_2 {k a : Int} (h : cdB k a = 0) (h2 : cdB (abv k) a ≠ 0) : lw k a = abv k := by unfold lw; rw [if_neg (fun x => x h), if_pos h2]
theorem lw_3 {k a : Int} (h : cdB k a = 0) (h2 : cdB (abv k) a = 0) : lw k a = abv (abv k) := by unfold lw; rw [if_neg (fun x => x h), if_neg (fun x => x h2)]
theorem ct_perf (hP : 1 ≤ P ∧ P ≤ 99) (hN : 0 ≤ N ∧ N < 12) : ∀ f, PF G K P C N f := by
  intro f
  induction f with
  | zero => intro d k a r x dep mem Q σ h; exact absurd (show false = true from h) (by decide)
  | succ f IH =>
    intro d k a r x dep mem Q σ hv hr hd h0 h1 hM hq
    have hv' : (decide (0 ≤ k) && decide (k < 6) && decide (0 ≤ a) && decide (a < 4) && vk K (vo K f) (cdB (lw k a) a) r) = true := hv
    rw [Bool.and_eq_true, Bool.and_eq_true, Bool.and_eq_true, Bool.and_eq_true, decide_eq_true_iff, decide_eq_true_iff, decide_eq_true_iff, decide_eq_true_iff] at hv'
    obtain ⟨⟨⟨⟨k0, k1⟩, a0⟩, a1⟩, hk⟩ := hv'
    have hq' : ∀ m', VM K P C N (if σ.2.2 ≠ 0 then (0, σ) else vr K P C N (vf K P C N f) (cdB (lw k a) a) x (vbg (cdB (lw k a) a) σ)).2 m' → vmF mem m' → Q (some (vI (if σ.2.2 ≠ 0 then (0, σ) else vr K P C N (vf K P C N f) (cdB (lw k a) a) x (vbg (cdB (lw k a) a) σ)).1)) m' := hq
    refine B_X9_perform (by omega) ?_
    rw [hM.2.1]
    refine ⟨fun z => ?_, fun z => ⟨by omega, fun _ => ?_, fun y => absurd (by omega) y⟩⟩
    · rw [if_pos z] at hq'
      exact hq' mem hM (vmF_r _)
    · rw [if_neg z] at hq'
      have go : ∀ o s : Int, lw k a = o → 0 ≤ o → o < 6 → cdB o a ≠ 0 → 0 ≤ s → s ≤ 6 → E_X9_perform G d 22 [(0, vR 59), (2, vI a), (3, vI x), (4, vI dep), (5, vI o), (6, vI s)] [] mem Q := by
        intro o s ho o0 o1 oc s0 s1
        rw [ho] at hk hq'
        have own := cd_own o0 o1 a0 a1 oc
        refine pf_at (by omega) oc o0 o1 a0 a1 s0 s1 hM (fun m2 v2 f2 hne => ?_) (fun m2 v2 f2 he => ?_)
        · exact ct_run IH hN (own.2 hne) hk hr (by omega) (by omega) (by omega) v2 (fun m' v f => ⟨_, rfl, hq' m' v (vmF_t f2 f)⟩)
        · exact ct_high IH hP hN (own.1 he) hk hr (by omega) (by omega) (by omega) v2 (fun m' v f => ⟨_, rfl, hq' m' v (vmF_t f2 f)⟩)
      have tab := cd_tab k0 k1 a0 a1
      by_cases c1 : cdB k a ≠ 0
      · exact go k 0 (lw_1 c1) k0 k1 c1 (by omega) (by omega)
      · have c1' : cdB k a = 0 := by omega
        obtain ⟨t1, t2, t3⟩ := tab c1'
        refine pf_up (by omega) c1' k0 k1 a0 a1 t1 (by omega) (by omega) ?_
        by_cases c2 : cdB (abv k) a ≠ 0
        · exact go (abv k) (0 + 1) (lw_2 c1' c2) t1 t2 c2 (by omega) (by omega)
        · have c2' : cdB (abv k) a = 0 := by omega
          obtain ⟨t4, t5, t6⟩ := t3 c2'
          refine pf_up (by omega) c2' t1 t2 a0 a1 t4 (by omega) (by omega) ?_
          exact go (abv (abv k)) (0 + 1 + 1) (lw_3 c1' c2') t4 t5 t6 (by omega) (by omega)
end VC
