/-! ===== voices of the reference ===== -/
def VR (S : NS) (N : Int) (σ : VS) (m : Mem) : Prop := m 71 21 = σ.2.1 ∧ m 71 23 = σ.2.2 ∧ (∀ z : Int, 0 ≤ z → z < 30 → m 86 z = σ.1 z) ∧ m 71 22 = N ∧ m 72 = S ∧ 0 ≤ σ.2.1 ∧ σ.2.1 ≤ 30
def vrF (mem m : Mem) : Prop := ∀ (a : Nat) (b : Int), ¬ (a = 71 ∧ (b = 21 ∨ b = 23)) → a ≠ 86 → m a b = mem a b
theorem vrF_r (m : Mem) : vrF m m := fun _ _ _ _ => rfl
theorem vrF_t {a b c : Mem} (h : vrF a b) (h' : vrF b c) : vrF a c := fun x y z w => by rw [h' x y z w, h x y z w]
theorem vbg_VR {S : NS} {N : Int} {σ : VS} {c : Int} {mem : Mem} (hM : VR S N σ mem) : VR S N (vbg c σ) (bgM mem c) ∧ vrF mem (bgM mem c) := by
  obtain ⟨a1, a2, a3, a4, a5, a8, a9⟩ := hM
  unfold vbg bgM
  rw [a1]
  by_cases h : σ.2.1 < 30
  · rw [if_pos h, if_pos h]
    refine ⟨⟨by rw [upM_same], by rw [upM_ne (by omega), upM_ne (by omega)]; exact a2, fun z x y => ?_, by rw [upM_ne (by omega), upM_ne (by omega)]; exact a4, by rw [upM_cell (by omega), upM_cell (by omega)]; exact a5, by show 0 ≤ σ.2.1 + 1; omega, by show σ.2.1 + 1 ≤ 30; omega⟩, fun a b x y => by rw [upM_ne (by omega), upM_ne (by omega)]⟩
    rw [upM_ne (by omega)]
    show _ = sU σ.1 σ.2.1 c z
    by_cases e : z = σ.2.1
    · rw [e, upM_same, sU_same]
    · rw [upM_ne (by omega), sU_ne e]; exact a3 z x y
  · rw [if_neg h, if_neg h]; exact ⟨⟨a1, a2, a3, a4, a5, a8, a9⟩, vrF_r _⟩
def PB (G : GT) (S : NS) (K P C N : Int) (f : Nat) : Prop := ∀ (d : Nat) (k a : Int) (r : Bool) (x : Int) (mem : Mem) (Q : Option AV → Mem → Prop) (σ : VS), vo K f k a r = true → (r = true → inr x) → 3 * f + 1 ≤ d → VR S N σ mem → (∀ m', VR S N (vf K P C N f k a x σ).2 m' → vrF mem m' → Q (some (vI (vf K P C N f k a x σ).1)) m') → C_X11_bodyFrom G d [vR 71, vI k, vI a, vI x] mem Q
section VC
variable {G : GT} {d : Nat} {mem : Mem} {Q : Option AV → Mem → Prop} {K P C N : Int}
theorem ho_tab {k a : Int} (h0 : 0 ≤ k) (h1 : k < 6) (h2 : 0 ≤ a) (h3 : a < 4) : cdB k a ≠ 0 ↔ (k = 0 ∨ ((k = 1 ∨ k = 3) ∧ (a = 0 ∨ a = 2)) ∨ (k = 2 ∧ (a = 1 ∨ a = 3)) ∨ (k = 4 ∧ (a = 1 ∨ a = 2)) ∨ (k = 5 ∧ (a = 0 ∨ a = 3))) := by
  rcases int6 h0 h1 with rfl | rfl | rfl | rfl | rfl | rfl <;> rcases int4 h2 h3 with rfl | rfl | rfl | rfl <;> simp [cdB, tbl, TBL]
theorem ct_hasOwn {k a : Int} (h0 : 0 ≤ k) (h1 : k < 6) (h2 : 0 ≤ a) (h3 : a < 4) (hq : Q (some (vI (bz (cdB k a ≠ 0)))) mem) : C_X11_hasOwn G d [vI k, vI a] mem Q := by
  have t := ho_tab h0 h1 h2 h3
  rw [bz_iff t] at hq
  refine B_X11_hasOwn ?_
  (repeat' first | apply And.intro | intro _) <;> first | omega | (rw [bz_t (by omega)] at hq; exact hq) | (rw [bz_f (by omega)] at hq; exact hq)
theorem ab_tab0 : ∀ k, k < 6 → abv ((k : Nat) : Int) = if ((k : Nat) : Int) = 0 then -1 else if ((k : Nat) : Int) = 4 then 2 else if ((k : Nat) : Int) = 5 then 3 else 0 := by decide +kernel
theorem ct_above {k : Int} (h0 : 0 ≤ k) (h1 : k < 6) (hq : Q (some (vI (abv k))) mem) : C_X11_above G d [vI k] mem Q := by
  have t := ab_tab0 k.toNat (by omega)
  rw [show ((k.toNat : Nat) : Int) = k by omega] at t
  rw [t] at hq
  refine B_X11_above ⟨by omega, fun a => ⟨fun b => ⟨fun c => ?_, fun c => ?_⟩, fun b => ?_⟩, fun a => ?_⟩
  · rw [if_neg a, if_neg b, if_neg c] at hq; exact hq
  · rw [if_neg a, if_neg b, if_pos (by omega)] at hq; exact hq
  · rw [if_neg a, if_pos (by omega)] at hq; exact hq
  · rw [if_pos (by omega)] at hq; exact hq
theorem ct_voiced {S : NS} {f : Nat} (IH : PB G S K P C N f) (hK : S (5 + 3 * N) = K) (hN : 0 ≤ N ∧ N < 12) {a : Int} {r : Bool} {x : Int} {σ : VS} (hv : vo K f K a r = true) (hr : r = true → inr x) (hd : 3 * f + 2 ≤ d) (hM : VR S N σ mem) (hq : ∀ m', VR S N (vf K P C N f K a x σ).2 m' → vrF mem m' → Q (some (vI (vf K P C N f K a x σ).1)) m') : C_X11_voiced G d [vR 71, vI a, vI x] mem Q := by
  refine B_X11_voiced (by omega) ?_
  rw [hM.2.2.2.1, hM.2.2.2.2.1, Int.add_zero, hK]
  exact ⟨by omega, IH (d - 1) K a r x mem _ σ hv hr (by omega) hM (fun m' v f => ⟨_, rfl, hq m' v f⟩)⟩
theorem bf_up {a x k : Int} (hd : 1 ≤ d) (h : cdB k a = 0) (hk : 0 ≤ k) (hk2 : k < 6) (ha : 0 ≤ a) (ha2 : a < 4) (H : E_X11_bodyFrom G d 3 [(0, vR 71), (2, vI a), (3, vI x), (4, vI (abv k))] [] mem Q) : E_X11_bodyFrom G d 3 [(0, vR 71), (2, vI a), (3, vI x), (4, vI k)] [] mem Q := by
  refine B_X11_bodyFrom_3 hd (ct_hasOwn hk hk2 ha ha2 ⟨_, rfl, bz_inr _, fun z => absurd h (bz_n0.mp z), fun _ => ct_above hk hk2 ⟨_, rfl, H⟩⟩)
theorem bf_at {a x k : Int} (hd : 1 ≤ d) (h : cdB k a ≠ 0) (hk : 0 ≤ k) (hk2 : k < 6) (ha : 0 ≤ a) (ha2 : a < 4) (hp : mem 71 23 = 0) (H : C_X11_body G (d - 1) [vR 71, vI k, vI a, vI x] mem (fun r9 m => ∃ z : Int, r9 = some (vI z) ∧ Q (some (vI z)) m)) : E_X11_bodyFrom G d 3 [(0, vR 71), (2, vI a), (3, vI x), (4, vI k)] [] mem Q := by
  refine B_X11_bodyFrom_3 hd (ct_hasOwn hk hk2 ha ha2 ⟨_, rfl, bz_inr _, fun _ => ⟨fun _ => H, fun z => absurd hp z⟩, fun z => absurd (bz_n0.mpr h) z⟩)
theorem bf_p {a x k : Int} (hd : 1 ≤ d) (h : cdB k a ≠ 0) (hk : 0 ≤ k) (hk2 : k < 6) (ha : 0 ≤ a) (ha2 : a < 4) (hp : mem 71 23 ≠ 0) (H : Q (some (vI 0)) mem) : E_X11_bodyFrom G d 3 [(0, vR 71), (2, vI a), (3, vI x), (4, vI k)] [] mem Q := by
  refine B_X11_bodyFrom_3 hd (ct_hasOwn hk hk2 ha ha2 ⟨_, rfl, bz_inr _, fun _ => ⟨fun z => absurd z hp, fun _ => H⟩, fun z => absurd (bz_n0.mpr h) z⟩)
theorem cd_keys {k a : Int} (h0 : 0 ≤ k) (h1 : k < 6) (h2 : 0 ≤ a) (h3 : a < 4) (h : cdB k a ≠ 0) : (k = 0 ∧ a = 0 ∧ cdB k a = 10) ∨ (k = 0 ∧ a = 1 ∧ cdB k a = 11) ∨ (k = 0 ∧ a = 2 ∧ cdB k a = 12) ∨ (k = 0 ∧ a = 3 ∧ cdB k a = 13) ∨ (k = 1 ∧ a = 0 ∧ cdB k a = 20) ∨ (k = 1 ∧ a = 2 ∧ cdB k a = 21) ∨ (k = 2 ∧ a = 1 ∧ cdB k a = 30) ∨ (k = 2 ∧ a = 3 ∧ cdB k a = 31) ∨ (k = 3 ∧ a = 0 ∧ cdB k a = 40) ∨ (k = 3 ∧ a = 2 ∧ cdB k a = 41) ∨ (k = 4 ∧ a = 1 ∧ cdB k a = 50) ∨ (k = 4 ∧ a = 2 ∧ cdB k a = 51) ∨ (k = 5 ∧ a = 0 ∧ cdB k a = 60) ∨ (k = 5 ∧ a = 3 ∧ cdB k a = 61) := by
  rcases int6 h0 h1 with rfl | rfl | rfl | rfl | rfl | rfl <;> rcases int4 h2 h3 with rfl | rfl | rfl | rfl <;> first | (exact absurd h (by decide)) | simp [cdB, tbl, TBL]
theorem ct_body11 {S : NS} {f : Nat} (IH : PB G S K P C N f) (hK : S (5 + 3 * N) = K) (hPe : S (5 + 3 * N + 1) = P) (hCe : S (5 + 3 * N + 2) = C) (hP : 1 ≤ P ∧ P ≤ 99) (hN : 0 ≤ N ∧ N < 12) {k a : Int} (hk : 0 ≤ k) (hk2 : k < 6) (ha : 0 ≤ a) (ha2 : a < 4) (h : cdB k a ≠ 0) {r : Bool} {x : Int} {σ : VS} (hp : σ.2.2 = 0) (hv : vk K (vo K f) (cdB k a) r = true) (hr : r = true → inr x) (hd : 3 * f + 3 ≤ d) (hM : VR S N σ mem) (hq : ∀ m', VR S N (vr K P C N (vf K P C N f) (cdB k a) x (vbg (cdB k a) σ)).2 m' → vrF mem m' → Q (some (vI (vr K P C N (vf K P C N f) (cdB k a) x (vbg (cdB k a) σ)).1)) m') : C_X11_body G d [vR 71, vI k, vI a, vI x] mem Q := by
  have keys := cd_keys hk hk2 ha ha2 h
  have e1 := hM.2.2.2.1
  have e2 := hM.2.2.2.2.1
  have e3 : 0 ≤ mem 71 21 := by rw [hM.1]; exact hM.2.2.2.2.2.1
  refine B_X11_body (by omega) ?_
  rw [e1, e2, hPe]
  refine ⟨by omega, by omega, ?_⟩
  rcases keys with ⟨rfl, rfl, e⟩ | ⟨rfl, rfl, e⟩ | ⟨rfl, rfl, e⟩ | ⟨rfl, rfl, e⟩ | ⟨rfl, rfl, e⟩ | ⟨rfl, rfl, e⟩ | ⟨rfl, rfl, e⟩ | ⟨rfl, rfl, e⟩ | ⟨rfl, rfl, e⟩ | ⟨rfl, rfl, e⟩ | ⟨rfl, rfl, e⟩ | ⟨rfl, rfl, e⟩ | ⟨rfl, rfl, e⟩ | ⟨rfl, rfl, e⟩ <;> rw [e] at hv hq <;> clear e
  all_goals
    refine ⟨?_, ?_, ?_, ?_, ?_, ?_, ?_, ?_, ?_, ?_, ?_, ?_, ?_, ?_, ?_, ?_, ?_, ?_, ?_, ?_, ?_, ?_⟩ <;> intro h <;> first | (exact absurd h (by decide)) | skip
    clear h
    refine ⟨e3, fun m1 g1 => ?_⟩
  · have v1 := vbg_VR (c := 10) hM
    rw [← g1] at v1
    rw [v1.1.2.2.2.1, v1.1.2.2.2.2.1, hCe]
    exact ⟨by omega, hq m1 v1.1 v1.2⟩
  · have v1 := vbg_VR (c := 11) hM
    rw [← g1] at v1
    exact ct_voiced IH hK hN hv hr (by omega) v1.1 (fun m' v f => ⟨_, rfl, hq m' v (vrF_t v1.2 f)⟩)
  · have v1 := vbg_VR (c := 12) hM
    rw [← g1] at v1
    exact ct_voiced IH hK hN hv hr (by omega) v1.1 (fun m' v f => ⟨_, rfl, hq m' v (vrF_t v1.2 f)⟩)
  · have v1 := vbg_VR (c := 13) hM
    rw [← g1] at v1
    have q : vr K P C N (vf K P C N f) 13 x (vbg 13 σ) = if P - N = 0 then (0, ((vbg 13 σ).1, (vbg 13 σ).2.1, 1)) else (Int.tdiv x (P - N), vbg 13 σ) := rfl
    rw [q] at hq
    have vp : (vbg 13 σ).2.2 = 0 := by unfold vbg; split <;> exact hp
    have e4 := v1.1.2.2.2.1
    rw [e4]
    obtain ⟨b1, b2, b3, b4, b5, b6, b7⟩ := v1.1
    refine ⟨by omega, fun z m2 g2 => ?_, fun z m2 g2 => ?_⟩
    · rw [if_neg (by omega)] at hq
      have e5 : m2 71 22 = N := by rw [g2, upM_ne (by omega)]; exact e4
      rw [e5]
      refine ⟨fun _ => ⟨⟨hr hv, by omega⟩, by omega, hq m2 ⟨by rw [g2, upM_ne (by omega)]; exact b1, by rw [g2, upM_same, vp], fun z x y => by rw [g2, upM_ne (by omega)]; exact b3 z x y, e5, by rw [g2, upM_cell (by omega)]; exact b5, b6, b7⟩ (vrF_t v1.2 (fun a b x y => by rw [g2, upM_ne (by omega)]))⟩, fun y => absurd (by rw [g2, upM_same]) y⟩
    · rw [if_pos (by omega)] at hq
      have e5 : m2 71 22 = N := by rw [g2, upM_ne (by omega)]; exact e4
      have e6 : m2 71 23 = 1 := by rw [g2, upM_same]
      refine ⟨fun y => by omega, fun _ => hq m2 ⟨by rw [g2, upM_ne (by omega)]; exact b1, e6, fun z x y => by rw [g2, upM_ne (by omega)]; exact b3 z x y, e5, by rw [g2, upM_cell (by omega)]; exact b5, b6, b7⟩ (vrF_t v1.2 (fun a b x y => by rw [g2, upM_ne (by omega)]))⟩
  · have v1 := vbg_VR (c := 20) hM
    rw [← g1] at v1
    exact IH (d - 1) 0 0 r x m1 _ _ hv hr (by omega) v1.1 (fun m' v f => ⟨_, rfl, hq m' v (vrF_t v1.2 f)⟩)
  · have v1 := vbg_VR (c := 21) hM
    rw [← g1] at v1
    exact IH (d - 1) 0 2 r x m1 _ _ hv hr (by omega) v1.1 (fun m' v f => ⟨_, rfl, hq m' v (vrF_t v1.2 f)⟩)
  · have v1 := vbg_VR (c := 30) hM
    rw [← g1] at v1
    refine IH (d - 1) 0 1 r x m1 _ _ hv hr (by omega) v1.1 (fun m' v f9 => ⟨_, rfl, ?_⟩)
    have := hq m' v (vrF_t v1.2 f9)
    rw [show (vr K P C N (vf K P C N f) 30 x (vbg 30 σ)).1 = 0 - (vf K P C N f 0 1 x (vbg 30 σ)).1 from rfl, Int.zero_sub] at this
    exact this
  · have v1 := vbg_VR (c := 31) hM
    rw [← g1] at v1
    have hv' : (vo K f 0 3 r && vo K f K 0 true) = true := hv
    rw [Bool.and_eq_true] at hv'
    refine IH (d - 1) 0 3 r x m1 _ _ hv'.1 hr (by omega) v1.1 (fun m' v f1 => ⟨_, rfl, ?_⟩)
    rw [v.2.2.2.1]
    exact ct_voiced IH hK hN hv'.2 (fun _ => by omega) (by omega) v (fun m2 v2 f2 => ⟨_, rfl, hq m2 v2 (vrF_t v1.2 (vrF_t f1 f2))⟩)
  · have v1 := vbg_VR (c := 40) hM
    rw [← g1] at v1
    have hv' : (r && vo K f 0 0 true) = true := hv
    rw [Bool.and_eq_true] at hv'
    exact ⟨hr hv'.1, IH (d - 1) 0 0 true (Int.tdiv x 2) m1 _ _ hv'.2 (fun _ => tdiv2_inr (hr hv'.1)) (by omega) v1.1 (fun m' v f => ⟨_, rfl, hq m' v (vrF_t v1.2 f)⟩)⟩
  · have v1 := vbg_VR (c := 41) hM
    rw [← g1] at v1
    have hv' : (vo K f 0 2 r && vo K f K 1 true) = true := hv
    rw [Bool.and_eq_true] at hv'
    refine IH (d - 1) 0 2 r x m1 _ _ hv'.1 hr (by omega) v1.1 (fun m' v f1 => ⟨_, rfl, ?_⟩)
    exact ct_voiced IH hK hN hv'.2 (fun _ => by decide) (by omega) v (fun m2 v2 f2 => ⟨_, rfl, hq m2 v2 (vrF_t v1.2 (vrF_t f1 f2))⟩)
  · have v1 := vbg_VR (c := 50) hM
    rw [← g1] at v1
    exact IH (d - 1) 2 1 false (x + 1) m1 _ _ hv (fun h => absurd h (by decide)) (by omega) v1.1 (fun m' v f => ⟨_, rfl, hq m' v (vrF_t v1.2 f)⟩)
  · have v1 := vbg_VR (c := 51) hM
    rw [← g1] at v1
    have hv' : (vo K f 2 2 r && vo K f 2 1 true) = true := hv
    rw [Bool.and_eq_true] at hv'
    refine IH (d - 1) 2 2 r x m1 _ _ hv'.1 hr (by omega) v1.1 (fun m' v f1 => ⟨_, rfl, ?_⟩)
    exact IH (d - 1) 2 1 true 0 m' _ _ hv'.2 (fun _ => by decide) (by omega) v (fun m2 v2 f2 => ⟨_, rfl, hq m2 v2 (vrF_t v1.2 (vrF_t f1 f2))⟩)
  · have v1 := vbg_VR (c := 60) hM
    rw [← g1] at v1
    exact hq m1 v1.1 v1.2
  · have v1 := vbg_VR (c := 61) hM
    rw [← g1] at v1
    have hv' : (vo K f K 2 r && vo K f 3 3 r) = true := hv
    rw [Bool.and_eq_true] at hv'
    refine ct_voiced IH hK hN hv'.1 hr (by omega) v1.1 (fun m' v f1 => ⟨_, rfl, ?_⟩)
    exact IH (d - 1) 3 3 r x m' _ _ hv'.2 hr (by omega) v (fun m2 v2 f2 => ⟨_, rfl, hq m2 v2 (vrF_t v1.2 (vrF_t f1 f2))⟩)
theorem ct_bodyFrom {S : NS} (hK : S (5 + 3 * N) = K) (hPe : S (5 + 3 * N + 1) = P) (hCe : S (5 + 3 * N + 2) = C) (hP : 1 ≤ P ∧ P ≤ 99) (hN : 0 ≤ N ∧ N < 12) : ∀ f, PB G S K P C N f := by
  intro f
  induction f with
  | zero => intro d k a r x mem Q σ h; exact absurd (show false = true from h) (by decide)
  | succ f IH =>
    intro d k a r x mem Q σ hv hr hd hM hq
    have hv' : (decide (0 ≤ k) && decide (k < 6) && decide (0 ≤ a) && decide (a < 4) && vk K (vo K f) (cdB (lw k a) a) r) = true := hv
    rw [Bool.and_eq_true, Bool.and_eq_true, Bool.and_eq_true, Bool.and_eq_true, decide_eq_true_iff, decide_eq_true_iff, decide_eq_true_iff, decide_eq_true_iff] at hv'
    obtain ⟨⟨⟨⟨k0, k1⟩, a0⟩, a1⟩, hk⟩ := hv'
    have hq' : ∀ m', VR S N (if σ.2.2 ≠ 0 then (0, σ) else vr K P C N (vf K P C N f) (cdB (lw k a) a) x (vbg (cdB (lw k a) a) σ)).2 m' → vrF mem m' → Q (some (vI (if σ.2.2 ≠ 0 then (0, σ) else vr K P C N (vf K P C N f) (cdB (lw k a) a) x (vbg (cdB (lw k a) a) σ)).1)) m' := hq
    have go : ∀ o : Int, lw k a = o → 0 ≤ o → o < 6 → cdB o a ≠ 0 → E_X11_bodyFrom G d 3 [(0, vR 71), (2, vI a), (3, vI x), (4, vI o)] [] mem Q := by
      intro o ho o0 o1 oc
      rw [ho] at hk hq'
      by_cases z : σ.2.2 ≠ 0
      · rw [if_pos z] at hq'
        exact bf_p (by omega) oc o0 o1 a0 a1 (by rw [hM.2.1]; exact z) (hq' mem hM (vrF_r _))
      · rw [if_neg z] at hq'
        refine bf_at (by omega) oc o0 o1 a0 a1 (by rw [hM.2.1]; omega) ?_
        exact ct_body11 IH hK hPe hCe hP hN o0 o1 a0 a1 oc (by omega) hk hr (by omega) hM (fun m' v f => ⟨_, rfl, hq' m' v f⟩)
    have tab := cd_tab k0 k1 a0 a1
    refine B_X11_bodyFrom (by omega) ?_
    by_cases c1 : cdB k a ≠ 0
    · exact go k (lw_1 c1) k0 k1 c1
    · have c1' : cdB k a = 0 := by omega
      obtain ⟨t1, t2, t3⟩ := tab c1'
      refine bf_up (by omega) c1' k0 k1 a0 a1 ?_
      by_cases c2 : cdB (abv k) a ≠ 0
      · exact go (abv k) (lw_2 c1' c2) t1 t2 c2
      · have c2' : cdB (abv k) a = 0 := by omega
        obtain ⟨t4, t5, t6⟩ := t3 c2'
        refine bf_up (by omega) c2' t1 t2 a0 a1 ?_
        exact go (abv (abv k)) (lw_3 c1' c2') t4 t5 t6
theorem ct_sound (hd : 14 ≤ d) {S : NS} (hR : HR 1 S mem) (hV : VN S) {n a x : Int} (hn : 0 ≤ n ∧ n < S 0) (ha : 0 ≤ a) (ha2 : a ≤ 3) (hx : inr x) {σ : VS} (hs : σ.2.1 = 0 ∧ σ.2.2 = 0) (ht : ∀ z : Int, 0 ≤ z → z < 30 → mem 60 z = σ.1 z) (hq : ∀ m', VM (S (5 + 3 * n)) (S (5 + 3 * n + 1)) (S (5 + 3 * n + 2)) n (vf (S (5 + 3 * n)) (S (5 + 3 * n + 1)) (S (5 + 3 * n + 2)) n 6 (S (5 + 3 * n)) a x σ).2 m' → vmF mem m' → Q (some (vI (vf (S (5 + 3 * n)) (S (5 + 3 * n + 1)) (S (5 + 3 * n + 2)) n 6 (S (5 + 3 * n)) a x σ).1)) m') : C_X9_sound G d [vR 59, vR 1, vI n, vI a, vI x] mem Q := by
  have v0 := hV.1
  have kd := hV.kind (i := n) (by omega) (by omega)
  have pr := hV.2.2.2.2.2.2.1 n hn.1 hn.2
  have h1 := hR.2.1 n (by omega) (by omega)
  refine B_X9_sound (Or.inl rfl) (by omega) (fun m1 e1 m2 e2 => ⟨by omega, fun m3 e3 => ⟨by omega, fun m4 e4 m5 e5 m6 e6 => ?_⟩⟩)
  have f2 : vmF mem m2 := fun a b x y => by rw [e2, upM_ne (by omega), e1, upM_ne (by omega)]
  have f3 : vmF mem m3 := fun a b x y => by rw [e3, upM_ne (by omega)]; exact f2 a b x y
  have f4 : vmF mem m4 := fun a b x y => by rw [e4, upM_ne (by omega)]; exact f3 a b x y
  have f5 : vmF mem m5 := fun a b x y => by rw [e5, upM_ne (by omega)]; exact f4 a b x y
  have f6 : vmF mem m6 := fun a b x y => by rw [e6, upM_ne (by omega)]; exact f5 a b x y
  rw [f2 (1 + 1) n (by omega) (by omega), h1.1] at e3
  rw [f4 (1 + 2) n (by omega) (by omega), h1.2.1] at e5
  rw [f5 (1 + 3) n (by omega) (by omega), h1.2.2] at e6
  have q3 : m6 59 3 = S (5 + 3 * n) := by rw [e6, upM_ne (by omega), e5, upM_ne (by omega), e4, upM_ne (by omega), e3, upM_same]
  rw [q3]
  refine ct_perf (K := S (5 + 3 * n)) (P := S (5 + 3 * n + 1)) (C := S (5 + 3 * n + 2)) (N := n) ⟨pr.1, pr.2.1⟩ (by omega) 6 (d - 1) _ a true x 0 m6 _ σ (vo_ok kd.1 kd.2 ha ha2) (fun _ => hx) (by omega) (by omega) (by omega) ⟨?_, ?_, fun z x y => ?_, q3, ?_, ?_, ?_, by omega, by omega⟩ (fun m' v f => ⟨_, rfl, hq m' v (vmF_t f6 f)⟩)
  · rw [hs.1, e6, upM_ne (by omega), e5, upM_ne (by omega), e4, upM_ne (by omega), e3, upM_ne (by omega), e2, upM_ne (by omega), e1, upM_same]
  · rw [hs.2, e6, upM_ne (by omega), e5, upM_ne (by omega), e4, upM_ne (by omega), e3, upM_ne (by omega), e2, upM_same]
  · rw [e6, upM_ne (by omega), e5, upM_ne (by omega), e4, upM_ne (by omega), e3, upM_ne (by omega), e2, upM_ne (by omega), e1, upM_ne (by omega)]; exact ht z x y
  · rw [e6, upM_ne (by omega), e5, upM_ne (by omega), e4, upM_same]
  · rw [e6, upM_ne (by omega), e5, upM_same]
  · rw [e6, upM_same]
end VC
