/-! ===== the reference's items and texts ===== -/
def xF (mem m : Mem) : Prop := ∀ (a : Nat) (b : Int), ¬ (a = 71 ∧ (b = 6 ∨ b = 7 ∨ b = 8)) → a ≠ 72 → m a b = mem a b
theorem xF_t {a b c : Mem} (h : xF a b) (h' : xF b c) : xF a c := fun x y z w => by rw [h' x y z w, h x y z w]
theorem x71.x {a b : Mem} (h : x71 a b) : xF a b := fun x y z _ => h x y z
def IS (S : NS) (r : Int × NS × Nat) (m : Mem) : Prop := (r.1 = -1 → m 72 = r.2.1 ∧ m 71 8 = 0 ∧ m 71 6 = sk S r.2.2 ∧ m 71 7 = nx S r.2.2) ∧ (r.1 ≠ -1 → WS S r.1 m)
theorem IS_w {S : NS} {p : Nat} {m : Mem} (h : WS S (sk S p) m) : IS S (fS S p) m := ⟨fun z => absurd z (sk_n1 S p), fun _ => h⟩
theorem WSx {S : NS} {flt : Int} {m m' : Mem} (h : WS S flt m) (e : m' = upM m 71 8 1) : WS S flt m' ∧ x71 m m' := by
  rw [e]
  exact ⟨⟨by rw [upM_cell (by omega)]; exact h.1, upM_same, by rw [upM_ne (by omega)]; exact h.2.2⟩, x71_u _ _ (by omega)⟩
theorem RSx {S : NS} {p : Nat} {m m' : Mem} (h : RS S p m) (e : m' = upM m 71 8 0) : RS S p m' ∧ x71 m m' := by
  rw [e]
  exact ⟨⟨by rw [upM_cell (by omega)]; exact h.1, upM_same, by rw [upM_ne (by omega)]; exact h.2.2.1, by rw [upM_ne (by omega)]; exact h.2.2.2⟩, x71_u _ _ (by omega)⟩
theorem RWx {S : NS} {p : Nat} {m m' : Mem} (h : RS S p m) (e : m' = upM m 71 8 1) : WS S (sk S p) m' ∧ x71 m m' := by
  rw [e]
  exact ⟨⟨by rw [upM_cell (by omega)]; exact h.1, upM_same, by rw [upM_ne (by omega)]; exact h.2.2.1⟩, x71_u _ _ (by omega)⟩
theorem mk_f {mem : Mem} {k p c : Int} {a : Nat} {b : Int} (h : a ≠ 72) : mkM mem k p c a b = mem a b := by
  unfold mkM
  rw [upM_ne (by omega), upM_ne (by omega), upM_ne (by omega), upM_ne (by omega)]
theorem ss_f {mem : Mem} {k p c : Int} {a : Nat} {b : Int} (h : a ≠ 72) : ssM mem k p c a b = mem a b := by
  unfold ssM
  rw [upM_ne (by omega), upM_ne (by omega), upM_ne (by omega), upM_ne (by omega), upM_ne (by omega)]
section RF
variable {G : GT} {d : Nat} {mem : Mem} {Q : Option AV → Mem → Prop}
theorem skr {S : NS} (hV : VN S) {p : Nat} (hp : p ≤ tl S) : inr ((sk S p : Nat) : Int) := by
  have := tl_VN hV
  have := sk_le hp
  omega
theorem item_62 (hd : 8 ≤ d) {S : NS} (hV : VN S) {p : Nat} (hp : p ≤ tl S) (hn : S 0 < 12) (hk : kd S p ≤ 5) (hA : RS S (nx S p) mem) (hq : ∀ m' : Mem, IS S (iMk S p) m' → xF mem m' → Q none m') : E_X11_item G d 62 [(0, vR 71), (2, vI (kd S p))] [] mem Q := by
  have v0 := hV.1
  have n1 := nx_le hp
  have n2 := nx_le n1.2.1
  have kr := kdf_r S p 6
  change 0 ≤ kd S p ∧ kd S p ≤ 6 at kr
  refine B_X11_item_62 (by omega) ⟨fun z => absurd hA.2.1 z, fun _ => ⟨by omega, fun _ m1 e1 => ?_, fun z => absurd hk z⟩⟩
  have A1 := RSx hA e1
  refine B_X11_item_83 (by omega) ?_
  refine ct_number (by omega) hV n1.2.1 A1.1 (by omega) (by omega) (fun c1 c2 m2 a2 f2 => ⟨_, rfl, ?_⟩) (fun c m2 z w f2 => ⟨_, rfl, ?_⟩)
  · refine ct_number (by omega) hV n2.2.1 a2 (by omega) (by omega) (fun c3 c4 m3 a3 f3 => ⟨_, rfl, ?_⟩) (fun c m3 z w f3 => ⟨_, rfl, ?_⟩)
    · refine ⟨fun z => absurd a3.2.1 z, fun _ => ⟨⟨by omega, by omega, by omega⟩, by rw [a3.1]; omega, fun m4 e4 => hq m4 ?_ (fun a b x y => ?_)⟩⟩
      · have e : iMk S p = (-1, aM S (kd S p) (nv S (nx S p)) (nv S (nx S (nx S p))), nx S (nx S (nx S p))) := by
          unfold iMk
          rw [iF_t hk, iF_t ⟨c1, c2⟩, iF_t ⟨c3, c4⟩]
        rw [e]
        refine ⟨fun _ => ⟨?_, ?_, ?_, ?_⟩, fun z => absurd rfl z⟩
        · rw [e4, mkM_72, a3.1]
        · rw [e4, mk_f (by omega)]; exact a3.2.1
        · rw [e4, mk_f (by omega)]; exact a3.2.2.1
        · rw [e4, mk_f (by omega)]; exact a3.2.2.2
      · rw [e4, mk_f y, f3 a b x, f2 a b x, A1.2 a b x]
    · refine ⟨fun _ => hq m3 ?_ (x71_t A1.2 (x71_t f2 f3)).x, fun y => absurd (by rw [w.2.1]; decide) y⟩
      have e : iMk S p = fS S (nx S (nx S p)) := by unfold iMk; rw [iF_t hk, iF_t ⟨c1, c2⟩, iF_f c]
      rw [e]; exact IS_w w
  · refine ct_number_w (by omega) (skr hV n1.2.1) w (fun m3 z3 w3 f3 => ⟨_, rfl, fun _ => hq m3 ?_ (x71_t A1.2 (x71_t f2 f3)).x, fun y => absurd (by rw [w3.2.1]; decide) y⟩)
    have e : iMk S p = fS S (nx S p) := by unfold iMk; rw [iF_t hk, iF_f c]
    rw [e]; exact IS_w w3
theorem item_62w (hd : 8 ≤ d) {S : NS} {flt k : Int} (hf : inr flt) (hk : inr k) (hW : (mem 71 8 ≠ 0 ∨ 5 < k) ∧ mem 72 = S ∧ mem 71 6 = flt) (hq : ∀ m' : Mem, WS S flt m' → x71 mem m' → Q none m') : E_X11_item G d 62 [(0, vR 71), (2, vI k)] [] mem Q := by
  have go : ∀ m1 : Mem, m1 = upM mem 71 8 1 → E_X11_item G d 83 [(0, vR 71), (2, vI k)] [] m1 Q := fun m1 e1 => by
    have f1 : x71 mem m1 := by rw [e1]; exact x71_u _ _ (by omega)
    have w1 : WS S flt m1 := ⟨by rw [x71_72 f1]; exact hW.2.1, by rw [e1, upM_same], by rw [e1, upM_ne (by omega)]; exact hW.2.2⟩
    exact B_X11_item_83 (by omega) (ct_number_w (by omega) hf w1 (fun m2 z2 w2 f2 => ⟨_, rfl, ct_number_w (by omega) hf w2 (fun m3 z3 w3 f3 => ⟨_, rfl, fun _ => hq m3 w3 (x71_t f1 (x71_t f2 f3)), fun y => absurd (by rw [w3.2.1]; decide) y⟩)⟩))
  refine B_X11_item_62 (by omega) ⟨fun _ => go, fun z => ⟨hk, fun y => ?_, fun _ => go⟩⟩
  have := hW.1
  omega
theorem kdf_s (S : NS) (p k : Nat) (hk : k < 6) : kdf S p (6 - k) = if wd S (litB (wdK (k : Int))) p = true then (k : Int) else kdf S p (6 - (k + 1)) := by
  rw [show 6 - k = (6 - (k + 1)) + 1 by omega]
  show (if wd S (litB (wdK (((6 - (6 - (k + 1) + 1) : Nat)) : Int))) p = true then ((6 - (6 - (k + 1) + 1) : Nat) : Int) else kdf S p (6 - (k + 1))) = _
  rw [show 6 - (6 - (k + 1) + 1) = k by omega]
theorem kw_eq : ∀ k, k < 6 → litB (strK k) = litB (wdK ((k : Nat) : Int)) := by decide +kernel
theorem item_38 (hd : 8 ≤ d) {S : NS} (hV : VN S) {p : Nat} (hp : p ≤ tl S) (hn : S 0 < 12) (hA : RS S p mem) (hq : ∀ m' : Mem, IS S (iMk S p) m' → xF mem m' → Q none m') : E_X11_item G d 38 [(0, vR 71), (2, vI 0)] [] mem Q := by
  have lp := it_loop (n := 6) (E := fun k => kd S p = kdf S p (6 - k) → E_X11_item G d 38 [(0, vR 71), (2, vI k)] [] mem Q) ?_ ?_ 0 (by omega) rfl
  · exact lp
  · intro h
    have h6 : kd S p = 6 := h
    refine B_X11_item_38 (by omega) ⟨by decide, fun _ => item_62w hd (skr hV hp) (by decide) ⟨Or.inr (by decide), hA.1, hA.2.2.1⟩ (fun m' w f => hq m' ?_ f.x), fun z => absurd (by decide) z⟩
    have e : iMk S p = fS S p := by unfold iMk; rw [iF_f (by omega)]
    rw [e]; exact IS_w w
  · intro k hk hE h
    rw [kdf_s S p k hk] at h
    refine B_X11_item_38 (by omega) ⟨by omega, fun z => by omega, fun _ => ⟨by omega, ?_⟩⟩
    rw [show (Int.toNat (k : Int)) = k by omega]
    refine ct_takes (by omega) hV hp (by unfold strK; omega) hA (fun w m1 a1 f1 => ⟨_, rfl, by decide, fun _ => ?_, fun z => absurd (by decide) z⟩) (fun w => ⟨_, rfl, by decide, fun z => absurd rfl z, fun _ => hE ?_⟩)
    · rw [kw_eq k hk] at w
      rw [if_pos w] at h
      rw [← h]
      exact item_62 hd hV hp hn (by omega) a1 (fun m' i f => hq m' i (xF_t f1.x f))
    · rw [kw_eq k hk] at w
      rw [if_neg w] at h
      exact h
theorem item_38w (hd : 8 ≤ d) {S : NS} {flt : Int} (hf : inr flt) (hW : WS S flt mem) (hq : ∀ m' : Mem, WS S flt m' → x71 mem m' → Q none m') : E_X11_item G d 38 [(0, vR 71), (2, vI 0)] [] mem Q := by
  have h8 : mem 71 8 ≠ 0 := by rw [hW.2.1]; decide
  have lp := it_loop (n := 6) (E := fun k => E_X11_item G d 38 [(0, vR 71), (2, vI k)] [] mem Q) ?_ ?_ 0 (by omega)
  · exact lp
  · exact B_X11_item_38 (by omega) ⟨by decide, fun _ => item_62w hd hf (by decide) ⟨Or.inr (by decide), hW.1, hW.2.2⟩ hq, fun z => absurd (by decide) z⟩
  · intro k hk hE
    exact B_X11_item_38 (by omega) ⟨by omega, fun z => by omega, fun _ => ⟨by omega, ct_takes_w (by omega) (by unfold strK; omega) h8 ⟨_, rfl, by decide, fun z => absurd rfl z, fun _ => hE⟩⟩⟩
theorem item_127 (hd : 8 ≤ d) {S : NS} (hV : VN S) {p : Nat} (hp : p ≤ tl S) (hA : RS S p mem) (hq : ∀ m' : Mem, IS S (iTie S p) m' → xF mem m' → Q none m') : E_X11_item G d 127 [(0, vR 71)] [] mem Q := by
  have v0 := hV.1
  have n1 := nx_le hp
  have n2 := nx_le n1.2.1
  refine B_X11_item_127 (by omega) ?_
  rw [hA.1]
  refine ct_number (by omega) hV hp hA (by omega) (by omega) (fun c1 c2 m1 a1 f1 => ⟨_, rfl, ?_⟩) (fun c m1 z w f1 => ⟨_, rfl, ?_⟩)
  · refine ct_other (by omega) hV n1.2.1 a1 ⟨c1, c2⟩ (Or.inl rfl) (fun c3 ne _ m2 a2 f2 => ⟨_, rfl, ?_⟩) (fun c m2 z w f2 => ⟨_, rfl, ?_⟩)
    · refine ct_number (by omega) hV n2.2.1 a2 (by omega) (by omega) (fun c5 c6 m3 a3 f3 => ⟨_, rfl, ?_⟩) (fun c m3 z w f3 => ⟨_, rfl, ?_⟩)
      · refine ⟨fun z => absurd a3.2.1 z, fun _ => ⟨by omega, by omega, fun m4 e4 => hq m4 ?_ (fun a b x y => ?_)⟩⟩
        · have e : iTie S p = (-1, sU S (41 + 12 * nv S p + nv S (nx S p)) (nv S (nx S (nx S p))), nx S (nx S (nx S p))) := by
            unfold iTie
            rw [iF_t ⟨c1, c2⟩, iF_t ⟨c3, ne⟩, iF_t ⟨c5, c6⟩]
          rw [e]
          refine ⟨fun _ => ⟨?_, ?_, ?_, ?_⟩, fun z => absurd rfl z⟩
          · rw [e4, upM_self, a3.1]
          · rw [e4, upM_ne (by omega)]; exact a3.2.1
          · rw [e4, upM_ne (by omega)]; exact a3.2.2.1
          · rw [e4, upM_ne (by omega)]; exact a3.2.2.2
        · rw [e4, upM_ne (by omega), f3 a b x, f2 a b x, f1 a b x]
      · refine ⟨fun _ => hq m3 ?_ (x71_t f1 (x71_t f2 f3)).x, fun y => absurd (by rw [w.2.1]; decide) y⟩
        have e : iTie S p = fS S (nx S (nx S p)) := by unfold iTie; rw [iF_t ⟨c1, c2⟩, iF_t ⟨c3, ne⟩, iF_f c]
        rw [e]; exact IS_w w
    · refine ct_number_w (by omega) (skr hV n1.2.1) w (fun m3 z3 w3 f3 => ⟨_, rfl, fun _ => hq m3 ?_ (x71_t f1 (x71_t f2 f3)).x, fun y => absurd (by rw [w3.2.1]; decide) y⟩)
      have e : iTie S p = fS S (nx S p) := by unfold iTie; rw [iF_t ⟨c1, c2⟩, iF_f (fun x => c ⟨x.1, x.2, fun h => absurd rfl h⟩)]
      rw [e]; exact IS_w w3
  · refine ct_other_w (by omega) (skr hV hp) w (fun m2 z2 w2 f2 => ⟨_, rfl, ct_number_w (by omega) (skr hV hp) w2 (fun m3 z3 w3 f3 => ⟨_, rfl, fun _ => hq m3 ?_ (x71_t f1 (x71_t f2 f3)).x, fun y => absurd (by rw [w3.2.1]; decide) y⟩)⟩)
    have e : iTie S p = fS S p := by unfold iTie; rw [iF_f c]
    rw [e]; exact IS_w w3
theorem item_312 (hd : 8 ≤ d) {S : NS} (hV : VN S) {p : Nat} (hp : p ≤ tl S) (hA : RS S p mem) (hq : ∀ m' : Mem, IS S (iMost S p) m' → xF mem m' → Q none m') : E_X11_item G d 312 [(0, vR 71)] [] mem Q := by
  refine B_X11_item_312 (by omega) ?_
  refine ct_number (by omega) hV hp hA (by omega) (by omega) (fun c1 c2 m1 a1 f1 => ⟨_, rfl, ?_⟩) (fun c m1 z w f1 => ⟨_, rfl, ?_⟩)
  · refine ⟨fun z => absurd a1.2.1 z, fun _ => ⟨by omega, fun m4 e4 => hq m4 ?_ (fun a b x y => ?_)⟩⟩
    · have e : iMost S p = (-1, sU S 2 (nv S p), nx S p) := by unfold iMost; rw [iF_t ⟨c1, c2⟩]
      rw [e]
      refine ⟨fun _ => ⟨?_, ?_, ?_, ?_⟩, fun z => absurd rfl z⟩
      · rw [e4, upM_self, a1.1]
      · rw [e4, upM_ne (by omega)]; exact a1.2.1
      · rw [e4, upM_ne (by omega)]; exact a1.2.2.1
      · rw [e4, upM_ne (by omega)]; exact a1.2.2.2
    · rw [e4, upM_ne (by omega), f1 a b x]
  · refine ⟨fun _ => hq m1 ?_ f1.x, fun y => absurd (by rw [w.2.1]; decide) y⟩
    have e : iMost S p = fS S p := by unfold iMost; rw [iF_f c]
    rw [e]; exact IS_w w
theorem item_210 (hd : 8 ≤ d) {S : NS} (hV : VN S) {p0 : Nat} (hp0 : p0 ≤ tl S) (hw : wd S (litB 8) p0 = true) (h1 : S 1 < 60) (hA : RS S p0 mem) (hq : ∀ m' : Mem, IS S (iSay S (nx S p0)) m' → xF mem m' → Q none m') : E_X11_item G d 210 [(0, vR 71)] [] mem Q := by
  have v0 := hV.1
  have v1 := hV.2.1
  have hp := (nx_le hp0).2.1
  generalize hpe : nx S p0 = p at *
  have n1 := nx_le hp
  have n2 := nx_le n1.2.1
  have bad : ∀ (flt : Int) (m1 : Mem) (l2 l3 : Int), WS S flt m1 → (∀ m' : Mem, WS S flt m' → x71 m1 m' → Q none m') → C_X11_takes G (d - 1) [vR 71, vS 21] m1 (fun r9 m47 => ∃ z48 : Int, r9 = some (vI z48) ∧ (((m47 71 8 ≠ 0) → (∀ m52 : Mem, m52 = upM m47 71 8 1 → (E_X11_item G d 276 [(0, vR 71), (2, vI l2), (3, vI l3), (4, vI z48)] [] m52 Q))) ∧ (¬ (m47 71 8 ≠ 0) → ((inr z48) ∧ (((z48 ≠ 0) → (∀ m56 : Mem, m56 = upM m47 71 8 0 → (E_X11_item G d 276 [(0, vR 71), (2, vI l2), (3, vI l3), (4, vI z48)] [] m56 Q))) ∧ (¬ (z48 ≠ 0) → (C_X11_takes G (d - 1) [vR 71, vS 22] m47 (fun r9 m57 => ∃ z58 : Int, r9 = some (vI z58) ∧ ((inr z58) ∧ (((z58 ≠ 0) → (∀ m62 : Mem, m62 = upM m57 71 8 0 → (E_X11_item G d 276 [(0, vR 71), (2, vI l2), (3, vI l3), (4, vI z48)] [] m62 Q))) ∧ (¬ (z58 ≠ 0) → (∀ m63 : Mem, m63 = upM m57 71 8 1 → (E_X11_item G d 276 [(0, vR 71), (2, vI l2), (3, vI l3), (4, vI z48)] [] m63 Q))))))))))))) := fun flt m1 l2 l3 w h => by
    have h8 : m1 71 8 ≠ 0 := by rw [w.2.1]; decide
    refine ct_takes_w (by omega) (by omega) h8 ⟨_, rfl, fun _ m2 e2 => ?_, fun z => absurd h8 z⟩
    have w2 := WSx w e2
    exact B_X11_item_276 (by omega) ⟨fun _ => h m2 w2.1 w2.2, fun z => absurd (by rw [w2.1.2.1]; decide) z⟩
  refine B_X11_item_210 (by omega) (ct_takes (by omega) hV hp0 (by omega) hA (fun _ m0 a0 f0 => ⟨_, rfl, ?_⟩) (fun z => absurd hw z))
  rw [hpe] at a0
  rw [a0.1]
  refine ct_number (by omega) hV hp a0 (by omega) (by omega) (fun c1 c2 m1 a1 f1 => ⟨_, rfl, ?_⟩) (fun c m1 z w f1 => ⟨_, rfl, ?_⟩)
  · refine ct_other (by omega) hV n1.2.1 a1 ⟨c1, c2⟩ (Or.inr rfl) (fun c3 ne tie m2 a2 f2 => ⟨_, rfl, ?_⟩) (fun c m2 z w f2 => ⟨_, rfl, ?_⟩)
    · have base : iSay S p = iF (wd S (litB 9) (nx S (nx S p)) = true ∨ wd S (litB 10) (nx S (nx S p)) = true) (-1, aS S (nv S p) (nv S (nx S p)) (bz (wd S (litB 9) (nx S (nx S p)) = true)), nx S (nx S (nx S p))) (fS S (nx S (nx S p))) := by
        unfold iSay
        rw [iF_t ⟨c1, c2⟩, iF_t ⟨c3, ne, tie (by decide)⟩]
      have good : ∀ (b : Int) (m4 : Mem), (wd S (litB 9) (nx S (nx S p)) = true ∨ wd S (litB 10) (nx S (nx S p)) = true) → b = bz (wd S (litB 9) (nx S (nx S p)) = true) → RS S (nx S (nx S (nx S p))) m4 → x71 mem m4 → E_X11_item G d 276 [(0, vR 71), (2, vI (nv S p)), (3, vI (nv S (nx S p))), (4, vI b)] [] m4 Q := fun b m4 c hb a4 f4 => by
        refine B_X11_item_276 (by omega) ⟨fun z => absurd a4.2.1 z, fun _ => ⟨⟨by omega, by omega, by rw [hb]; exact bz_inr _⟩, by rw [a4.1]; omega, fun m5 e5 => hq m5 ?_ (fun x y z w => by rw [e5, ss_f w, f4 x y z])⟩⟩
        rw [base, iF_t c, ← hb]
        refine ⟨fun _ => ⟨?_, ?_, ?_, ?_⟩, fun z => absurd rfl z⟩
        · rw [e5, ssM_72, a4.1]
        · rw [e5, ss_f (by omega)]; exact a4.2.1
        · rw [e5, ss_f (by omega)]; exact a4.2.2.1
        · rw [e5, ss_f (by omega)]; exact a4.2.2.2
      refine ct_takes (by omega) hV n2.2.1 (by omega) a2 (fun w9 m3 a3 f3 => ⟨_, rfl, fun z => absurd a3.2.1 z, fun _ => ⟨by decide, fun _ m4 e4 => ?_, fun z => absurd (by decide) z⟩⟩) (fun w9 => ⟨_, rfl, fun z => absurd a2.2.1 z, fun _ => ⟨by decide, fun z => absurd rfl z, fun _ => ?_⟩⟩)
      · have a4 := RSx a3 e4
        exact good 1 m4 (Or.inl w9) (bz_t (show wd S (litB 9) (nx S (nx S p)) = true from w9)).symm a4.1 (x71_t f0 (x71_t f1 (x71_t f2 (x71_t f3 a4.2))))
      · have w9' : ¬ (wd S (litB 9) (nx S (nx S p)) = true) := w9
        refine ct_takes (by omega) hV n2.2.1 (by omega) a2 (fun w10 m3 a3 f3 => ⟨_, rfl, by decide, fun _ m4 e4 => ?_, fun z => absurd (by decide) z⟩) (fun w10 => ⟨_, rfl, by decide, fun z => absurd rfl z, fun _ m4 e4 => ?_⟩)
        · have a4 := RSx a3 e4
          exact good 0 m4 (Or.inr w10) (by rw [bz_f w9']) a4.1 (x71_t f0 (x71_t f1 (x71_t f2 (x71_t f3 a4.2))))
        · have a4 := RWx a2 e4
          refine B_X11_item_276 (by omega) ⟨fun _ => hq m4 ?_ (x71_t f0 (x71_t f1 (x71_t f2 a4.2))).x, fun z => absurd (by rw [a4.1.2.1]; decide) z⟩
          rw [base, iF_f (fun x => x.elim w9' w10)]
          exact IS_w a4.1
    · have e : iSay S p = fS S (nx S p) := by
        unfold iSay
        rw [iF_t ⟨c1, c2⟩, iF_f (fun x => c ⟨x.1, x.2.1, fun _ => x.2.2⟩)]
      exact bad _ m2 _ _ w (fun m' w' f' => hq m' (by rw [e]; exact IS_w w') (x71_t f0 (x71_t f1 (x71_t f2 f'))).x)
  · have e : iSay S p = fS S p := by unfold iSay; rw [iF_f c]
    exact ct_other_w (by omega) (skr hV hp) w (fun m2 z2 w2 f2 => ⟨_, rfl, bad _ m2 _ _ w2 (fun m' w' f' => hq m' (by rw [e]; exact IS_w w') (x71_t f0 (x71_t f1 (x71_t f2 f'))).x)⟩)
theorem item_210w (hd : 8 ≤ d) {S : NS} {flt : Int} (hf : inr flt) (hW : WS S flt mem) (hq : ∀ m' : Mem, WS S flt m' → x71 mem m' → Q none m') : E_X11_item G d 210 [(0, vR 71)] [] mem Q := by
  have h8 : mem 71 8 ≠ 0 := by rw [hW.2.1]; decide
  refine B_X11_item_210 (by omega) (ct_takes_w (by omega) (by omega) h8 ⟨_, rfl, ct_number_w (by omega) hf hW (fun m1 z1 w1 f1 => ⟨_, rfl, ct_other_w (by omega) hf w1 (fun m2 z2 w2 f2 => ⟨_, rfl, ?_⟩)⟩)⟩)
  have k8 : m2 71 8 ≠ 0 := by rw [w2.2.1]; decide
  refine ct_takes_w (by omega) (by omega) k8 ⟨_, rfl, fun _ m3 e3 => ?_, fun z => absurd k8 z⟩
  have w3 := WSx w2 e3
  exact B_X11_item_276 (by omega) ⟨fun _ => hq m3 w3.1 (x71_t f1 (x71_t f2 w3.2)), fun z => absurd (by rw [w3.1.2.1]; decide) z⟩
theorem ct_item (hd : 8 ≤ d) {S : NS} (hV : VN S) {p : Nat} (hp : p ≤ tl S) (hA : RS S p mem) (hq : ∀ m' : Mem, IS S (itm S p) m' → xF mem m' → Q none m') : C_X11_item G d [vR 71] mem Q := by
  have v0 := hV.1
  have v1 := hV.2.1
  have n0 := nx_le hp
  refine B_X11_item (by omega) (ct_isAt (by omega) hV hp (by omega) hA ⟨_, rfl, bz_inr _, fun z0 => ?_, fun z0 => ?_⟩)
  · have w0 : ¬ (wd S (litB 0) p = true) := bz_0.mp z0
    refine ct_takes (by omega) hV hp (by omega) hA (fun w7 m1 a1 f1 => ⟨_, rfl, by decide, fun z => absurd z (by decide), fun _ => ?_⟩) (fun w7 => ⟨_, rfl, by decide, fun _ => ?_, fun z => absurd rfl z⟩)
    · have w7' : wd S (litB 7) p = true := w7
      refine item_127 hd hV n0.2.1 a1 (fun m' i f => hq m' ?_ (xF_t f1.x f))
      unfold itm; rw [iF_f w0, iF_t w7']; exact i
    · have w7' : ¬ (wd S (litB 7) p = true) := w7
      refine ct_isAt (by omega) hV hp (by omega) hA ⟨_, rfl, bz_inr _, fun z8 => ?_, fun z8 => ?_⟩
      · have w8 : ¬ (wd S (litB 8) p = true) := bz_0.mp z8
        refine ct_takes (by omega) hV hp (by omega) hA (fun w11 m1 a1 f1 => ⟨_, rfl, by decide, fun _ m2 e2 => ?_, fun z => absurd (by decide) z⟩) (fun w11 => ⟨_, rfl, by decide, fun z => absurd rfl z, fun _ m2 e2 => ?_⟩)
        · have w11' : wd S (litB 11) p = true := w11
          have a2 := RSx a1 e2
          refine item_312 hd hV n0.2.1 a2.1 (fun m' i f => hq m' ?_ (xF_t f1.x (xF_t a2.2.x f)))
          unfold itm; rw [iF_f w0, iF_f w7', iF_f w8, iF_t w11']; exact i
        · have w11' : ¬ (wd S (litB 11) p = true) := w11
          have a2 := RWx hA e2
          refine B_X11_item_312 (by omega) (ct_number_w (by omega) (skr hV hp) a2.1 (fun m3 z3 w3 f3 => ⟨_, rfl, fun _ => hq m3 ?_ (x71_t a2.2 f3).x, fun y => absurd (by rw [w3.2.1]; decide) y⟩))
          unfold itm; rw [iF_f w0, iF_f w7', iF_f w8, iF_f w11']; exact IS_w w3
      · have w8 : wd S (litB 8) p = true := bz_n0.mp z8
        rw [hA.1]
        refine ⟨fun c m2 e2 => ?_, fun c m2 e2 => ?_⟩
        · have a2 := RSx hA e2
          refine item_210 hd hV hp w8 (by omega) a2.1 (fun m' i f => hq m' ?_ (xF_t a2.2.x f))
          unfold itm; rw [iF_f w0, iF_f w7', iF_t w8, iF_t (by omega)]; exact i
        · have a2 := RWx hA e2
          refine item_210w hd (skr hV hp) a2.1 (fun m' w f => hq m' ?_ (x71_t a2.2 f).x)
          unfold itm; rw [iF_f w0, iF_f w7', iF_t w8, iF_f (by omega)]; exact IS_w w
  · have w0 : wd S (litB 0) p = true := bz_n0.mp z0
    rw [hA.1]
    refine ⟨fun c m2 e2 => ?_, fun c m2 e2 => ?_⟩
    · have a2 := RSx hA e2
      refine B_X11_item_29 (by omega) (ct_takes (by omega) hV hp (by omega) a2.1 (fun _ m3 a3 f3 => ⟨_, rfl, ?_⟩) (fun z => absurd w0 z))
      refine item_38 hd hV n0.2.1 (by omega) a3 (fun m' i f => hq m' ?_ (xF_t a2.2.x (xF_t f3.x f)))
      unfold itm; rw [iF_t w0, iF_t (by omega)]; exact i
    · have a2 := RWx hA e2
      refine B_X11_item_29 (by omega) (ct_takes_w (by omega) (by omega) (by rw [a2.1.2.1]; decide) ⟨_, rfl, item_38w hd (skr hV hp) a2.1 (fun m' w f => hq m' ?_ (x71_t a2.2 f).x)⟩)
      unfold itm; rw [iF_t w0, iF_f (by omega)]; exact IS_w w
/-- the end of a text -/
theorem text_50 (hd : 1 ≤ d) {i : Int} {S0 S' : NS} {flt : Int} (h74 : ∀ z : Int, 0 ≤ z → z < 553 → mem 74 z = S0 z) (h72 : mem 72 = S') (hf : inr flt) (hs : (flt = -1 ∧ mem 71 8 = 0 ∧ S' 3 ≤ mem 71 6) ∨ (flt ≠ -1 ∧ mem 71 8 = 0 ∧ mem 71 6 = flt ∧ mem 71 6 < S' 3) ∨ (flt ≠ -1 ∧ mem 71 8 = 1 ∧ mem 71 6 = flt))
    (hq : ∀ m' : Mem, (∀ z : Int, 0 ≤ z → z < 553 → m' 72 z = sU (if flt = -1 then S' else S0) 3 0 z) → (∀ (a : Nat) (b : Int), ¬ (a = 71 ∧ b = 8) → a ≠ 72 → m' a b = mem a b) → Q (some (vI (if flt = -1 then i else -10 - flt))) m') : E_X11_text G d 50 [(0, vR 71), (1, vI i)] [] mem Q := by
  have ok : flt = -1 → ∀ m1 : Mem, m1 = upM mem 71 8 0 → E_X11_text G d 79 [(0, vR 71), (1, vI i)] [] m1 Q := fun h m1 e1 => by
    rw [if_pos h, if_pos h] at hq
    have k8 : m1 71 8 = 0 := by rw [e1, upM_same]
    refine B_X11_text_79 hd ⟨fun _ => B_X11_text_97 hd (fun m2 e2 => ⟨fun _ => hq m2 (fun z _ _ => ?_) (fun a b x y => by rw [e2, upM_ne (by omega), e1, upM_ne (by omega)]), fun z => absurd (by rw [e2, upM_ne (by omega)]; exact k8) z⟩), fun z => absurd k8 z⟩
    rw [e2, upM_self, e1, upM_cell (by omega), h72]
  have no : flt ≠ -1 → mem 71 6 = flt → ∀ m1 : Mem, m1 = upM mem 71 8 1 → E_X11_text G d 79 [(0, vR 71), (1, vI i)] [] m1 Q := fun h h6 m1 e1 => by
    rw [if_neg h, if_neg h] at hq
    have k8 : m1 71 8 = 1 := by rw [e1, upM_same]
    have k6 : m1 71 6 = flt := by rw [e1, upM_ne (by omega)]; exact h6
    refine B_X11_text_79 hd ⟨fun z => absurd z (by rw [k8]; decide), fun _ m2 e2 => B_X11_text_97 hd (fun m3 e3 => ?_)⟩
    have l8 : m3 71 8 = 1 := by rw [e3, upM_ne (by omega), e2]; unfold cpM; rw [if_neg (by omega)]; exact k8
    have l6 : m3 71 6 = flt := by rw [e3, upM_ne (by omega), e2]; unfold cpM; rw [if_neg (by omega)]; exact k6
    refine ⟨fun z => absurd z (by rw [l8]; decide), fun _ => ?_⟩
    rw [l6]
    refine hq m3 (fun z z0 z1 => ?_) (fun a b x y => ?_)
    · rw [e3, upM_self]
      by_cases e : z = 3
      · rw [e, sU_same, sU_same]
      · rw [sU_ne e, sU_ne e, e2]
        unfold cpM
        rw [if_pos ⟨rfl, z0, by omega⟩, e1, upM_ne (by omega), show 0 + (z - 0) = z by omega]
        exact h74 z z0 z1
    · rw [e3, upM_ne (by omega), e2]
      unfold cpM
      rw [if_neg (by omega), e1, upM_ne (by omega)]
  refine B_X11_text_50 hd ?_
  rw [h72]
  rcases hs with ⟨h1, h2, h3⟩ | ⟨h1, h2, h3, h4⟩ | ⟨h1, h2, h3⟩
  · exact ⟨fun z => absurd h2 z, fun _ => ⟨fun _ => ok h1, fun z => absurd h3 z⟩⟩
  · exact ⟨fun z => absurd h2 z, fun _ => ⟨fun z => by omega, fun _ => no h1 h3⟩⟩
  · exact ⟨fun _ => no h1 h3, fun z => absurd (by rw [h2]; decide) z⟩
theorem tf {S S' : NS} (h : tS S S') (p : Nat) : wd S' (litB 24) p = wd S (litB 24) p := by
  refine bool_iff ?_
  rw [wd_iff, wd_iff, nx_c h, sk_c h]
  exact ⟨fun x => ⟨x.1, fun k hk => by rw [← h.2]; exact x.2 k hk⟩, fun x => ⟨x.1, fun k hk => by rw [h.2]; exact x.2 k hk⟩⟩
theorem semi {S : NS} (hV : VN S) {p : Nat} (hp : p ≤ tl S) : wd S (litB 24) p = true ↔ (sk S p < tl S ∧ tc S (sk S p) = 59) := by
  have n := nx_le hp
  have s := sk_le hp
  rw [wd_iff, show (litB 24).length = 1 from rfl]
  constructor
  · intro h
    have := h.2 0 (by omega)
    rw [Nat.add_zero] at this
    exact ⟨by omega, this⟩
  · intro h
    have e : nx S p = sk S p + 1 := by
      unfold nx en
      rw [if_pos h.1, h.2, if_pos (by decide)]
    refine ⟨by omega, fun k hk => ?_⟩
    rw [show k = 0 by omega, Nat.add_zero, h.2]; rfl
def teF (mem m : Mem) : Prop := ∀ (a : Nat) (b : Int), ¬ (a = 71 ∧ (b = 6 ∨ b = 7 ∨ b = 8)) → a ≠ 72 → a ≠ 74 → m a b = mem a b
theorem text_31 (hd : 9 ≤ d) {S0 : NS} : ∀ (k : Nat) (S : NS) (p : Nat) (i : Int) (mem : Mem), VN S → p ≤ tl S → 81 ≤ p + k → RS S p mem → (∀ z : Int, 0 ≤ z → z < 553 → mem 74 z = S0 z) → (∀ m' : Mem, (∀ z : Int, 0 ≤ z → z < 553 → m' 72 z = sU (if (txt k S p i).1 = -1 then (txt k S p i).2.1 else S0) 3 0 z) → teF mem m' → Q (some (vI (if (txt k S p i).1 = -1 then (txt k S p i).2.2 else -10 - (txt k S p i).1))) m') → C_X11_item G (d - 1) [vR 71] mem (fun r9 m11 => r9 = none ∧ (E_X11_text G d 31 [(0, vR 71), (1, vI (i + 1))] [] m11 Q)) := by
  intro k
  induction k with
  | zero => intro S p i mem hV hp hk; have := tl_VN hV; omega
  | succ k ih =>
    intro S p i mem hV hp hk hA h74 hq
    have t8 := tl_VN hV
    have ok := itm_ok hV hp
    refine ct_item (by omega) hV hp hA (fun m1 i1 f1 => ⟨rfl, ?_⟩)
    have g74 : ∀ z : Int, 0 ≤ z → z < 553 → m1 74 z = S0 z := fun z a b => by rw [f1 74 z (by omega) (by omega)]; exact h74 z a b
    by_cases c : (itm S p).1 = -1
    · obtain ⟨V', T', p0, p1⟩ := ok.1 c
      obtain ⟨j1, j2, j3, j4⟩ := i1.1 c
      have hp' : (itm S p).2.2 ≤ tl (itm S p).2.1 := by rw [T'.1]; exact p1
      have A1 : RS (itm S p).2.1 (itm S p).2.2 m1 := ⟨j1, j2, by rw [sk_c T']; exact j3, by rw [nx_c T']; exact j4⟩
      have n1 := nx_le p1
      have s1 := sk_le p1
      have sm := semi hV p1
      have t9 := tl_VN V'
      rw [T'.1] at t9
      refine B_X11_text_31 (by omega) (ct_takes (by omega) V' hp' (by omega) A1 (fun w m2 a2 f2 => ⟨_, rfl, by decide, fun z => absurd z (by decide), fun _ => ?_⟩) (fun w => ⟨_, rfl, by decide, fun _ => ?_, fun z => absurd rfl z⟩))
      · rw [tf T'] at w
        have w' := sm.mp w
        have tx := txt_s (k := k) (i := i) c w'.1 w'.2
        rw [tx] at hq
        rw [nx_c T'] at a2
        have lt := n1.2.2.2 w'.1
        exact ih (itm S p).2.1 (nx S (itm S p).2.2) (i + 1) m2 V' (by rw [T'.1]; exact n1.2.1) (by omega) a2 (fun z a b => by rw [f2 74 z (by omega)]; exact g74 z a b) (fun m' h f => hq m' h (fun a b x y z => by rw [f a b x y z, f2 a b x, f1 a b x y]))
      · rw [tf T', sm] at w
        by_cases lt : sk S (itm S p).2.2 < tl S
        · have tx := txt_o (k := k) (i := i) c lt (fun h => w ⟨lt, h⟩)
          rw [tx] at hq
          refine text_50 (by omega) (flt := ((sk S (itm S p).2.2 : Nat) : Int)) g74 j1 (by omega) (Or.inr (Or.inl ⟨sk_n1 _ _, j2, j3, by rw [j3]; omega⟩)) (fun m' h f => hq m' h (fun a b x y z => by rw [f a b (by omega) y, f1 a b x y]))
        · have tx := txt_e (k := k) (i := i) c lt
          rw [tx] at hq
          refine text_50 (by omega) (flt := -1) g74 j1 (by decide) (Or.inl ⟨rfl, j2, by rw [j3]; omega⟩) (fun m' h f => hq m' h (fun a b x y z => by rw [f a b (by omega) y, f1 a b x y]))
    · have W := i1.2 c
      have r := ok.2 c
      have tx := txt_w (k := k) (i := i) c
      rw [tx] at hq
      refine B_X11_text_31 (by omega) (ct_takes_w (by omega) (by omega) (by rw [W.2.1]; decide) ⟨_, rfl, by decide, fun _ => ?_, fun z => absurd rfl z⟩)
      exact text_50 (by omega) (flt := (itm S p).1) g74 W.1 (by omega) (Or.inr (Or.inr ⟨c, W.2.1, W.2.2⟩)) (fun m' h f => hq m' h (fun a b x y z => by rw [f a b (by omega) y, f1 a b x y]))
theorem ct_text11 (hd : 9 ≤ d) {S : NS} (hV : VN S) (hS : mem 72 = S) (hq : ∀ m' : Mem, (∀ z : Int, 0 ≤ z → z < 553 → m' 72 z = sU (if (txt 81 S 0 0).1 = -1 then (txt 81 S 0 0).2.1 else S) 3 0 z) → teF mem m' → Q (some (vI (if (txt 81 S 0 0).1 = -1 then (txt 81 S 0 0).2.2 else -10 - (txt 81 S 0 0).1))) m') : C_X11_text G d [vR 71] mem Q := by
  refine B_X11_text (by omega) (fun m1 e1 m2 e2 m3 e3 => ?_)
  have h72 : m3 72 = S := by
    rw [e3, upM_cell (by omega), e2, upM_cell (by omega), e1]
    funext z
    unfold cpM
    rw [if_neg (by omega), hS]
  have h74 : ∀ z : Int, 0 ≤ z → z < 553 → m3 74 z = S z := fun z a b => by
    rw [e3, upM_ne (by omega), e2, upM_ne (by omega), e1]
    unfold cpM
    rw [if_pos ⟨rfl, a, by omega⟩, hS, show 0 + (z - 0) = z by omega]
  have fr : ∀ (a : Nat) (b : Int), ¬ (a = 71 ∧ (b = 6 ∨ b = 7 ∨ b = 8)) → a ≠ 74 → m3 a b = mem a b := fun a b x y => by
    rw [e3, upM_ne (by omega), e2, upM_ne (by omega), e1]
    unfold cpM
    rw [if_neg (by omega)]
  refine ct_goOn (by omega) hV (p := 0) (by omega) h72 (by rw [e3, upM_ne (by omega), e2, upM_same]; rfl) (by rw [e3, upM_same]) (fun m4 r4 f4 => ⟨rfl, ?_⟩)
  exact text_31 hd 81 S 0 0 m4 hV (by omega) (by omega) r4 (fun z a b => by rw [f4 74 z (by omega)]; exact h74 z a b) (fun m' h f => hq m' h (fun a b x y z => by rw [f a b x y z, f4 a b x, fr a b x z]))
end RF
