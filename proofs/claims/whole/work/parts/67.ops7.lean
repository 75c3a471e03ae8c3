/-! ===== operations: body, voice, next, rounds ===== -/
theorem An.rl {J z : Int} {r : Option AV} {m : Mem} (h : An J z r m) : Rl J m := by
  obtain ⟨_, _, h⟩ := h
  exact h
theorem an_ref3 {J e : Int} {mem m3 m4 : Mem} (h0 : Rl J (fun a b => if a = 62 then mem 62 b else m3 a b)) (h1 : -1000006 ≤ e) (h2 : e ≤ -1000001) (f62 : ∀ b : Int, m3 62 b = refM mem e 62 b) (e4 : m4 = fndM m3 e) : An J e (some (vI e)) m4 := by
  refine An.mk m4 (Rl_ref h0 h1 h2 ?_)
  rw [e4]
  funext a b
  unfold fndM
  by_cases q : a = 62
  · subst q
    rw [upM_ne (by omega), upM_ne (by omega), f62 b]
    unfold refM
    by_cases w : b = -1000000 - e
    · rw [w, upM_same, upM_same]; rfl
    · rw [upM_ne (by omega), upM_ne (by omega)]; rfl
  · by_cases w : a = 75
    · subst w
      by_cases v : b = -1000000 - e
      · rw [v, upM_same, upM_same, ref_f (by omega)]; rfl
      · rw [upM_ne (by omega), upM_ne (by omega), ref_f (by omega)]; rfl
    · rw [upM_ne (by omega), upM_ne (by omega), ref_f q]
      show _ = if a = 62 then _ else _
      rw [if_neg q]
theorem Rl_v {J : Int} {mem m : Mem} (h : Rl J mem) (f : ∀ (a : Nat) (b : Int), a ≠ 59 → a ≠ 60 → ¬ (a = 71 ∧ b ≠ 3) → a ≠ 86 → m a b = mem a b) (hv : RV m) : Rl J m := by
  obtain ⟨⟨a1, a2, a3, a4⟩, ⟨i1, i2, i3, i4⟩, ee, _, s⟩ := h
  have f72 : m 72 = mem 72 := funext (fun z => f 72 z (by omega) (by omega) (by omega) (by omega))
  have f73 : m 73 = mem 73 := funext (fun z => f 73 z (by omega) (by omega) (by omega) (by omega))
  refine ⟨?_, ⟨?_, ?_, ?_, fun z => ?_⟩, fun k h0 h1 => ?_, hv, fun t ht => ?_⟩
  · rw [f72]
    exact ⟨a1, a2.congr (fun c b hc _ => f (1 + c) b (by omega) (by omega) (by omega) (by omega)), fun z => FT_f (a3 (by rw [← f 1 16 (by omega) (by omega) (by omega) (by omega)]; exact z)) (fun a b x => f a b (by omega) (by omega) (by omega) (by omega)), by rw [f 44 0 (by omega) (by omega) (by omega) (by omega)]; exact a4⟩
  · rw [f 0 11 (by omega) (by omega) (by omega) (by omega), f 71 3 (by omega) (by omega) (by omega) (by omega)]; exact i1
  · rw [f 71 3 (by omega) (by omega) (by omega) (by omega)]; exact i2
  · rw [f 71 3 (by omega) (by omega) (by omega) (by omega)]; exact i3
  · rw [f 71 3 (by omega) (by omega) (by omega) (by omega)] at z
    rw [f73]
    exact ⟨(i4 z).1, (i4 z).2.congr (fun c b hc _ => f (11 + c) b (by omega) (by omega) (by omega) (by omega))⟩
  · rw [f 62 k (by omega) (by omega) (by omega) (by omega), f 75 k (by omega) (by omega) (by omega) (by omega)]; exact ee k h0 h1
  · obtain ⟨s1, s2, s3, s4⟩ := s t ht
    rw [f (63 + 2 * t) 1 (by omega) (by omega) (by omega) (by omega), f (63 + 2 * t) 2 (by omega) (by omega) (by omega) (by omega), f 87 t (by omega) (by omega) (by omega) (by omega), f 88 t (by omega) (by omega) (by omega) (by omega)]
    refine ⟨s1, s2, s3, fun k h0 h1 => ?_⟩
    rw [f (64 + 2 * t) k (by omega) (by omega) (by omega) (by omega), f 89 _ (by omega) (by omega) (by omega) (by omega)]; exact s4 k h0 h1
section OP
variable {G : GT} {d : Nat} {mem : Mem} {J : Int} {Q : Option AV → Mem → Prop}
theorem op_body (hd : 40 ≤ d) (h : Rl J mem) {a : Int} (ha : inr a) : C_X10_body G d [vR 0, vI a] mem (fun r m1 => ∃ z : Int, r = some (vI z) ∧ C_X11_body_ G d [vR 71, vI a] m1 (An J z)) := by
  obtain ⟨w1, w2, w3, w4⟩ := h.2.2.2.1
  refine B_X10_body (by omega) ⟨⟨ha, by omega⟩, fun z => ⟨by omega, _, rfl, B_X11_body_ (by omega) ?_⟩, fun z m1 e1 => ⟨_, rfl, B_X11_body_ (by omega) ?_⟩⟩
  · rw [← w1]
    exact ⟨⟨ha, by omega⟩, fun y => by omega, fun _ => ⟨by omega, an_mk h (w4 a (by omega) (by omega)).symm⟩⟩
  · rw [show m1 71 21 = mem 71 21 by rw [e1, ref_f (by omega)], ← w1]
    exact ⟨⟨ha, by omega⟩, fun _ m2 e2 => an_ref h (by decide) (by decide) e1 e2, fun y => by omega⟩
theorem op_voice (hd : 40 ≤ d) (h : Rl J mem) {a b c : Int} (ha : inr a) (hb : inr b) (hc : inr c) : C_X10_voice G d [vR 0, vI a, vI b, vI c] mem (fun r m1 => ∃ z : Int, r = some (vI z) ∧ C_X11_voice G d [vR 71, vI a, vI b, vI c] m1 (An J z)) := by
  have v0 := h.1.1.1
  have r0 := h.1.2.1.1.1
  by_cases k : (0 ≤ a ∧ a < mem 72 0) ∧ (0 ≤ b ∧ b ≤ 3)
  · obtain ⟨w1, w2, w3, w4⟩ := h.2.2.2.1
    have kd := h.1.1.kind (i := a) (by omega) (by omega)
    have pr := h.1.1.2.2.2.2.2.2.1 a k.1.1 k.1.2
    refine B_X10_voice (by omega) ?_
    rw [r0]
    refine ⟨ha, fun z => absurd k.1 z, fun _ => ⟨hb, fun _ => ct_sound (σ := (mem 60, 0, 0)) (by omega) h.1.2.1 h.1.1 k.1 k.2.1 k.2.2 hc ⟨rfl, rfl⟩ (fun _ _ _ => rfl) (fun m1 V1 f1 => ⟨_, rfl, ?_⟩), fun z => by omega⟩⟩
    generalize hK : mem 72 (5 + 3 * a) = K at *
    generalize hP : mem 72 (5 + 3 * a + 1) = P at *
    generalize hC : mem 72 (5 + 3 * a + 2) = C at *
    have pb := ct_bodyFrom (G := G) (S := mem 72) hK hP hC ⟨pr.1, pr.2.1⟩ (show 0 ≤ a ∧ a < 12 by omega) 6
    generalize hr : vf K P C a 6 K b c (mem 60, 0, 0) = r at *
    -- the reference on a memory m that has the class's cells of m1
    have ref : ∀ (m : Mem) (z : Int), (∀ (x : Nat) (y : Int), 71 ≤ x → m x y = mem x y) → (∀ m9 : Mem, VR (mem 72) a r.2 m9 → (∀ (x : Nat) (y : Int), ¬ (x = 71 ∧ (y = 21 ∨ y = 22 ∨ y = 23)) → x ≠ 86 → m9 x y = m x y) → (r.2.2.2 = 0 → An J z (some (vI r.1)) m9) ∧ (¬ (r.2.2.2 = 0) → ∀ m10 : Mem, m10 = fndM m9 (-1000006) → An J z (some (vI (-1000006))) m10)) → C_X11_voice G d [vR 71, vI a, vI b, vI c] m (An J z) := fun m z fm fin => by
      have g72 : m 72 = mem 72 := funext (fun w => fm 72 w (by omega))
      refine B_X11_voice (by omega) ?_
      rw [g72]
      refine ⟨ha, by omega, fun y => absurd k.1 y, fun _ => ⟨hb, fun _ m2 e2 m3 e3 m4 e4 => ?_, fun y => absurd k.2 y⟩⟩
      have f4 : ∀ (x : Nat) (y : Int), ¬ (x = 71 ∧ (y = 21 ∨ y = 22 ∨ y = 23)) → m4 x y = m x y := fun x y p => by rw [e4, upM_ne (by omega), e3, upM_ne (by omega), e2, upM_ne (by omega)]
      have V4 : VR (mem 72) a (mem 60, 0, 0) m4 := by
        refine ⟨?_, ?_, fun w p q => ?_, ?_, ?_, Int.le_refl _, show (0 : Int) ≤ 30 by decide⟩
        · rw [e4, upM_ne (by omega), e3, upM_ne (by omega), e2, upM_same]
        · rw [e4, upM_same]
        · rw [f4 86 w (by omega), fm 86 w (by omega)]; exact (w4 w p q).symm
        · rw [e4, upM_ne (by omega), e3, upM_same]
        · rw [← g72]; exact funext (fun w => f4 72 w (by omega))
      refine ct_voiced (K := K) (P := P) (C := C) pb hK (by omega) (vo_ok kd.1 kd.2 k.2.1 k.2.2) (fun _ => hc) (by omega) V4 (fun m5 V5 f5 => ⟨_, rfl, ?_⟩)
      rw [hr] at V5
      rw [V5.2.1, hr]
      exact fin m5 V5 (fun x y p q => by rw [f5 x y (by omega) q, f4 x y p])
    have rv : ∀ m9 : Mem, VR (mem 72) a r.2 m9 → (∀ (x : Nat) (y : Int), x = 59 ∨ x = 60 → m9 x y = m1 x y) → RV m9 := fun m9 V9 f9 => by
      obtain ⟨q1, q2, q3, q4, q5, q6, q7, q8, q9⟩ := V1
      refine ⟨?_, ?_, ?_, fun z p q => ?_⟩
      · rw [f9 59 1 (by omega), q1, V9.1]
      · rw [f9 59 1 (by omega), q1]; exact q8
      · rw [f9 59 1 (by omega), q1]; exact q9
      · rw [f9 60 z (by omega), q3 z p q, V9.2.2.1 z p q]
    rw [V1.2.1]
    refine ⟨fun z => ⟨_, rfl, ref m1 _ (fun x y p => f1 x y (by omega) (by omega)) (fun m9 V9 f9 => ⟨fun _ => an_mk (Rl_v h (fun x y p q s t => by rw [f9 x y (by omega) t, f1 x y p q]) (rv m9 V9 (fun x y p => f9 x y (by omega) (by omega)))) rfl, fun y => absurd z y⟩)⟩, fun z m2 e2 => ⟨_, rfl, ref m2 _ (fun x y p => by rw [e2, ref_f (by omega), f1 x y (by omega) (by omega)]) (fun m9 V9 f9 => ⟨fun y => absurd y z, fun _ m10 e10 => an_ref3 (mem := mem) (Rl_v h (fun x y p q s t => ?_) ?_) (by decide) (by decide) (fun w => ?_) e10⟩)⟩⟩
    · by_cases u : x = 62
      · rw [if_pos u, u]
      · rw [if_neg u, f9 x y (by omega) t, e2, ref_f u, f1 x y p q]
    · have := rv (fun x y => if x = 62 then mem 62 y else m9 x y) ⟨V9.1, V9.2.1, V9.2.2.1, V9.2.2.2.1, V9.2.2.2.2.1, V9.2.2.2.2.2⟩ (fun x y p => by rw [if_neg (by omega), f9 x y (by omega) (by omega), e2, ref_f (by omega)])
      exact this
    · rw [f9 62 w (by omega) (by omega), e2]
      unfold refM
      by_cases u : w = -1000000 - -1000006
      · rw [u, upM_same, upM_same, f1 62 _ (by omega) (by omega)]
      · rw [upM_ne (by omega), upM_ne (by omega), f1 62 w (by omega) (by omega)]
  · have ref : ∀ m1 : Mem, m1 = refM mem (-1000001) → ∃ z : Int, some (vI (-1000001)) = some (vI z) ∧ C_X11_voice G d [vR 71, vI a, vI b, vI c] m1 (An J z) := fun m1 e1 => by
      refine ⟨_, rfl, B_X11_voice (by omega) ?_⟩
      rw [ref72 e1]
      exact ⟨ha, by omega, fun _ m2 e2 => an_ref h (by decide) (by decide) e1 e2, fun y => ⟨hb, fun y2 => absurd ⟨y, y2⟩ k, fun _ m2 e2 => an_ref h (by decide) (by decide) e1 e2⟩⟩
    refine B_X10_voice (by omega) ?_
    rw [r0]
    exact ⟨ha, fun _ m1 e1 => ref m1 e1, fun y => ⟨hb, fun z => absurd ⟨y, by omega⟩ k, fun _ m1 e1 => ref m1 e1⟩⟩
theorem op_next (hd : 40 ≤ d) (h : Rl J mem) {a : Int} (ha : inr a) : C_X10_next G d [vR 0, vI a] mem (fun r m1 => ∃ z : Int, r = some (vI z) ∧ C_X11_next G d [vR 71, vI a] m1 (An J z)) := by
  have v0 := h.1.1.1
  obtain ⟨n, hn⟩ : ∃ n : Nat, mem 72 0 = n := ⟨(mem 72 0).toNat, by omega⟩
  have p := p2n (show n ≤ 12 by omega)
  have tn : (mem 72 0).toNat = n := by omega
  have IA := btA_I h.1.1 (show n ≤ 12 by omega) n (Nat.le_refl _)
  by_cases k : 0 ≤ a ∧ a ≤ 1
  · refine B_X10_next (by omega) ⟨ha, fun _ => ct_refresh (by omega) h.1.2.1 h.1.1 h.1.2.2.1 (fun m1 F1 c1 f1 => ⟨rfl, ?_⟩), fun z => by omega⟩
    -- the reference's half
    have ref : ∀ (m2 : Mem) (z : Int), m2 72 = mem 72 → (∀ m : Mem, ffF m2 m → (0 ≤ (btA (mem 72) n n).1 → An J z (some (vI (if a = 0 then (btA (mem 72) n n).1 else (btA (mem 72) n n).2.1))) m) ∧ (¬ (0 ≤ (btA (mem 72) n n).1) → ∀ m9 : Mem, m9 = fndM m (-1000002) → An J z (some (vI (-1000002))) m9)) → C_X11_next G d [vR 71, vI a] m2 (An J z) := fun m2 z g72 fin => by
      refine B_X11_next (by omega) ⟨ha, fun _ => ct_findFitting (by omega) g72 h.1.1 (fun m3 F3 f3 => ⟨rfl, ?_⟩), fun y => absurd k y⟩
      have g3 : m3 72 = mem 72 := by rw [← g72]; exact funext (fun z => f3 72 z (by omega) (by omega))
      have q := fin m3 f3
      refine it_loop (n := n) (E := fun f => E_X11_next G d 30 [(0, vR 71), (1, vI a), (2, vI (btA (mem 72) n f).1), (3, vI (btA (mem 72) n f).2.1), (4, vI (btA (mem 72) n f).2.2), (5, vI f)] [] m3 (An J z)) ?_ ?_ 0 (by omega)
      · refine B_X11_next_30 (by omega) ?_
        rw [g3, hn]
        unfold btI at IA
        refine ⟨by omega, fun _ => ⟨by omega, fun y => ⟨ha, fun x => ?_, fun x => ?_⟩, fun y => q.2 y⟩, fun y => absurd (by omega) y⟩
        · have := q.1 y; rw [if_neg x] at this; exact this
        · have := q.1 y; rw [if_pos (by omega)] at this; exact this
      · intro f hf hE
        refine B_X11_next_30 (by omega) ?_
        rw [g3, hn]
        refine ⟨by omega, fun y => by omega, fun _ => ?_⟩
        have I0 := btA_I h.1.1 (show n ≤ 12 by omega) f (by omega)
        refine it_loop (n := n) (E := fun t => E_X11_next G d 44 [(0, vR 71), (1, vI a), (2, vI (btR (mem 72) n f (btA (mem 72) n f) t).1), (3, vI (btR (mem 72) n f (btA (mem 72) n f) t).2.1), (4, vI (btR (mem 72) n f (btA (mem 72) n f) t).2.2), (5, vI f), (6, vI t)] [] m3 (An J z)) ?_ ?_ 0 (by omega)
        · refine B_X11_next_44 (by omega) ?_
          rw [g3, hn]
          exact ⟨by omega, fun _ => hE, fun y => absurd (by omega) y⟩
        · intro t ht hE2
          have I := btR_I h.1.1 (show n ≤ 12 by omega) (show f < 12 by omega) I0 t (by omega)
          have tv := h.1.1.2.2.2.2.2.2.2.1 f t (by omega) (by omega) (by omega) (by omega)
          have r1 := ltN_r (mem 72) n f t true
          have r2 := ltN_r (mem 72) n f t false
          have gr := ltG_r (mem 72) f t (show n ≤ 12 by omega)
          generalize hσ : btR (mem 72) n f (btA (mem 72) n f) t = σ at *
          have eR : btR (mem 72) n f (btA (mem 72) n f) (t + 1) = btS (mem 72) n f t σ := by rw [← hσ]; rfl
          rw [eR] at hE2
          have no : ¬ (0 < mem 72 (41 + 12 * (f : Int) + t) ∧ (σ.1 < 0 ∨ ltG (mem 72) n f t < σ.2.1 ∨ (ltG (mem 72) n f t = σ.2.1 ∧ mem 72 (41 + 12 * (f : Int) + t) < σ.2.2))) → E_X11_next G d 44 [(0, vR 71), (1, vI a), (2, vI σ.1), (3, vI σ.2.1), (4, vI σ.2.2), (5, vI f), (6, vI ((t : Int) + 1))] [] m3 (An J z) := fun c => by
            have e : btS (mem 72) n f t σ = σ := by unfold btS; rw [if_neg c]
            rw [e] at hE2
            exact hE2
          have yes : (0 < mem 72 (41 + 12 * (f : Int) + t) ∧ (σ.1 < 0 ∨ ltG (mem 72) n f t < σ.2.1 ∨ (ltG (mem 72) n f t = σ.2.1 ∧ mem 72 (41 + 12 * (f : Int) + t) < σ.2.2))) → E_X11_next G d 44 [(0, vR 71), (1, vI a), (2, vI (100 * (f : Int) + t)), (3, vI (ltG (mem 72) n f t)), (4, vI (mem 72 (41 + 12 * (f : Int) + t))), (5, vI f), (6, vI ((t : Int) + 1))] [] m3 (An J z) := fun c => by
            have e : btS (mem 72) n f t σ = (100 * (f : Int) + t, ltG (mem 72) n f t, mem 72 (41 + 12 * (f : Int) + t)) := by unfold btS; rw [if_pos c]
            rw [e] at hE2
            exact hE2
          refine B_X11_next_44 (by omega) ?_
          rw [g3, hn]
          unfold btI at I
          refine ⟨by omega, fun y => by omega, fun _ => ⟨by omega, fun y => ?_, fun y => ⟨fun x => no (fun c => by omega), fun x => by omega⟩⟩⟩
          refine ct_letting (by omega) g3 hn (by omega) F3 (by omega) (by omega) (Or.inr rfl) ⟨_, rfl, ct_letting (by omega) g3 hn (by omega) F3 (by omega) (by omega) (Or.inl rfl) ⟨_, rfl, ?_⟩⟩
          rw [nz1, nz0, show tmax (ltN (mem 72) n f t true) (ltN (mem 72) n f t false) = ltG (mem 72) n f t from rfl]
          refine ⟨⟨by omega, by omega⟩, fun x => by omega, fun x => ⟨by omega, fun w => yes ⟨by omega, Or.inl w⟩, fun w => ⟨by omega, fun u => yes ⟨by omega, Or.inr (Or.inl u)⟩, fun u => ⟨fun s => no (fun c => by omega), fun s => ⟨by omega, fun r => no (fun c => by omega), fun r => yes ⟨by omega, Or.inr (Or.inr ⟨by omega, by omega⟩)⟩⟩⟩⟩⟩⟩
    unfold btI at IA
    refine ct_bestTie (by omega) (f1.HR h.1.2.1) h.1.1 hn F1 (fun m2 l2 f2 => ⟨_, rfl, by omega, fun z => ?_, fun z m3 e3 => ⟨_, rfl, ref m3 _ (by rw [ref72 e3, ← f1.S]; exact funext (fun w => f2 72 w (by omega) (by omega) (by omega) (by omega))) (fun m fm => ⟨fun y => absurd y z, fun _ m9 e9 => an_ref2 h (by decide) (by decide) (qF_t f1.q (fun x y u v => f2 x y (by unfold scr at v; omega) (by unfold scr at v; omega) (by unfold scr at v; omega) (by unfold scr at v; omega))) e3 fm.q e9 (fun _ => ?_) ?_⟩)⟩⟩)
    · have g2 : m2 72 = mem 72 := by rw [← f1.S]; exact funext (fun w => f2 72 w (by omega) (by omega) (by omega) (by omega))
      have Rm : ∀ m : Mem, ffF m2 m → Rl J m := fun m fm => Rl_q h (qF_t f1.q (qF_t (b := m2) (fun x y u v => f2 x y (by unfold scr at v; omega) (by unfold scr at v; omega) (by unfold scr at v; omega) (by unfold scr at v; omega)) fm.q)) (fun _ => FT_f F1 (fun x y u => by rw [fm x y (by omega) (by omega), f2 x y (by omega) (by omega) (by omega) (by omega)])) (by rw [fm 44 0 (by omega) (by omega), f2 44 0 (by omega) (by omega) (by omega) (by omega), f1 44 0 (by omega) (by omega) (by omega)]; exact h.1.2.2.2)
      refine ⟨fun y => ⟨_, rfl, ref m2 _ g2 (fun m fm => ⟨fun _ => an_mk (Rm m fm) ?_, fun w => absurd z w⟩)⟩, fun y => ⟨_, rfl, ref m2 _ g2 (fun m fm => ⟨fun _ => an_mk (Rm m fm) ?_, fun w => absurd z w⟩)⟩⟩
      · rw [if_neg y, l2 z]
      · rw [if_pos (by omega)]
    · exact FT_f F1 (fun x y u => by rw [fm x y (by omega) (by omega), e3, ref_f (by omega), f2 x y (by omega) (by omega) (by omega) (by omega)])
    · rw [fm 44 0 (by omega) (by omega), e3, ref_f (by omega), f2 44 0 (by omega) (by omega) (by omega) (by omega), f1 44 0 (by omega) (by omega) (by omega)]; exact h.1.2.2.2
  · refine B_X10_next (by omega) ⟨ha, fun z => by omega, fun _ m1 e1 => ⟨_, rfl, B_X11_next (by omega) ⟨ha, fun y => absurd y k, fun _ m2 e2 => an_ref h (by decide) (by decide) e1 e2⟩⟩⟩
end OP
