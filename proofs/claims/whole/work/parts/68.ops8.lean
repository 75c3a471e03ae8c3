/-! ===== operations: rounds, chance, mend, worst ===== -/
def AnL (J z : Int) (r : Option AV) (m : Mem) : Prop := ∃ _u : Unit, r = some (vL z) ∧ Rl J m
theorem AnL.mk {J z z' : Int} {m : Mem} (h : Rl J m) (e : z' = z) : AnL J z (some (vL z')) m := ⟨(), by rw [e], h⟩
theorem eucT_s : ∀ (f : Nat) (a b : Int), eucT f a b → eucT (f + 1) a b := by
  intro f
  induction f with
  | zero => intro a b h; exact Or.inl h
  | succ f ih =>
    intro a b h
    rcases h with h | h
    · exact Or.inl h
    · exact Or.inr (ih _ _ h)
/-- the list of what fits, in its order -/
def fl (arr : Int → Int) (N : Nat) : List Nat := List.map (fun (i : Nat) => (arr (i : Int)).toNat) (List.range N)
theorem fl_len (arr : Int → Int) (N : Nat) : (fl arr N).length = N := by unfold fl; rw [List.length_map, List.length_range]
theorem fl_get {arr : Int → Int} {N i : Nat} (hi : i < N) : (fl arr N).getD i 0 = (arr (i : Int)).toNat := by
  unfold fl
  rw [List.getD_eq_getElem?_getD, List.getElem?_map, List.getElem?_range hi]
  rfl
theorem fl_b {arr : Int → Int} {N B : Nat} (h : ∀ i : Nat, i < N → (arr (i : Int)).toNat < B) : ∀ x ∈ fl arr N, x < B := by
  intro x hx
  unfold fl at hx
  rw [List.mem_map] at hx
  obtain ⟨i, hi, rfl⟩ := hx
  exact h i (List.mem_range.mp hi)
section OP
variable {G : GT} {d : Nat} {mem : Mem} {J : Int} {Q : Option AV → Mem → Prop}
theorem op_rounds (hd : 40 ≤ d) (h : Rl J mem) : C_X10_rounds G d [vR 0] mem (fun r m1 => ∃ z : Int, r = some (vI z) ∧ C_X11_rounds G d [vR 71] m1 (An J z)) := by
  have v0 := h.1.1.1
  have r0 := h.1.2.1.1.1
  obtain ⟨n, hn⟩ : ∃ n : Nat, mem 72 0 = n := ⟨(mem 72 0).toNat, by omega⟩
  have tn : (mem 72 0).toNat = n := by omega
  have te := ties_eq h.1.1 h.1.2.1 hn
  have t144 : 0 ≤ sm 144 (fun k => bI (decide (0 < mem 72 (41 + (k : Int))))) ∧ sm 144 (fun k => bI (decide (0 < mem 72 (41 + (k : Int))))) ≤ 144 := ⟨sm_nn (fun _ _ => bI_nn _), sm_le1 (fun _ _ => bI_le _)⟩
  refine B_X10_rounds (by omega) ?_
  rw [r0]
  refine ⟨fun z m1 e1 => ⟨_, rfl, B_X11_rounds (by omega) ?_⟩, fun z => ct_ties (by decide) (by omega) (by rw [r0, hn]) (by omega) ⟨_, rfl, ?_⟩⟩
  · rw [ref72 e1]
    exact ⟨fun _ m2 e2 => an_ref h (by decide) (by decide) e1 e2, fun y => absurd z y⟩
  · rw [te]
    refine ⟨by omega, fun c => ct_refresh (by omega) h.1.2.1 h.1.1 h.1.2.2.1 (fun m1 F1 c1 f1 => ⟨rfl, ?_⟩), fun c m1 e1 => ⟨_, rfl, B_X11_rounds (by omega) ?_⟩⟩
    · obtain ⟨F1a, F1b, F1c⟩ := F1
      have F1 : FT (mem 72) m1 := ⟨F1a, F1b, F1c⟩
      rw [tn] at F1b F1c
      have p8 : (2 : Nat) ^ n ≤ 256 := Nat.pow_le_pow_right (n := 2) (by decide) (show n ≤ 8 by omega)
      have cl := cN_le (fitB (mem 72)) (2 ^ n)
      generalize hN : cN (fitB (mem 72)) (2 ^ n) = N at *
      have rg : ∀ i : Nat, i < N → 0 ≤ m1 37 i ∧ m1 37 i < ((2 ^ n : Nat) : Int) := fun i hi => SL_r F1b (by omega) (by omega)
      have len := fl_len (m1 37) N
      have A1 : Ar (m1 37) 0 (fl (m1 37) N) := fun i hi => by
        rw [len] at hi
        have := rg i hi
        rw [fl_get hi, Int.zero_add]; omega
      have b9 : ∀ x ∈ fl (m1 37) N, x < 4096 := fl_b (fun i hi => by have := rg i hi; omega)
      -- the reference's half
      have ref : ∀ (m2 : Mem) (z : Int), m2 72 = mem 72 → (∀ m : Mem, qF m2 m → (∀ (a : Nat) (b : Int), a < 71 → m a b = m2 a b) → (0 ≤ rnS (mem 72) (fl (m1 37) N) → An J z (some (vI (rnS (mem 72) (fl (m1 37) N)))) m) ∧ (¬ (0 ≤ rnS (mem 72) (fl (m1 37) N)) → ∀ m9 : Mem, m9 = fndM m (-1000002) → An J z (some (vI (-1000002))) m9)) → C_X11_rounds G d [vR 71] m2 (An J z) := fun m2 w g72 fin => by
        refine B_X11_rounds (by omega) ?_
        rw [g72]
        refine ⟨fun y => absurd y z, fun _ => ⟨by omega, fun _ => ct_findFitting (by omega) g72 h.1.1 (fun m3 F3 f3 => ⟨rfl, fun m4 e4 => ?_⟩), fun y => absurd c y⟩⟩
        obtain ⟨F3a, F3b⟩ := F3
        rw [tn, hN] at F3b
        rw [tn] at F3a
        rw [F3b] at e4
        refine up_loop (n := N) (E := fun i m => E_X11_rounds G d 43 [(0, vR 71), (1, vI i)] [] m (An J w)) (I := fun i m => (∀ (a : Nat) (b : Int), a ≠ 81 → m a b = m4 a b) ∧ ∀ j : Nat, j < i → m 81 j = m3 77 j) ?_ ?_ (i := 0) (by omega) ⟨fun _ _ _ => rfl, fun j hj => absurd hj (Nat.not_lt_zero _)⟩
        · intro m5 ⟨f5, j5⟩
          refine B_X11_rounds_43 (by omega) ?_
          rw [f5 71 12 (by omega), e4, upM_ne (by omega), F3b]
          refine ⟨by omega, fun _ => ?_, fun y => absurd (by omega) y⟩
          have s5 : m5 72 = mem 72 := by rw [← g72]; exact funext (fun x => by rw [f5 72 x (by omega), e4, upM_ne (by omega), f3 72 x (by omega) (by omega)])
          have q5 : qF m2 m5 := fun a b x y => by rw [f5 a b (by unfold scr at y; omega), e4, upM_ne (by unfold scr at y; omega)]; exact f3.q a b x y
          have l5 : ∀ (a : Nat) (b : Int), a < 71 → m5 a b = m2 a b := fun a b x => by rw [f5 a b (by omega), e4, upM_ne (by omega), f3 a b (by omega) (by omega)]
          have A5 : Ar (m5 81) (256 * ((0 : Nat) : Int)) (fl (m1 37) N) := fun i hi => by
            rw [len] at hi
            have := A1 i (by rw [len]; exact hi)
            rw [show 256 * ((0 : Nat) : Int) + (i : Int) = (i : Int) by omega, j5 i hi, SL_eq F3a F1b (by omega), ← this, Int.zero_add]
          -- rounds r on
          have step : ∀ (r : Nat) (m : Mem), r ≤ 2 → m 72 = mem 72 → Ar (m 81) (256 * ((0 : Nat) : Int)) (fl (m1 37) N) → m 82 ((0 : Nat) : Int) = (fl (m1 37) N).length → (∀ m' : Mem, drF 0 m m' → (D (mem 72) r (fl (m1 37) N) → An J w (some (vI r)) m') ∧ (¬ D (mem 72) r (fl (m1 37) N) → E_X11_rounds G d 71 [(0, vR 71), (1, vI ((r : Int) + 1))] [] m' (An J w))) → E_X11_rounds G d 71 [(0, vR 71), (1, vI r)] [] m (An J w) := fun r m hr sm Am lm k => by
            refine B_X11_rounds_71 (by omega) ⟨by omega, fun y => by omega, fun _ => ct_does (mem 72) r (d - 1) m _ 0 (fl (m1 37) N) (by omega) (by omega) sm Am lm (by omega) b9 (fun m' d' => ⟨_, rfl, bz_inr _, fun y => (k m' d').2 (bz_0.mp y), fun y => (k m' d').1 (bz_n0.mp y)⟩)⟩
          have kp : ∀ m m' : Mem, drF 0 m m' → m 72 = mem 72 → Ar (m 81) (256 * ((0 : Nat) : Int)) (fl (m1 37) N) → m 82 ((0 : Nat) : Int) = (fl (m1 37) N).length → qF m2 m → (∀ (a : Nat) (b : Int), a < 71 → m a b = m2 a b) → m' 72 = mem 72 ∧ Ar (m' 81) (256 * ((0 : Nat) : Int)) (fl (m1 37) N) ∧ m' 82 ((0 : Nat) : Int) = (fl (m1 37) N).length ∧ qF m2 m' ∧ (∀ (a : Nat) (b : Int), a < 71 → m' a b = m2 a b) := fun m m' dr s1 s2 s3 s4 s5 => by
            refine ⟨by rw [← s1]; exact funext (fun x => dr.1 72 x (by omega) (by omega)), fun i hi => ?_, ?_, fun a b x y => ?_, fun a b x => by rw [dr.1 a b (by omega) (by omega)]; exact s5 a b x⟩
            · rw [dr.2.1 _ (by rw [len] at hi; omega)]; exact s2 i hi
            · rw [dr.2.2 _ (by omega)]; exact s3
            · rw [dr.1 a b (by unfold scr at y; omega) (by unfold scr at y; omega)]; exact s4 a b x y
          have e82 : m5 82 ((0 : Nat) : Int) = (fl (m1 37) N).length := by rw [f5 82 _ (by omega), e4, show ((0 : Nat) : Int) = 0 from rfl, upM_same, len]
          refine step 0 m5 (by omega) s5 A5 e82 (fun m6 d6 => ?_)
          obtain ⟨t1, t2, t3, t4, t5⟩ := kp m5 m6 d6 s5 A5 e82 q5 l5
          refine ⟨fun y => ?_, fun y => step 1 m6 (by omega) t1 t2 t3 (fun m7 d7 => ?_)⟩
          · have e : rnS (mem 72) (fl (m1 37) N) = 0 := by unfold rnS; rw [if_pos y]
            have := (fin m6 t4 t5).1 (by omega)
            rw [e] at this; exact this
          · obtain ⟨u1, u2, u3, u4, u5⟩ := kp m6 m7 d7 t1 t2 t3 t4 t5
            refine ⟨fun x => ?_, fun x => step 2 m7 (by omega) u1 u2 u3 (fun m8 d8 => ?_)⟩
            · have e : rnS (mem 72) (fl (m1 37) N) = 1 := by unfold rnS; rw [if_neg y, if_pos x]
              have := (fin m7 u4 u5).1 (by omega)
              rw [e] at this; exact this
            · obtain ⟨o1, o2, o3, o4, o5⟩ := kp m7 m8 d8 u1 u2 u3 u4 u5
              refine ⟨fun v => ?_, fun v => B_X11_rounds_71 (by omega) ⟨by decide, fun _ m9 e9 => (fin m8 o4 o5).2 ?_ m9 e9, fun s => absurd (by decide) s⟩⟩
              · have e : rnS (mem 72) (fl (m1 37) N) = 2 := by unfold rnS; rw [if_neg y, if_neg x, if_pos v]
                have := (fin m8 o4 o5).1 (by omega)
                rw [e] at this; exact this
              · unfold rnS
                rw [if_neg y, if_neg x, if_neg v]
                decide
        · intro i m5 hi ⟨f5, j5⟩ hE
          refine B_X11_rounds_43 (by omega) ?_
          rw [f5 71 12 (by omega), e4, upM_ne (by omega), F3b]
          refine ⟨by omega, fun y => by omega, fun _ => ⟨by omega, by omega, fun m6 e6 => hE m6 ⟨fun a b x => by rw [e6, upM_ne (by omega), f5 a b x, e4], fun j hj => ?_⟩⟩⟩
          by_cases q : j = i
          · subst q
            rw [e6, upM_same, f5 77 _ (by omega), e4, upM_ne (by omega)]
          · rw [e6, upM_ne (by omega)]; exact j5 j (by omega)
      have rr : rnS (mem 72) (fl (m1 37) N) = -1 ∨ rnS (mem 72) (fl (m1 37) N) = 0 ∨ rnS (mem 72) (fl (m1 37) N) = 1 ∨ rnS (mem 72) (fl (m1 37) N) = 2 := by
        unfold rnS
        (repeat' split) <;> omega
      have g1 : ∀ m2 : Mem, (∀ (a : Nat) (b : Int), a ≠ 46 → a ≠ 47 → a ≠ 48 → m2 a b = m1 a b) → m2 72 = mem 72 := fun m2 f2 => by rw [← f1.S]; exact funext (fun x => f2 72 x (by omega) (by omega) (by omega))
      refine ct_roundsNeeded (by omega) (f1.HR h.1.2.1) h.1.1 hn A1 (by omega) (by rw [F1c, len]) b9 (fun m2 f2 => ⟨_, rfl, by omega, fun y => ⟨_, rfl, ref m2 _ (g1 m2 f2) (fun m q l => ⟨fun _ => an_mk ?_ rfl, fun x => absurd y x⟩)⟩, fun y m3 e3 => ⟨_, rfl, ref m3 _ (by rw [ref72 e3]; exact g1 m2 f2) (fun m q l => ⟨fun x => absurd x y, fun _ m9 e9 => an_ref2 h (by decide) (by decide) (qF_t f1.q (b := m1) (fun a b x y => f2 a b (by unfold scr at y; omega) (by unfold scr at y; omega) (by unfold scr at y; omega))) e3 q e9 (fun _ => ?_) ?_⟩)⟩⟩)
      · exact Rl_q h (qF_t f1.q (qF_t (b := m2) (fun a b x y => f2 a b (by unfold scr at y; omega) (by unfold scr at y; omega) (by unfold scr at y; omega)) q)) (fun _ => FT_f F1 (fun a b x => by rw [l a b (by omega), f2 a b (by omega) (by omega) (by omega)])) (by rw [l 44 0 (by omega), f2 44 0 (by omega) (by omega) (by omega), f1 44 0 (by omega) (by omega) (by omega)]; exact h.1.2.2.2)
      · exact FT_f F1 (fun a b x => by rw [l a b (by omega), e3, ref_f (by omega), f2 a b (by omega) (by omega) (by omega)])
      · rw [l 44 0 (by omega), e3, ref_f (by omega), f2 44 0 (by omega) (by omega) (by omega), f1 44 0 (by omega) (by omega) (by omega)]; exact h.1.2.2.2
    · rw [ref72 e1]
      exact ⟨fun y => absurd y z, fun _ => ⟨by omega, fun y => absurd y c, fun _ m2 e2 => an_ref h (by decide) (by decide) e1 e2⟩⟩
theorem op_mend (hd : 40 ≤ d) (h : Rl J mem) {a : Int} (ha : inr a) : C_X10_mend G d [vR 0, vI a] mem (fun r m1 => ∃ z : Int, r = some (vI z) ∧ C_X11_mend G d [vR 71, vI a] m1 (An J z)) := by
  have v0 := h.1.1.1
  obtain ⟨n, hn⟩ : ∃ n : Nat, mem 72 0 = n := ⟨(mem 72 0).toNat, by omega⟩
  have p := p2n (show n ≤ 12 by omega)
  have tn : (mem 72 0).toNat = n := by omega
  by_cases k : 0 ≤ a ∧ a ≤ 9999
  · refine B_X10_mend (by omega) ⟨ha, fun _ => ct_refresh (by omega) h.1.2.1 h.1.1 h.1.2.2.1 (fun m1 F1 c1 f1 => ⟨rfl, ct_bestToMend (by omega) (f1.HR h.1.2.1) h.1.1 hn F1 ha (fun m2 f2 => ⟨_, rfl, _, rfl, ?_⟩)⟩), fun z => by omega⟩
    have g72 : m2 72 = mem 72 := by rw [← f1.S]; exact funext (fun x => f2 72 x (by omega) (by omega))
    have Rm : ∀ m : Mem, (∀ (x : Nat) (y : Int), x ≠ 85 → m x y = m2 x y) → Rl J m := fun m f => Rl_q h (qF_t f1.q (qF_t (b := m2) (fun x y u v => f2 x y (by unfold scr at v; omega) (by unfold scr at v; omega)) (fun x y u v => f x y (by unfold scr at v; omega)))) (fun _ => FT_f F1 (fun x y u => by rw [f x y (by omega), f2 x y (by omega) (by omega)])) (by rw [f 44 0 (by omega), f2 44 0 (by omega) (by omega), f1 44 0 (by omega) (by omega) (by omega)]; exact h.1.2.2.2)
    have s72 : ∀ m : Mem, (∀ (x : Nat) (y : Int), x ≠ 85 → m x y = m2 x y) → m 72 = mem 72 := fun m f => by rw [← g72]; exact funext (fun x => f 72 x (by omega))
    have sh : ishl 1 (mem 72 0) = ((2 ^ n : Nat) : Int) := by rw [hn, ishl_1 (by omega)]
    refine B_X11_mend (by omega) ⟨ha, fun _ => ?_, fun y => absurd k y⟩
    -- marks
    refine up_loop (n := 2 ^ n) (E := fun s m => E_X11_mend G d 20 [(0, vR 71), (1, vI a), (2, vI s)] [] m (An J (mbS (mem 72) n a (2 ^ n - 1) : Nat))) (I := fun s m => (∀ (x : Nat) (y : Int), x ≠ 85 → m x y = m2 x y) ∧ ∀ j : Nat, j < s → m 85 j = zt (mem 72) 0 j) ?_ ?_ (i := 0) (by omega) ⟨fun _ _ _ => rfl, fun j hj => absurd hj (Nat.not_lt_zero _)⟩
    · intro m3 ⟨f3, j3⟩
      refine B_X11_mend_20 (by omega) ?_
      rw [s72 m3 f3, sh]
      refine ⟨by omega, fun _ => ?_, fun y => absurd (by omega) y⟩
      -- the sums
      refine up_loop (n := n) (E := fun i m => E_X11_mend G d 55 [(0, vR 71), (1, vI a), (2, vI i)] [] m (An J (mbS (mem 72) n a (2 ^ n - 1) : Nat))) (I := fun i m => (∀ (x : Nat) (y : Int), x ≠ 85 → m x y = m2 x y) ∧ ∀ j : Nat, j < 2 ^ n → m 85 j = zt (mem 72) i j) ?_ ?_ (i := 0) (by omega) ⟨f3, j3⟩
      · intro m4 ⟨f4, j4⟩
        refine B_X11_mend_55 (by omega) ?_
        rw [s72 m4 f4, hn]
        refine ⟨by omega, fun _ => ?_, fun y => absurd (by omega) y⟩
        have lp := it_loop (n := 2 ^ n - 1) (E := fun i => E_X11_mend G d 124 [(0, vR 71), (1, vI a), (2, vI (mbS (mem 72) n a i)), (3, vI ((i + 1 : Nat) : Int))] [] m4 (An J (mbS (mem 72) n a (2 ^ n - 1) : Nat))) ?_ ?_ 0 (by omega)
        · exact lp
        · refine B_X11_mend_124 (by omega) ?_
          rw [s72 m4 f4, sh]
          exact ⟨by omega, fun _ => an_mk (Rm m4 f4) rfl, fun y => absurd (by omega) y⟩
        · intro i hi hE
          have bl := mbS_le (mem 72) n a i
          have pi := prS_r h.1.1 (i := n) (by omega) (i + 1)
          have pb := prS_r h.1.1 (i := n) (by omega) (mbS (mem 72) n a i)
          have st : mbS (mem 72) n a (i + 1) = if prS (mem 72) n (i + 1) ≤ a ∧ (zt (mem 72) n (mbS (mem 72) n a i) < zt (mem 72) n (i + 1) ∨ (zt (mem 72) n (i + 1) = zt (mem 72) n (mbS (mem 72) n a i) ∧ prS (mem 72) n (i + 1) < prS (mem 72) n (mbS (mem 72) n a i))) then i + 1 else mbS (mem 72) n a i := rfl
          have no : ¬ (prS (mem 72) n (i + 1) ≤ a ∧ (zt (mem 72) n (mbS (mem 72) n a i) < zt (mem 72) n (i + 1) ∨ (zt (mem 72) n (i + 1) = zt (mem 72) n (mbS (mem 72) n a i) ∧ prS (mem 72) n (i + 1) < prS (mem 72) n (mbS (mem 72) n a i)))) → E_X11_mend G d 124 [(0, vR 71), (1, vI a), (2, vI (mbS (mem 72) n a i)), (3, vI (((i + 1 : Nat) : Int) + 1))] [] m4 (An J (mbS (mem 72) n a (2 ^ n - 1) : Nat)) := fun c => by rw [st, if_neg c] at hE; exact hE
          have yes : (prS (mem 72) n (i + 1) ≤ a ∧ (zt (mem 72) n (mbS (mem 72) n a i) < zt (mem 72) n (i + 1) ∨ (zt (mem 72) n (i + 1) = zt (mem 72) n (mbS (mem 72) n a i) ∧ prS (mem 72) n (i + 1) < prS (mem 72) n (mbS (mem 72) n a i)))) → E_X11_mend G d 124 [(0, vR 71), (1, vI a), (2, vI ((i + 1 : Nat) : Int)), (3, vI (((i + 1 : Nat) : Int) + 1))] [] m4 (An J (mbS (mem 72) n a (2 ^ n - 1) : Nat)) := fun c => by rw [st, if_pos c] at hE; exact hE
          have e1 : m4 85 ((i + 1 : Nat) : Int) = zt (mem 72) n (i + 1) := j4 (i + 1) (by omega)
          have e2 : m4 85 (mbS (mem 72) n a i) = zt (mem 72) n (mbS (mem 72) n a i) := j4 _ (by omega)
          refine B_X11_mend_124 (by omega) ?_
          rw [s72 m4 f4, sh]
          refine ⟨by omega, fun y => by omega, fun _ => ?_⟩
          refine ct_priceOf (by omega) (s72 m4 f4) h.1.1 hn (by omega) ⟨_, rfl, ?_⟩
          rw [e1, e2]
          refine ⟨by omega, by omega, fun y => ⟨by omega, fun x => no (by omega), fun x => yes (by omega)⟩, fun y => ⟨fun x => ⟨by omega, fun w => no (by omega), fun w => no (by omega)⟩, fun x => ct_priceOf (by omega) (s72 m4 f4) h.1.1 hn (by omega) ⟨_, rfl, ⟨by omega, by omega⟩, fun w => ⟨ha, fun u => no (by omega), fun u => no (by omega)⟩, fun w => ⟨ha, fun u => no (by omega), fun u => yes (by omega)⟩⟩⟩⟩
      · intro i m4 hi ⟨f4, j4⟩ hE
        refine B_X11_mend_55 (by omega) ?_
        rw [s72 m4 f4, hn]
        refine ⟨by omega, fun y => by omega, fun _ => ?_⟩
        have pi := p2 (show i < 12 by omega)
        have pi0 := Nat.two_pow_pos i
        refine up_loop (n := 2 ^ n) (E := fun s m => E_X11_mend G d 67 [(0, vR 71), (1, vI a), (2, vI i), (3, vI s)] [] m (An J (mbS (mem 72) n a (2 ^ n - 1) : Nat))) (I := fun s m => (∀ (x : Nat) (y : Int), x ≠ 85 → m x y = m2 x y) ∧ ∀ j : Nat, j < 2 ^ n → m 85 j = if j < s then zt (mem 72) (i + 1) j else zt (mem 72) i j) ?_ ?_ (i := 0) (by omega) ⟨f4, fun j hj => by rw [if_neg (by omega)]; exact j4 j hj⟩
        · intro m5 ⟨f5, j5⟩
          refine B_X11_mend_67 (by omega) ?_
          rw [s72 m5 f5, sh]
          exact ⟨by omega, fun _ => hE m5 ⟨f5, fun j hj => by rw [j5 j hj, if_pos hj]⟩, fun y => absurd (by omega) y⟩
        · intro s m5 hs ⟨f5, j5⟩ hE2
          have zr := zt_r (mem 72) i s
          have zr2 := zt_r (mem 72) i (s - 2 ^ i)
          have pin : (2 : Nat) ^ i ≤ 4096 := by omega
          have e85 : m5 85 s = zt (mem 72) i s := by rw [j5 s hs, if_neg (by omega)]
          have zs : zt (mem 72) (i + 1) s = zt (mem 72) i s + (if s.testBit i = true then zt (mem 72) i (s - 2 ^ i) else 0) := rfl
          have nxt : ∀ m6 : Mem, m6 = upM m5 85 s (zt (mem 72) (i + 1) s) → E_X11_mend G d 67 [(0, vR 71), (1, vI a), (2, vI i), (3, vI ((s : Int) + 1))] [] m6 (An J (mbS (mem 72) n a (2 ^ n - 1) : Nat)) := fun m6 e6 => by
            refine hE2 m6 ⟨fun x y u => by rw [e6, upM_ne (by omega)]; exact f5 x y u, fun j hj => ?_⟩
            by_cases q : j = s
            · subst q; rw [e6, upM_same, if_pos (by omega)]
            · rw [e6, upM_ne (by omega), j5 j hj]
              by_cases c : j < s
              · rw [if_pos c, if_pos (by omega)]
              · rw [if_neg c, if_neg (by omega)]
          refine B_X11_mend_67 (by omega) ?_
          rw [s72 m5 f5, sh, bt_n (by omega) (by omega), e85]
          refine ⟨by omega, fun y => by omega, fun _ => ⟨by omega, fun y => ⟨by omega, fun m6 e6 => nxt m6 ?_⟩, fun y => ?_⟩⟩
          · rw [e6, zs, if_neg (fun c => y (bI_eq1.mpr c))]
          · have tb := bI_eq1.mp y
            have ge : 2 ^ i ≤ s := Nat.ge_two_pow_of_testBit tb
            have wos : wo s (2 ^ i) = s - 2 ^ i := by
              have h1 : wo s (2 ^ i) ||| 2 ^ i = s := by
                apply Nat.eq_of_testBit_eq
                intro b
                rw [Nat.testBit_or, wo_tb, Nat.testBit_two_pow]
                by_cases q : i = b
                · subst q; rw [tb]; simp
                · rw [decide_eq_false q]; simp
              have h2 : wo s (2 ^ i) &&& 2 ^ i = 0 := by
                apply Nat.eq_of_testBit_eq
                intro b
                rw [Nat.testBit_and, wo_tb, Nat.testBit_two_pow, Nat.zero_testBit]
                by_cases q : i = b
                · subst q; simp
                · rw [decide_eq_false q]; simp
              have wl : wo s (2 ^ i) < 2 ^ 12 := wo_lt (by omega)
              have h3 := BitVec.add_eq_or_of_and_eq_zero (BitVec.ofNat 20 (wo s (2 ^ i))) (BitVec.ofNat 20 (2 ^ i)) (by
                apply BitVec.eq_of_toNat_eq
                rw [BitVec.toNat_and, BitVec.toNat_ofNat, BitVec.toNat_ofNat, Nat.mod_eq_of_lt (by omega), Nat.mod_eq_of_lt (by omega), h2]; rfl)
              have h4 := congrArg BitVec.toNat h3
              rw [BitVec.toNat_add, BitVec.toNat_or, BitVec.toNat_ofNat, BitVec.toNat_ofNat, Nat.mod_eq_of_lt (show wo s (2 ^ i) < 2 ^ 20 by omega), Nat.mod_eq_of_lt (show 2 ^ i < 2 ^ 20 by omega), h1] at h4
              omega
            rw [ishl_1 (by omega), iand_wo (by omega) (by omega), wos]
            have e2 : m5 85 ((s - 2 ^ i : Nat) : Int) = zt (mem 72) i (s - 2 ^ i) := by
              rw [j5 _ (by omega), if_pos (by omega)]
              have nb : (s - 2 ^ i).testBit i = false := by
                rw [← wos, wo_tb, Nat.testBit_two_pow, decide_eq_true rfl]; simp
              show zt (mem 72) i (s - 2 ^ i) + (if (s - 2 ^ i).testBit i = true then _ else 0) = _
              rw [nb, if_neg (by decide), Int.add_zero]
            rw [e2]
            refine ⟨by omega, by omega, fun m6 e6 => nxt m6 ?_⟩
            rw [e6, zs, if_pos tb]
    · intro s m3 hs ⟨f3, j3⟩ hE
      have nxt : ∀ (m4 : Mem) (v : Int), v = zt (mem 72) 0 s → m4 = upM m3 85 s v → E_X11_mend G d 20 [(0, vR 71), (1, vI a), (2, vI ((s : Int) + 1))] [] m4 (An J (mbS (mem 72) n a (2 ^ n - 1) : Nat)) := fun m4 v hv e4 => by
        refine hE m4 ⟨fun x y u => by rw [e4, upM_ne (by omega)]; exact f3 x y u, fun j hj => ?_⟩
        by_cases q : j = s
        · subst q; rw [e4, upM_same, hv]
        · rw [e4, upM_ne (by omega)]; exact j3 j (by omega)
      refine B_X11_mend_20 (by omega) ?_
      rw [s72 m3 f3, sh]
      refine ⟨by omega, fun y => by omega, fun _ => ct_barsOf (s72 m3 f3) h.1.1 (by omega) (by omega) ⟨_, rfl, ?_, fun y => ⟨by omega, fun m4 e4 => nxt m4 0 ?_ e4⟩, fun y => ⟨by omega, fun m4 e4 => nxt m4 1 ?_ e4⟩⟩⟩
      · unfold barsS
        split
        · decide
        · have := (fbad_neg (S := mem 72) (set := s) (mem 72 1).toNat 0).2
          have := h.1.1.2.1
          have fr : ∀ k i : Nat, fbad (mem 72) s k i ≤ ((i + k : Nat) : Int) := by
            intro k
            induction k with
            | zero => intro i; unfold fbad; omega
            | succ k ih => intro i; unfold fbad; have := ih (i + 1); split <;> omega
          have := fr (mem 72 1).toNat 0
          omega
      · show 0 = bI (fitB (mem 72) s)
        have : fitB (mem 72) s = false := by unfold fitB; rw [decide_eq_false (by omega)]
        rw [this]; rfl
      · show 1 = bI (fitB (mem 72) s)
        have : fitB (mem 72) s = true := by unfold fitB; rw [decide_eq_true (by omega)]
        rw [this]; rfl
  · refine B_X10_mend (by omega) ⟨ha, fun z => by omega, fun _ m1 e1 => ⟨_, rfl, B_X11_mend (by omega) ⟨ha, fun y => absurd y k, fun _ m2 e2 => an_ref h (by decide) (by decide) e1 e2⟩⟩⟩
end OP
