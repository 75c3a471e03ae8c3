/-! ===== operations: blame, leads, likely, check, known, more, without, pair ===== -/
section OP
variable {G : GT} {d : Nat} {mem : Mem} {J : Int} {Q : Option AV → Mem → Prop}
theorem nl_le {S : NS} (hV : VN S) (set : Nat) : 0 ≤ nl S set ∧ nl S set ≤ 60 := by
  have v1 := hV.2.1
  unfold nl
  refine ⟨sm_nn (fun _ _ => bI_nn _), ?_⟩
  have := sm_le1 (n := (S 1).toNat) (f := fun s => bI (bad S set s)) (fun _ _ => bI_le _)
  omega
/-- the reference's best so far, before set k -/
def blP (S : NS) (k : Nat) : Nat := blS S (k - 1)
def blV (S : NS) (k : Nat) : Int := if k = 0 then 61 else nl S (blS S (k - 1))
theorem blame_39 (hd : 3 ≤ d) {S : NS} (hS : mem 72 = S) (hV : VN S) {a : Int} {n k : Nat} (hn : S 0 = n) (hk : k < 2 ^ n) (hE : E_X11_blame G d 24 [(0, vR 71), (1, vI a), (2, vI (blP S (k + 1))), (3, vI (blV S (k + 1))), (4, vI ((k : Int) + 1))] [] mem Q) : E_X11_blame G d 39 [(0, vR 71), (1, vI a), (2, vI (blP S k)), (3, vI (blV S k)), (4, vI k), (5, vI 0), (6, vI 0)] [] mem Q := by
  have v0 := hV.1
  have v1 := hV.2.1
  have v2 := hV.2.2.1
  have p := p2n (show n ≤ 12 by omega)
  obtain ⟨m, hm⟩ : ∃ m : Nat, S 1 = m := ⟨(S 1).toNat, by omega⟩
  have nk := nl_le hV k
  have e1 : blV S (k + 1) = nl S (blS S k) := if_neg (by omega)
  have e2 : blP S (k + 1) = blS S k := rfl
  rw [e1, e2] at hE
  have bl := blS_le S (k - 1)
  have lp := it_loop (n := m) (E := fun i => E_X11_blame G d 39 [(0, vR 71), (1, vI a), (2, vI (blP S k)), (3, vI (blV S k)), (4, vI k), (5, vI (sm i (fun s => bI (bad S k s)))), (6, vI i)] [] mem Q) ?_ ?_ 0 (by omega)
  · exact lp
  · refine B_X11_blame_39 (by omega) ?_
    rw [hS, hm, bits_pc (by omega), bits_pc (by unfold blP; omega), show sm m (fun s => bI (bad S k s)) = nl S k by unfold nl; rw [show (S 1).toNat = m by omega]]
    have pk := pc_nn k
    have pk2 := pc_le k
    have pb := pc_nn (blP S k)
    have pb2 := pc_le (blP S k)
    cases k with
    | zero =>
      have b0 : blP S 0 = 0 := rfl
      have b1 : blV S 0 = 61 := rfl
      rw [b0, b1] at *
      rw [show blS S 0 = 0 from rfl] at hE
      rw [pc_0] at *
      refine ⟨by omega, fun _ => ⟨by omega, fun z => ⟨by omega, fun y => by omega, fun _ => hE⟩, fun z => by omega⟩, fun z => absurd (by omega) z⟩
    | succ k =>
      have b0 : blP S (k + 1) = blS S k := rfl
      have b1 : blV S (k + 1) = nl S (blS S k) := if_neg (by omega)
      have nb := nl_le hV (blS S k)
      have pb3 := pc_nn (blS S k)
      have pb4 := pc_le (blS S k)
      rw [b0, b1] at *
      have st : blS S (k + 1) = if nl S (k + 1) ≤ nl S (blS S k) ∧ pc (k + 1) ≤ S 2 ∧ (nl S (k + 1) < nl S (blS S k) ∨ pc (k + 1) < pc (blS S k)) then k + 1 else blS S k := rfl
      have no : ¬ (nl S (k + 1) ≤ nl S (blS S k) ∧ pc (k + 1) ≤ S 2 ∧ (nl S (k + 1) < nl S (blS S k) ∨ pc (k + 1) < pc (blS S k))) → E_X11_blame G d 24 [(0, vR 71), (1, vI a), (2, vI (blS S k)), (3, vI (nl S (blS S k))), (4, vI (((k + 1 : Nat) : Int) + 1))] [] mem Q := fun c => by rw [st, if_neg c] at hE; exact hE
      have yes : (nl S (k + 1) ≤ nl S (blS S k) ∧ pc (k + 1) ≤ S 2 ∧ (nl S (k + 1) < nl S (blS S k) ∨ pc (k + 1) < pc (blS S k))) → E_X11_blame G d 24 [(0, vR 71), (1, vI a), (2, vI ((k + 1 : Nat) : Int)), (3, vI (nl S (k + 1))), (4, vI (((k + 1 : Nat) : Int) + 1))] [] mem Q := fun c => by rw [st, if_pos c] at hE; exact hE
      refine ⟨by omega, fun _ => ⟨by omega, fun z => ⟨by omega, fun y => no (by omega), fun y => yes (by omega)⟩, fun z => ⟨fun y => ⟨by omega, fun x => no (by omega), fun x => no (by omega)⟩, fun y => ⟨by omega, fun x => ⟨fun w => no (by omega), fun w => no (by omega)⟩, fun x => ⟨fun w => no (by omega), fun w => yes (by omega)⟩⟩⟩⟩, fun z => absurd (by omega) z⟩
  · intro i hi hE2
    rw [sm_s] at hE2
    have no : bad S k i = false → E_X11_blame G d 39 [(0, vR 71), (1, vI a), (2, vI (blP S k)), (3, vI (blV S k)), (4, vI k), (5, vI (sm i (fun s => bI (bad S k s)) + 0)), (6, vI ((i : Int) + 1))] [] mem Q := fun e => by rw [e, bI_f] at hE2; exact hE2
    have yes : bad S k i = true → E_X11_blame G d 39 [(0, vR 71), (1, vI a), (2, vI (blP S k)), (3, vI (blV S k)), (4, vI k), (5, vI (sm i (fun s => bI (bad S k s)) + 1)), (6, vI ((i : Int) + 1))] [] mem Q := fun e => by rw [e, bI_t] at hE2; exact hE2
    refine B_X11_blame_39 (by omega) ?_
    rw [hS, hm]
    refine ⟨by omega, fun z => by omega, fun _ => ⟨by omega, fun z => no ?_, fun z => ct_isLetS hS hV (by omega) (by omega) ⟨_, rfl, bz_inr _, fun y => no ?_, fun y => yes ?_⟩⟩⟩
    · unfold bad cnt; rw [decide_eq_false z]; rfl
    · unfold bad; rw [bz_n0.mp y, Bool.not_true, Bool.and_false]
    · unfold bad cnt
      rw [decide_eq_true z, Bool.eq_false_iff.mpr (fun e => y (bz_n0.mpr e))]; rfl
theorem op_blame (hd : 40 ≤ d) (h : Rl J mem) {a : Int} (ha : inr a) : C_X10_blame G d [vR 0, vI a] mem (fun r m1 => ∃ z : Int, r = some (vI z) ∧ C_X11_blame G d [vR 71, vI a] m1 (An J z)) := by
  have v0 := h.1.1.1
  obtain ⟨n, hn⟩ : ∃ n : Nat, mem 72 0 = n := ⟨(mem 72 0).toNat, by omega⟩
  have p := p2n (show n ≤ 12 by omega)
  have tn : (mem 72 0).toNat = n := by omega
  by_cases k : 0 ≤ a ∧ a ≤ 1
  · refine B_X10_blame (by omega) ⟨ha, fun _ => ct_refresh (by omega) h.1.2.1 h.1.1 h.1.2.2.1 (fun m1 F1 c1 f1 => ⟨rfl, ?_⟩), fun z => by omega⟩
    have bl := blS_le (mem 72) (2 ^ n - 1)
    have Rm := Rl_fit h F1 f1 (qF_r _) (fun _ _ _ => rfl)
    have nls := F1.1
    rw [tn] at nls
    have ref : ∀ w : Int, w = (if a = 0 then nl (mem 72) (blS (mem 72) (2 ^ n - 1)) else (blS (mem 72) (2 ^ n - 1) : Nat)) → ∃ z' : Int, some (vI w) = some (vI z') ∧ C_X11_blame G d [vR 71, vI a] m1 (An J z') := fun w hw => by
      refine ⟨_, rfl, B_X11_blame (by omega) ⟨ha, fun _ => ?_, fun y => absurd k y⟩⟩
      have e2 : blP (mem 72) (2 ^ n) = blS (mem 72) (2 ^ n - 1) := rfl
      have e3 : blV (mem 72) (2 ^ n) = nl (mem 72) (blS (mem 72) (2 ^ n - 1)) := if_neg (by omega)
      have lp := it_loop (n := 2 ^ n) (E := fun i => E_X11_blame G d 24 [(0, vR 71), (1, vI a), (2, vI (blP (mem 72) i)), (3, vI (blV (mem 72) i)), (4, vI i)] [] m1 (An J w)) ?_ ?_ 0 (by omega)
      · exact lp
      · refine B_X11_blame_24 (by omega) ?_
        rw [f1.S, hn, ishl_1 (by omega), e2, e3]
        refine ⟨by omega, fun _ => ⟨ha, fun y => an_mk Rm ?_, fun y => an_mk Rm ?_⟩, fun y => absurd (by omega) y⟩
        · rw [hw, if_neg y]
        · rw [hw, if_pos (by omega)]
      · intro i hi hE
        refine B_X11_blame_24 (by omega) ?_
        rw [f1.S, hn, ishl_1 (by omega)]
        exact ⟨by omega, fun y => by omega, fun _ => blame_39 (by omega) f1.S h.1.1 hn hi hE⟩
    refine ct_leastNotLet (by omega) (f1.HR h.1.2.1) h.1.1 F1 hn ⟨_, rfl, fun y => ref _ ?_, fun y => ⟨by omega, ref _ ?_⟩⟩
    · rw [if_neg y]
    · rw [if_pos (by omega), nls _ (by omega)]
  · refine B_X10_blame (by omega) ⟨ha, fun z => by omega, fun _ m1 e1 => ⟨_, rfl, B_X11_blame (by omega) ⟨ha, fun y => absurd y k, fun _ m2 e2 => an_ref h (by decide) (by decide) e1 e2⟩⟩⟩
theorem leads_32 (hd : 2 ≤ d) {S : NS} (hS : mem 72 = S) (hV : VN S) {n set : Nat} (hn : S 0 = n) (hs : set < 2 ^ n) {l3 : Int} (hE : E_X11_leads G d 22 [(0, vR 71), (2, vI (pks S (S 1).toNat set)), (3, vI l3)] [] mem Q) : E_X11_leads G d 32 [(0, vR 71), (2, vI set), (3, vI l3), (4, vI 0)] [] mem Q := by
  have v0 := hV.1
  have v1 := hV.2.1
  have p := p2n (show n ≤ 12 by omega)
  obtain ⟨m, hm⟩ : ∃ m : Nat, S 1 = m := ⟨(S 1).toNat, by omega⟩
  rw [show (S 1).toNat = m by omega] at hE
  have lp := it_loop (n := m) (E := fun i => E_X11_leads G d 32 [(0, vR 71), (2, vI (pks S i set)), (3, vI l3), (4, vI i)] [] mem Q) ?_ ?_ 0 (by omega)
  · exact lp
  · refine B_X11_leads_32 hd ?_
    rw [hS, hm]
    exact ⟨by omega, fun _ => hE, fun z => absurd (by omega) z⟩
  · intro i hi hE2
    obtain ⟨x, y, q1, q2, q3, q4, q5, q6, q7⟩ := hV.say (s := i) (by omega)
    have kd := hV.kind (i := x) (by omega) (by omega)
    have lt := pks_lt hV (k := i) hn (by omega) hs
    have no : ¬ (cnt S i = true ∧ S (185 + 4 * (i : Int) + 2) = 1 ∧ (S (5 + 3 * (x : Int)) ≠ 3 ∧ S (5 + 3 * (x : Int)) ≠ 5) ∧ (pks S i set).testBit x = true) → E_X11_leads G d 32 [(0, vR 71), (2, vI (ior (pks S i set) 0)), (3, vI l3), (4, vI ((i : Int) + 1))] [] mem Q := fun c => by
      rw [ior_0 (by omega)]
      have e : pks S (i + 1) set = pks S i set := by
        show ps S i (pks S i set) = _
        unfold ps
        rw [q1, if_neg]
        exact c
      rw [e] at hE2
      exact hE2
    refine B_X11_leads_32 hd ?_
    rw [hS, hm, Int.add_zero, q1, q2, Int.add_zero, bt_n (by omega) (by omega)]
    unfold cnt at no
    rw [decide_eq_true_iff] at no
    refine ⟨by omega, fun z => by omega, fun _ => ⟨by omega, by omega, by omega, fun z => no (fun c => z c.1), fun z => ⟨by omega, fun w => no (fun c => w c.2.1), fun w => ⟨fun v => no (fun c => c.2.2.1.1 v), fun v => ⟨fun u => no (fun c => c.2.2.1.2 u), fun u => ⟨by omega, fun t => no (fun c => t (bI_eq1.mpr c.2.2.2)), fun t => ⟨by omega, ?_⟩⟩⟩⟩⟩⟩⟩
    have e : pks S (i + 1) set = pks S i set ||| 2 ^ y := by
      show ps S i (pks S i set) = _
      unfold ps cnt
      rw [q1, q2, if_pos ⟨decide_eq_true z, by omega, ⟨v, u⟩, bI_eq1.mp t⟩]
      rfl
    rw [e] at hE2
    have py := p2 (show y < n by omega)
    rw [ishl_1 (by omega), ior_nn (by omega) (by omega)]
    exact hE2
theorem op_leads (hd : 40 ≤ d) (h : Rl J mem) {a : Int} (ha : inr a) : C_X10_leads G d [vR 0, vI a] mem (fun r m1 => ∃ z : Int, r = some (vI z) ∧ C_X11_leads G d [vR 71, vI a] m1 (An J z)) := by
  have v0 := h.1.1.1
  have r0 := h.1.2.1.1.1
  obtain ⟨n, hn⟩ : ∃ n : Nat, mem 72 0 = n := ⟨(mem 72 0).toNat, by omega⟩
  have p := p2n (show n ≤ 12 by omega)
  by_cases k : 0 ≤ a ∧ a < mem 72 0
  · obtain ⟨m, rfl⟩ : ∃ m : Nat, a = m := ⟨a.toNat, by omega⟩
    have pm := p2 (show m < n by omega)
    have pm0 := Nat.two_pow_pos m
    refine B_X10_leads (by omega) ?_
    rw [r0]
    refine ⟨ha, fun _ => ct_ledFrom (by decide) h.1.2.1 h.1.1 (by omega) hn (by omega) ⟨_, rfl, _, rfl, ?_⟩, fun z => absurd k z⟩
    refine B_X11_leads (by omega) ⟨ha, by omega, fun _ => ?_, fun z => absurd k z⟩
    rw [ishl_1 (by omega)]
    have fin := itp_end h.1.1 hn pm (by omega)
    have lp := it_loop (n := n + 1) (E := fun j => E_X11_leads G d 22 [(0, vR 71), (2, vI (itp (mem 72) (2 ^ m) j)), (3, vI (if j = 0 then 0 else (itp (mem 72) (2 ^ m) (j - 1) : Nat)))] [] mem (An J (itp (mem 72) (2 ^ m) n : Nat))) ?_ ?_ 0 (by omega)
    · exact lp
    · have l1 := itp_lt h.1.1 hn pm (n + 1)
      have l2 := itp_lt h.1.1 hn pm n
      refine B_X11_leads_22 (by omega) ?_
      rw [if_neg (by omega), show n + 1 - 1 = n by omega, fin]
      exact ⟨by omega, fun _ => an_mk h rfl, fun z => absurd rfl z⟩
    · intro j hj hE
      have l1 := itp_lt h.1.1 hn pm j
      have l2 := itp_lt h.1.1 hn pm (j - 1)
      refine B_X11_leads_22 (by omega) ⟨⟨by omega, ?_⟩, fun z => ?_, fun z => ?_⟩
      · split <;> omega
      · have hj0 : j ≠ 0 := by
          intro e
          subst e
          rw [if_pos rfl] at z
          have : itp (mem 72) (2 ^ m) 0 = 2 ^ m := rfl
          omega
        rw [if_neg hj0] at z
        have fx := itp_fix (S := mem 72) (set := 2 ^ m) (k := j - 1) (by rw [show j - 1 + 1 = j by omega]; omega) (n - (j - 1))
        rw [show j - 1 + (n - (j - 1)) = n by omega] at fx
        exact an_mk h (by rw [fx]; exact z)
      · refine leads_32 (by omega) rfl h.1.1 hn l1 ?_
        rw [if_neg (by omega), show j + 1 - 1 = j by omega] at hE
        exact hE
  · refine B_X10_leads (by omega) ?_
    rw [r0]
    refine ⟨ha, fun z => absurd z k, fun _ m1 e1 => ⟨_, rfl, B_X11_leads (by omega) ?_⟩⟩
    rw [ref72 e1]
    exact ⟨ha, by omega, fun z => absurd z k, fun _ m2 e2 => an_ref h (by decide) (by decide) e1 e2⟩
theorem op_likely (hd : 40 ≤ d) (h : Rl J mem) : C_X10_likely G d [vR 0] mem (fun r m1 => ∃ z : Int, r = some (vI z) ∧ C_X11_likely G d [vR 71] m1 (An J z)) := by
  have v0 := h.1.1.1
  obtain ⟨n, hn⟩ : ∃ n : Nat, mem 72 0 = n := ⟨(mem 72 0).toNat, by omega⟩
  have p := p2n (show n ≤ 12 by omega)
  have tn : (mem 72 0).toNat = n := by omega
  have cl := cN_le (fitB (mem 72)) (2 ^ n)
  refine B_X10_likely (by omega) (ct_refresh (by omega) h.1.2.1 h.1.1 h.1.2.2.1 (fun m1 F1 c1 f1 => ⟨rfl, ?_⟩))
  obtain ⟨F1a, F1b, F1c⟩ := F1
  have F1 : FT (mem 72) m1 := ⟨F1a, F1b, F1c⟩
  rw [tn] at F1b F1c
  rw [F1c]
  refine ⟨fun z => ct_weightiest (by omega) (f1.HR h.1.2.1) h.1.1 hn F1 (by omega) (fun m2 f2 => ⟨_, rfl, _, rfl, B_X11_likely (by omega) ?_⟩), fun z m2 e2 => ⟨_, rfl, B_X11_likely (by omega) ?_⟩⟩
  · have g72 : m2 72 = mem 72 := by rw [← f1.S]; exact funext (fun z => f2 72 z (by omega))
    refine ct_findFitting (by omega) g72 h.1.1 (fun m3 F2 f3 => ⟨rfl, ?_⟩)
    obtain ⟨F2a, F2b⟩ := F2
    rw [tn] at F2a F2b
    have g3 : m3 72 = mem 72 := by rw [← g72]; exact funext (fun z => f3 72 z (by omega) (by omega))
    have Rm : Rl J m3 := Rl_q h (qF_t f1.q (qF_t (fun a b x y => f2 a b (by unfold scr at y; omega)) f3.q)) (fun _ => FT_f F1 (fun a b x => by rw [f3 a b (by omega) (by omega), f2 a b (by omega)])) (by rw [f3 44 0 (by omega) (by omega), f2 44 0 (by omega), f1 44 0 (by omega) (by omega) (by omega)]; exact h.1.2.2.2)
    generalize hN : cN (fitB (mem 72)) (2 ^ n) = N at *
    have wbe : wb (mem 72) n (m1 37) (N - 1) = wb (mem 72) n (m3 77) (N - 1) := wb_congr (fun i hi => (SL_eq F2a F1b (by omega)).symm)
    rw [wbe]
    have win : ∀ k, k < N → 0 ≤ wb (mem 72) n (m3 77) k ∧ wb (mem 72) n (m3 77) k < ((2 ^ n : Nat) : Int) := fun k hk => wb_in F2a (by omega)
    have lp := it_loop (n := N) (E := fun i => E_X11_likely G d 11 [(0, vR 71), (1, vI (if i = 0 then -1 else wb (mem 72) n (m3 77) (i - 1))), (2, vL (if i = 0 then 0 else wt (mem 72) n (wb (mem 72) n (m3 77) (i - 1)).toNat)), (4, vI i)] [] m3 (An J (wb (mem 72) n (m3 77) (N - 1)))) ?_ ?_ 0 (by omega)
    · exact lp
    · refine B_X11_likely_11 (by omega) ?_
      rw [F2b, if_neg (by omega), if_neg (by omega)]
      have w := win (N - 1) (by omega)
      exact ⟨by omega, fun _ => ⟨by omega, fun _ => an_mk Rm rfl, fun y => absurd w.1 y⟩, fun y => absurd (by omega) y⟩
    · intro i hi hE
      rw [if_neg (by omega), if_neg (by omega), show i + 1 - 1 = i by omega] at hE
      have ar := SL_r F2a (i := i) (by omega) (by omega)
      obtain ⟨s, hs⟩ : ∃ s : Nat, m3 77 i = s := ⟨(m3 77 i).toNat, by omega⟩
      have ws := wt_b h.1.1 (i := n) (by omega) s
      have sn : (m3 77 i).toNat = s := by omega
      refine B_X11_likely_11 (by omega) ?_
      rw [F2b]
      refine ⟨by omega, fun y => by omega, fun _ => ⟨by omega, ?_⟩⟩
      rw [hs]
      refine ct_weightOf (by omega) g3 h.1.1 hn (by omega) ⟨_, rfl, ?_⟩
      cases i with
      | zero =>
        rw [if_pos rfl, if_pos rfl]
        have w0 : wb (mem 72) n (m3 77) 0 = s := hs
        rw [w0, show ((s : Int)).toNat = s by omega] at hE
        refine ⟨⟨by omega, by decide⟩, fun y => ?_, fun _ => ?_⟩
        · have := lcmp_le.mp y; omega
        · rw [hs]; exact hE
      | succ i =>
        rw [if_neg (by omega), if_neg (by omega), show i + 1 - 1 = i by omega]
        have w1 := wt_b h.1.1 (i := n) (by omega) (wb (mem 72) n (m3 77) i).toNat
        have st : wb (mem 72) n (m3 77) (i + 1) = if wt (mem 72) n (wb (mem 72) n (m3 77) i).toNat < wt (mem 72) n (m3 77 ((i : Int) + 1)).toNat then m3 77 ((i : Int) + 1) else wb (mem 72) n (m3 77) i := rfl
        have hs' : m3 77 ((i : Int) + 1) = s := hs
        rw [hs', show ((s : Int)).toNat = s by omega] at st
        refine ⟨⟨by omega, by omega⟩, fun y => ?_, fun y => ?_⟩
        · rw [st, if_neg (by have := lcmp_le.mp y; omega)] at hE
          exact hE
        · rw [st, if_pos (by have : ¬ (wt (mem 72) n s ≤ wt (mem 72) n (wb (mem 72) n (m3 77) i).toNat) := fun c => y (lcmp_le.mpr c); omega), show ((s : Int)).toNat = s by omega] at hE
          rw [hs]; exact hE
  · have g72 : m2 72 = mem 72 := by rw [ref72 e2]; exact f1.S
    refine ct_findFitting (by omega) g72 h.1.1 (fun m3 F2 f2 => ⟨rfl, B_X11_likely_11 (by omega) ?_⟩)
    obtain ⟨F2a, F2b⟩ := F2
    rw [tn] at F2b
    rw [F2b]
    refine ⟨by decide, fun _ => ⟨by decide, fun y => absurd y (by decide), fun _ m4 e4 => an_ref2 h (by decide) (by decide) f1.q e2 f2.q e4 (fun _ => ?_) ?_⟩, fun y => absurd (by omega) y⟩
    · exact FT_f F1 (fun a b x => by rw [f2 a b (by omega) (by omega), e2, ref_f (by omega)])
    · rw [f2 44 0 (by omega) (by omega), e2, ref_f (by omega), f1 44 0 (by omega) (by omega) (by omega)]; exact h.1.2.2.2
theorem op_check (hd : 40 ≤ d) (h : Rl J mem) : C_X10_check G d [vR 0] mem (fun r m1 => ∃ z : Int, r = some (vI z) ∧ C_X11_check G d [vR 71] m1 (An J z)) := by
  have v0 := h.1.1.1
  have v4 := h.1.1.2.2.2.2.1
  obtain ⟨n, hn⟩ : ∃ n : Nat, mem 72 0 = n := ⟨(mem 72 0).toNat, by omega⟩
  obtain ⟨w, hw⟩ : ∃ w : Nat, mem 72 4 = w := ⟨(mem 72 4).toNat, by omega⟩
  have p := p2n (show n ≤ 12 by omega)
  have tn : (mem 72 0).toNat = n := by omega
  have cl := cN_le (fitB (mem 72)) (2 ^ n)
  refine B_X10_check (by omega) (ct_refresh (by omega) h.1.2.1 h.1.1 h.1.2.2.1 (fun m1 F1 c1 f1 => ⟨rfl, fun m2 e2 => ?_⟩))
  obtain ⟨F1a, F1b, F1c⟩ := F1
  have F1 : FT (mem 72) m1 := ⟨F1a, F1b, F1c⟩
  rw [tn] at F1b F1c
  have R1 := f1.HR h.1.2.1
  rw [R1.1.2.2.2.2, hw]
  have k37 : ∀ z : Int, m2 37 z = m1 37 z := fun z => by rw [e2, upM_ne (by omega)]
  have k10 : ∀ i : Int, 0 ≤ i → i < 48 → m2 10 i = mem 72 (505 + i) := fun i a b => by rw [e2, upM_ne (by omega)]; exact R1.2.2.2.2.2.2.2.2 i a b
  have k32 : m2 32 7 = cN (fitB (mem 72)) (2 ^ n) := by rw [e2, upM_ne (by omega)]; exact F1c
  have g72 : m2 72 = mem 72 := by rw [e2, upM_cell (by omega)]; exact f1.S
  -- the reference from i on
  have sam : sameF (mem 72) (sU (mem 72) 4 0) := ⟨sU_ne (by omega), sU_ne (by omega), sU_ne (by omega), fun x _ _ => sU_ne (by omega), fun x _ _ => sU_ne (by omega)⟩
  have VV := VN_waits (v := 0) h.1.1 (by omega) (by omega)
  have ref : ∀ (i : Nat) (z : Int), i ≤ w → (∀ j : Nat, j < i → j < cN (fitB (mem 72)) (2 ^ n) ∧ mem 72 (505 + (j : Int)) = m1 37 j) → (z = 0 ∧ i = w) ∨ (z = 1 + (i : Int) ∧ i < w ∧ (cN (fitB (mem 72)) (2 ^ n) ≤ i ∨ mem 72 (505 + (i : Int)) ≠ m1 37 i)) → ∃ z' : Int, some (vI z) = some (vI z') ∧ C_X11_check G d [vR 71] m2 (An J z') := fun i z hi hj hz => by
    refine ⟨_, rfl, B_X11_check (by omega) (fun m3 e3 => ?_)⟩
    have k72 : m3 72 = sU (mem 72) 4 0 := by rw [e3, upM_self, g72]
    refine ct_findFitting (by omega) k72 VV (fun m4 F2 f4 => ⟨rfl, ?_⟩)
    obtain ⟨F2a, F2b⟩ := F2
    rw [fitB_c h.1.1 sam, sU_ne (by omega), tn] at F2a F2b
    rw [g72, hw]
    have l72 : m4 72 = sU (mem 72) 4 0 := by rw [← k72]; exact funext (fun z => f4 72 z (by omega) (by omega))
    have wv : ∀ j : Int, 0 ≤ j → j < 48 → m4 72 (505 + j) = mem 72 (505 + j) := fun j _ _ => by rw [l72, sU_ne (by omega)]
    have Rm : Rl J m4 := by
      refine Rl_new h ?_ (fun a b x y u => ?_)
      · rw [l72]
        refine ⟨VV, ?_, fun _ => ?_, ?_⟩
        · have := HR_waits R1 h.1.1 0
          rw [← e2] at this
          exact this.congr (fun c b hc _ => by rw [f4 (1 + c) b (by omega) (by omega), e3, upM_ne (by omega)])
        · exact FT_c h.1.1 sam F1 (fun z => by rw [f4 34 z (by omega) (by omega), e3, upM_ne (by omega), e2, upM_ne (by omega)]) (fun z => by rw [f4 37 z (by omega) (by omega), e3, upM_ne (by omega), e2, upM_ne (by omega)]) (by rw [f4 32 7 (by omega) (by omega), e3, upM_ne (by omega), e2, upM_ne (by omega)])
        · rw [f4 44 0 (by omega) (by omega), e3, upM_ne (by omega), e2, upM_ne (by omega), f1 44 0 (by omega) (by omega) (by omega)]; exact h.1.2.2.2
      · unfold scr at u
        rw [f4 a b (by omega) (by omega), e3, upM_ne (by omega), e2, upM_ne (by omega), f1 a b (by omega) (by omega) (by omega)]
    refine it_loop (n := i) (E := fun j => E_X11_check G d 20 [(0, vR 71), (1, vI w), (2, vI j)] [] m4 (An J z)) ?_ ?_ 0 (by omega)
    · refine B_X11_check_20 (by omega) ?_
      rw [F2b]
      rcases hz with ⟨z0, iw⟩ | ⟨z1, iw, c⟩
      · exact ⟨by omega, fun _ => an_mk Rm z0.symm, fun y => absurd (by omega) y⟩
      · refine ⟨by omega, fun y => by omega, fun _ => ⟨fun _ => an_mk Rm z1.symm, fun y => ⟨by omega, by omega, fun x => ?_, fun _ => an_mk Rm z1.symm⟩⟩⟩
        exfalso
        rcases c with c | c
        · omega
        · exact c (by rw [← wv i (by omega) (by omega), x]; exact SL_eq F2a F1b (by omega))
    · intro j hj2 hE
      have hjj := hj j hj2
      refine B_X11_check_20 (by omega) ?_
      rw [F2b]
      refine ⟨by omega, fun y => by omega, fun _ => ⟨fun y => by omega, fun _ => ⟨by omega, by omega, fun _ => hE, fun y => absurd ?_ y⟩⟩⟩
      rw [wv j (by omega) (by omega), hjj.2]
      exact SL_eq F1b F2a hjj.1
  refine it_loop (n := w) (E := fun i => (∀ j : Nat, j < i → j < cN (fitB (mem 72)) (2 ^ n) ∧ mem 72 (505 + (j : Int)) = m1 37 j) → E_X10_check G d 25 [(0, vR 0), (1, vI w), (2, vI i)] [] m2 (fun r m1 => ∃ z : Int, r = some (vI z) ∧ C_X11_check G d [vR 71] m1 (An J z))) ?_ ?_ 0 (by omega) (fun j hj => absurd hj (Nat.not_lt_zero _))
  · intro hj
    exact B_X10_check_25 (by omega) ⟨by omega, fun _ => ref w 0 (Nat.le_refl _) hj (Or.inl ⟨rfl, rfl⟩), fun y => absurd (by omega) y⟩
  · intro i hi hE hj
    refine B_X10_check_25 (by omega) ?_
    rw [k32, k10 i (by omega) (by omega), k37]
    refine ⟨by omega, fun y => by omega, fun _ => ⟨fun y => ref i _ (by omega) hj (Or.inr ⟨rfl, hi, Or.inl (by omega)⟩), fun y => ⟨by omega, by omega, fun x => hE (fun j hj2 => ?_), fun x => ref i _ (by omega) hj (Or.inr ⟨rfl, hi, Or.inr x⟩)⟩⟩⟩
    by_cases e : j = i
    · subst e; exact ⟨by omega, x⟩
    · exact hj j (by omega)
end OP
