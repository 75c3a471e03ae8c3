/-! ===== Rumour: sharing, choosing; the reference's letsAll, letsWhole ===== -/
theorem ix_l (T b e j : Nat) : ix T b e j = ix T b 0 0 + T * e + j := by
  unfold ix
  rw [Nat.mul_add]
  rfl
theorem ix_n (T b : Nat) : ix T (b + 1) 0 0 = ix T b 0 0 + T * 3 := by
  unfold ix
  rw [show 3 * (b + 1) + 0 = 3 * b + 3 by omega, Nat.mul_add]
  rfl
noncomputable def shV (N : Nat) (c : Nat → Bool) (q : Nat) (st : Nat → Nat → Nat) (i b j z : Nat) : Int := @ite _ (z / 3 ^ (i + 1) < b ∨ (z / 3 ^ (i + 1) = b ∧ z % 3 ^ i < j)) (Classical.propDecidable _) (vst N c q st (i + 1) z) (vst N c q st i z)
theorem shV_t {N : Nat} {c : Nat → Bool} {q : Nat} {st : Nat → Nat → Nat} {i b j z : Nat} (h : z / 3 ^ (i + 1) < b ∨ (z / 3 ^ (i + 1) = b ∧ z % 3 ^ i < j)) : shV N c q st i b j z = vst N c q st (i + 1) z := if_pos h
theorem shV_f {N : Nat} {c : Nat → Bool} {q : Nat} {st : Nat → Nat → Nat} {i b j z : Nat} (h : ¬ (z / 3 ^ (i + 1) < b ∨ (z / 3 ^ (i + 1) = b ∧ z % 3 ^ i < j))) : shV N c q st i b j z = vst N c q st i z := if_neg h
theorem shV_c {N : Nat} {c : Nat → Bool} {q : Nat} {st : Nat → Nat → Nat} {i b j b' j' z : Nat} (h : (z / 3 ^ (i + 1) < b ∨ (z / 3 ^ (i + 1) = b ∧ z % 3 ^ i < j)) ↔ (z / 3 ^ (i + 1) < b' ∨ (z / 3 ^ (i + 1) = b' ∧ z % 3 ^ i < j'))) : shV N c q st i b' j' z = shV N c q st i b j z := by
  by_cases e : z / 3 ^ (i + 1) < b ∨ (z / 3 ^ (i + 1) = b ∧ z % 3 ^ i < j)
  · rw [shV_t e, shV_t (h.mp e)]
  · rw [shV_f e, shV_f (fun y => e (h.mpr y))]
theorem vst_2 {N : Nat} {c : Nat → Bool} {q : Nat} {st : Nat → Nat → Nat} {i z : Nat} (h : dg i z = 2) : vst N c q st (i + 1) z = vst N c q st i z := by
  show vst N c q st i z + (if dg i z = 2 then 0 else _) = _
  rw [if_pos h, Int.add_zero]
theorem vst_n2 {N : Nat} {c : Nat → Bool} {q : Nat} {st : Nat → Nat → Nat} {i b e j : Nat} (hj : j < 3 ^ i) (he : e < 2) : vst N c q st (i + 1) (ix (3 ^ i) b e j) = vst N c q st i (ix (3 ^ i) b e j) + vst N c q st i (ix (3 ^ i) b 2 j) := by
  show vst N c q st i _ + (if dg i _ = 2 then 0 else _) = _
  rw [ix_dgi hj (by omega), if_neg (by omega)]
  congr 2
  unfold upz
  rw [ix_b hj (by omega), ix_mod hj]
section RM
variable {G : GT} {d : Nat} {mem : Mem} {Q : Option AV → Mem → Prop}
theorem ct_shareEither {N : Nat} {c : Nat → Bool} {q : Nat} {st : Nat → Nat → Nat} (hst : ∀ j s, st j s < 3) (h8 : q ≤ 8) (hN : N ≤ 4096) (h0 : ∀ z : Nat, z < 3 ^ q → mem 58 z = vst N c q st 0 z) (hq : ∀ m' : Mem, (∀ z : Nat, z < 3 ^ q → m' 58 z = vst N c q st q z) → (∀ (a : Nat) (b : Int), a ≠ 58 → m' a b = mem a b) → Q none m') : C_X5_shareEither G d [vR 49, vI ((3 ^ q : Nat) : Int)] mem Q := by
  have p3 := p3n h8
  refine B_X5_shareEither ?_
  refine up_loop (n := q) (E := fun i m => E_X5_shareEither G d 2 [(0, vR 49), (1, vI ((3 ^ q : Nat) : Int)), (2, vI ((3 ^ i : Nat) : Int))] [] m Q) (I := fun i m => (∀ (a : Nat) (b : Int), a ≠ 58 → m a b = mem a b) ∧ ∀ z : Nat, z < 3 ^ q → m 58 z = vst N c q st i z) ?_ ?_ (i := 0) (by omega) ⟨fun _ _ _ => rfl, h0⟩
  · intro m1 ⟨f1, z1⟩
    exact B_X5_shareEither_2 ⟨by omega, fun _ => hq m1 z1 f1, fun z => absurd (by omega) z⟩
  · intro i m1 hi ⟨f1, z1⟩ hE
    have pi : 3 ^ i < 3 ^ q := Nat.pow_lt_pow_right (by decide) hi
    have pi0 : 0 < 3 ^ i := Nat.pow_pos (by decide)
    have whole : ix (3 ^ i) (3 ^ (q - i - 1)) 0 0 = 3 ^ q := by
      unfold ix
      rw [Nat.add_zero, Nat.add_zero, ← Nat.mul_assoc, ← Nat.pow_succ, ← Nat.pow_add]
      congr 1
      omega
    refine B_X5_shareEither_2 ⟨by omega, fun z => by omega, fun _ => ?_⟩
    refine up_loop (n := 3 ^ (q - i - 1)) (E := fun b m => E_X5_shareEither G d 9 [(0, vR 49), (1, vI ((3 ^ q : Nat) : Int)), (2, vI ((3 ^ i : Nat) : Int)), (3, vI ((ix (3 ^ i) b 0 0 : Nat) : Int))] [] m Q) (I := fun b m => (∀ (a : Nat) (b : Int), a ≠ 58 → m a b = mem a b) ∧ ∀ z : Nat, z < 3 ^ q → m 58 z = shV N c q st i b 0 z) ?_ ?_ (i := 0) (Nat.zero_le _) ⟨f1, fun z hz => by rw [z1 z hz, shV_f (fun h => h.elim (fun h => absurd h (Nat.not_lt_zero _)) (fun h => absurd h.2 (Nat.not_lt_zero _)))]⟩
    · intro m2 ⟨f2, z2⟩
      refine B_X5_shareEither_9 ?_
      rw [whole]
      refine ⟨by omega, fun _ => ?_, fun z => absurd (by omega) z⟩
      have := hE m2 ⟨f2, fun z hz => by rw [z2 z hz, shV_t (Or.inl (b_lt hi hz))]⟩
      rw [Nat.pow_succ, Int.natCast_mul] at this
      exact this
    · intro b m2 hb ⟨f2, z2⟩ hE2
      have bl : ∀ e j : Nat, e < 3 → j < 3 ^ i → ix (3 ^ i) b e j < 3 ^ q := fun e j he hj => ix_lt hi hj he hb
      have b0 := bl 0 0 (by omega) pi0
      have b2 := bl 2 (3 ^ i - 1) (by omega) (by omega)
      rw [ix_l] at b2
      refine B_X5_shareEither_9 ⟨by omega, fun z => by omega, fun _ => ?_⟩
      refine up_loop (n := 3 ^ i) (E := fun j m => E_X5_shareEither G d 17 [(0, vR 49), (1, vI ((3 ^ q : Nat) : Int)), (2, vI ((3 ^ i : Nat) : Int)), (3, vI ((ix (3 ^ i) b 0 0 : Nat) : Int)), (4, vI ((ix (3 ^ i) b 0 j : Nat) : Int))] [] m Q) (I := fun j m => (∀ (a : Nat) (b : Int), a ≠ 58 → m a b = mem a b) ∧ ∀ z : Nat, z < 3 ^ q → m 58 z = shV N c q st i b j z) ?_ ?_ (i := 0) (by omega) ⟨f2, z2⟩
      · intro m3 ⟨f3, z3⟩
        refine B_X5_shareEither_17 ?_
        rw [ix_l (3 ^ i) b 0 (3 ^ i)]
        refine ⟨by omega, fun _ => ?_, fun z => absurd (by omega) z⟩
        have := hE2 m3 ⟨f3, fun z hz => by
          rw [z3 z hz]
          have := Nat.mod_lt z pi0
          exact (shV_c (by omega)).symm⟩
        rw [ix_n, show ((ix (3 ^ i) b 0 0 + 3 ^ i * 3 : Nat) : Int) = ((ix (3 ^ i) b 0 0 : Nat) : Int) + 3 * ((3 ^ i : Nat) : Int) by omega] at this
        exact this
      · intro j m3 hj ⟨f3, z3⟩ hE3
        have l0 := ix_l (3 ^ i) b 0 j
        have l1 := ix_l (3 ^ i) b 1 j
        have l2 := ix_l (3 ^ i) b 2 j
        have c0 := bl 0 j (by omega) hj
        have c1 := bl 1 j (by omega) hj
        have c2 := bl 2 j (by omega) hj
        have un : ∀ e, e < 3 → m3 58 ((ix (3 ^ i) b e j : Nat) : Int) = vst N c q st i (ix (3 ^ i) b e j) := fun e he => by
          rw [z3 _ (bl e j he hj)]
          refine shV_f ?_
          rw [ix_b hj he, ix_mod hj]
          omega
        have r0 := vst_r (N := N) (c := c) hst (show i ≤ q by omega) c0
        have r1 := vst_r (N := N) (c := c) hst (show i ≤ q by omega) c1
        have r2 := vst_r (N := N) (c := c) hst (show i ≤ q by omega) c2
        refine B_X5_shareEither_17 ?_
        rw [show ((ix (3 ^ i) b 0 j : Nat) : Int) + 2 * ((3 ^ i : Nat) : Int) = ((ix (3 ^ i) b 2 j : Nat) : Int) by omega, show ((ix (3 ^ i) b 0 j : Nat) : Int) + 1 * ((3 ^ i : Nat) : Int) = ((ix (3 ^ i) b 1 j : Nat) : Int) by omega, show ((ix (3 ^ i) b 0 j : Nat) : Int) + 0 * ((3 ^ i : Nat) : Int) = ((ix (3 ^ i) b 0 j : Nat) : Int) by omega, un 2 (by omega), un 0 (by omega)]
        refine ⟨by omega, fun z => by omega, fun _ => ⟨by omega, by omega, by omega, fun m4 e4 => ⟨by omega, ?_⟩⟩⟩
        have e41 : m4 58 ((ix (3 ^ i) b 1 j : Nat) : Int) = vst N c q st i (ix (3 ^ i) b 1 j) := by rw [e4, upM_ne (by omega)]; exact un 1 (by omega)
        rw [e41]
        refine ⟨by omega, fun m5 e5 => ?_⟩
        have := hE3 m5 ⟨fun a b x => by rw [e5, upM_ne (by omega), e4, upM_ne (by omega)]; exact f3 a b x, fun z hz => ?_⟩
        · rw [show ((ix (3 ^ i) b 0 (j + 1) : Nat) : Int) = ((ix (3 ^ i) b 0 j : Nat) : Int) + 1 by rw [ix_l (3 ^ i) b 0 (j + 1)]; omega] at this
          exact this
        · by_cases x1 : z = ix (3 ^ i) b 1 j
          · rw [x1, e5, upM_same, shV_t (by right; rw [ix_b hj (by omega), ix_mod hj]; omega), vst_n2 hj (by omega)]
          · by_cases x0 : z = ix (3 ^ i) b 0 j
            · rw [x0, e5, upM_ne (by omega), e4, upM_same, shV_t (by right; rw [ix_b hj (by omega), ix_mod hj]; omega), vst_n2 hj (by omega)]
            · rw [e5, upM_ne (by omega), e4, upM_ne (by omega), z3 z hz]
              by_cases y : z / 3 ^ (i + 1) = b ∧ z % 3 ^ i = j
              · have s := ix_self i z
                rw [y.1, y.2] at s
                have d3 := dg_lt i z
                have d2 : dg i z = 2 := by
                  have a0 : dg i z ≠ 0 := fun h => x0 (by rw [h] at s; exact s)
                  have a1 : dg i z ≠ 1 := fun h => x1 (by rw [h] at s; exact s)
                  omega
                rw [shV_f (by omega), shV_t (by omega), vst_2 d2]
              · exact (shV_c (by omega)).symm
theorem ct_maySay5 (hd : 1 ≤ d) {S : NS} {set : Nat} (hI : LTI S set 144 mem) (h8 : LL S set 144 ≤ 8) {s said : Nat} (hs : s < 4096) (hsd : said < 256) (hq : Q (some (vI (bI (laB S set s said (LL S set 144))))) mem) : C_X5_maySay G d [vR 49, vI s, vI said] mem Q := by
  refine B_X5_maySay hd (it_loop (n := LL S set 144) (E := fun i => laB S set s said i = true → E_X5_maySay G d 2 [(0, vR 49), (1, vI s), (2, vI said), (3, vI i)] [] mem Q) ?_ ?_ 0 (by omega) rfl)
  · intro h
    rw [h] at hq
    refine B_X5_maySay_2 hd ?_
    rw [hI.1]
    exact ⟨by omega, fun _ => hq, fun z => absurd (by omega) z⟩
  · intro i hi hE h
    have b := ls_bits hI hi hs
    have bad : lsB S set i s (said.testBit i) = false → Q (some (vI 0)) mem := fun e => by
      rw [laB_f hi e] at hq; exact hq
    have good : lsB S set i s (said.testBit i) = true → E_X5_maySay G d 2 [(0, vR 49), (1, vI s), (2, vI said), (3, vI ((i : Int) + 1))] [] mem Q := fun e => hE (by
      show (laB S set s said i && lsB S set i s (said.testBit i)) = true
      rw [h, e]; rfl)
    refine B_X5_maySay_2 hd ?_
    rw [hI.1, bt_n (by omega) (by omega), b.1, b.2]
    refine ⟨by omega, fun z => by omega, fun _ => ⟨fun z => ⟨by omega, fun y => good ?_, fun y => bad ?_⟩, fun z => ⟨by omega, fun y => good ?_, fun y => bad ?_⟩⟩⟩
    · rw [bI_eq0.mp z]; exact bI_ne0.mp y
    · rw [bI_eq0.mp z]; exact Bool.eq_false_iff.mpr (fun e => y (bI_ne0.mpr e))
    · rw [bI_ne0.mp z]; exact bI_ne0.mp y
    · rw [bI_ne0.mp z]; exact Bool.eq_false_iff.mpr (fun e => y (bI_ne0.mpr e))
theorem ct_placeOf {q : Nat} (h7 : mem 49 7 = q) (h8 : q ≤ 8) {said : Nat} (hsd : said < 256) (hq : Q (some (vI (hz (pbt said) q 0))) mem) : C_X5_placeOf G d [vR 49, vI said] mem Q := by
  refine B_X5_placeOf ?_
  rw [h7]
  have lp := it_loop (n := q) (E := fun i => E_X5_placeOf G d 9 [(1, vI said), (2, vI (hz (pbt said) i (q - i))), (3, vI ((q : Int) - 1 - i))] [] mem Q) ?_ ?_ 0 (by omega)
  · have e : (q : Int) - 1 - ((0 : Nat) : Int) = (q : Int) - 1 := by omega
    rw [e] at lp
    exact lp
  · refine B_X5_placeOf_9 ⟨by omega, fun _ => ?_, fun z => absurd (by omega) z⟩
    rw [Nat.sub_self]
    exact hq
  · intro i hi hE
    refine B_X5_placeOf_9 ⟨by omega, fun z => by omega, fun _ => ?_⟩
    have e : (q : Int) - 1 - (i : Int) = ((q - 1 - i : Nat) : Int) := by omega
    have e2 : iand (ishr said ((q - 1 - i : Nat) : Int)) 1 = ((pbt said (q - 1 - i) : Nat) : Int) := by
      rw [bt_n (by omega) (by omega)]
      unfold pbt
      cases said.testBit (q - 1 - i) <;> rfl
    rw [e, e2]
    rw [hz_step (pbt said) hi, show (q : Int) - 1 - ((i + 1 : Nat) : Int) = ((q - 1 - i : Nat) : Int) + (-1) by omega] at hE
    exact hE
theorem p28 {q : Nat} (h : q ≤ 8) : 0 < 2 ^ q ∧ (2 : Nat) ^ q ≤ 256 := ⟨Nat.two_pow_pos q, Nat.pow_le_pow_right (by decide) h⟩
theorem ct_choose (hd : 2 ≤ d) {S : NS} {set n q : Nat} (hn : n ≤ 12) (hs : set < 4096) (hqq : q = LL S set 144) (hI : LTI S set 144 mem) (h8 : q ≤ 8) (hv : ∀ z : Nat, z < 3 ^ q → mem 58 z = vst (2 ^ n) (wcB S set) q (stn S set) q z) (hq : ∀ m' : Mem, m' 49 8 = (wst S set n q (2 ^ q)).1 → m' 49 9 = (wst S set n q (2 ^ q)).2 → (∀ (a : Nat) (b : Int), ¬ (a = 49 ∧ (b = 8 ∨ b = 9)) → m' a b = mem a b) → Q none m') : C_X5_choose G d [vR 49, vI set] mem Q := by
  have p8 := p28 h8
  have p3 := p3n h8
  have p4 := p2n hn
  refine B_X5_choose (by omega) (fun m1 e1 m2 e2 => ?_)
  refine up_loop (n := 2 ^ q) (E := fun k m => E_X5_choose G d 12 [(0, vR 49), (1, vI set), (2, vI k)] [] m Q) (I := fun k m => (∀ (a : Nat) (b : Int), ¬ (a = 49 ∧ (b = 8 ∨ b = 9)) → m a b = mem a b) ∧ m 49 8 = (wst S set n q k).1 ∧ m 49 9 = (wst S set n q k).2) ?_ ?_ (i := 0) (by omega) ⟨fun a b h => by rw [e2, upM_ne (by omega), e1, upM_ne (by omega)], by rw [e2, upM_ne (by omega), e1, upM_same]; rfl, by rw [e2, upM_same]; rfl⟩
  · intro m3 ⟨f3, a3, b3⟩
    refine B_X5_choose_12 (by omega) ?_
    rw [f3 49 7 (by omega), hI.1, ← hqq, ishl_1 (by omega)]
    exact ⟨by omega, fun _ => hq m3 a3 b3 f3, fun z => absurd (by omega) z⟩
  · intro k m3 hk ⟨f3, a3, b3⟩ hE
    have I3 : LTI S set 144 m3 := ⟨by rw [f3 49 7 (by omega)]; exact hI.1, fun j hj => by rw [f3 54 _ (by omega), f3 55 _ (by omega), f3 56 _ (by omega), f3 57 _ (by omega)]; exact hI.2 j hj⟩
    have zl := hz_lt (pbt_lt k) q 0
    have ev : m3 58 ((hz (pbt k) q 0 : Nat) : Int) = wV S set n q k := by rw [f3 58 _ (by omega), hv _ zl, vst_wV S set n k hqq]
    have h7 : m3 49 7 = q := by rw [I3.1, hqq]
    refine B_X5_choose_12 (by omega) ?_
    rw [h7, ishl_1 (by omega)]
    refine ⟨by omega, fun z => by omega, fun _ => ct_maySay5 (by omega) I3 (by omega) hs (by omega) ⟨_, rfl, ?_⟩⟩
    rw [← hqq]
    refine ⟨?_, fun z => ?_, fun z => ct_placeOf h7 h8 (by omega) ⟨_, rfl, by omega, ?_⟩⟩
    · rcases bI_01 (laB S set set k q) with h | h <;> rw [h] <;> decide
    · refine hE m3 ⟨f3, ?_⟩
      rw [show wst S set n q (k + 1) = wst S set n q k from if_neg (fun h => by rw [h.1] at z; exact absurd z (by decide))]
      exact ⟨a3, b3⟩
    · rw [ev, a3]
      refine ⟨fun y => hE m3 ⟨f3, ?_⟩, fun y => ct_placeOf h7 h8 (by omega) ⟨_, rfl, by omega, fun m4 e4 m5 e5 => hE m5 ⟨fun a b h => ?_, ?_, ?_⟩⟩⟩
      · rw [show wst S set n q (k + 1) = wst S set n q k from if_neg (fun h => by have := h.2; omega)]
        exact ⟨a3, b3⟩
      · rw [e5, upM_ne (by omega), e4, upM_ne (by omega)]; exact f3 a b h
      · rw [show wst S set n q (k + 1) = (wV S set n q k, (k : Int)) from if_pos ⟨bI_ne0.mp z, by omega⟩, e5, upM_ne (by omega), e4, upM_same, ev]
      · rw [show wst S set n q (k + 1) = (wV S set n q k, (k : Int)) from if_pos ⟨bI_ne0.mp z, by omega⟩, e5, upM_same]
def spF (mem m : Mem) : Prop := ∀ (a : Nat) (b : Int), ¬ (a = 49 ∧ (b = 7 ∨ b = 8 ∨ b = 9)) → ¬ (50 ≤ a ∧ a ≤ 58) → m a b = mem a b
theorem ct_spread (hd : 6 ≤ d) {S : NS} (hR : HR 1 S mem) (hV : VN S) {n : Nat} (hn : S 0 = n) {set q : Nat} (hs : set < 4096) (hqq : q = LL S set 144) (h8 : q ≤ 8) (hq : ∀ m' : Mem, m' 49 8 = (wst S set n q (2 ^ q)).1 → m' 49 9 = (wst S set n q (2 ^ q)).2 → spF mem m' → Q none m') : C_X5_spread G d [vR 49, vI set] mem Q := by
  have v0 := hV.1
  have p4 := p2n (show n ≤ 12 by omega)
  have p3 := p3n h8
  refine B_X5_spread (by omega) (ct_listTies (by omega) hR hV hn hs (by omega) (fun m1 i1 f1 => ⟨rfl, ?_⟩))
  have R1 : HR 1 S m1 := hR.congr (fun c b hc _ => f1 _ _ (by omega) (by omega) (by omega) (by omega) (by omega))
  refine ct_hearWhole (by omega) R1 hV hn hs (fun m2 w2 f2 => ⟨rfl, ?_⟩)
  have R2 : HR 1 S m2 := R1.congr (fun c b hc _ => f2 _ _ (by omega) (by omega) (by omega) (by omega))
  have I2 : LTI S set 144 m2 := ⟨by rw [f2 49 7 (by omega) (by omega) (by omega) (by omega)]; exact i1.1, fun j hj => by rw [f2 54 _ (by omega) (by omega) (by omega) (by omega), f2 55 _ (by omega) (by omega) (by omega) (by omega), f2 56 _ (by omega) (by omega) (by omega) (by omega), f2 57 _ (by omega) (by omega) (by omega) (by omega)]; exact i1.2 j hj⟩
  refine it_loop (n := q) (E := fun i => E_X5_spread G d 14 [(0, vR 49), (1, vI set), (2, vI ((3 ^ i : Nat) : Int)), (3, vI i)] [] m2 Q) ?_ ?_ 0 (by omega)
  · refine B_X5_spread_14 (by omega) ?_
    rw [I2.1, ← hqq]
    refine ⟨by omega, fun _ => ?_, fun z => absurd (by omega) z⟩
    refine ct_countStances (by omega) R2 hV hn hqq I2 h8 w2 (fun m3 z3 f3 => ⟨rfl, ?_⟩)
    refine ct_shareEither (stn_lt S set) h8 p4.2 z3 (fun m4 z4 f4 => ⟨rfl, ?_⟩)
    have I4 : LTI S set 144 m4 := ⟨by rw [f4 49 7 (by omega), f3 49 7 (by omega)]; exact I2.1, fun j hj => by rw [f4 54 _ (by omega), f4 55 _ (by omega), f4 56 _ (by omega), f4 57 _ (by omega), f3 54 _ (by omega), f3 55 _ (by omega), f3 56 _ (by omega), f3 57 _ (by omega)]; exact I2.2 j hj⟩
    refine ct_choose (by omega) (by omega) hs hqq I4 h8 z4 (fun m5 a5 b5 f5 => ⟨rfl, hq m5 a5 b5 (fun a b x y => ?_)⟩)
    rw [f5 a b (by omega), f4 a b (by omega), f3 a b (by omega), f2 a b (by omega) (by omega) (by omega) (by omega), f1 a b (by omega) (by omega) (by omega) (by omega) (by omega)]
  · intro i hi hE
    refine B_X5_spread_14 (by omega) ?_
    rw [I2.1, ← hqq]
    refine ⟨by omega, fun z => by omega, fun _ => ?_⟩
    rw [Nat.pow_succ, Int.natCast_mul] at hE
    exact hE
theorem td12 (k : Nat) : Int.tdiv (k : Int) 12 = ((k / 12 : Nat) : Int) := rfl
theorem tm12 (k : Nat) : Int.tmod (k : Int) 12 = ((k % 12 : Nat) : Int) := rfl
theorem nb1 {b : Bool} (h : ¬ bI b = 1) : b = false := by
  cases b
  · rfl
  · exact absurd rfl h
theorem nz1 : nz 1 = true := rfl
theorem nz0 : nz 0 = false := rfl
theorem ct_lets (hd : 2 ≤ d) {S : NS} (hS : mem 72 = S) {set j s : Nat} (hj : j < LL S set 144) (hs : s < 4096) (hq : Q (some (vI (bI (lsB S set j s true) + 2 * bI (lsB S set j s false)))) mem) : C_X11_lets G d [vR 71, vI s, vI (LA S set j)] mem Q := by
  have lt := (LA_in 144 (Nat.le_refl _) j hj).2
  refine B_X11_lets hd ?_
  rw [td12, tm12, hS, hb_n (by omega) (by omega), hb_n (by omega) (by omega), nz1, nz0]
  change _ ∧ _ ∧ (¬ (lsB S set j s true = true) → _ ∧ (¬ (lsB S set j s false = true) → _) ∧ (lsB S set j s false = true → _)) ∧ ((lsB S set j s true = true) → _ ∧ (¬ (lsB S set j s false = true) → _) ∧ (lsB S set j s false = true → _))
  cases h1 : lsB S set j s true <;> cases h2 : lsB S set j s false <;> rw [h1, h2] at hq <;> refine ⟨by omega, by omega, fun z => ⟨by omega, fun y => ?_, fun y => ?_⟩, fun z => ⟨by omega, fun y => ?_, fun y => ?_⟩⟩ <;> first | exact hq | (exact absurd z (by decide)) | (exact absurd y (by decide)) | (exact absurd rfl z) | (exact absurd rfl y)
theorem lets_bit (a b : Bool) : (iand (ishr (bI a + 2 * bI b) 0) 1 = 1 ↔ a = true) ∧ (iand (ishr (bI a + 2 * bI b) 1) 1 = 1 ↔ b = true) := by
  cases a <;> cases b <;> decide
theorem ct_letsAll (hd : 3 ≤ d) {S : NS} (hS : mem 72 = S) {set s said q : Nat} (hqq : q = LL S set 144) (h8 : q ≤ 8) (h83 : ∀ j : Nat, j < q → mem 83 j = LA S set j) (hs : s < 4096) (hsd : said < 256) (hq : Q (some (vI (bI (laB S set s said q)))) mem) : C_X11_letsAll G d [vR 71, vI s, vI q, vI said] mem Q := by
  refine B_X11_letsAll (by omega) (it_loop (n := q) (E := fun i => E_X11_letsAll G d 6 [(0, vR 71), (1, vI s), (2, vI q), (3, vI said), (4, vI (bI (laB S set s said i))), (5, vI i)] [] mem Q) ?_ ?_ 0 (by omega))
  · refine B_X11_letsAll_6 (by omega) ⟨by omega, fun _ => ⟨bI_01 _, hq⟩, fun z => absurd (by omega) z⟩
  · intro i hi hE
    have hE' : E_X11_letsAll G d 6 [(0, vR 71), (1, vI s), (2, vI q), (3, vI said), (4, vI (bI (laB S set s said i && lsB S set i s (said.testBit i)))), (5, vI ((i : Int) + 1))] [] mem Q := hE
    refine B_X11_letsAll_6 (by omega) ⟨by omega, fun z => by omega, fun _ => ⟨?_, fun z => ?_, fun z => ⟨by omega, ?_⟩⟩⟩
    · rcases bI_01 (laB S set s said i) with h | h <;> rw [h] <;> decide
    · rw [bI_eq0.mp z, Bool.false_and] at hE'; exact hE'
    · rw [bI_ne0.mp z, Bool.true_and] at hE'
      rw [h83 i hi]
      refine ct_lets (by omega) hS (by omega) hs ⟨_, rfl, ?_⟩
      have lb := lets_bit (lsB S set i s true) (lsB S set i s false)
      rw [bt_n (by omega) (by omega)]
      refine ⟨fun y => ⟨fun w => ?_, fun w => ?_⟩, fun y => ⟨fun w => ?_, fun w => ?_⟩⟩
      · rw [nb1 y, Bool.eq_false_iff.mpr (fun e => w (lb.2.mpr e))] at hE'; exact hE'
      · rw [nb1 y, lb.2.mp w] at hE'; exact hE'
      · rw [bI_eq1.mp y, Bool.eq_false_iff.mpr (fun e => w (lb.1.mpr e))] at hE'; exact hE'
      · rw [bI_eq1.mp y, lb.1.mp w] at hE'; exact hE'
theorem ct_letsWhole (hd : 2 ≤ d) {S : NS} (hS : mem 72 = S) {set s : Nat} (hset : set < 4096) (hs : s < 4096) (hq : Q (some (vI (bI (decide (hwS S set s 144 = 0))))) mem) : C_X11_letsWhole G d [vR 71, vI s, vI set] mem Q := by
  refine B_X11_letsWhole (by omega) (it_loop (n := 144) (E := fun k => hwS S set s k = 0 → E_X11_letsWhole G d 2 [(0, vR 71), (1, vI s), (2, vI set), (3, vI k)] [] mem Q) ?_ ?_ 0 (by omega) rfl)
  · intro h
    rw [decide_eq_true h] at hq
    exact B_X11_letsWhole_2 hd ⟨by omega, fun _ => hq, fun z => absurd (by omega) z⟩
  · intro k hk hE h
    have good : hwB S set s k = false → E_X11_letsWhole G d 2 [(0, vR 71), (1, vI s), (2, vI set), (3, vI ((k : Int) + 1))] [] mem Q := fun e => hE (by unfold hwS at *; rw [sm_s, h, e]; rfl)
    have bad : hwB S set s k = true → Q (some (vI 0)) mem := fun e => by
      have : ¬ (hwS S set s 144 = 0) := by
        have l := sm_lt (n := 144) (f := fun _ => 0) (g := fun k => bI (hwB S set s k)) (fun _ _ => bI_nn _) hk (by show (0 : Int) < bI _; rw [e]; decide)
        rw [sm_zero (fun _ _ => rfl)] at l
        unfold hwS
        omega
      rw [decide_eq_false this] at hq
      exact hq
    refine B_X11_letsWhole_2 hd ?_
    rw [td12, tm12, hS, hb_n (by omega) (by omega), hb_n (by omega) (by omega), nz1, nz0, bt_n (by omega) (by omega), bt_n (by omega) (by omega)]
    refine ⟨by omega, fun z => by omega, fun _ => ⟨by omega, fun z => good ?_, fun z => ⟨fun y => good ?_, fun y => ⟨fun x => ⟨by omega, fun w => good ?_, fun w => bad ?_⟩, fun x => ⟨by omega, fun w => good ?_, fun w => bad ?_⟩⟩⟩⟩⟩
    · unfold hwB; rw [decide_eq_false (by omega)]; rfl
    · unfold hwB; rw [bI_eq1.mp y]; simp
    · unfold hwB; rw [bI_eq1.mp x, Bool.not_true, w]; simp
    · unfold hwB; rw [bI_eq1.mp x, Bool.not_true, Bool.eq_false_iff.mpr w, decide_eq_true (by omega), nb1 y]; rfl
    · unfold hwB; rw [nb1 x, Bool.not_false, w]; simp
    · unfold hwB; rw [nb1 x, Bool.not_false, Bool.eq_false_iff.mpr w, decide_eq_true (by omega), nb1 y]; rfl
end RM
