/-! ===== contracts of the leaves ===== -/
theorem x_ok {G : GT} {R : Room} {nc ns : Nat} {Z : GT → State → Array Value → List Frame → State → Prop} {own : String} {cc : ByteArray} {nL : Nat} {ret : Option FieldType} {pc : Nat} {ls : List (Nat × AV)} {st : List AV} {mem : Mem} (k : MemOK mem → ExW G R nc ns Z own cc nL ret pc ls st mem) : ExW G R nc ns Z own cc nL ret pc ls st mem := by
  intro p l e s m args below meth c H locs lsA C hWd hS hl
  exact k hWd.2 p l e s m args below meth c H locs lsA C hWd hS hl
theorem c_ok {G : GT} {y : MethodName} {cc : ByteArray} {nL : Nat} {ret : Option FieldType} {d : Nat} {as : List AV} {mem : Mem} {Q : Option AV → Mem → Prop} (h : MemOK mem → Ct G y cc nL ret d as mem Q) : Ct G y cc nL ret d as mem Q := by
  intro l
  unfold Met
  intro p e ha hc hk s m args below hf hs hP hK
  exact h hP.2.1.2 l p e ha hc hk s m args below hf hs hP hK
theorem lcmp_0 {a : Int} : lcmp a 0 = 0 ↔ a = 0 := by
  unfold lcmp
  split
  · omega
  · split <;> omega
section Leaf
variable {G : GT} {d : Nat} {mem : Mem} {Q : Option AV → Mem → Prop}
theorem ct_outside {v lo hi : Int} (h0 : inr v) (h1 : inr lo) (h2 : inr hi) (hq : Q (some (vI (bz (v < lo ∨ hi < v)))) mem) : C_X10_outside G d [vI v, vI lo, vI hi] mem Q := by
  refine B_X10_outside ?_
  (repeat' first | apply And.intro | intro _) <;> first | omega | (rw [bz_t (by omega)] at hq; exact hq) | (rw [bz_f (by omega)] at hq; exact hq)
theorem ct_within {v lo hi : Int} (h0 : inr v) (h1 : inr lo) (h2 : inr hi) (hq : Q (some (vI (bz (lo ≤ v ∧ v ≤ hi)))) mem) : C_X11_within G d [vI v, vI lo, vI hi] mem Q := by
  refine B_X11_within ?_
  (repeat' first | apply And.intro | intro _) <;> first | omega | (rw [bz_t (by omega)] at hq; exact hq) | (rw [bz_f (by omega)] at hq; exact hq)
theorem ct_hasb {s k : Int} (hq : Q (some (vI (bz (iand (ishr s k) 1 = 1)))) mem) : C_X11_has G d [vI s, vI k] mem Q := by
  refine B_X11_has ?_
  (repeat' first | apply And.intro | intro _) <;> first | omega | (rw [bz_t (by omega)] at hq; exact hq) | (rw [bz_f (by omega)] at hq; exact hq)
theorem ct_has {h : Nat} (hh : isH h) {m : Int} (h0 : inr m) (hq : Q (some (vI (bz (0 ≤ m ∧ m < mem h 0)))) mem) : C_X2_has G d [vR h, vI m] mem Q := by
  refine B_X2_has hh ?_
  (repeat' first | apply And.intro | intro _) <;> first | omega | (rw [bz_t (by omega)] at hq; exact hq) | (rw [bz_f (by omega)] at hq; exact hq)
theorem ct_hasSaying {h : Nat} (hh : isH h) {m : Int} (h0 : inr m) (hq : Q (some (vI (bz (0 ≤ m ∧ m < mem h 6)))) mem) : C_X2_hasSaying G d [vR h, vI m] mem Q := by
  refine B_X2_hasSaying hh ?_
  (repeat' first | apply And.intro | intro _) <;> first | omega | (rw [bz_t (by omega)] at hq; exact hq) | (rw [bz_f (by omega)] at hq; exact hq)
theorem ct_roomM {h : Nat} (hh : isH h) (hq : Q (some (vI (bz (mem h 0 < 12)))) mem) : C_X2_hasRoomForMachine G d [vR h] mem Q := by
  refine B_X2_hasRoomForMachine hh ?_
  (repeat' first | apply And.intro | intro _) <;> first | omega | (rw [bz_t (by omega)] at hq; exact hq) | (rw [bz_f (by omega)] at hq; exact hq)
theorem ct_roomS {h : Nat} (hh : isH h) (hq : Q (some (vI (bz (mem h 6 < 60)))) mem) : C_X2_hasRoomForSaying G d [vR h] mem Q := by
  refine B_X2_hasRoomForSaying hh ?_
  (repeat' first | apply And.intro | intro _) <;> first | omega | (rw [bz_t (by omega)] at hq; exact hq) | (rw [bz_f (by omega)] at hq; exact hq)
theorem ct_tied {h : Nat} (hh : isH h) {i j : Int} (h0 : 0 ≤ i) (h1 : i < 12) (hq : Q (some (vI (bz (iand (ishr (mem (h + 4) i) j) 1 ≠ 0)))) mem) : C_X2_tied G d [vR h, vI i, vI j] mem Q := by
  refine B_X2_tied hh ?_
  (repeat' first | apply And.intro | intro _) <;> first | omega | (rw [bz_t (by omega)] at hq; exact hq) | (rw [bz_f (by omega)] at hq; exact hq)
theorem ct_costOf {h : Nat} (hh : isH h) {i j : Int} (h0 : 0 ≤ i * 12 + j) (h1 : i * 12 + j < 144) (hq : Q (some (vI (mem (h + 5) (i * 12 + j)))) mem) : C_X2_costOf G d [vR h, vI i, vI j] mem Q := B_X2_costOf hh ⟨⟨h0, h1⟩, hq⟩
theorem ct_everyone {h : Nat} (hh : isH h) (hq : Q (some (vI (ishl 1 (mem h 0) - 1))) mem) : C_X2_everyone G d [vR h] mem Q := B_X2_everyone hh hq
theorem ct_saidWhole {h : Nat} (hh : isH h) {s : Int} (hq : Q (some (vI (bz (land (lshr (mem h 9) s) 1 ≠ 0)))) mem) : C_X2_saidWhole G d [vR h, vI s] mem Q := by
  refine B_X2_saidWhole hh ?_
  simp only [lcmp_0]
  (repeat' first | apply And.intro | intro _) <;> first | omega | (rw [bz_t (by omega)] at hq; exact hq) | (rw [bz_f (by omega)] at hq; exact hq)
theorem ct_isValid {h : Nat} (hh : isH h) {s : Int} (hq : Q (some (vI (bz (land (lshr (mem h 10) s) 1 ≠ 0)))) mem) : C_X2_isValid G d [vR h, vI s] mem Q := by
  refine B_X2_isValid hh ?_
  simp only [lcmp_0]
  (repeat' first | apply And.intro | intro _) <;> first | omega | (rw [bz_t (by omega)] at hq; exact hq) | (rw [bz_f (by omega)] at hq; exact hq)
theorem ct_areLet {c s a b : Int} (hq : Q (some (vI (bz (iand (ishr c (2 * iand (ishr s a) 1 + iand (ishr s b) 1)) 1 ≠ 0)))) mem) : C_X3_areLet G d [vI c, vI s, vI a, vI b] mem Q := by
  refine B_X3_areLet ?_
  (repeat' first | apply And.intro | intro _) <;> first | omega | (rw [bz_t (by omega)] at hq; exact hq) | (rw [bz_f (by omega)] at hq; exact hq)
theorem ct_isWidth {b : Int} (h0 : inr b) (hq : Q (some (vI (bz (b = 0 ∨ b = 8 ∨ b = 16 ∨ b = 32)))) mem) : C_X6_isWidth G d [vI b] mem Q := by
  refine B_X6_isWidth ?_
  (repeat' first | apply And.intro | intro _) <;> first | omega | (rw [bz_t (by omega)] at hq; exact hq) | (rw [bz_f (by omega)] at hq; exact hq)
theorem ct_isMissing {k : Nat} (hk : isSh k) (hq : Q (some (vI (bz (mem k 1 = 0)))) mem) : C_X6_isMissing G d [vR k] mem Q := by
  refine B_X6_isMissing hk ?_
  (repeat' first | apply And.intro | intro _) <;> first | omega | (rw [bz_t (by omega)] at hq; exact hq) | (rw [bz_f (by omega)] at hq; exact hq)
theorem ct_hasRun {k : Nat} (hk : isSh k) {i n : Int} (h0 : inr i) (h1 : inr n) (hq : Q (some (vI (bz (0 ≤ i ∧ 0 ≤ n ∧ n ≤ mem k 2 ∧ i ≤ mem k 2 - n)))) mem) : C_X6_hasRun G d [vR k, vI i, vI n] mem Q := by
  refine c_ok (fun hm => ?_)
  have h2 : inr (mem k 2) := by
    refine (hm k 2).2 ?_
    rcases hk with rfl | rfl | rfl | rfl <;> rfl
  refine B_X6_hasRun hk ?_
  (repeat' first | apply And.intro | intro _) <;> first | omega | (rw [bz_t (by omega)] at hq; exact hq) | (rw [bz_f (by omega)] at hq; exact hq)
theorem ct_machine11 {m f : Int} (h0 : 0 ≤ 5 + 3 * m + f) (h1 : 5 + 3 * m + f < 553) (hq : Q (some (vI (mem 72 (5 + 3 * m + f)))) mem) : C_X11_machine G d [vR 71, vI m, vI f] mem Q := B_X11_machine ⟨⟨h0, h1⟩, hq⟩
theorem ct_tieOf {i j : Int} (h0 : 0 ≤ 41 + 12 * i + j) (h1 : 41 + 12 * i + j < 553) (hq : Q (some (vI (mem 72 (41 + 12 * i + j)))) mem) : C_X11_tieOf G d [vR 71, vI i, vI j] mem Q := B_X11_tieOf ⟨⟨h0, h1⟩, hq⟩
theorem ct_saying {s f : Int} (h0 : 0 ≤ 185 + 4 * s + f) (h1 : 185 + 4 * s + f < 553) (hq : Q (some (vI (mem 72 (185 + 4 * s + f)))) mem) : C_X11_saying G d [vR 71, vI s, vI f] mem Q := B_X11_saying ⟨⟨h0, h1⟩, hq⟩
theorem ct_all (hq : Q (some (vI (ishl 1 (mem 72 0) - 1))) mem) : C_X11_all G d [vR 71] mem Q := B_X11_all hq
/-- kind k is o, or under o -/
def isUnd (k o : Int) : Prop := o = k ∨ (k ≠ 0 ∧ o = 0) ∨ (k = 4 ∧ o = 2) ∨ (k = 5 ∧ o = 3)
theorem ct_under {k o : Int} (h0 : 0 ≤ k) (h1 : k < 6) (h2 : inr o) (hq : Q (some (vI (bz (isUnd k o)))) mem) : C_X3_isOrIsUnder G d [vI k, vI o] mem Q := by
  refine B_X3_isOrIsUnder ?_
  have em : ∀ s : Int, 0 ≤ s → s < 6 → Q (some (vI 0)) mem → E_X3_isOrIsUnder G d 4 [(1, vI o), (2, vI (-1)), (3, vI s)] [] mem Q := by
    intro s s0 s1 q
    refine B_X3_isOrIsUnder_4 ?_
    (repeat' first | apply And.intro | intro _) <;> first | omega | exact q
  have e0 : ∀ s : Int, 0 ≤ s → s < 5 → (o = 0 → Q (some (vI 1)) mem) → (o ≠ 0 → Q (some (vI 0)) mem) → E_X3_isOrIsUnder G d 4 [(1, vI o), (2, vI 0), (3, vI s)] [] mem Q := by
    intro s s0 s1 q1 q0
    refine B_X3_isOrIsUnder_4 ⟨by omega, fun _ => by omega, fun _ => ⟨by omega, fun _ => by omega, fun _ => ⟨h2, fun z => ⟨by omega, em (s + 1) (by omega) (by omega) (q0 (Ne.symm z))⟩, fun z => q1 (by omega)⟩⟩⟩
  have ek : ∀ (k k2 : Int), 1 ≤ k → k < 6 → (tbl 0).getD (Int.toNat k) 0 = k2 → ∀ s : Int, 0 ≤ s → s < 5 → (o = k → Q (some (vI 1)) mem) → (o ≠ k → E_X3_isOrIsUnder G d 4 [(1, vI o), (2, vI k2), (3, vI (s + 1))] [] mem Q) → E_X3_isOrIsUnder G d 4 [(1, vI o), (2, vI k), (3, vI s)] [] mem Q := by
    intro k k2 k0 k1 e s s0 s1 q1 q0
    subst e
    refine B_X3_isOrIsUnder_4 ⟨by omega, fun _ => by omega, fun _ => ⟨by omega, fun _ => by omega, fun _ => ⟨h2, fun z => ⟨by omega, q0 (Ne.symm z)⟩, fun z => q1 (by omega)⟩⟩⟩
  unfold isUnd at hq
  rcases (show k = 0 ∨ k = 1 ∨ k = 2 ∨ k = 3 ∨ k = 4 ∨ k = 5 by omega) with rfl | rfl | rfl | rfl | rfl | rfl
  · exact e0 0 (by omega) (by omega) (fun z => by rw [bz_t (by omega)] at hq; exact hq) (fun z => by rw [bz_f (by omega)] at hq; exact hq)
  · exact ek 1 0 (by omega) (by omega) rfl 0 (by omega) (by omega) (fun z => by rw [bz_t (by omega)] at hq; exact hq) (fun z => e0 _ (by omega) (by omega) (fun z => by rw [bz_t (by omega)] at hq; exact hq) (fun z => by rw [bz_f (by omega)] at hq; exact hq))
  · exact ek 2 0 (by omega) (by omega) rfl 0 (by omega) (by omega) (fun z => by rw [bz_t (by omega)] at hq; exact hq) (fun z => e0 _ (by omega) (by omega) (fun z => by rw [bz_t (by omega)] at hq; exact hq) (fun z => by rw [bz_f (by omega)] at hq; exact hq))
  · exact ek 3 0 (by omega) (by omega) rfl 0 (by omega) (by omega) (fun z => by rw [bz_t (by omega)] at hq; exact hq) (fun z => e0 _ (by omega) (by omega) (fun z => by rw [bz_t (by omega)] at hq; exact hq) (fun z => by rw [bz_f (by omega)] at hq; exact hq))
  · exact ek 4 2 (by omega) (by omega) rfl 0 (by omega) (by omega) (fun z => by rw [bz_t (by omega)] at hq; exact hq) (fun z => ek 2 0 (by omega) (by omega) rfl _ (by omega) (by omega) (fun z => by rw [bz_t (by omega)] at hq; exact hq) (fun z => e0 _ (by omega) (by omega) (fun z => by rw [bz_t (by omega)] at hq; exact hq) (fun z => by rw [bz_f (by omega)] at hq; exact hq)))
  · exact ek 5 3 (by omega) (by omega) rfl 0 (by omega) (by omega) (fun z => by rw [bz_t (by omega)] at hq; exact hq) (fun z => ek 3 0 (by omega) (by omega) rfl _ (by omega) (by omega) (fun z => by rw [bz_t (by omega)] at hq; exact hq) (fun z => e0 _ (by omega) (by omega) (fun z => by rw [bz_t (by omega)] at hq; exact hq) (fun z => by rw [bz_f (by omega)] at hq; exact hq)))
theorem ct_bits {s : Int} (hq : Q (some (vI (sm 12 (fun k => iand (ishr s k) 1)))) mem) : C_X11_bits G d [vI s] mem Q := by
  refine B_X11_bits ?_
  have h : ∀ n i : Nat, i + n = 12 → E_X11_bits G d 4 [(0, vI s), (1, vI (sm i (fun k => iand (ishr s k) 1))), (2, vI i)] [] mem Q := by
    intro n
    induction n with
    | zero =>
      intro i hi
      refine B_X11_bits_4 ⟨by omega, fun _ => ?_, fun z => absurd (by omega) z⟩
      rw [show i = 12 by omega]
      exact hq
    | succ n ih =>
      intro i hi
      refine B_X11_bits_4 ⟨by omega, fun z => by omega, fun _ => ?_⟩
      have h9 := ih (i + 1) (by omega)
      rw [sm_s] at h9
      exact h9
  exact h 12 0 rfl
/-- an error is told -/
def refM (mem : Mem) (e : Int) : Mem := upM mem 62 (-1000000 - e) (sx (mem 62 (-1000000 - e) + 1))
def fndM (mem : Mem) (e : Int) : Mem := upM mem 75 (-1000000 - e) (sx (mem 75 (-1000000 - e) + 1))
theorem ct_refuse {e : Int} (hd : 1 ≤ d) (h0 : -1000006 ≤ e) (h1 : e ≤ -1000001) (hq : Q (some (vI e)) (refM mem e)) : C_X10_refuse G d [vR 0, vI e] mem Q := by
  refine B_X10_refuse hd (ct_outside (by omega) (by omega) (by omega) ⟨_, rfl, bz_inr _, fun z => ?_, fun _ => ⟨by omega, fun m hm => ?_⟩⟩)
  · exact absurd (bz_n0.mp z) (by omega)
  · rw [hm]; exact hq
theorem ct_finding {e : Int} (h0 : -1000006 ≤ e) (h1 : e ≤ -1000001) (hq : Q (some (vI e)) (fndM mem e)) : C_X11_finding G d [vR 71, vI e] mem Q := by
  refine B_X11_finding ⟨by omega, fun m hm => ?_⟩
  rw [hm]; exact hq
end Leaf
theorem copyR {d : Nat} (hd : 1 ≤ d) : ((([] : List AV).map avCat).sum + (nativeFrameWords "java/lang/System" "arraycopy" 5 + 11)) ≤ (rmD d).locals := by
  have h : nativeFrameWords "java/lang/System" "arraycopy" 5 + 11 ≤ 40 := by decide
  show 0 + (nativeFrameWords "java/lang/System" "arraycopy" 5 + 11) ≤ 40 * d
  omega
