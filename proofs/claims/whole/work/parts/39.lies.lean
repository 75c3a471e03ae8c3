theorem ct_lies {G : GT} {d : Nat} {mem : Mem} {Q : Option AV → Mem → Prop} {m s : Int} (h0 : 0 ≤ m) (h1 : m < 12) (hq : Q (some (vI (bz (iand (ishr s m) 1 ≠ 0 ∧ mem 2 m ≠ 5)))) mem) : C_X5_lies G d [vR 49, vI m, vI s] mem Q := by
  refine B_X5_lies ?_
  (repeat' first | apply And.intro | intro _) <;> first | omega | (rw [bz_t (by omega)] at hq; exact hq) | (rw [bz_f (by omega)] at hq; exact hq)
