def obSh (mem : Mem) (s : Int) : Int := if s < 0 ∨ 3 < s then -1000001 else if mem (63 + 2 * s.toNat) 1 = 0 then -1000002 else 0
theorem obSh_inr (mem : Mem) (s : Int) : inr (obSh mem s) := by
  unfold obSh
  (repeat' split) <;> decide
theorem ct_obSh {G : GT} {d : Nat} {mem : Mem} {Q : Option AV → Mem → Prop} (hd : 1 ≤ d) {s : Int} (hs : inr s) (hq : Q (some (vI (obSh mem s))) mem) : C_X10_objectionToSheet G d [vR 0, vI s] mem Q := ct_objSheet hd hs hq
