/-! ===== the layer Ex / Ct over the kit's W / Met: values and memory are mathematical integers ===== -/
def CW : List Cond := lw_tbl.filter goodWord
theorem CW_mem {w : Cond} (h : w ∈ lw_tbl) (hg : goodWord w = true) : w ∈ CW := List.mem_filter.mpr ⟨h, hg⟩
theorem CW_good {w : Cond} (h : w ∈ CW) : (w.onTables && w.keeps) = true ∨ ∃ ty, w = .arrayClass ty := good_of_word (List.mem_filter.mp h).2
theorem CW_self : GoodIn CW CW := fun _ h => ⟨h, CW_good h⟩
theorem CW_cons {w : Cond} (h : w ∈ CW) : GoodIn CW (w :: CW) := fun v hv => by
  rcases List.mem_cons.mp hv with rfl | hv
  · exact ⟨h, CW_good h⟩
  · exact ⟨hv, CW_good hv⟩
def isNest : Cond → Bool
  | .fieldLinkNest _ _ _ _ _ _ => true
  | .methodLinkNest _ _ _ _ => true
  | _ => false
def NW : List Cond := lw_tbl.filter isNest
theorem NW_mem {w : Cond} (h : w ∈ lw_tbl) (hg : isNest w = true) : w ∈ NW := List.mem_filter.mpr ⟨h, hg⟩
theorem NW_warm {w : Cond} (h : isNest w = true) {s U : State} (hW : s.WarmedH U.vm) (hZ : va_Nw w s) : va_Nw w U := by
  cases w <;> first | exact va_Nw.warmF hW hZ | exact va_Nw.warmM hW hZ | (exact absurd h (by simp [isNest]))
theorem NW_tab {w : Cond} (h : isNest w = true) : w.onTables = true := by
  cases w <;> first | rfl | (exact absurd h (by simp [isNest]))
theorem NW_use {w : Cond} (h : w ∈ NW) {s : State} {args : Array Value} (hN : ∀ w ∈ NW, va_Nw w s) : w.before args s = true := va_Nw.use (NW_tab (List.mem_filter.mp h).2) (hN w h)
/-! values -/
abbrev AV : Type := Nat × Int
abbrev Mem : Type := Nat → Int → Int
abbrev vI (z : Int) : AV := (0, z)
abbrev vL (z : Int) : AV := (1, z)
abbrev vR (k : Nat) : AV := (2, (k : Int))
abbrev vS (i : Nat) : AV := (3, (i : Int))
abbrev vT (i : Nat) : AV := (4, (i : Int))
abbrev vV (i : Nat) : AV := (5, (i : Int))
abbrev vX : AV := (6, 0)
abbrev vF : AV := (7, 0)
/-- B; class tables; array classes; literals' addresses, their bytes' addresses; static tables; the script's address, length, contents; the formatter -/
abbrev GT : Type := Nat × va_G × (Nat → ClassId) × (Nat → Nat) × (Nat → Nat) × (Nat → Nat) × (Nat × Nat × (Nat → Int32)) × Option Nat
abbrev gB (G : GT) : Nat := G.1
abbrev gD (G : GT) : va_G := G.2.1
abbrev gC (G : GT) : Nat → ClassId := G.2.2.1
abbrev gK (G : GT) : Nat → Nat := G.2.2.2.1
abbrev gV (G : GT) : Nat → Nat := G.2.2.2.2.1
abbrev gTb (G : GT) : Nat → Nat := G.2.2.2.2.2.1
abbrev gX (G : GT) : Nat × Nat × (Nat → Int32) := G.2.2.2.2.2.2.1
abbrev gF (G : GT) : Option Nat := G.2.2.2.2.2.2.2
def cv (G : GT) (v : AV) : Value := match v.1 with
  | 0 => .int (Int32.ofInt v.2)
  | 1 => .long (Int64.ofInt v.2)
  | 2 => .ref (gB G + v.2.toNat)
  | 3 => .ref (gK G v.2.toNat)
  | 4 => .ref (gTb G v.2.toNat)
  | 5 => .ref (gV G v.2.toNat)
  | 6 => .ref (gX G).1
  | _ => va_rf (gF G)
abbrev cvl (G : GT) (q : Nat × AV) : Nat × Value := (q.1, cv G q.2)
def avCat (v : AV) : Nat := if v.1 = 1 then 2 else 1
theorem cat_rf (r : Option Nat) : (va_rf r).category = 1 := by cases r <;> rfl
theorem cat_cv (G : GT) (v : AV) : (cv G v).category = avCat v := by
  obtain ⟨a, z⟩ := v
  unfold cv avCat
  match a with
  | 0 => rfl
  | 1 => rfl
  | 2 => rfl
  | 3 => rfl
  | 4 => rfl
  | 5 => rfl
  | 6 => rfl
  | n + 7 => exact cat_rf _
theorem cat_st (G : GT) (st : List AV) : ((st.map (cv G)).map fun v => v.category) = st.map avCat := by
  rw [List.map_map]
  exact List.map_congr_left (fun v _ => cat_cv G v)
/-! the shape of the memory: arrays (kind, length), objects (class, fields: 0 int or boolean, 1 long, 2 a cell) -/
abbrev Sh : Type := (Nat × Nat) ⊕ (Nat × List (Nat × Nat))
abbrev hallFl (h : Nat) : List (Nat × Nat) := [(0, 0), (2, h + 1), (2, h + 2), (2, h + 3), (2, h + 4), (2, h + 5), (0, 0), (2, h + 6), (2, h + 7), (1, 0), (1, 0), (0, 0), (2, h + 8), (0, 0), (2, h + 9), (0, 0), (0, 0)]
abbrev tallyFl (t : Nat) : List (Nat × Nat) := [(2, t + 1), (2, t + 2), (2, t + 3), (0, 0)]
abbrev sheetFl (t : Nat) : List (Nat × Nat) := [(2, t + 1), (0, 0), (0, 0)]
abbrev hallSh (h : Nat) : List Sh := [.inr (2, hallFl h), .inl (0, 12), .inl (0, 12), .inl (0, 12), .inl (0, 12), .inl (0, 144), .inl (0, 60), .inl (0, 60), .inl (2, 80), .inl (0, 48)]
abbrev tallySh (t : Nat) : List Sh := [.inr (6, tallyFl t), .inl (0, 4096), .inl (0, 12), .inl (0, 144)]
abbrev sheetSh (t : Nat) : List Sh := [.inr (5, sheetFl t), .inl (0, 24)]
def SHL : List Sh :=
  [.inr (9, [(2, 1), (2, 11), (2, 21), (2, 31), (2, 32), (2, 42), (2, 45), (2, 49), (2, 59), (2, 61), (2, 62), (0, 0)])] ++ hallSh 1 ++ hallSh 11 ++ hallSh 21 ++
  [.inr (3, [(2, 21), (0, 0), (0, 0), (0, 0), (0, 0)]), .inr (1, [(2, 1), (2, 33), (2, 37), (2, 38), (2, 39), (2, 40), (2, 41), (0, 0)])] ++ tallySh 33 ++
  [.inl (0, 4096), .inl (0, 14), .inl (0, 4096), .inl (0, 4096), .inl (1, 4096),
   .inr (0, [(2, 1), (2, 43), (2, 44), (0, 0), (0, 0), (0, 0)]), .inl (0, 12), .inl (0, 4096),
   .inr (7, [(2, 1), (2, 32), (2, 46), (2, 47), (2, 48), (0, 0)]), .inl (0, 12), .inl (0, 12), .inl (0, 256),
   .inr (4, [(2, 1), (2, 50), (2, 54), (2, 55), (2, 56), (2, 57), (2, 58), (0, 0), (0, 0), (0, 0)])] ++ tallySh 50 ++
  [.inl (0, 8), .inl (0, 8), .inl (0, 8), .inl (0, 8), .inl (0, 6561),
   .inr (8, [(2, 60), (0, 0), (0, 0), (0, 0), (0, 0), (0, 0), (0, 0)]), .inl (0, 30), .inl (3, 4), .inl (0, 7)] ++ sheetSh 63 ++ sheetSh 65 ++ sheetSh 67 ++ sheetSh 69 ++
  [.inr (10, [(2, 72), (2, 73), (2, 74), (0, 0), (2, 75), (2, 76), (0, 0), (0, 0), (0, 0), (2, 77), (2, 78), (2, 79), (0, 0), (2, 80), (0, 0), (2, 81), (2, 82), (2, 83), (2, 84), (2, 85), (2, 86), (0, 0), (0, 0), (0, 0), (2, 87), (2, 88), (2, 89), (2, 90)]),
   .inl (0, 553), .inl (0, 553), .inl (0, 553), .inl (0, 7), .inl (4, 6), .inl (0, 4096), .inl (0, 4096), .inl (0, 14), .inl (0, 4096), .inl (0, 768), .inl (0, 3), .inl (0, 8), .inl (0, 256), .inl (0, 4096), .inl (0, 30), .inl (0, 4), .inl (0, 4), .inl (0, 96), .inl (0, 24)]
abbrev NC : Nat := 91
theorem SHL_len : SHL.length = NC := by decide +kernel
def shp (k : Nat) : Sh := SHL.getD k (.inl (9, 0))
/-- the literals of KINDS, by their places among the literals -/
def strK (j : Nat) : Nat := 12 + j
def fval (G : GT) (mem : Mem) (k : Nat) (q : (Nat × Nat) × Nat) : Value := match q.1.1 with
  | 0 => .int (Int32.ofInt (mem k q.2))
  | 1 => .long (Int64.ofInt (mem k q.2))
  | _ => .ref (gB G + q.1.2)
def arrF (G : GT) (mem : Mem) (k a : Nat) : (Nat → Int32) ⊕ (Nat → Int64) ⊕ (Nat → UInt32) ⊕ (Nat → UInt64) ⊕ (Nat → Option Nat) := match a with
  | 0 => .inl (fun j => Int32.ofInt (mem k j))
  | 1 => .inr (.inl (fun j => Int64.ofInt (mem k j)))
  | 2 => .inl (fun j => Int32.ofInt (mem k j))
  | 3 => .inr (.inr (.inr (.inr (fun j => some (gB G + (63 + 2 * j))))))
  | _ => .inr (.inr (.inr (.inr (fun j => some (gK G (strK j))))))
def cellOf (G : GT) (mem : Mem) (k : Nat) : va_E := match shp k with
  | .inr (ci, fl) => .inr (ci, fl.zipIdx.map (fval G mem k))
  | .inl (a, n) => .inl (gC G a, n, arrF G mem k a)
def wsOf (G : GT) (mem : Mem) : va_W := (List.range NC).map (fun k => (gB G + k, cellOf G mem k))
def tysOf (G : GT) : List (ClassId × FieldType) := [(gC G 0, .int), (gC G 1, .long), (gC G 2, .byte), (gC G 3, .object "PoliteHall$Sheet"), (gC G 4, .object "java/lang/String")]
theorem ws_get {G : GT} {mem : Mem} {k : Nat} (h : k < NC) : (wsOf G mem)[k]? = some (gB G + k, cellOf G mem k) := by
  unfold wsOf
  rw [List.getElem?_map, List.getElem?_range h]
  rfl
theorem ws_len {G : GT} {mem : Mem} : (wsOf G mem).length = NC := by unfold wsOf; simp
theorem ws_lt {G : GT} {mem : Mem} {k : Nat} {q : Nat × va_E} (h : (wsOf G mem)[k]? = some q) : k < NC := by
  have := (List.getElem?_eq_some_iff.mp h).1
  rwa [ws_len] at this
theorem ws_D {G : GT} {mem : Mem} : va_D (fun q => gB G ≤ q) (wsOf G mem) := by
  refine ⟨fun i j p q hi hj hpq => ?_, fun k q hk => ?_⟩
  · rw [ws_get (ws_lt hi)] at hi
    rw [ws_get (ws_lt hj)] at hj
    cases hi; cases hj
    have : gB G + i = gB G + j := hpq
    omega
  · rw [ws_get (ws_lt hk)] at hk
    cases hk
    exact Nat.le_add_right _ _
theorem shp_lt {k : Nat} {x : Sh} (h : shp k = x) (hx : x ≠ .inl (9, 0)) : k < NC := by
  rcases Nat.lt_or_ge k NC with q | q
  · exact q
  · exfalso
    apply hx
    rw [← h]
    unfold shp
    rw [List.getD_eq_getElem?_getD, List.getElem?_eq_none (by rw [SHL_len]; exact q)]
    rfl
def upM (mem : Mem) (k : Nat) (j v : Int) : Mem := fun a b => if a = k ∧ b = j then v else mem a b
theorem upM_same {mem : Mem} {k : Nat} {j v : Int} : upM mem k j v k j = v := by simp [upM]
theorem upM_ne {mem : Mem} {k a : Nat} {j b v : Int} (h : ¬ (a = k ∧ b = j)) : upM mem k j v a b = mem a b := by simp [upM, h]
theorem cell_ne {G : GT} {mem mem' : Mem} {k : Nat} (h : ∀ b, mem' k b = mem k b) : cellOf G mem' k = cellOf G mem k := by
  unfold cellOf
  have e : ∀ q, fval G mem' k q = fval G mem k q := by intro q; unfold fval; simp only [h]
  have e2 : ∀ a, arrF G mem' k a = arrF G mem k a := by intro a; unfold arrF; simp only [h]
  split
  · rw [show fval G mem' k = fval G mem k from funext e]
  · rw [e2]
theorem ws_set {G : GT} {mem mem' : Mem} {k : Nat} {x : va_E} (hk : k < NC) (h : ∀ a, a ≠ k → ∀ b, mem' a b = mem a b) (hx : x = cellOf G mem' k) : (wsOf G mem).set k (gB G + k, x) = wsOf G mem' := by
  apply List.ext_getElem?
  intro i
  by_cases hi : i < NC
  · by_cases hik : i = k
    · subst hik
      rw [List.getElem?_set_self (by rw [ws_len]; exact hi), ws_get hi, hx]
    · rw [List.getElem?_set_ne (Ne.symm hik), ws_get hi, ws_get hi, cell_ne (h i hik)]
  · rw [List.getElem?_eq_none (by rw [List.length_set, ws_len]; omega), List.getElem?_eq_none (by rw [ws_len]; omega)]
abbrev inr (z : Int) : Prop := -2147483648 ≤ z ∧ z < 2147483648
abbrev inl (z : Int) : Prop := -9223372036854775808 ≤ z ∧ z < 9223372036854775808
/-- whether slot j of cell k is a long -/
def isLg (k : Nat) (j : Int) : Bool := match shp k with
  | .inl (a, _) => a == 1
  | .inr (_, fl) => (fl.getD j.toNat (0, 0)).1 == 1
/-- every number in the memory is in the range of its type -/
def MemOK (mem : Mem) : Prop := ∀ k j, inl (mem k j) ∧ (isLg k j = false → inr (mem k j))
def World (G : GT) (mem : Mem) (H : Heap) : Prop := va_P (gD G) vwCl (wsOf G mem) H ∧ MemOK mem
/-- the literals: class, place in its pool, text, bytes -/
def LIT : List (String × Nat × String × List Int) := [("PoliteHall$Reader", 47, "make", [109, 97, 107, 101]), ("PoliteHall$Reader", 114, "polite", [112, 111, 108, 105, 116, 101]), ("PoliteHall$Reader", 116, "contrary", [99, 111, 110, 116, 114, 97, 114, 121]), ("PoliteHall$Reader", 118, "slack", [115, 108, 97, 99, 107]), ("PoliteHall$Reader", 120, "pact", [112, 97, 99, 116]), ("PoliteHall$Reader", 122, "mute", [109, 117, 116, 101]), ("PoliteHall$Reader", 124, "any", [97, 110, 121]), ("PoliteHall$Reader", 59, "tie", [116, 105, 101]), ("PoliteHall$Reader", 64, "say", [115, 97, 121]), ("PoliteHall$Reader", 98, "whole", [119, 104, 111, 108, 101]), ("PoliteHall$Reader", 100, "broken", [98, 114, 111, 107, 101, 110]), ("PoliteHall$Reader", 72, "most", [109, 111, 115, 116]), ("PoliteHallModel", 24, "any", [97, 110, 121]), ("PoliteHallModel", 26, "polite", [112, 111, 108, 105, 116, 101]), ("PoliteHallModel", 28, "contrary", [99, 111, 110, 116, 114, 97, 114, 121]), ("PoliteHallModel", 30, "slack", [115, 108, 97, 99, 107]), ("PoliteHallModel", 32, "pact", [112, 97, 99, 116]), ("PoliteHallModel", 34, "mute", [109, 117, 116, 101]), ("PoliteHallModel", 164, "make", [109, 97, 107, 101]), ("PoliteHallModel", 169, "tie", [116, 105, 101]), ("PoliteHallModel", 175, "say", [115, 97, 121]), ("PoliteHallModel", 177, "whole", [119, 104, 111, 108, 101]), ("PoliteHallModel", 179, "broken", [98, 114, 111, 107, 101, 110]), ("PoliteHallModel", 181, "most", [109, 111, 115, 116]), ("PoliteHallModel", 190, ";", [59])]
def litD : String × Nat × String × List Int := ("", 0, "", [])
abbrev lit (i : Nat) : String × Nat × String × List Int := LIT.getD i litD
abbrev litB (i : Nat) : List Int := (lit i).2.2.2
def TBL : List (List Int) := [[-1, 0, 0, 0, 2, 3], [10, 11, 12, 13, 20, 0, 21, 0, 0, 30, 0, 31, 40, 0, 41, 0, 0, 50, 51, 0, 60, 0, 0, 61]]
abbrev tbl (i : Nat) : List Int := TBL.getD i []
def tblN (i : Nat) : String := ["ABOVE", "BODIES"].getD i ""
def EnvF (G : GT) (s : State) : Prop :=
  (∀ w ∈ NW, va_Nw w s) ∧
  (∀ i, i < 25 → vk_R (lit i).1 (lit i).2.1 (lit i).2.2.1 (gK G i) s ∧ va_O "java/lang/String" (gK G i) (fun q => gB G ≤ q) s s.heap ∧ va_OF "java/lang/String" "coder" "B" (.int 0) (gK G i) (fun q => gB G ≤ q) s s.heap ∧ va_OF "java/lang/String" "value" "[B" (.ref (gV G i)) (gK G i) (fun q => gB G ≤ q) s s.heap ∧ va_T .byte (gV G i) (litB i).length (fun j => .int (Int32.ofInt ((litB i).getD j 0))) (fun q => gB G ≤ q) s s.heap) ∧
  (∀ i, i < 2 → va_Z "PoliteHall" (tblN i) "[I" (.ref (gTb G i)) (fun q => gB G ≤ q) s s.heap ∧ va_T .int (gTb G i) (tbl i).length (fun j => .int (Int32.ofInt ((tbl i).getD j 0))) (fun q => gB G ≤ q) s s.heap) ∧
  va_Z "java/lang/String" "COMPACT_STRINGS" "Z" (.int 1) (fun q => gB G ≤ q) s s.heap ∧
  va_Z "jdk/internal/util/Preconditions" "SIOOBE_FORMATTER" "Ljava/util/function/BiFunction;" (va_rf (gF G)) (fun q => gB G ≤ q) s s.heap ∧
  va_X (gX G).1 (gX G).2.1 (gX G).2.2 s s.heap ∧ (gX G).1 < s.heap.size ∧ (gX G).1 < gB G ∧ (gX G).2.1 ≤ 384
theorem EnvF.move {G : GT} {s U : State} (h : EnvF G s) (hW : s.WarmedH U.vm) (hz : s.heap.size ≤ U.heap.size) (hq : ∀ a : Nat, a < s.heap.size → ¬ gB G ≤ a → U.heap[a]? = s.heap[a]?) : EnvF G U := by
  obtain ⟨h1, h2, h3, h4, h5, h6, h7, h8, h9⟩ := h
  have hvm := hW.alike
  refine ⟨fun w hw => NW_warm (List.mem_filter.mp hw).2 hW (h1 w hw), fun i hi => ?_, fun i hi => ?_, (h4.kept hq).moved hvm, (h5.kept hq).moved hvm, (h6.kept (hq _ h7 (by omega))).moved hvm, by omega, h8, h9⟩
  · obtain ⟨a1, a2, a3, a4, a5⟩ := h2 i hi
    exact ⟨a1.warm hW, va_O.moved hvm (a2.kept hq), va_OF.moved hvm (a3.kept hq), va_OF.moved hvm (a4.kept hq), va_T.moved hvm (a5.kept hq)⟩
  · obtain ⟨a1, a2⟩ := h3 i hi
    exact ⟨(a1.kept hq).moved hvm, va_T.moved hvm (a2.kept hq)⟩
theorem EnvF.calling {G : GT} {U : State} (h : EnvF G U) (g : JFrame) (mk : MethodId) (a : Array Value) : EnvF G (U.calling g mk a) := h.move (U := U.calling g mk a) (State.WarmedH.refl U) (Nat.le_refl _) (fun _ _ _ => rfl)
/-- what is fixed while a method runs -/
def Cx (own : String) (cc : ByteArray) (nL : Nat) (ret : Option FieldType) (G : GT) (p : Program) (s : State) (m : MethodId) (args : Array Value) (meth : Method) (c : Code) : Prop :=
  p.tables.exec = Jvm.exec ∧ c.code = cc ∧ meth.sig.returnType = ret ∧ c.maxLocals = nL ∧ s.vm.findClass own = some m.cls ∧ meth.locks = false ∧ (∀ w ∈ CW, w.before args s = true) ∧ va_K (gD G) vwCl (tysOf G) s ∧ EnvF G s
def ExW (G : GT) (R : Room) (nc ns : Nat) (Z : GT → State → Array Value → List Frame → State → Prop) (own : String) (cc : ByteArray) (nL : Nat) (ret : Option FieldType) (pc : Nat) (ls : List (Nat × AV)) (st : List AV) (mem : Mem) : Prop :=
  ∀ (p : Program) (l : Launch) (e : Env) (s : State) (m : MethodId) (args : Array Value) (below : List Frame) (meth : Method) (c : Code) (H : Heap) (locs : List Loc) (lsA : Array Slot),
    Cx own cc nL ret G p s m args meth c → World G mem H → va_S (fun q => gB G ≤ q) s.heap H locs → lv_has lsA nL (ls.map (cvl G)) → W p l e R s m args below meth c H locs nc ns (Z G s args below) (F0 m pc lsA (st.map (cv G)))
abbrev rmD (d : Nat) : Room := { frames := d, cells := 0, slots := 0, locals := 40 * d }
def QcOf (G : GT) (Q : Option AV → Mem → Prop) : Array Value → State → Outcome → State → Prop := fun _ st oc t => ∃ (r : Option AV) (mem' : Mem), oc = .returned (r.map (cv G)) ∧ Q r mem' ∧ World G mem' t.heap ∧ va_F (fun q => gB G ≤ q) st t
abbrev Zm (Q : Option AV → Mem → Prop) : GT → State → Array Value → List Frame → State → Prop := fun G s args below => MQ below (QcOf G Q) args s 0 0 (fun q => gB G ≤ q)
abbrev Ex (G : GT) (own : String) (cc : ByteArray) (nL : Nat) (ret : Option FieldType) (d pc : Nat) (ls : List (Nat × AV)) (st : List AV) (mem : Mem) (Q : Option AV → Mem → Prop) : Prop := ExW G (rmD d) 0 0 (Zm Q) own cc nL ret pc ls st mem
def PreU (G : GT) (mem : Mem) (U : State) : Prop := World G mem U.heap ∧ va_K (gD G) vwCl (tysOf G) U ∧ EnvF G U
def Ct (G : GT) (y : MethodName) (cc : ByteArray) (nL : Nat) (ret : Option FieldType) (d : Nat) (as : List AV) (mem : Mem) (Q : Option AV → Mem → Prop) : Prop :=
  ∀ (l : Launch), Met l y (Cond.code y cc nL ret :: CW) (rmD d) (va_Pc (as.map (cv G)) (PreU G mem)) (QcOf G Q) 0 0 (fun q => gB G ≤ q)
def avArgs : Nat → List AV → List (Nat × AV)
  | _, [] => []
  | i, v :: vs => (i, v) :: avArgs (i + avCat v) vs
theorem avArgs_lv (G : GT) : ∀ (i : Nat) (vs : List AV), lv_args i (vs.map (cv G)) = (avArgs i vs).map (cvl G)
  | _, [] => rfl
  | i, v :: vs => by
    simp only [List.map_cons, lv_args, avArgs]
    rw [cat_cv]
    congr 1
    rw [← avArgs_lv G]
    congr 1
    unfold avCat
    split <;> simp_all
theorem lg_len (G : GT) : ∀ vs : List AV, (lg_sl (vs.map (cv G))).length = (vs.map avCat).sum
  | [] => rfl
  | v :: vs => by
    have ih := lg_len G vs
    unfold lg_sl at ih ⊢
    simp only [List.map_cons, List.flatMap_cons, List.length_append, List.sum_cons]
    rw [ih, cat_cv]
    congr 1
    unfold avCat
    split <;> simp_all
theorem Ct_of_Ex {G : GT} {y : MethodName} {cc : ByteArray} {nL : Nat} {ret : Option FieldType} {d : Nat} {as : List AV} {mem : Mem} {Q : Option AV → Mem → Prop} {ls : List (Nat × AV)} (hy : plainName y.cls = true) (hn : (as.map avCat).sum ≤ nL) (hl : avArgs 0 as = ls) (k : Ex G y.cls cc nL ret d 0 ls [] mem Q) : Ct G y cc nL ret d as mem Q := by
  intro l
  refine Met.ofW (cc := cc) (maxL := nL) (ret := ret) hy rfl ?_
  intro p e s m args below meth c s₁ B hml hv
  obtain ⟨rfl, hWd, hK, hE⟩ := hv
  have hts := atoms_spec (ws := Cond.code y cc nL ret :: CW) B.pre
  have hent := lv_entry (as.map (cv G)) (n := nL) (by rw [lg_len]; exact hn)
  rw [avArgs_lv, hl] at hent
  rw [lg_entry_eq]
  exact k p l e s m _ below meth c s.heap [] _ ⟨B.exec, B.bytes, B.returns, hml, findClass_of_methodNamed B.named, B.notSynchronized, fun w hw => hts w (List.mem_cons_of_mem _ hw), hK, hE⟩ hWd va_S.rf hent
def FA (own : String) (idx ci j : Nat) : Prop := ∃ (C : String) (T : u_T) (N : Nat), vwCl[ci]? = some (C, T, N) ∧ j < N ∧ (∀ w ∈ u_ws C T N, w ∈ CW) ∧ (Cond.fieldLink own idx (T j).1 (T j).2.1 (T j).2.2.1 ∈ CW ∨ ∃ host, Cond.fieldLinkNest own idx (T j).1 (T j).2.1 (T j).2.2.1 host ∈ NW)
def FP (own : String) (idx ci j : Nat) (ty : FieldType) : Prop := ∃ (C : String) (T : u_T) (N : Nat) (ty0 : Nat → FieldType), vwCl[ci]? = some (C, T, N) ∧ j < N ∧ (∀ w ∈ u_ws C T N, w ∈ CW) ∧ (Cond.fieldLink own idx (T j).1 (T j).2.1 (T j).2.2.1 ∈ CW ∨ ∃ host, Cond.fieldLinkNest own idx (T j).1 (T j).2.1 (T j).2.2.1 host ∈ NW) ∧ (T j).2.2.2 = false ∧ (∀ k, k < N → parseFieldDescriptor (T k).2.2.1 = some (ty0 k)) ∧ (∀ a, a < N → ∀ b, b < N → a ≠ b → (T a).2.1 ≠ (T b).2.1) ∧ ty0 j = ty
def GS (own : String) (idx : Nat) (C n d : String) : Prop := Cond.fieldLink own idx C n d ∈ CW ∨ ∃ host, Cond.fieldLinkNest own idx C n d host ∈ NW
def MV (own : String) (idx : Nat) (y : MethodName) (cc : ByteArray) (nL : Nat) (ret : Option FieldType) (n : Nat) : Prop := Cond.methodLink own idx y ∈ CW ∧ Cond.instanceMethod y ∈ CW ∧ Cond.selects y.cls y y ∈ CW ∧ Cond.initialized y.cls ∈ CW ∧ Cond.code y cc nL ret ∈ CW ∧ (y.cls ≠ "java/lang/invoke/MethodHandle" ∧ y.cls ≠ "java/lang/invoke/VarHandle" ∧ (parseMethodDescriptor y.desc).map (fun d => d.parameters.length) = some n)
def MS (own : String) (idx : Nat) (y : MethodName) (cc : ByteArray) (nL : Nat) (ret : Option FieldType) (n : Nat) : Prop := (Cond.methodLink own idx y ∈ CW ∨ ∃ host, Cond.methodLinkNest own idx y host ∈ NW) ∧ Cond.static y ∈ CW ∧ Cond.initialized y.cls ∈ CW ∧ Cond.code y cc nL ret ∈ CW ∧ (y.cls ≠ "java/lang/invoke/MethodHandle" ∧ y.cls ≠ "java/lang/invoke/VarHandle" ∧ (parseMethodDescriptor y.desc).map (fun d => d.parameters.length) = some n)
