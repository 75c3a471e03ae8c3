/-! ===== construction: cells come one after another ===== -/
def wsC (G : GT) (cs : List va_E) : va_W := cs.zipIdx.map (fun q => (gB G + q.2, q.1))
theorem wc_at {G : GT} {cs : List va_E} (k : Nat) : (wsC G cs)[k]? = (cs[k]?).map (fun e => (gB G + k, e)) := by
  unfold wsC
  rw [List.getElem?_map, List.getElem?_zipIdx]
  cases cs[k]? <;> simp
theorem wc_get {G : GT} {cs : List va_E} {k : Nat} {e : va_E} (h : cs[k]? = some e) : (wsC G cs)[k]? = some (gB G + k, e) := by
  rw [wc_at, h]; rfl
theorem wc_inv {G : GT} {cs : List va_E} {k : Nat} {q : Nat × va_E} (h : (wsC G cs)[k]? = some q) : q.1 = gB G + k := by
  rw [wc_at] at h
  cases hk : cs[k]? with
  | none => rw [hk] at h; cases h
  | some e => rw [hk] at h; cases h; rfl
theorem wc_len {G : GT} {cs : List va_E} : (wsC G cs).length = cs.length := by unfold wsC; simp
theorem wc_set {G : GT} {cs : List va_E} {k : Nat} {x : va_E} : (wsC G cs).set k (gB G + k, x) = wsC G (cs.set k x) := by
  apply List.ext_getElem?
  intro i
  rw [wc_at, List.getElem?_set, List.getElem?_set, wc_len, wc_at]
  by_cases hik : k = i
  · subst hik
    rw [if_pos rfl, if_pos rfl]
    by_cases hl : k < cs.length
    · rw [if_pos hl, if_pos hl]; rfl
    · rw [if_neg hl, if_neg hl]; rfl
  · rw [if_neg hik, if_neg hik]
theorem wc_push {G : GT} {cs : List va_E} {x : va_E} : wsC G (cs ++ [x]) = wsC G cs ++ [(gB G + cs.length, x)] := by
  apply List.ext_getElem?
  intro i
  rw [wc_at]
  by_cases hi : i < cs.length
  · rw [List.getElem?_append_left hi, List.getElem?_append_left (by rw [wc_len]; exact hi), wc_at]
  · rw [List.getElem?_append_right (by omega), List.getElem?_append_right (by rw [wc_len]; omega), wc_len]
    by_cases h0 : i = cs.length
    · subst h0; simp
    · rw [List.getElem?_eq_none (by simp; omega), List.getElem?_eq_none (by simp; omega)]; rfl
theorem wc_D {G : GT} {cs : List va_E} : va_D (fun q => gB G ≤ q) (wsC G cs) := by
  refine ⟨fun i j p q hi hj hpq => ?_, fun k q hk => ?_⟩
  · rw [wc_inv hi, wc_inv hj] at hpq
    omega
  · have := wc_inv hk
    show gB G ≤ q.1
    omega
def WC (G : GT) (cs : List va_E) (H : Heap) : Prop := va_P (gD G) vwCl (wsC G cs) H ∧ H.size = gB G + cs.length
def AO2 (s : State) : Prop := va_AO "PoliteHall$Sheet" s ∧ va_AO "java/lang/String" s
def ExC (G : GT) (R : Room) (nc ns : Nat) (Z : GT → State → Array Value → List Frame → State → Prop) (own : String) (cc : ByteArray) (nL : Nat) (ret : Option FieldType) (ini : Bool) (pc : Nat) (ls : List (Nat × AV)) (st : List AV) (cs : List va_E) : Prop :=
  ∀ (p : Program) (l : Launch) (e : Env) (s : State) (m : MethodId) (args : Array Value) (below : List Frame) (meth : Method) (c : Code) (H : Heap) (locs : List Loc) (lsA : Array Slot),
    Cx own cc nL ret G p s m args meth c → (ini = true → meth.name = "<init>") → AO2 s → gB G ≤ s.heap.size → WC G cs H → va_S (fun q => gB G ≤ q) s.heap H locs → lv_has lsA nL (ls.map (cvl G)) → W p l e R s m args below meth c H locs nc ns (Z G s args below) (F0 m pc lsA (st.map (cv G)))
abbrev rmC (t mc ms : Nat) : Room := { frames := t, cells := mc, slots := ms, locals := 40 * t }
def QC (G : GT) (cs' : List va_E) : Array Value → State → Outcome → State → Prop := fun _ st oc t => oc = .returned none ∧ WC G cs' t.heap ∧ va_F (fun q => gB G ≤ q) st t
def ZC (cs' : List va_E) (mc ms : Nat) : GT → State → Array Value → List Frame → State → Prop := fun G s args below => MQ below (QC G cs') args s mc ms (fun q => gB G ≤ q)
def PreC (G : GT) (cs : List va_E) (U : State) : Prop := WC G cs U.heap ∧ va_K (gD G) vwCl (tysOf G) U ∧ EnvF G U ∧ AO2 U
def CtC (G : GT) (y : MethodName) (cc : ByteArray) (nL t mc ms : Nat) (as : List AV) (cs cs' : List va_E) : Prop :=
  ∀ (l : Launch), Met l y (Cond.code y cc nL none :: CW) (rmC t mc ms) (va_Pc (as.map (cv G)) (PreC G cs)) (QC G cs') mc ms (fun q => gB G ≤ q)
theorem CtC_of {G : GT} {y : MethodName} {cc : ByteArray} {nL t mc ms : Nat} {as : List AV} {cs cs' : List va_E} {ls : List (Nat × AV)} (hy : plainName y.cls = true) (hi : y.name = "<init>") (hn : (as.map avCat).sum ≤ nL) (hl : avArgs 0 as = ls) (k : ExC G (rmC t mc ms) 0 0 (ZC cs' mc ms) y.cls cc nL none true 0 ls [] cs) : CtC G y cc nL t mc ms as cs cs' := by
  intro l
  refine Met.ofW (cc := cc) (maxL := nL) (ret := none) hy rfl ?_
  intro p e s m args below meth c s₁ B hml hv
  obtain ⟨rfl, hWd, hK, hE, hA⟩ := hv
  have hts := atoms_spec (ws := Cond.code y cc nL none :: CW) B.pre
  have hent := lv_entry (as.map (cv G)) (n := nL) (by rw [lg_len]; exact hn)
  rw [avArgs_lv, hl] at hent
  rw [lg_entry_eq]
  exact k p l e s m _ below meth c s.heap [] _ ⟨B.exec, B.bytes, B.returns, hml, findClass_of_methodNamed B.named, B.notSynchronized, fun w hw => hts w (List.mem_cons_of_mem _ hw), hK, hE⟩ (fun _ => ((name_of_methodNamed B.named B.method).1).trans hi) hA (by have := hWd.2; omega) hWd va_S.rf hent
section EC
variable {G : GT} {R : Room} {nc ns : Nat} {Z : GT → State → Array Value → List Frame → State → Prop} {own : String} {cc : ByteArray} {nL : Nat} {ret : Option FieldType} {ini : Bool} {pc q : Nat} {ls : List (Nat × AV)} {st : List AV} {cs : List va_E}
theorem c_iconst {n : Int} (hd : decode cc pc = .ok (.iconst n, 1)) (hp : pc + 1 = q) (k : ExC G R nc ns Z own cc nL ret ini q ls (vI n :: st) cs) : ExC G R nc ns Z own cc nL ret ini pc ls st cs := by
  subst hp
  intro p l e s m args below meth c H locs lsA C hin hA hB hWd hS hl
  obtain ⟨hx, hb, hr, hml, hown, hlk, hts, hK, hE⟩ := id C
  exact lv_iconst hx hb hd rfl (k p l e s m args below meth c H locs lsA C hin hA hB hWd hS hl)
theorem c_bipush {n : Int} (hn : (Int8.ofInt n).toInt32 = Int32.ofInt n) (hd : decode cc pc = .ok (.bipush n, 2)) (hp : pc + 2 = q) (k : ExC G R nc ns Z own cc nL ret ini q ls (vI n :: st) cs) : ExC G R nc ns Z own cc nL ret ini pc ls st cs := by
  subst hp
  intro p l e s m args below meth c H locs lsA C hin hA hB hWd hS hl
  obtain ⟨hx, hb, hr, hml, hown, hlk, hts, hK, hE⟩ := id C
  exact lv_bipush hx hb hd hn (k p l e s m args below meth c H locs lsA C hin hA hB hWd hS hl)
theorem c_sipush {n : Int} (hn : (Int16.ofInt n).toInt32 = Int32.ofInt n) (hd : decode cc pc = .ok (.sipush n, 3)) (hp : pc + 3 = q) (k : ExC G R nc ns Z own cc nL ret ini q ls (vI n :: st) cs) : ExC G R nc ns Z own cc nL ret ini pc ls st cs := by
  subst hp
  intro p l e s m args below meth c H locs lsA C hin hA hB hWd hS hl
  obtain ⟨hx, hb, hr, hml, hown, hlk, hts, hK, hE⟩ := id C
  exact lv_sipush hx hb hd hn (k p l e s m args below meth c H locs lsA C hin hA hB hWd hS hl)
theorem c_ldcS {i t : Nat} (ht : t < 25) (hi : (lit t).1 = own ∧ (lit t).2.1 = i) (hd : decode cc pc = .ok (.ldc i, 2)) (hp : pc + 2 = q) (k : ExC G R nc ns Z own cc nL ret ini q ls (vS t :: st) cs) : ExC G R nc ns Z own cc nL ret ini pc ls st cs := by
  subst hp
  intro p l e s m args below meth c H locs lsA C hin hA hB hWd hS hl
  obtain ⟨hx, hb, hr, hml, hown, hlk, hts, hK, hE⟩ := id C
  obtain ⟨rfl, rfl⟩ := hi
  exact va_ldcS hx hb hown (hE.2.1 t ht).1 hd (k p l e s m args below meth c H locs lsA C hin hA hB hWd hS hl)
theorem c_aloadn {i a : Nat} (j : Nat) {kk : Fin 4} (hi : (kk : Nat) = i) (hj : ls[j]? = some (i, vR a)) (hd : decode cc pc = .ok (.aload_n kk, 1)) (hp : pc + 1 = q) (k : ExC G R nc ns Z own cc nL ret ini q ls (vR a :: st) cs) : ExC G R nc ns Z own cc nL ret ini pc ls st cs := by
  subst hp
  intro p l e s m args below meth c H locs lsA C hin hA hB hWd hS hl
  obtain ⟨hx, hb, hr, hml, hown, hlk, hts, hK, hE⟩ := id C
  have hj2 : (ls.map (cvl G))[j]? = some (i, .ref (gB G + a)) := by rw [List.getElem?_map, hj]; rfl
  exact lv_aload_n hx hb hd hi (lv_at hl j hj2) (k p l e s m args below meth c H locs lsA C hin hA hB hWd hS hl)
theorem c_iloadn {i : Nat} {z : Int} (j : Nat) {kk : Fin 4} (hi : (kk : Nat) = i) (hj : ls[j]? = some (i, vI z)) (hd : decode cc pc = .ok (.iload_n kk, 1)) (hp : pc + 1 = q) (k : ExC G R nc ns Z own cc nL ret ini q ls (vI z :: st) cs) : ExC G R nc ns Z own cc nL ret ini pc ls st cs := by
  subst hp
  intro p l e s m args below meth c H locs lsA C hin hA hB hWd hS hl
  obtain ⟨hx, hb, hr, hml, hown, hlk, hts, hK, hE⟩ := id C
  have hj2 : (ls.map (cvl G))[j]? = some (i, .int (Int32.ofInt z)) := by rw [List.getElem?_map, hj]; rfl
  exact lv_iload_n hx hb hd hi (lv_at hl j hj2) (k p l e s m args below meth c H locs lsA C hin hA hB hWd hS hl)
theorem c_istoren {i : Nat} {z : Int} {ls' : List (Nat × AV)} {kk : Fin 4} (hi : (kk : Nat) = i) (hn : i < nL) (hl9 : lput1 ls i (vI z) = ls') (hd : decode cc pc = .ok (.istore_n kk, 1)) (hp : pc + 1 = q) (k : ExC G R nc ns Z own cc nL ret ini q ls' st cs) : ExC G R nc ns Z own cc nL ret ini pc ls (vI z :: st) cs := by
  subst hp
  intro p l e s m args below meth c H locs lsA C hin hA hB hWd hS hl
  obtain ⟨hx, hb, hr, hml, hown, hlk, hts, hK, hE⟩ := id C
  subst hl9
  refine lv_istore_n (x := Int32.ofInt z) hx hb hd hi hl hn (lput1_map G ls i (vI z)) (fun ls2 hl2 => ?_)
  exact k p l e s m args below meth c H locs ls2 C hin hA hB hWd hS hl2
theorem c_astoren {i a : Nat} {ls' : List (Nat × AV)} {kk : Fin 4} (hi : (kk : Nat) = i) (hn : i < nL) (hl9 : lput1 ls i (vR a) = ls') (hd : decode cc pc = .ok (.astore_n kk, 1)) (hp : pc + 1 = q) (k : ExC G R nc ns Z own cc nL ret ini q ls' st cs) : ExC G R nc ns Z own cc nL ret ini pc ls (vR a :: st) cs := by
  subst hp
  intro p l e s m args below meth c H locs lsA C hin hA hB hWd hS hl
  obtain ⟨hx, hb, hr, hml, hown, hlk, hts, hK, hE⟩ := id C
  subst hl9
  refine lv_astore_n (x := gB G + a) hx hb hd hi hl hn (lput1_map G ls i (vR a)) (fun ls2 hl2 => ?_)
  exact k p l e s m args below meth c H locs ls2 C hin hA hB hWd hS hl2
theorem c_iinc {i : Nat} {n z : Int} {ls' : List (Nat × AV)} (j : Nat) (hj : ls[j]? = some (i, vI z)) (hn : i < nL) (hl9 : lput1 ls i (vI (z + n)) = ls') (hd : decode cc pc = .ok (.iinc i n, 3)) (hp : pc + 3 = q) (k : ExC G R nc ns Z own cc nL ret ini q ls' st cs) : ExC G R nc ns Z own cc nL ret ini pc ls st cs := by
  subst hp
  intro p l e s m args below meth c H locs lsA C hin hA hB hWd hS hl
  obtain ⟨hx, hb, hr, hml, hown, hlk, hts, hK, hE⟩ := id C
  subst hl9
  have hj2 : (ls.map (cvl G))[j]? = some (i, .int (Int32.ofInt z)) := by rw [List.getElem?_map, hj]; rfl
  refine lv_iinc (v := Int32.ofInt (z + n)) hx hb hd hl hj2 (by rw [Int32.ofInt_add]) hn (lput1_map G ls i (vI (z + n))) (fun ls2 hl2 => ?_)
  exact k p l e s m args below meth c H locs ls2 C hin hA hB hWd hS hl2
theorem c_dup {v : AV} (hv : v.1 ≠ 1) (hd : decode cc pc = .ok (.dup, 1)) (hp : pc + 1 = q) (k : ExC G R nc ns Z own cc nL ret ini q ls (v :: v :: st) cs) : ExC G R nc ns Z own cc nL ret ini pc ls (v :: st) cs := by
  subst hp
  intro p l e s m args below meth c H locs lsA C hin hA hB hWd hS hl
  obtain ⟨hx, hb, hr, hml, hown, hlk, hts, hK, hE⟩ := id C
  show W _ _ _ _ _ _ _ _ _ _ _ _ _ _ _ (F0 _ _ _ (cv G v :: st.map (cv G)))
  exact lv_dup hx hb hd (by rw [cat_cv]; simp [avCat, hv]) (k p l e s m args below meth c H locs lsA C hin hA hB hWd hS hl)
theorem c_goto {off : Int} {tgt : Nat} (hd : decode cc pc = .ok (.goto off, 3)) (ht : (pc : Int) + off = (tgt : Int)) (k : ExC G R nc ns Z own cc nL ret ini tgt ls st cs) : ExC G R nc ns Z own cc nL ret ini pc ls st cs := by
  intro p l e s m args below meth c H locs lsA C hin hA hB hWd hS hl
  obtain ⟨hx, hb, hr, hml, hown, hlk, hts, hK, hE⟩ := id C
  exact lv_goto hx hb hd ht (k p l e s m args below meth c H locs lsA C hin hA hB hWd hS hl)
theorem c_geN {a b : Int} {off : Int} (hd : decode cc pc = .ok (.if_icmp .ge off, 3)) {tgt : Nat} (ht : (pc : Int) + off = (tgt : Int)) (hp : pc + 3 = q) (ha : inr a) (hb2 : inr b) (hlt : a < b) (k : ExC G R nc ns Z own cc nL ret ini q ls st cs) : ExC G R nc ns Z own cc nL ret ini pc ls (vI b :: vI a :: st) cs := by
  subst hp
  intro p l e s m args below meth c H locs lsA C hin hA hB hWd hS hl
  obtain ⟨hx, hb, hr, hml, hown, hlk, hts, hK, hE⟩ := id C
  show W _ _ _ _ _ _ _ _ _ _ _ _ _ _ _ (F0 _ _ _ (Value.int (Int32.ofInt b) :: Value.int (Int32.ofInt a) :: st.map (cv G)))
  exact lv_icmp_ge hx hb hd ht (fun q => absurd ((le32 hb2 ha).mp q) (by omega)) (fun _ => k p l e s m args below meth c H locs lsA C hin hA hB hWd hS hl)
theorem c_geY {a b : Int} {off : Int} (hd : decode cc pc = .ok (.if_icmp .ge off, 3)) {tgt : Nat} (ht : (pc : Int) + off = (tgt : Int)) (ha : inr a) (hb2 : inr b) (hlt : b ≤ a) (k : ExC G R nc ns Z own cc nL ret ini tgt ls st cs) : ExC G R nc ns Z own cc nL ret ini pc ls (vI b :: vI a :: st) cs := by
  intro p l e s m args below meth c H locs lsA C hin hA hB hWd hS hl
  obtain ⟨hx, hb, hr, hml, hown, hlk, hts, hK, hE⟩ := id C
  show W _ _ _ _ _ _ _ _ _ _ _ _ _ _ _ (F0 _ _ _ (Value.int (Int32.ofInt b) :: Value.int (Int32.ofInt a) :: st.map (cv G)))
  exact lv_icmp_ge hx hb hd ht (fun _ => k p l e s m args below meth c H locs lsA C hin hA hB hWd hS hl) (fun q => absurd ((le32 hb2 ha).mpr hlt) q)
theorem c_obj {idx a : Nat} (hd : decode cc pc = .ok (.invokespecial idx, 3)) (hp : pc + 3 = q) (w1 : Cond.methodLink own idx Lib.objectInit ∈ CW) (w2 : Cond.instanceMethod Lib.objectInit ∈ CW) (w3 : Cond.code Lib.objectInit ⟨#[0xb1]⟩ 1 none ∈ CW) (hR : 1 ≤ R.frames ∧ (st.map avCat).sum + 12 ≤ R.locals) (k : ExC G R nc ns Z own cc nL ret ini q ls st cs) : ExC G R nc ns Z own cc nL ret ini pc ls (vR a :: st) cs := by
  subst hp
  intro p l e s m args below meth c H locs lsA C hin hA hB hWd hS hl
  obtain ⟨hx, hb, hr, hml, hown, hlk, hts, hK, hE⟩ := id C
  have hroom := lv_room (m := m) (pc := pc) (ls := lsA) (rest := (vR a :: st).map (cv G)) (st := []) (Nat.zero_le 8)
  refine W.objInit (a := gB G + a) hx hb hown (hts _ w1) (hts _ w2) (hts _ w3) rfl (by rw [hml]; exact hl.1) rfl hd hR.1 ?_ (k p l e s m args below meth c H locs lsA C hin hA hB hWd hS hl)
  rw [cat_st]
  have h9 : 2 * (F0 m pc lsA ((vR a :: st).map (cv G))).monitorRoom = 0 := by first | rfl | simp [JFrame.monitorRoom]
  omega
def NewW (own : String) (idx ci N : Nat) (fs0 : List Value) : Prop := ∃ (C : String) (T : u_T) (ty : Nat → FieldType), vwCl[ci]? = some (C, T, N) ∧ (∀ w ∈ u_ws C T N, w ∈ CW) ∧ (∀ k, k < N → parseFieldDescriptor (T k).2.2.1 = some (ty k)) ∧ Cond.classLink own idx C ∈ CW ∧ Cond.instantiable C N ∈ CW ∧ Cond.initialized C ∈ CW ∧ ∀ j, j < N → defaultValue (ty j) = vp_V fs0 j
theorem W_push {G : GT} {cs : List va_E} {x : va_E} {H H1 : Heap} (hWd : WC G cs H) (z1 : H1.size = H.size + 1) (o1 : ∀ q : Nat, q < H.size → H1[q]? = H[q]?) (hx : va_at (gD G) vwCl (H.size, x) H1) : WC G (cs ++ [x]) H1 := by
  obtain ⟨hP, hz⟩ := hWd
  have hk : ∀ (k : Nat) (x : Nat × va_E), (wsC G cs)[k]? = some x → H1[x.1]? = H[x.1]? := fun k x hx => o1 x.1 ((hP k x hx).lt)
  refine ⟨?_, by rw [z1, hz, List.length_append]; rfl⟩
  rw [wc_push, ← hz]
  refine (hP.kept hk).app (fun k y hy => ?_)
  have hk0 : k < 1 := (List.getElem?_eq_some_iff.mp hy).1
  rw [show k = 0 by omega] at hy
  cases hy
  exact hx
theorem S_push {A : Nat → Prop} {H0 H H1 : Heap} {locs : List Loc} (hS : va_S A H0 H locs) (z1 : H1.size = H.size + 1) (o1 : ∀ q : Nat, q < H.size → H1[q]? = H[q]?) : va_S A H0 H1 locs := ⟨Nat.le_trans hS.1 (by omega), fun x h1 h2 => (o1 x (Nat.lt_of_lt_of_le h1 hS.1)).trans (hS.2.1 x h1 h2), hS.2.2⟩
theorem c_new {idx ci N K : Nat} {fs0 : List Value} (hd : decode cc pc = .ok (.new idx, 3)) (hp : pc + 3 = q) (nw : NewW own idx ci N fs0) (hK9 : cs.length = K) (hC : nc + 1 ≤ R.cells ∧ ns + N ≤ R.slots) (k : ExC G R (nc + 1) (ns + N) Z own cc nL ret ini q ls (vR K :: st) (cs ++ [.inr (ci, fs0)])) : ExC G R nc ns Z own cc nL ret ini pc ls st cs := by
  subst hp
  intro p l e s m args below meth c H locs lsA C hin hA hB hWd hS hl
  obtain ⟨hx, hb, hr, hml, hown, hlk, hts, hK, hE⟩ := id C
  obtain ⟨Cn, T, ty, hc, hin9, hty, w1, w2, w3, hfs⟩ := nw
  have hKn := hK.1 ci _ hc
  subst hK9
  refine W.newcK hx hb hown (hts _ w1) (hts _ w2) (hts _ w3) rfl hd hC.1 hC.2 hKn.2.1 hWd.2 fun H1 kC hkC e1 z1 o1 => ?_
  rw [← hWd.2] at e1 z1 o1
  have hx9 : va_at (gD G) vwCl (H.size, .inr (ci, fs0)) H1 := ⟨_, hc, (u_born ty hts hin9 hKn hkC e1 hty).to hfs⟩
  exact k p l e s m args below meth c H1 locs lsA C hin hA hB (W_push hWd z1 o1 hx9) (S_push hS z1 o1) hl
def arr0 (a : Nat) : (Nat → Int32) ⊕ (Nat → Int64) ⊕ (Nat → UInt32) ⊕ (Nat → UInt64) ⊕ (Nat → Option Nat) := match a with
  | 1 => .inr (.inl (fun _ => 0))
  | 3 => .inr (.inr (.inr (.inr (fun _ => none))))
  | 4 => .inr (.inr (.inr (.inr (fun _ => none))))
  | _ => .inl (fun _ => 0)
theorem c_newa {a N K : Nat} {aty : ArrayType} {ty : FieldType} {z : Int} (hty : newarray.typeOf aty = ty) (hat : a < 3) (hta : (tysOf G)[a]? = some (gC G a, ty)) (hz : vp_cell (gC G a) (N, arr0 a) = arrV (gC G a) N (fun _ => defaultValue ty)) (hw : Cond.arrayClass ty ∈ CW) (hRA : ∀ U, va_RA U (gC G a) ty → U.vm.findClass ("[" ++ ty.toString) = some (gC G a)) (hN : z = (N : Int)) (hNb : N ≤ 10000) (hcb : componentBytes ty ≤ 8) (hd : decode cc pc = .ok (.newarray aty, 2)) (hp : pc + 2 = q) (hK9 : cs.length = K) (hC : nc + 1 ≤ R.cells ∧ ns + N ≤ R.slots) (k : ExC G R (nc + 1) (ns + N) Z own cc nL ret ini q ls (vR K :: st) (cs ++ [.inl (gC G a, N, arr0 a)])) : ExC G R nc ns Z own cc nL ret ini pc ls (vI z :: st) cs := by
  subst hp
  intro p l e s m args below meth c H locs lsA C hin hA hB hWd hS hl
  obtain ⟨hx, hb, hr, hml, hown, hlk, hts, hK, hE⟩ := id C
  subst hty
  subst hN
  subst hK9
  have hr9 : inr (N : Int) := ⟨by omega, by omega⟩
  show W _ _ _ _ _ _ _ _ _ _ _ _ _ _ _ (F0 _ _ _ (Value.int (Int32.ofInt (N : Int)) :: st.map (cv G)))
  refine va_newaK (n := Int32.ofInt (N : Int)) (N := N) hx hb (hts _ hw) rfl hd rfl (fun z => absurd ((lt32z hr9).mp z) (by omega)) (by rw [clamp32 hr9]; omega) ?_ hC.1 hC.2 hWd.2 fun H1 cA e1 z1 o1 hAr hNm => ?_
  · have := Nat.mul_le_mul hNb hcb
    omega
  have hcA : cA = gC G a := Option.some.inj (hNm.symm.trans (hRA s (hK.2 a _ hta).2))
  subst hcA
  rw [← hWd.2] at e1 z1 o1
  have hx9 : va_at (gD G) vwCl (H.size, .inl (gC G a, N, arr0 a)) H1 := by
    show H1[H.size]? = some (vp_cell _ _)
    rw [hz]
    exact e1
  exact k p l e s m args below meth c H1 locs lsA C hin hA hB (W_push hWd z1 o1 hx9) (S_push hS z1 o1) hl
theorem c_newi {N K : Nat} {z : Int} (hw : Cond.arrayClass .int ∈ CW) (hN : z = (N : Int)) (hNb : N ≤ 10000) (hd : decode cc pc = .ok (.newarray .int, 2)) (hp : pc + 2 = q) (hK9 : cs.length = K) (hC : nc + 1 ≤ R.cells ∧ ns + N ≤ R.slots) (k : ExC G R (nc + 1) (ns + N) Z own cc nL ret ini q ls (vR K :: st) (cs ++ [.inl (gC G 0, N, .inl (fun _ => 0))])) : ExC G R nc ns Z own cc nL ret ini pc ls (vI z :: st) cs :=
  c_newa (a := 0) (ty := .int) rfl (by decide) rfl rfl hw (fun _ h => h) hN hNb (by decide) hd hp hK9 hC k
theorem c_newb {N K : Nat} {z : Int} (hw : Cond.arrayClass .byte ∈ CW) (hN : z = (N : Int)) (hNb : N ≤ 10000) (hd : decode cc pc = .ok (.newarray .byte, 2)) (hp : pc + 2 = q) (hK9 : cs.length = K) (hC : nc + 1 ≤ R.cells ∧ ns + N ≤ R.slots) (k : ExC G R (nc + 1) (ns + N) Z own cc nL ret ini q ls (vR K :: st) (cs ++ [.inl (gC G 2, N, .inl (fun _ => 0))])) : ExC G R nc ns Z own cc nL ret ini pc ls (vI z :: st) cs :=
  c_newa (a := 2) (ty := .byte) rfl (by decide) rfl rfl hw (fun _ h => h) hN hNb (by decide) hd hp hK9 hC k
theorem c_newl {N K : Nat} {z : Int} (hw : Cond.arrayClass .long ∈ CW) (hN : z = (N : Int)) (hNb : N ≤ 10000) (hd : decode cc pc = .ok (.newarray .long, 2)) (hp : pc + 2 = q) (hK9 : cs.length = K) (hC : nc + 1 ≤ R.cells ∧ ns + N ≤ R.slots) (k : ExC G R (nc + 1) (ns + N) Z own cc nL ret ini q ls (vR K :: st) (cs ++ [.inl (gC G 1, N, .inr (.inl (fun _ => 0)))])) : ExC G R nc ns Z own cc nL ret ini pc ls (vI z :: st) cs :=
  c_newa (a := 1) (ty := .long) rfl (by decide) rfl rfl hw (fun _ h => h) hN hNb (by decide) hd hp hK9 hC k
theorem c_newq {a idx N K : Nat} {Cn : String} {z : Int} (hta : (tysOf G)[a]? = some (gC G a, .object Cn)) (hAO : ∀ U, AO2 U → va_AO Cn U) (hw : Cond.classLink own idx Cn ∈ CW) (hN : z = (N : Int)) (hNb : N ≤ 10000) (hd : decode cc pc = .ok (.anewarray idx, 3)) (hp : pc + 3 = q) (hK9 : cs.length = K) (hC : nc + 1 ≤ R.cells ∧ ns + N ≤ R.slots) (k : ExC G R (nc + 1) (ns + N) Z own cc nL ret ini q ls (vR K :: st) (cs ++ [.inl (gC G a, N, .inr (.inr (.inr (.inr (fun _ => none)))))])) : ExC G R nc ns Z own cc nL ret ini pc ls (vI z :: st) cs := by
  subst hp
  intro p l e s m args below meth c H locs lsA C hin hA hB hWd hS hl
  obtain ⟨hx, hb, hr, hml, hown, hlk, hts, hK, hE⟩ := id C
  subst hN
  subst hK9
  have hr9 : inr (N : Int) := ⟨by omega, by omega⟩
  have hcl : (Int32.ofInt (N : Int)).toNatClampNeg = N := by rw [clamp32 hr9]; omega
  show W _ _ _ _ _ _ _ _ _ _ _ _ _ _ _ (F0 _ _ _ (Value.int (Int32.ofInt (N : Int)) :: st.map (cv G)))
  refine W.anew hx hb hown (hts _ hw) (va_AO.use (hAO s hA)) rfl hd rfl (fun z => absurd ((lt32z hr9).mp z) (by omega)) (by rw [hcl]; omega) hC.1 (by rw [hcl]; exact hC.2) fun cA kA comp f1 f2 f3 f4 => ?_
  obtain ⟨kA', comp', g1, g2, g3, g4⟩ := (hK.2 a _ hta).2
  have hcA : cA = gC G a := Option.some.inj (f1.symm.trans g4)
  subst hcA
  rw [hcl]
  generalize hH1 : H.push ({ cls := gC G a, slots := Array.replicate N .null, vm := .none } : Cell) = H1
  have z1 : H1.size = H.size + 1 := by rw [← hH1, Array.size_push]
  have e1 : H1[H.size]? = some (arrV (gC G a) N (fun _ => .null)) := by rw [← hH1, Array.getElem?_push_size, ← arrV_new]
  have o1 : ∀ q : Nat, q < H.size → H1[q]? = H[q]? := fun q hq => by rw [← hH1, Array.getElem?_push, if_neg (Nat.ne_of_lt hq)]
  have hx9 : va_at (gD G) vwCl (H.size, .inl (gC G a, N, .inr (.inr (.inr (.inr (fun _ => none)))))) H1 := by
    show H1[H.size]? = some (vp_cell _ _)
    rw [vp_cell_q]
    exact e1
  have k9 := k p l e s m args below meth c H1 locs lsA C hin hA hB (W_push hWd z1 o1 hx9) (S_push hS z1 o1) hl
  rw [hWd.2]
  exact k9
/-! fields of the cell under construction -/
abbrev tcL (pre : List va_E) (ci : Nat) (fs : List Value) (B : List va_E) : List va_E := pre ++ .inr (ci, fs) :: B
theorem tcL_this {pre : List va_E} {ci : Nat} {fs : List Value} {B : List va_E} : (tcL pre ci fs B)[pre.length]? = some (.inr (ci, fs)) := by simp [tcL]
theorem tcL_set {pre : List va_E} {ci : Nat} {fs fs' : List Value} {B : List va_E} : (tcL pre ci fs B).set pre.length (.inr (ci, fs')) = tcL pre ci fs' B := by
  show (pre ++ .inr (ci, fs) :: B).set pre.length (.inr (ci, fs')) = _
  rw [List.set_append_right _ _ (Nat.le_refl _)]
  simp
def FQ (own : String) (idx ci j : Nat) (ty : FieldType) : Prop := ∃ (C : String) (T : u_T) (N : Nat) (ty0 : Nat → FieldType), vwCl[ci]? = some (C, T, N) ∧ j < N ∧ (∀ w ∈ u_ws C T N, w ∈ CW) ∧ Cond.fieldLink own idx (T j).1 (T j).2.1 (T j).2.2.1 ∈ CW ∧ (∀ k, k < N → parseFieldDescriptor (T k).2.2.1 = some (ty0 k)) ∧ (∀ a, a < N → ∀ b, b < N → a ≠ b → (T a).2.1 ≠ (T b).2.1) ∧ ty0 j = ty ∧ ((T j).2.2.2 = true → (T j).1 = own)
theorem c_put {idx ci j n : Nat} {v : AV} {ty : FieldType} {pre B : List va_E} {fs : List Value} (hd : decode cc pc = .ok (.putfield idx, 3)) (hp : pc + 3 = q) (fq : FQ own idx ci j ty) (hn9 : pre.length = n) (hj : j < fs.length) (hnr : narrow ty (cv G v) = cv G v) (hfit : fits ty (cv G v) = true) (k : ExC G R nc ns Z own cc nL ret true q ls st (tcL pre ci (fs.set j (cv G v)) B)) : ExC G R nc ns Z own cc nL ret true pc ls (v :: vR n :: st) (tcL pre ci fs B) := by
  subst hp
  intro p l e s m args below meth c H locs lsA C hin hA hB hWd hS hl
  obtain ⟨hx, hb, hr, hml, hown, hlk, hts, hK, hE⟩ := id C
  subst hn9
  obtain ⟨Cn, T, N, ty0, hc, hjN, hin9, hlq, hty, hnm, ety, hfo⟩ := fq
  have hpd : parseFieldDescriptor (T j).2.2.1 = some ty := by rw [hty j hjN, ety]
  show W _ _ _ _ _ _ _ _ _ _ _ _ _ _ _ (F0 _ _ _ (cv G v :: .ref (gB G + pre.length) :: st.map (cv G)))
  have hthis := wc_get (G := G) (tcL_this (pre := pre) (ci := ci) (fs := fs) (B := B))
  obtain ⟨r, h1, cell, q1, q2, q3, q4⟩ := hWd.1 pre.length _ hthis
  obtain rfl : r = (Cn, T, N) := Option.some.inj (h1.symm.trans hc)
  obtain ⟨hSl, hfc, kC, hkC, hkind⟩ := hK.1 ci _ hc
  obtain ⟨cf, kf, fi, f, hi, hsl⟩ := hSl j hjN
  have hap := va_apart (own := own) hts hin9 ty0 hty hnm hK hc
  have hlays := u_lays hts hin9 hjN
  have h6 := u_fits hfc hkC hkind hlays hi hpd hnr hfit
  have hfin : hasFlag f.accessFlags Acc.final = false ∨ (m.cls = cf ∧ meth.name = "<init>") := by
    have hlay := hts _ (hin9 _ (u_in_lay hjN))
    unfold u_lay at hlay
    by_cases hf9 : (T j).2.2.2 = true
    · rw [if_pos hf9] at hlay
      right
      refine ⟨?_, hin rfl⟩
      obtain ⟨_, _, c', _, _, _, -, -, hf', -, -, -, hown2, -⟩ := Cond.laysFinal_spec hlay
      have e1 : c' = cf := by
        have e2 := hi.symm.trans hf'
        simp at e2
        exact e2.1.symm
      rw [hfo hf9] at hown2
      rw [← e1]
      exact Option.some.inj (hown.symm.trans hown2)
    · rw [if_neg hf9] at hlay
      exact Or.inl (u_store hfc hkC hkind hlay hi hpd hnr hfit).1
  refine W.putf hx hb hown (hts _ hlq) hi (u_facts hfc hkC hlays hi).1 hfin q1 (by rw [q3]; exact fun h => by cases h) (by rw [hsl]; exact k2_hasslot (q4 j hjN)) h6.1 (by rw [q2, q3]; exact h6.2) rfl rfl hd ?_
  generalize hH1 : H.setIfInBounds (gB G + pre.length) (cell.setSlot f.slot (cv G v)) = H1
  have ha : gB G + pre.length < H.size := (Array.getElem?_eq_some_iff.mp q1).1
  have e1 : H1[gB G + pre.length]? = some (cell.setSlot f.slot (cv G v)) := by rw [← hH1]; simp [Array.getElem?_setIfInBounds, ha]
  have e2 : H1.size = H.size := by rw [← hH1]; simp
  have e3 : ∀ q : Nat, q ≠ gB G + pre.length → H1[q]? = H[q]? := fun q hq => by
    rw [← hH1, Array.getElem?_setIfInBounds, if_neg (fun h => hq h.symm)]
  rw [hsl] at e1 ⊢
  have hP1 := hWd.1.set (H1 := H1) wc_D hthis (e := .inr (ci, fs.set j (cv G v))) ⟨_, hc, t_OB.to (V := updV (vp_V fs) j (cv G v)) ⟨_, e1, q2, q3, t_set q4 hap hjN (cv G v)⟩ (fun i _ => vp_updV_set hj (cv G v) i)⟩ e3
  rw [wc_set, tcL_set] at hP1
  refine k p l e s m args below meth c H1 _ lsA C hin hA hB ⟨hP1, ?_⟩ (hS.put e2 e3 (Nat.le_add_right _ _)) hl
  rw [e2, hWd.2]
  simp [tcL]
theorem c_get {idx ci j n : Nat} {v : AV} {ty : FieldType} {pre B : List va_E} {fs : List Value} (hd : decode cc pc = .ok (.getfield idx, 3)) (hp : pc + 3 = q) (fq : FQ own idx ci j ty) (hn9 : pre.length = n) (hv : fs[j]? = some (cv G v)) (k : ExC G R nc ns Z own cc nL ret ini q ls (v :: st) (tcL pre ci fs B)) : ExC G R nc ns Z own cc nL ret ini pc ls (vR n :: st) (tcL pre ci fs B) := by
  subst hp
  intro p l e s m args below meth c H locs lsA C hin hA hB hWd hS hl
  obtain ⟨hx, hb, hr, hml, hown, hlk, hts, hK, hE⟩ := id C
  subst hn9
  obtain ⟨Cn, T, N, ty0, hc, hjN, hin9, hlq, hty, hnm, ety, hfo⟩ := fq
  exact va_get hx hb hts hin9 hown hK hWd.1 pre.length (wc_get tcL_this) hc j hjN (hts _ hlq) (fun _ h => h) hv hd (k p l e s m args below meth c H locs lsA C hin hA hB hWd hS hl)
/-! stores into arrays -/
theorem W_setA {G : GT} {cs : List va_E} {k : Nat} {e0 e1 : va_E} {H H1 : Heap} (hWd : WC G cs H) (he : cs[k]? = some e0) (h1 : va_at (gD G) vwCl (gB G + k, e1) H1) (z : H1.size = H.size) (oq : ∀ q : Nat, q ≠ gB G + k → H1[q]? = H[q]?) : WC G (cs.set k e1) H1 := by
  have hP1 := hWd.1.set wc_D (wc_get he) h1 oq
  rw [wc_set] at hP1
  exact ⟨hP1, by rw [z, hWd.2, List.length_set]⟩
theorem c_aast {a k0 n : Nat} {Cn : String} {z : Int} {v : AV} {f : Nat → Option Nat} (hta : (tysOf G)[a]? = some (gC G a, .object Cn)) (hk0 : cs[k0]? = some (.inl (gC G a, n, .inr (.inr (.inr (.inr f)))))) (h0 : 0 ≤ z) (h1 : z < n) (hn : n ≤ 10000)
    (hv : ∀ (p : Program) (s : State) (m : MethodId) (args : Array Value) (meth : Method) (c : Code) (H : Heap) (locs : List Loc), Cx own cc nL ret G p s m args meth c → WC G cs H → va_S (fun q => gB G ≤ q) s.heap H locs → ∃ b, cv G v = .ref b ∧ ∃ cellB : Cell, H[b]? = some cellB ∧ cellB.vm.isStatics = false ∧ s.vm.findClass Cn = some cellB.cls)
    (hd : decode cc pc = .ok (.aastore, 1)) (hp : pc + 1 = q) (k : ∀ b, cv G v = .ref b → ExC G R nc ns Z own cc nL ret ini q ls st (cs.set k0 (.inl (gC G a, n, .inr (.inr (.inr (.inr (va_up f z.toNat (some b))))))))) : ExC G R nc ns Z own cc nL ret ini pc ls (v :: vI z :: vR k0 :: st) cs := by
  subst hp
  intro p l e s m args below meth c H locs lsA C hin hA hB hWd hS hl
  obtain ⟨hx, hb, hr, hml, hown, hlk, hts, hK, hE⟩ := id C
  obtain ⟨b, hb1, cellV, g1, g3, g2⟩ := hv p s m args meth c H locs C hWd hS
  have hr9 : inr z := ⟨by omega, by omega⟩
  have hcl : (Int32.ofInt z).toNatClampNeg = z.toNat := clamp32 hr9
  obtain ⟨kA, comp, k1, k2, k3, -⟩ := (hK.2 a _ hta).2
  obtain ⟨kE, hkE, -⟩ := Vm.findClass_spec k3
  obtain ⟨kC, hkC, -⟩ := Vm.findClass_spec g2
  show W _ _ _ _ _ _ _ _ _ _ _ _ _ _ _ (F0 _ _ _ (cv G v :: Value.int (Int32.ofInt z) :: .ref (gB G + k0) :: st.map (cv G)))
  rw [hb1]
  have hcell : H[gB G + k0]? = some (vp_cell (gC G a) (n, .inr (.inr (.inr (.inr f))))) := hWd.1 k0 _ (wc_get hk0)
  refine W.aast hx hb hcell (fun q h => by cases h) (fun h => by cases h) k1 k2 rfl hkE ⟨fun w => absurd ((lt32z hr9).mp w) (by omega), by rw [vp_cell_q, arrV_size, hcl]; omega⟩ g1 (fun q h => by rw [h] at g3; cases g3) hkC (vb_asgS _ _ k3 g2) rfl rfl hd fun H1 e1 z1 oq => ?_
  refine k b hb1 p l e s m args below meth c H1 _ lsA C hin hA hB (W_setA hWd hk0 ?_ z1 oq) (hS.put z1 oq (Nat.le_add_right _ _)) hl
  show H1[gB G + k0]? = some (vp_cell _ _)
  rw [e1, hcl, vp_cell_q, vp_cell_q, arrV_store]
  congr 2
  funext i
  by_cases hi : i = z.toNat
  · subst hi
    simp [updV, va_up, va_rf]
  · simp [updV, va_up, hi]
theorem c_iast {k0 n : Nat} {z x : Int} {f : Nat → Int32} (hk0 : cs[k0]? = some (.inl (gC G 0, n, .inl f))) (h0 : 0 ≤ z) (h1 : z < n) (hn : n ≤ 10000) (hd : decode cc pc = .ok (.iastore, 1)) (hp : pc + 1 = q) (k : ExC G R nc ns Z own cc nL ret ini q ls st (cs.set k0 (.inl (gC G 0, n, .inl (upd f z.toNat (Int32.ofInt x)))))) : ExC G R nc ns Z own cc nL ret ini pc ls (vI x :: vI z :: vR k0 :: st) cs := by
  subst hp
  intro p l e s m args below meth c H locs lsA C hin hA hB hWd hS hl
  obtain ⟨hx, hb, hr, hml, hown, hlk, hts, hK, hE⟩ := id C
  have hr9 : inr z := ⟨by omega, by omega⟩
  have hcl : (Int32.ofInt z).toNatClampNeg = z.toNat := clamp32 hr9
  show W _ _ _ _ _ _ _ _ _ _ _ _ _ _ _ (F0 _ _ _ (Value.int (Int32.ofInt x) :: Value.int (Int32.ofInt z) :: .ref (gB G + k0) :: st.map (cv G)))
  have hcell : H[gB G + k0]? = some (vp_cell (gC G 0) (n, .inl f)) := hWd.1 k0 _ (wc_get hk0)
  refine W.iast hx hb hcell ((hK.2 0 _ rfl).1 n (fun j => .int (f j))) (fun q => by cases q) ?_ rfl rfl hd fun H1 e1 z1 oq => ?_
  · rw [vp_cell_i, arrV_size, hcl]
    rintro (w | w)
    · exact absurd ((lt32z hr9).mp w) (by omega)
    · omega
  refine k p l e s m args below meth c H1 _ lsA C hin hA hB (W_setA hWd hk0 ?_ z1 oq) (hS.put z1 oq (Nat.le_add_right _ _)) hl
  show H1[gB G + k0]? = some (vp_cell _ _)
  rw [e1, hcl, vp_cell_i, vp_cell_i, arrV_store]
  congr 2
  funext i
  by_cases hi : i = z.toNat
  · subst hi
    simp [updV, upd]
  · simp [updV, upd, hi]
theorem v_sheet {kk : Nat} {vs : List Value} (hk : cs[kk]? = some (.inr (5, vs))) (p : Program) (s : State) (m : MethodId) (args : Array Value) (meth : Method) (c : Code) (H : Heap) (locs : List Loc) (C : Cx own cc nL ret G p s m args meth c) (hWd : WC G cs H) (_ : va_S (fun q => gB G ≤ q) s.heap H locs) : ∃ b, cv G (vR kk) = .ref b ∧ ∃ cellB : Cell, H[b]? = some cellB ∧ cellB.vm.isStatics = false ∧ s.vm.findClass "PoliteHall$Sheet" = some cellB.cls := by
  obtain ⟨hx, hb, hr, hml, hown, hlk, hts, hK, hE⟩ := C
  exact ⟨gB G + kk, rfl, va_recv (q := (RX6, TX6, 3)) hK hWd.1 rfl (wc_get hk)⟩
theorem v_str {t : Nat} (ht : t < 25) (p : Program) (s : State) (m : MethodId) (args : Array Value) (meth : Method) (c : Code) (H : Heap) (locs : List Loc) (C : Cx own cc nL ret G p s m args meth c) (_ : WC G cs H) (hS : va_S (fun q => gB G ≤ q) s.heap H locs) : ∃ b, cv G (vS t) = .ref b ∧ ∃ cellB : Cell, H[b]? = some cellB ∧ cellB.vm.isStatics = false ∧ s.vm.findClass "java/lang/String" = some cellB.cls := by
  obtain ⟨hx, hb, hr, hml, hown, hlk, hts, hK, hE⟩ := C
  obtain ⟨cell, h1, h2, h3, -⟩ := (hE.2.1 t ht).2.1.kept hS.2.1
  exact ⟨gK G t, rfl, cell, h1, h2, h3⟩
/-! a constructor's call and its end -/
theorem blindC {as : List Value} : FrameBlind (va_Pc as (PreC G cs)) := by
  intro a U g mk h
  obtain ⟨h1, h2, h3, h4, h5⟩ := h
  exact ⟨h1, h2, va_K.moved (u := U) (U := U.calling g mk a) (Vm.Alike.refl U.vm) h3, h4.calling g mk a, va_AO.moved (u := U) (U := U.calling g mk a) (Vm.Alike.refl U.vm) h5.1, va_AO.moved (u := U) (U := U.calling g mk a) (Vm.Alike.refl U.vm) h5.2⟩
def MI (own : String) (idx : Nat) (y : MethodName) (cc : ByteArray) (nL n : Nat) : Prop := (Cond.methodLink own idx y ∈ CW ∨ ∃ host, Cond.methodLinkNest own idx y host ∈ NW) ∧ Cond.instanceMethod y ∈ CW ∧ Cond.initialized y.cls ∈ CW ∧ Cond.code y cc nL none ∈ CW ∧ y.name = "<init>" ∧ (y.cls ≠ "java/lang/invoke/MethodHandle" ∧ y.cls ≠ "java/lang/invoke/VarHandle" ∧ (parseMethodDescriptor y.desc).map (fun d => d.parameters.length) = some n)
theorem c_call {idx n t mc ms k0 : Nat} {y : MethodName} {cc' : ByteArray} {nL' : Nat} {as stk : List AV} {cs' : List va_E} (hd : decode cc pc = .ok (.invokespecial idx, 3)) (hp : pc + 3 = q) (mi : MI own idx y cc' nL' n) (h : CtC G y cc' nL' t mc ms (vR k0 :: as) cs cs')
    (hn : as.length = n) (hst : stk = as.reverse ++ vR k0 :: st) (hw : (st.map avCat).sum ≤ 8) (hR : t + 1 ≤ R.frames ∧ 19 + nL' + 40 * t ≤ R.locals) (hC : nc + mc ≤ R.cells ∧ ns + ms ≤ R.slots)
    (k : ExC G R (nc + mc) (ns + ms) Z own cc nL ret ini q ls st cs') : ExC G R nc ns Z own cc nL ret ini pc ls stk cs := by
  subst hp
  subst hst
  intro p l e s m args below meth c H locs lsA C hin hA hB hWd hS hl
  obtain ⟨hx, hb, hr, hml, hown, hlk, hts, hK, hE⟩ := id C
  obtain ⟨w1, w2, w3, w4, w5, w6⟩ := mi
  have hpre : PreS s H (va_Pc ((vR k0 :: as).map (cv G)) (PreC G cs)) (.ref (gB G + k0) :: as.map (cv G)) := ⟨blindC, fun U hU hW => ⟨rfl, by rw [hU]; exact hWd, va_K.moved hW.alike hK, hE.move hW (by rw [hU]; exact hS.1) (fun a h1 h2 => by rw [hU]; exact hS.2.1 a h1 h2), hA.1.moved hW.alike, hA.2.moved hW.alike⟩⟩
  have hstk : (as.reverse ++ vR k0 :: st).map (cv G) = (as.map (cv G)).reverse ++ .ref (gB G + k0) :: st.map (cv G) := by rw [List.map_append, List.map_reverse, List.map_cons]; rfl
  have hrun : va_Run p l e R s m args below meth c H locs nc ns mc ms (F0 m pc lsA ((as.reverse ++ vR k0 :: st).map (cv G))) (st.map (cv G)) (QC G cs' (Value.ref (gB G + k0) :: as.map (cv G)).toArray) (fun q => gB G ≤ q) := by
    rcases w1 with w1 | ⟨host, w1⟩
    · exact va_runI (As := as.map (cv G)) (rest := st.map (cv G)) (b := gB G + k0) ⟨hx, hb, hml, hown, hts⟩ (h l) (cwI n hts (CW_cons w4) rfl rfl rfl (hts _ w3) (hts _ w1) (hts _ w2) w5 w6 ⟨hR.1, by show 8 + (nL' + 11) + 40 * t ≤ R.locals; omega⟩) hpre rfl (by rw [List.length_map]; exact hn) hl.1 hstk (lv_room (by rw [cat_st]; exact hw)) hd hC
    · exact va_runIN (As := as.map (cv G)) (rest := st.map (cv G)) (b := gB G + k0) ⟨hx, hb, hml, hown, hts⟩ (h l) ⟨va_cnB n hts (CW_cons w4) rfl rfl rfl (hE.1 _ w1) (hts _ w3) w6 ⟨hR.1, by show 8 + (nL' + 11) + 40 * t ≤ R.locals; omega⟩, w5, hts _ w2⟩ hpre rfl (by rw [List.length_map]; exact hn) hl.1 hstk (lv_room (by rw [cat_st]; exact hw)) hd hC
  intro T hT X
  obtain ⟨v, st₀, t9, T', L, h0, X', hL, e1, e2, ⟨hv, hq, hz, hk⟩, stp⟩ := hrun T hT X
  cases hv
  rw [h0] at hz hk
  obtain ⟨t2, a1, b1⟩ := k p l e s m args below meth c T'.heap (locs ++ L) lsA C hin hA hB (by rw [e1]; exact hq)
    ⟨Nat.le_trans hS.1 (by rw [e1]; exact hz), fun q h1 h2 => by rw [e1, hk q (Nat.lt_of_lt_of_le h1 hS.1) h2]; exact hS.2.1 q h1 h2, fun q hq => by
      rcases List.mem_append.mp hq with h | h
      · exact hS.2.2 q h
      · exact hL q h⟩ hl T' rfl X'
  exact ⟨t2, stp t2 a1, b1⟩
end EC
theorem c_ret {G : GT} {R : Room} {nc ns mc ms : Nat} {own : String} {cc : ByteArray} {nL : Nat} {pc : Nat} {ls : List (Nat × AV)} {cs cs' : List va_E} (hd : decode cc pc = .ok (.return_, 1)) (h1 : nc ≤ mc) (h2 : ns ≤ ms) (he : cs = cs') : ExC G R nc ns (ZC cs' mc ms) own cc nL none true pc ls [] cs := by
  subst he
  intro p l e s m args below meth c H locs lsA C hin hA hB hWd hS hl
  obtain ⟨hx, hb, hr, hml, hown, hlk, hts, hK, hE⟩ := id C
  exact W.widen h1 h2 (W.vret hx hb hr (fun t ht hW => ⟨rfl, by rw [ht]; exact hWd, hS.F ht⟩) hS.2.2 hd hlk)
