/-! ===== calls and returns ===== -/
theorem blind {G : GT} {mem : Mem} {as : List Value} : FrameBlind (va_Pc as (PreU G mem)) := by
  intro a U g mk h
  obtain ⟨h1, h2, h3, h4⟩ := h
  exact ⟨h1, h2, va_K.moved (u := U) (U := U.calling g mk a) (Vm.Alike.refl U.vm) h3, h4.calling g mk a⟩
theorem preU_at {G : GT} {own : String} {cc : ByteArray} {nL : Nat} {ret : Option FieldType} {p : Program} {s : State} {m : MethodId} {args : Array Value} {meth : Method} {c : Code} {H : Heap} {locs : List Loc} {mem : Mem} (C : Cx own cc nL ret G p s m args meth c) (hWd : World G mem H) (hS : va_S (fun q => gB G ≤ q) s.heap H locs) (U : State) (hU : U.heap = H) (hW : s.WarmedH U.vm) : PreU G mem U := by
  obtain ⟨hx, hb, hr, hml, hown, hlk, hts, hK, hE⟩ := C
  subst hU
  exact ⟨hWd, va_K.moved hW.alike hK, hE.move hW hS.1 hS.2.1⟩
section VRun
variable {G : GT} {p : Program} {l : Launch} {e : Env} {R : Room} {s : State} {m : MethodId} {args : Array Value} {below : List Frame} {meth : Method} {c : Code} {H : Heap} {locs : List Loc} {nc ns : Nat} {Qf : State → Prop} {pc : Nat} {ls : Array Slot} {rest st0 : List Value} {a : Array Value} {Q : Option AV → Mem → Prop}
theorem W_run (hr : va_Run p l e R s m args below meth c H locs nc ns 0 0 (F0 m pc ls st0) rest (QcOf G Q a) (fun q => gB G ≤ q)) (hS : va_S (fun q => gB G ≤ q) s.heap H locs)
    (kk : ∀ (r : Option AV) (mem' : Mem) (H1 : Heap) (locs1 : List Loc), Q r mem' → World G mem' H1 → va_S (fun q => gB G ≤ q) s.heap H1 locs1 → W p l e R s m args below meth c H1 locs1 nc ns Qf (F0 m (pc + 3) ls ((r.map (cv G)).toList ++ rest))) : W p l e R s m args below meth c H locs nc ns Qf (F0 m pc ls st0) := by
  intro T hT X
  obtain ⟨v, st₀, t, T', L, h0, X', hL, e1, e2, ⟨r, mem', hv, hq, hw, hz, hk⟩, st⟩ := hr T hT X
  cases hv
  rw [h0] at hz hk
  obtain ⟨t2, a1, b1⟩ := kk r mem' T'.heap (locs ++ L) hq (by rw [e1]; exact hw)
    ⟨Nat.le_trans hS.1 (by rw [e1]; exact hz), fun q h1 h2 => by rw [e1, hk q (Nat.lt_of_lt_of_le h1 hS.1) h2]; exact hS.2.1 q h1 h2, fun q hq => by
      rcases List.mem_append.mp hq with h | h
      · exact hS.2.2 q h
      · exact hL q h⟩ T' rfl X'
  exact ⟨t2, st t2 a1, b1⟩
end VRun
section XC
variable {G : GT} {R : Room} {nc ns : Nat} {Z : GT → State → Array Value → List Frame → State → Prop} {own : String} {cc : ByteArray} {nL : Nat} {ret : Option FieldType} {pc q : Nat} {ls : List (Nat × AV)} {st : List AV} {mem : Mem}
theorem cv_opt (r : Option AV) (st : List AV) : (r.map (cv G)).toList ++ st.map (cv G) = (r.toList ++ st).map (cv G) := by
  cases r <;> simp
theorem x_callV0 {idx n d : Nat} {y : MethodName} {cc' : ByteArray} {nL' : Nat} {ret' : Option FieldType} {v : AV} {as stk : List AV} (hd : decode cc pc = .ok (.invokevirtual idx, 3)) (hp : pc + 3 = q) (mv : MV own idx y cc' nL' ret' n)
    (hv : ∀ (p : Program) (s : State) (m : MethodId) (args : Array Value) (meth : Method) (c : Code) (H : Heap) (locs : List Loc), Cx own cc nL ret G p s m args meth c → World G mem H → va_S (fun q => gB G ≤ q) s.heap H locs → ∃ b, cv G v = .ref b ∧ ∃ cellB : Cell, H[b]? = some cellB ∧ cellB.vm.isStatics = false ∧ s.vm.findClass y.cls = some cellB.cls)
    (hn : as.length = n) (hst : stk = as.reverse ++ v :: st) (hw : (st.map avCat).sum ≤ 8) (hR : d + 1 ≤ R.frames ∧ 19 + nL' + 40 * d ≤ R.locals) (hC : nc ≤ R.cells ∧ ns ≤ R.slots)
    (h : Ct G y cc' nL' ret' d (v :: as) mem (fun r mem' => ExW G R nc ns Z own cc nL ret q ls (r.toList ++ st) mem')) : ExW G R nc ns Z own cc nL ret pc ls stk mem := by
  subst hp
  subst hst
  intro p l e s m args below meth c H locs lsA C hWd hS hl
  obtain ⟨hx, hb, hr, hml, hown, hlk, hts, hK, hE⟩ := id C
  obtain ⟨b, hb1, hcell⟩ := hv p s m args meth c H locs C hWd hS
  obtain ⟨w1, w2, w3, w4, w5, w6, w7, w8⟩ := mv
  have hG : GoodIn CW (wsV own idx y.cls y (Cond.code y cc' nL' ret' :: CW)) := by
    unfold wsV
    intro w hw'
    rcases List.mem_append.mp hw' with h1 | h1
    · have : w ∈ CW := by
        simp only [List.mem_cons, List.not_mem_nil, or_false] at h1
        rcases h1 with rfl | rfl | rfl | rfl
        · exact w1
        · exact w2
        · exact w3
        · exact w4
      exact ⟨this, CW_good this⟩
    · exact CW_cons w5 w h1
  have hM := h l
  have eargs : (v :: as).map (cv G) = .ref b :: as.map (cv G) := by rw [List.map_cons, hb1]
  refine W_run (rest := st.map (cv G)) (a := (Value.ref b :: as.map (cv G)).toArray) (va_runV (As := as.map (cv G)) (rest := st.map (cv G)) (b := b) ⟨hx, hb, hml, hown, hts⟩ hM (cwV n hts hG rfl rfl rfl ⟨rfl, w6, w7, w8⟩ ⟨hR.1, by show 8 + (nL' + 11) + 40 * d ≤ R.locals; omega⟩) ⟨blind, hcell, fun U hU hW => ⟨by rw [eargs], preU_at C hWd hS U hU hW⟩⟩ rfl (by rw [List.length_map]; exact hn) hl.1 ?_ (lv_room (by rw [cat_st]; exact hw)) hd ⟨hC.1, hC.2⟩) hS (fun r mem' H1 locs1 hq hw1 hS1 => ?_)
  · show (as.reverse ++ v :: st).map (cv G) = _
    rw [List.map_append, List.map_reverse, List.map_cons, hb1]
  · rw [cv_opt]
    exact hq p l e s m args below meth c H1 locs1 lsA C hw1 hS1 hl
theorem recv_obj {k ci : Nat} {fl : List (Nat × Nat)} {Cn : String} {T : u_T} {N : Nat} (hs : shp k = .inr (ci, fl)) (hc : vwCl[ci]? = some (Cn, T, N)) (p : Program) (s : State) (m : MethodId) (args : Array Value) (meth : Method) (c : Code) (H : Heap) (locs : List Loc) (C : Cx own cc nL ret G p s m args meth c) (hWd : World G mem H) (_ : va_S (fun q => gB G ≤ q) s.heap H locs) : ∃ b, cv G (vR k) = .ref b ∧ ∃ cellB : Cell, H[b]? = some cellB ∧ cellB.vm.isStatics = false ∧ s.vm.findClass Cn = some cellB.cls := by
  obtain ⟨hx, hb, hr, hml, hown, hlk, hts, hK, hE⟩ := C
  exact ⟨gB G + k, rfl, va_recv hK hWd.1 hc (cell_obj hs)⟩
theorem recv_str {t : Nat} (ht : t < 25) (p : Program) (s : State) (m : MethodId) (args : Array Value) (meth : Method) (c : Code) (H : Heap) (locs : List Loc) (C : Cx own cc nL ret G p s m args meth c) (_ : World G mem H) (hS : va_S (fun q => gB G ≤ q) s.heap H locs) : ∃ b, cv G (vS t) = .ref b ∧ ∃ cellB : Cell, H[b]? = some cellB ∧ cellB.vm.isStatics = false ∧ s.vm.findClass "java/lang/String" = some cellB.cls := by
  obtain ⟨hx, hb, hr, hml, hown, hlk, hts, hK, hE⟩ := C
  obtain ⟨cell, h1, h2, h3, -⟩ := (hE.2.1 t ht).2.1.kept hS.2.1
  exact ⟨gK G t, rfl, cell, h1, h2, h3⟩
theorem x_callV {idx n d k ci : Nat} {fl : List (Nat × Nat)} {T : u_T} {N : Nat} {y : MethodName} {cc' : ByteArray} {nL' : Nat} {ret' : Option FieldType} {as stk : List AV} (hd : decode cc pc = .ok (.invokevirtual idx, 3)) (hp : pc + 3 = q) (mv : MV own idx y cc' nL' ret' n) (hs : shp k = .inr (ci, fl)) (hc : vwCl[ci]? = some (y.cls, T, N))
    (hn : as.length = n) (hst : stk = as.reverse ++ vR k :: st) (hw : (st.map avCat).sum ≤ 8) (hR : d + 1 ≤ R.frames ∧ 19 + nL' + 40 * d ≤ R.locals) (hC : nc ≤ R.cells ∧ ns ≤ R.slots)
    (h : Ct G y cc' nL' ret' d (vR k :: as) mem (fun r mem' => ExW G R nc ns Z own cc nL ret q ls (r.toList ++ st) mem')) : ExW G R nc ns Z own cc nL ret pc ls stk mem :=
  x_callV0 hd hp mv (recv_obj hs hc) hn hst hw hR hC h
theorem x_callT {idx n d t : Nat} {y : MethodName} {cc' : ByteArray} {nL' : Nat} {ret' : Option FieldType} {as stk : List AV} (hd : decode cc pc = .ok (.invokevirtual idx, 3)) (hp : pc + 3 = q) (mv : MV own idx y cc' nL' ret' n) (ht : t < 25) (hc : y.cls = "java/lang/String")
    (hn : as.length = n) (hst : stk = as.reverse ++ vS t :: st) (hw : (st.map avCat).sum ≤ 8) (hR : d + 1 ≤ R.frames ∧ 19 + nL' + 40 * d ≤ R.locals) (hC : nc ≤ R.cells ∧ ns ≤ R.slots)
    (h : Ct G y cc' nL' ret' d (vS t :: as) mem (fun r mem' => ExW G R nc ns Z own cc nL ret q ls (r.toList ++ st) mem')) : ExW G R nc ns Z own cc nL ret pc ls stk mem :=
  x_callV0 hd hp mv (by rw [hc]; exact recv_str ht) hn hst hw hR hC h
theorem x_callS {idx n d : Nat} {y : MethodName} {cc' : ByteArray} {nL' : Nat} {ret' : Option FieldType} {as stk : List AV} (hd : decode cc pc = .ok (.invokestatic idx, 3)) (hp : pc + 3 = q) (mv : MS own idx y cc' nL' ret' n)
    (hn : as.length = n) (hst : stk = as.reverse ++ st) (hw : (st.map avCat).sum ≤ 8) (hR : d + 1 ≤ R.frames ∧ 19 + nL' + 40 * d ≤ R.locals) (hC : nc ≤ R.cells ∧ ns ≤ R.slots)
    (h : Ct G y cc' nL' ret' d as mem (fun r mem' => ExW G R nc ns Z own cc nL ret q ls (r.toList ++ st) mem')) : ExW G R nc ns Z own cc nL ret pc ls stk mem := by
  subst hp
  subst hst
  intro p l e s m args below meth c H locs lsA C hWd hS hl
  obtain ⟨hx, hb, hr, hml, hown, hlk, hts, hK, hE⟩ := id C
  obtain ⟨w1, w2, w4, w5, w6, w7, w8⟩ := mv
  have hM := h l
  have hstk : (as.reverse ++ st).map (cv G) = (as.map (cv G)).reverse ++ st.map (cv G) := by rw [List.map_append, List.map_reverse]
  have hfin : ∀ (r : Option AV) (mem' : Mem) (H1 : Heap) (locs1 : List Loc), ExW G R nc ns Z own cc nL ret (pc + 3) ls (r.toList ++ st) mem' → World G mem' H1 → va_S (fun q => gB G ≤ q) s.heap H1 locs1 → W p l e R s m args below meth c H1 locs1 nc ns (Z G s args below) (F0 m (pc + 3) lsA ((r.map (cv G)).toList ++ st.map (cv G))) := by
    intro r mem' H1 locs1 hq hw1 hS1
    rw [cv_opt]
    exact hq p l e s m args below meth c H1 locs1 lsA C hw1 hS1 hl
  rcases w1 with w1 | ⟨host, w1⟩
  · have hG : GoodIn CW (va_wsS own idx y (Cond.code y cc' nL' ret' :: CW)) := by
      unfold va_wsS
      intro w hw'
      rcases List.mem_append.mp hw' with h1 | h1
      · have : w ∈ CW := by
          simp only [List.mem_cons, List.not_mem_nil, or_false] at h1
          rcases h1 with rfl | rfl | rfl
          · exact w1
          · exact w2
          · exact w4
        exact ⟨this, CW_good this⟩
      · exact CW_cons w5 w h1
    exact W_run (rest := st.map (cv G)) (a := (as.map (cv G)).toArray) (va_runS (As := as.map (cv G)) (rest := st.map (cv G)) ⟨hx, hb, hml, hown, hts⟩ hM (va_cwS n hts hG rfl rfl rfl ⟨w6, w7, w8⟩ ⟨hR.1, by show 8 + (nL' + 11) + 40 * d ≤ R.locals; omega⟩) ⟨blind, fun U hU hW => ⟨rfl, preU_at C hWd hS U hU hW⟩⟩ rfl (by rw [List.length_map]; exact hn) hl.1 hstk (lv_room (by rw [cat_st]; exact hw)) hd ⟨hC.1, hC.2⟩) hS hfin
  · exact W_run (rest := st.map (cv G)) (a := (as.map (cv G)).toArray) (va_runSN (As := as.map (cv G)) (rest := st.map (cv G)) ⟨hx, hb, hml, hown, hts⟩ hM ⟨va_cnB n hts (CW_cons w5) rfl rfl rfl (hE.1 _ w1) (hts _ w4) ⟨w6, w7, w8⟩ ⟨hR.1, by show 8 + (nL' + 11) + 40 * d ≤ R.locals; omega⟩, hts _ w2, trivial⟩ ⟨blind, fun U hU hW => ⟨rfl, preU_at C hWd hS U hU hW⟩⟩ rfl (by rw [List.length_map]; exact hn) hl.1 hstk (lv_room (by rw [cat_st]; exact hw)) hd ⟨hC.1, hC.2⟩) hS hfin
/-! Math.max, Math.min -/
theorem x_mmax {idx : Nat} {a b : Int} (hd : decode cc pc = .ok (.invokestatic idx, 3)) (hp : pc + 3 = q) (h1 : Cond.methodLink own idx Lib.Math.max.name ∈ CW) (h2 : Cond.static Lib.Math.max.name ∈ CW) (h3 : Cond.initialized "java/lang/Math" ∈ CW) (h4 : Cond.code Lib.Math.max.name Lib.Math.max.code 2 (some .int) ∈ CW) (hw : (st.map avCat).sum ≤ 8) (hR : 1 ≤ R.frames ∧ 21 ≤ R.locals) (hC : nc ≤ R.cells ∧ ns ≤ R.slots) (ha : inr a) (hb2 : inr b) (k : ExW G R nc ns Z own cc nL ret q ls (vI (tmax a b) :: st) mem) : ExW G R nc ns Z own cc nL ret pc ls (vI b :: vI a :: st) mem := by
  subst hp
  intro p l e s m args below meth c H locs lsA C hWd hS hl
  obtain ⟨hx, hb, hr, hml, hown, hlk, hts, hK, hE⟩ := id C
  have kk := k p l e s m args below meth c H locs lsA C hWd hS hl
  show W _ _ _ _ _ _ _ _ _ _ _ _ _ _ _ (F0 _ _ _ (Value.int (Int32.ofInt b) :: Value.int (Int32.ofInt a) :: st.map (cv G)))
  refine va_mmax hx hb (by rw [hml]; exact hl.1.symm) hown (hts _ h1) (hts _ h2) (hts _ h3) (hts _ h4) hR.1 (by rw [cat_st]; omega) hC.1 hC.2 hd ?_
  have e9 : (if Int32.ofInt a < Int32.ofInt b then Int32.ofInt b else Int32.ofInt a) = Int32.ofInt (tmax a b) := by
    unfold tmax
    simp only [lt32 ha hb2]
    split <;> rfl
  rw [e9]
  exact kk
theorem x_mmin {idx : Nat} {a b : Int} (hd : decode cc pc = .ok (.invokestatic idx, 3)) (hp : pc + 3 = q) (h1 : Cond.methodLink own idx Lib.Math.min.name ∈ CW) (h2 : Cond.static Lib.Math.min.name ∈ CW) (h3 : Cond.initialized "java/lang/Math" ∈ CW) (h4 : Cond.code Lib.Math.min.name Lib.Math.min.code 2 (some .int) ∈ CW) (hw : (st.map avCat).sum ≤ 8) (hR : 1 ≤ R.frames ∧ 21 ≤ R.locals) (hC : nc ≤ R.cells ∧ ns ≤ R.slots) (ha : inr a) (hb2 : inr b) (k : ExW G R nc ns Z own cc nL ret q ls (vI (tmin a b) :: st) mem) : ExW G R nc ns Z own cc nL ret pc ls (vI b :: vI a :: st) mem := by
  subst hp
  intro p l e s m args below meth c H locs lsA C hWd hS hl
  obtain ⟨hx, hb, hr, hml, hown, hlk, hts, hK, hE⟩ := id C
  have kk := k p l e s m args below meth c H locs lsA C hWd hS hl
  show W _ _ _ _ _ _ _ _ _ _ _ _ _ _ _ (F0 _ _ _ (Value.int (Int32.ofInt b) :: Value.int (Int32.ofInt a) :: st.map (cv G)))
  refine va_mmin hx hb (by rw [hml]; exact hl.1.symm) hown (hts _ h1) (hts _ h2) (hts _ h3) (hts _ h4) hR.1 (by rw [cat_st]; omega) hC.1 hC.2 hd ?_
  have e9 : (if Int32.ofInt a < Int32.ofInt b then Int32.ofInt a else Int32.ofInt b) = Int32.ofInt (tmin a b) := by
    unfold tmin
    simp only [lt32 ha hb2]
    split <;> rfl
  first
    | (rw [e9]; exact kk)
    | (rw [show (if Int32.ofInt b < Int32.ofInt a then Int32.ofInt b else Int32.ofInt a) = Int32.ofInt (tmin a b) from by
        unfold tmin
        simp only [lt32 hb2 ha]
        split <;> split <;> first | rfl | (congr 1; omega)]; exact kk)
/-! System.arraycopy -/
def cpM (mem : Mem) (k0 k1 : Nat) (sp dp n : Int) : Mem := fun a b => if a = k1 ∧ dp ≤ b ∧ b < dp + n then mem k0 (sp + (b - dp)) else mem a b
theorem x_copy {idx k0 k1 n0 n1 a : Nat} {sp dp n : Int} (ha : a = 0 ∨ a = 2) (hd : decode cc pc = .ok (.invokestatic idx, 3)) (hp : pc + 3 = q) (w1 : Cond.methodLink own idx arraycopyName ∈ CW) (w2 : Cond.native arraycopyName ∈ CW) (w3 : Cond.static arraycopyName ∈ CW) (w4 : Cond.initialized "java/lang/System" ∈ CW) (hs0 : shp k0 = .inl (a, n0)) (hs1 : shp k1 = .inl (a, n1))
    (h1 : 0 ≤ sp) (h2 : 0 ≤ dp) (h3 : 0 ≤ n) (h4 : sp + n ≤ n0) (h5 : dp + n ≤ n1) (hfit : a = 2 → ∀ i : Int, 0 ≤ i → i < n → -128 ≤ mem k0 (sp + i) ∧ mem k0 (sp + i) < 128) (hR : 1 ≤ R.frames ∧ (st.map avCat).sum + (nativeFrameWords "java/lang/System" "arraycopy" 5 + 11) ≤ R.locals)
    (k : ∀ m9 : Mem, m9 = cpM mem k0 k1 sp dp n → ExW G R nc ns Z own cc nL ret q ls st m9) : ExW G R nc ns Z own cc nL ret pc ls (vI n :: vI dp :: vR k1 :: vI sp :: vR k0 :: st) mem := by
  subst hp
  intro p l e s m args below meth c H locs lsA C hWd hS hl
  obtain ⟨hx, hb, hr, hml, hown, hlk, hts, hK, hE⟩ := id C
  have l0 := arr_len hs0
  have l1 := arr_len hs1
  have i1 : inr sp := ⟨by omega, by omega⟩
  have i2 : inr dp := ⟨by omega, by omega⟩
  have i3 : inr n := ⟨by omega, by omega⟩
  show W _ _ _ _ _ _ _ _ _ _ _ _ _ _ _ (F0 _ _ _ (Value.int (Int32.ofInt n) :: Value.int (Int32.ofInt dp) :: .ref (gB G + k1) :: Value.int (Int32.ofInt sp) :: .ref (gB G + k0) :: st.map (cv G)))
  have c0 : (wsOf G mem)[k0]? = some (gB G + k0, .inl (gC G a, n0, .inl (fun j => Int32.ofInt (mem k0 j)))) := by
    rw [cell_arr hs0 (by omega)]
    rcases ha with rfl | rfl <;> rfl
  have c1 : (wsOf G mem)[k1]? = some (gB G + k1, .inl (gC G a, n1, .inl (fun j => Int32.ofInt (mem k1 j)))) := by
    rw [cell_arr hs1 (by omega)]
    rcases ha with rfl | rfl <;> rfl
  obtain ⟨ty, hty, hpr, hft⟩ : ∃ ty, (tysOf G)[a]? = some (gC G a, ty) ∧ refKind ty = false ∧ ∀ i, i < (Int32.ofInt n).toNatClampNeg → fits ty (.int (Int32.ofInt (mem k0 (((Int32.ofInt sp).toNatClampNeg + i : Nat) : Int)))) = true := by
    rcases ha with rfl | rfl
    · exact ⟨.int, rfl, by simp [refKind], fun _ _ => rfl⟩
    · refine ⟨.byte, rfl, by simp [refKind], fun i hi => ?_⟩
      rw [clamp32 i3] at hi
      have e9 : (((Int32.ofInt sp).toNatClampNeg + i : Nat) : Int) = sp + i := by rw [clamp32 i1]; omega
      rw [e9]
      obtain ⟨g1, g2⟩ := hfit rfl i (by omega) (by omega)
      generalize mem k0 (sp + i) = z at g1 g2
      have h9 : (Int32.ofInt z).toInt = z := ofInt_toInt32 ⟨by omega, by omega⟩
      simp only [fits]
      first
        | (simp [h9]; omega)
        | (simp only [Int32.le_iff_toInt_le, Int32.lt_iff_toInt_lt, h9, decide_eq_true_eq, Bool.and_eq_true]; constructor <;> (first | decide | (simp; omega)))
  refine va_copyi hx hb (by rw [hml]; exact hl.1.symm) hown (hts _ w1) (hts _ w2) (hts _ w3) (hts _ w4) hK hWd.1 ws_D hS k0 k1 a a c0 c1 hty hty hpr (fun z => absurd ((lt32z i1).mp z) (by omega)) (fun z => absurd ((lt32z i2).mp z) (by omega)) (fun z => absurd ((lt32z i3).mp z) (by omega)) (by rw [clamp32 i1, clamp32 i3]; omega) (by rw [clamp32 i2, clamp32 i3]; omega) hft hR.1 (by rw [cat_st]; exact hR.2) hd (fun H1 locs1 hP1 _ hS1 => ?_)
  refine k _ rfl p l e s m args below meth c H1 locs1 lsA C ⟨?_, ?_⟩ hS1 hl
  rotate_left 1
  · intro x b
    unfold cpM
    by_cases hx9 : x = k1 ∧ dp ≤ b ∧ b < dp + n
    · rw [if_pos hx9]
      have h9 := ok_ai hWd.2 hs0 (by omega) (sp + (b - dp))
      exact ⟨inl_of h9, fun _ => h9⟩
    · rw [if_neg hx9]
      exact hWd.2 x b
  rw [ws_set (mem' := cpM mem k0 k1 sp dp n) (shp_lt hs1 (by rcases ha with rfl | rfl <;> simp)) (fun x hx9 b => by simp [cpM, hx9])] at hP1
  · exact hP1
  · have e8 : (fun j : Nat => Int32.ofInt (cpM mem k0 k1 sp dp n k1 j)) = va_cpy (fun j => Int32.ofInt (mem k0 j)) (fun j => Int32.ofInt (mem k1 j)) (Int32.ofInt sp).toNatClampNeg (Int32.ofInt dp).toNatClampNeg (Int32.ofInt n).toNatClampNeg := by
      funext j
      unfold cpM va_cpy
      rw [clamp32 i1, clamp32 i2, clamp32 i3]
      by_cases hj : dp ≤ (j : Int) ∧ (j : Int) < dp + n
      · rw [if_pos ⟨rfl, hj⟩, if_pos ⟨by omega, by omega⟩]
        congr 2
        omega
      · rw [if_neg (fun z => hj z.2), if_neg (fun z => hj ⟨by omega, by omega⟩)]
    unfold cellOf
    rw [hs1]
    rcases ha with rfl | rfl <;> (show (Sum.inl (gC G _, n1, Sum.inl _) : va_E) = (Sum.inl (gC G _, n1, Sum.inl _) : va_E); rw [e8])
end XC
/-! returns -/
section XRet
variable {G : GT} {own : String} {cc : ByteArray} {nL d : Nat} {ret : Option FieldType} {pc : Nat} {ls : List (Nat × AV)} {mem : Mem} {Q : Option AV → Mem → Prop}
theorem x_iret {z : Int} (hret : ret = some .int) (hd : decode cc pc = .ok (.ireturn, 1)) (hq : Q (some (vI z)) mem) : Ex G own cc nL ret d pc ls [vI z] mem Q := by
  intro p l e s m args below meth c H locs lsA C hWd hS hl
  obtain ⟨hx, hb, hr, hml, hown, hlk, hts, hK, hE⟩ := id C
  subst hret
  exact W.iret (v := Int32.ofInt z) hx hb hr (fun t ht hW => ⟨some (vI z), mem, rfl, hq, by rw [ht]; exact hWd, hS.F ht⟩) hS.2.2 hd hlk
theorem x_zret {z : Int} (hret : ret = some .boolean) (hd : decode cc pc = .ok (.ireturn, 1)) (hz : z = 0 ∨ z = 1) (hq : Q (some (vI z)) mem) : Ex G own cc nL ret d pc ls [vI z] mem Q := by
  intro p l e s m args below meth c H locs lsA C hWd hS hl
  obtain ⟨hx, hb, hr, hml, hown, hlk, hts, hK, hE⟩ := id C
  subst hret
  exact W.zret (v := Int32.ofInt z) hx hb hr (bool_nf hz).1 (fun t ht hW => ⟨some (vI z), mem, rfl, hq, by rw [ht]; exact hWd, hS.F ht⟩) hS.2.2 hd hlk
theorem x_nret {z : Int} {ty : FieldType} (hret : ret = some ty) (hd : decode cc pc = .ok (.ireturn, 1)) (hz : narrow ty (.int (Int32.ofInt z)) = .int (Int32.ofInt z)) (hq : Q (some (vI z)) mem) : Ex G own cc nL ret d pc ls [vI z] mem Q := by
  intro p l e s m args below meth c H locs lsA C hWd hS hl
  obtain ⟨hx, hb, hr, hml, hown, hlk, hts, hK, hE⟩ := id C
  subst hret
  exact W.zret (v := Int32.ofInt z) hx hb hr hz (fun t ht hW => ⟨some (vI z), mem, rfl, hq, by rw [ht]; exact hWd, hS.F ht⟩) hS.2.2 hd hlk
theorem x_lret {z : Int} (hret : ret = some .long) (hd : decode cc pc = .ok (.lreturn, 1)) (hq : Q (some (vL z)) mem) : Ex G own cc nL ret d pc ls [vL z] mem Q := by
  intro p l e s m args below meth c H locs lsA C hWd hS hl
  obtain ⟨hx, hb, hr, hml, hown, hlk, hts, hK, hE⟩ := id C
  subst hret
  exact W.lret (v := Int64.ofInt z) hx hb hr (fun t ht hW => ⟨some (vL z), mem, rfl, hq, by rw [ht]; exact hWd, hS.F ht⟩) hS.2.2 hd
theorem x_vret (hret : ret = none) (hd : decode cc pc = .ok (.return_, 1)) (hq : Q none mem) : Ex G own cc nL ret d pc ls [] mem Q := by
  intro p l e s m args below meth c H locs lsA C hWd hS hl
  obtain ⟨hx, hb, hr, hml, hown, hlk, hts, hK, hE⟩ := id C
  subst hret
  exact W.vret hx hb hr (fun t ht hW => ⟨none, mem, rfl, hq, by rw [ht]; exact hWd, hS.F ht⟩) hS.2.2 hd hlk
theorem x_aret {v : AV} {n : String} (hret : ret = some (.object n)) (hd : decode cc pc = .ok (.areturn, 1)) (hv : isRf v = true) (hq : Q (some v) mem) : Ex G own cc nL ret d pc ls [v] mem Q := by
  intro p l e s m args below meth c H locs lsA C hWd hS hl
  obtain ⟨hx, hb, hr, hml, hown, hlk, hts, hK, hE⟩ := id C
  subst hret
  obtain ⟨a, ha⟩ := rf_cv hv G
  exact W.aret (v := cv G v) hx hb hr (Or.inl ⟨n, rfl⟩) (Or.inr ⟨a, ha⟩) (fun t ht hW => ⟨some v, mem, rfl, hq, by rw [ht]; exact hWd, hS.F ht⟩) hS.2.2 hd hlk
end XRet
theorem Ct.mono {G : GT} {y : MethodName} {cc : ByteArray} {nL : Nat} {ret : Option FieldType} {d : Nat} {as : List AV} {mem : Mem} {Q Q' : Option AV → Mem → Prop} (h : Ct G y cc nL ret d as mem Q) (hq : ∀ r m, Q r m → Q' r m) : Ct G y cc nL ret d as mem Q' := by
  intro l
  have h1 := h l
  unfold Met at h1 ⊢
  intro p e ha hc hk s m args below hf hs hP hK
  obtain ⟨t, o, a1, a2, a3, ⟨r, mem', b1, b2, b3⟩, a5⟩ := h1 p e ha hc hk s m args below hf hs hP hK
  exact ⟨t, o, a1, a2, a3, ⟨r, mem', b1, hq _ _ b2, b3⟩, a5⟩
