/-! ===== the rules, an instruction each ===== -/
theorem ofInt_toInt32 {z : Int} (h : inr z) : (Int32.ofInt z).toInt = z := Int32.toInt_ofInt_of_le (by omega) (by omega)
theorem ofInt_toInt64 {z : Int} (h : inl z) : (Int64.ofInt z).toInt = z := Int64.toInt_ofInt_of_le (by omega) (by omega)
theorem lt32 {a b : Int} (ha : inr a) (hb : inr b) : Int32.ofInt a < Int32.ofInt b ↔ a < b := by rw [Int32.lt_iff_toInt_lt, ofInt_toInt32 ha, ofInt_toInt32 hb]
theorem le32 {a b : Int} (ha : inr a) (hb : inr b) : Int32.ofInt a ≤ Int32.ofInt b ↔ a ≤ b := by rw [Int32.le_iff_toInt_le, ofInt_toInt32 ha, ofInt_toInt32 hb]
theorem eq32 {a b : Int} (ha : inr a) (hb : inr b) : Int32.ofInt a = Int32.ofInt b ↔ a = b := by rw [← Int32.toInt_inj, ofInt_toInt32 ha, ofInt_toInt32 hb]
theorem z32 : Int32.ofInt 0 = 0 := rfl
theorem in0 : inr 0 := ⟨by decide, by decide⟩
theorem lt32z {a : Int} (ha : inr a) : Int32.ofInt a < 0 ↔ a < 0 := by rw [← z32]; exact lt32 ha in0
theorem le32z {a : Int} (ha : inr a) : Int32.ofInt a ≤ 0 ↔ a ≤ 0 := by rw [← z32]; exact le32 ha in0
theorem eq32z {a : Int} (ha : inr a) : Int32.ofInt a = 0 ↔ a = 0 := by rw [← z32]; exact eq32 ha in0
theorem zlt32 {a : Int} (ha : inr a) : 0 < Int32.ofInt a ↔ 0 < a := by rw [← z32]; exact lt32 in0 ha
theorem zle32 {a : Int} (ha : inr a) : 0 ≤ Int32.ofInt a ↔ 0 ≤ a := by rw [← z32]; exact le32 in0 ha
theorem clamp32 {z : Int} (h : inr z) : (Int32.ofInt z).toNatClampNeg = z.toNat := by
  show (Int32.ofInt z).toInt.toNat = z.toNat
  rw [ofInt_toInt32 h]
theorem vin32 {z : Int} {n : Nat} (h0 : 0 ≤ z) (h1 : z < (n : Int)) (hn : n < 2147483648) : vp_in (Int32.ofInt z) n := by
  have hr : inr z := ⟨by omega, by omega⟩
  intro q
  rcases q with q | q
  · exact absurd ((lt32z hr).mp q) (by omega)
  · rw [clamp32 hr] at q
    omega
def iand (a b : Int) : Int := (Int32.ofInt a &&& Int32.ofInt b).toInt
def ior (a b : Int) : Int := (Int32.ofInt a ||| Int32.ofInt b).toInt
def ixor (a b : Int) : Int := (Int32.ofInt a ^^^ Int32.ofInt b).toInt
def ishl (a b : Int) : Int := (Int32.ofInt a <<< (Int32.ofInt b &&& 31)).toInt
def ishr (a b : Int) : Int := (Int32.ofInt a >>> (Int32.ofInt b &&& 31)).toInt
def iushr (a b : Int) : Int := ((Int32.ofInt a).toUInt32 >>> ((Int32.ofInt b).toUInt32 &&& Int32.toUInt32 31)).toInt32.toInt
def i2b (a : Int) : Int := (Int32.ofInt a).toInt8.toInt32.toInt
def i2s (a : Int) : Int := (Int32.ofInt a).toInt16.toInt32.toInt
def i2c (a : Int) : Int := ((Int32.ofInt a).toUInt32 % 65536).toInt32.toInt
def land (a b : Int) : Int := (Int64.ofInt a &&& Int64.ofInt b).toInt
def lor (a b : Int) : Int := (Int64.ofInt a ||| Int64.ofInt b).toInt
def lxor (a b : Int) : Int := (Int64.ofInt a ^^^ Int64.ofInt b).toInt
def lshl (a b : Int) : Int := (Int64.ofInt a <<< ((Int32.ofInt b).toInt64 &&& 63)).toInt
def lshr (a b : Int) : Int := (Int64.ofInt a >>> ((Int32.ofInt b).toInt64 &&& 63)).toInt
def lushr (a b : Int) : Int := ((Int64.ofInt a).toUInt64 >>> ((Int32.ofInt b).toInt64.toUInt64 &&& Int64.toUInt64 63)).toInt64.toInt
def lcmp (a b : Int) : Int := if a < b then -1 else if a = b then 0 else 1
def tmax (a b : Int) : Int := if a < b then b else a
def tmin (a b : Int) : Int := if a < b then a else b
theorem div32 {a b : Int} (ha : inr a) (hb : inr b) : Int32.ofInt a / Int32.ofInt b = Int32.ofInt (a.tdiv b) := by
  apply Int32.toInt_inj.mp
  rw [Int32.toInt_div, ofInt_toInt32 ha, ofInt_toInt32 hb, Int32.toInt_ofInt]
theorem div64 {a b : Int} (ha : inl a) (hb : inl b) : Int64.ofInt a / Int64.ofInt b = Int64.ofInt (a.tdiv b) := by
  apply Int64.toInt_inj.mp
  rw [Int64.toInt_div, ofInt_toInt64 ha, ofInt_toInt64 hb, Int64.toInt_ofInt]
theorem tmod_eq (a b : Int) : a.tmod b = a - a.tdiv b * b := by
  rw [Int.tmod_def, Int.mul_comm]
section XR
variable {G : GT} {R : Room} {nc ns : Nat} {Z : GT → State → Array Value → List Frame → State → Prop} {own : String} {cc : ByteArray} {nL : Nat} {ret : Option FieldType} {pc q : Nat} {ls : List (Nat × AV)} {st : List AV} {mem : Mem}
theorem x_iconst {n : Int} (hd : decode cc pc = .ok (.iconst n, 1)) (hp : pc + 1 = q) (k : ExW G R nc ns Z own cc nL ret q ls (vI n :: st) mem) : ExW G R nc ns Z own cc nL ret pc ls (st) mem := by
  subst hp
  intro p l e s m args below meth c H locs lsA C hWd hS hl
  obtain ⟨hx, hb, hr, hml, hown, hlk, hts, hK, hE⟩ := id C
  refine lv_iconst hx hb hd rfl ?_
  exact k p l e s m args below meth c H locs lsA C hWd hS hl
theorem x_bipush {n : Int} (hn : (Int8.ofInt n).toInt32 = Int32.ofInt n) (hd : decode cc pc = .ok (.bipush n, 2)) (hp : pc + 2 = q) (k : ExW G R nc ns Z own cc nL ret q ls (vI n :: st) mem) : ExW G R nc ns Z own cc nL ret pc ls (st) mem := by
  subst hp
  intro p l e s m args below meth c H locs lsA C hWd hS hl
  obtain ⟨hx, hb, hr, hml, hown, hlk, hts, hK, hE⟩ := id C
  refine lv_bipush hx hb hd hn ?_
  exact k p l e s m args below meth c H locs lsA C hWd hS hl
theorem x_sipush {n : Int} (hn : (Int16.ofInt n).toInt32 = Int32.ofInt n) (hd : decode cc pc = .ok (.sipush n, 3)) (hp : pc + 3 = q) (k : ExW G R nc ns Z own cc nL ret q ls (vI n :: st) mem) : ExW G R nc ns Z own cc nL ret pc ls (st) mem := by
  subst hp
  intro p l e s m args below meth c H locs lsA C hWd hS hl
  obtain ⟨hx, hb, hr, hml, hown, hlk, hts, hK, hE⟩ := id C
  refine lv_sipush hx hb hd hn ?_
  exact k p l e s m args below meth c H locs lsA C hWd hS hl
theorem x_lconst {n : Fin 2} {v : Int} (hn : Int64.ofNat (n : Nat) = Int64.ofInt v) (hd : decode cc pc = .ok (.lconst n, 1)) (hp : pc + 1 = q) (k : ExW G R nc ns Z own cc nL ret q ls (vL v :: st) mem) : ExW G R nc ns Z own cc nL ret pc ls (st) mem := by
  subst hp
  intro p l e s m args below meth c H locs lsA C hWd hS hl
  obtain ⟨hx, hb, hr, hml, hown, hlk, hts, hK, hE⟩ := id C
  refine lv_lconst hx hb hd hn ?_
  exact k p l e s m args below meth c H locs lsA C hWd hS hl
theorem x_ldc {i : Nat} {z : Int} {v : Int32} (hw : Cond.constant own i v ∈ CW) (hv : v = Int32.ofInt z) (hd : decode cc pc = .ok (.ldc i, 2)) (hp : pc + 2 = q) (k : ExW G R nc ns Z own cc nL ret q ls (vI z :: st) mem) : ExW G R nc ns Z own cc nL ret pc ls (st) mem := by
  subst hp
  intro p l e s m args below meth c H locs lsA C hWd hS hl
  obtain ⟨hx, hb, hr, hml, hown, hlk, hts, hK, hE⟩ := id C
  subst hv
  refine lv_ldc hx hb hown (hts _ hw) hd ?_
  exact k p l e s m args below meth c H locs lsA C hWd hS hl
theorem x_ldcw {i : Nat} {z : Int} {v : Int32} (hw : Cond.constant own i v ∈ CW) (hv : v = Int32.ofInt z) (hd : decode cc pc = .ok (.ldc_w i, 3)) (hp : pc + 3 = q) (k : ExW G R nc ns Z own cc nL ret q ls (vI z :: st) mem) : ExW G R nc ns Z own cc nL ret pc ls (st) mem := by
  subst hp
  intro p l e s m args below meth c H locs lsA C hWd hS hl
  obtain ⟨hx, hb, hr, hml, hown, hlk, hts, hK, hE⟩ := id C
  subst hv
  refine lv_ldcw hx hb hown (hts _ hw) hd ?_
  exact k p l e s m args below meth c H locs lsA C hWd hS hl
theorem x_ldc2 {i : Nat} {z : Int} {v : Int64} (hw : Cond.constantLong own i v ∈ CW) (hv : v = Int64.ofInt z) (hd : decode cc pc = .ok (.ldc2_w i, 3)) (hp : pc + 3 = q) (k : ExW G R nc ns Z own cc nL ret q ls (vL z :: st) mem) : ExW G R nc ns Z own cc nL ret pc ls (st) mem := by
  subst hp
  intro p l e s m args below meth c H locs lsA C hWd hS hl
  obtain ⟨hx, hb, hr, hml, hown, hlk, hts, hK, hE⟩ := id C
  subst hv
  refine lv_ldc2 hx hb hown (hts _ hw) hd ?_
  exact k p l e s m args below meth c H locs lsA C hWd hS hl
theorem x_ldcS {i t : Nat} (ht : t < 25) (hi : (lit t).1 = own ∧ (lit t).2.1 = i) (hd : decode cc pc = .ok (.ldc i, 2)) (hp : pc + 2 = q) (k : ExW G R nc ns Z own cc nL ret q ls (vS t :: st) mem) : ExW G R nc ns Z own cc nL ret pc ls (st) mem := by
  subst hp
  intro p l e s m args below meth c H locs lsA C hWd hS hl
  obtain ⟨hx, hb, hr, hml, hown, hlk, hts, hK, hE⟩ := id C
  obtain ⟨rfl, rfl⟩ := hi
  refine va_ldcS hx hb hown (hE.2.1 t ht).1 hd ?_
  exact k p l e s m args below meth c H locs lsA C hWd hS hl
theorem x_iloadn {i : Nat} {z : Int} (j : Nat) {kk : Fin 4} (hi : (kk : Nat) = i) (hj : ls[j]? = some (i, vI z)) (hd : decode cc pc = .ok (.iload_n kk, 1)) (hp : pc + 1 = q) (k : ExW G R nc ns Z own cc nL ret q ls (vI z :: st) mem) : ExW G R nc ns Z own cc nL ret pc ls (st) mem := by
  subst hp
  intro p l e s m args below meth c H locs lsA C hWd hS hl
  obtain ⟨hx, hb, hr, hml, hown, hlk, hts, hK, hE⟩ := id C
  have hj2 : (ls.map (cvl G))[j]? = some (i, cv G (vI z)) := by rw [List.getElem?_map, hj]; rfl
  refine lv_iload_n hx hb hd hi (lv_at hl j hj2) ?_
  exact k p l e s m args below meth c H locs lsA C hWd hS hl
theorem x_iload {i : Nat} {z : Int} (j : Nat) (hj : ls[j]? = some (i, vI z)) (hd : decode cc pc = .ok (.iload i, 2)) (hp : pc + 2 = q) (k : ExW G R nc ns Z own cc nL ret q ls (vI z :: st) mem) : ExW G R nc ns Z own cc nL ret pc ls (st) mem := by
  subst hp
  intro p l e s m args below meth c H locs lsA C hWd hS hl
  obtain ⟨hx, hb, hr, hml, hown, hlk, hts, hK, hE⟩ := id C
  have hj2 : (ls.map (cvl G))[j]? = some (i, cv G (vI z)) := by rw [List.getElem?_map, hj]; rfl
  refine lv_iload hx hb hd (lv_at hl j hj2) ?_
  exact k p l e s m args below meth c H locs lsA C hWd hS hl
theorem x_lloadn {i : Nat} {z : Int} (j : Nat) {kk : Fin 4} (hi : (kk : Nat) = i) (hj : ls[j]? = some (i, vL z)) (hd : decode cc pc = .ok (.lload_n kk, 1)) (hp : pc + 1 = q) (k : ExW G R nc ns Z own cc nL ret q ls (vL z :: st) mem) : ExW G R nc ns Z own cc nL ret pc ls (st) mem := by
  subst hp
  intro p l e s m args below meth c H locs lsA C hWd hS hl
  obtain ⟨hx, hb, hr, hml, hown, hlk, hts, hK, hE⟩ := id C
  have hj2 : (ls.map (cvl G))[j]? = some (i, cv G (vL z)) := by rw [List.getElem?_map, hj]; rfl
  refine lv_lload_n hx hb hd hi (lv_at hl j hj2) ?_
  exact k p l e s m args below meth c H locs lsA C hWd hS hl
theorem x_lload {i : Nat} {z : Int} (j : Nat) (hj : ls[j]? = some (i, vL z)) (hd : decode cc pc = .ok (.lload i, 2)) (hp : pc + 2 = q) (k : ExW G R nc ns Z own cc nL ret q ls (vL z :: st) mem) : ExW G R nc ns Z own cc nL ret pc ls (st) mem := by
  subst hp
  intro p l e s m args below meth c H locs lsA C hWd hS hl
  obtain ⟨hx, hb, hr, hml, hown, hlk, hts, hK, hE⟩ := id C
  have hj2 : (ls.map (cvl G))[j]? = some (i, cv G (vL z)) := by rw [List.getElem?_map, hj]; rfl
  refine lv_lload hx hb hd (lv_at hl j hj2) ?_
  exact k p l e s m args below meth c H locs lsA C hWd hS hl
/-- a value that is a cell's address -/
def isRf (v : AV) : Bool := 2 ≤ v.1 && v.1 ≤ 6
theorem rf_cv {v : AV} (h : isRf v = true) (G : GT) : ∃ a, cv G v = .ref a := by
  obtain ⟨a, z⟩ := v
  simp only [isRf, Bool.and_eq_true, decide_eq_true_eq] at h
  have h2 : a = 2 ∨ a = 3 ∨ a = 4 ∨ a = 5 ∨ a = 6 := by omega
  rcases h2 with rfl | rfl | rfl | rfl | rfl <;> exact ⟨_, rfl⟩
theorem x_aloadn {i : Nat} {v : AV} (j : Nat) {kk : Fin 4} (hi : (kk : Nat) = i) (hj : ls[j]? = some (i, v)) (hv : isRf v = true) (hd : decode cc pc = .ok (.aload_n kk, 1)) (hp : pc + 1 = q) (k : ExW G R nc ns Z own cc nL ret q ls (v :: st) mem) : ExW G R nc ns Z own cc nL ret pc ls (st) mem := by
  subst hp
  intro p l e s m args below meth c H locs lsA C hWd hS hl
  obtain ⟨hx, hb, hr, hml, hown, hlk, hts, hK, hE⟩ := id C
  have hj2 : (ls.map (cvl G))[j]? = some (i, cv G v) := by rw [List.getElem?_map, hj]; rfl
  obtain ⟨a, ha⟩ := rf_cv hv G
  have k := k p l e s m args below meth c H locs lsA C hWd hS hl
  have k : W p l e R s m args below meth c H locs nc ns (Z G s args below) (F0 m (pc + 1) lsA (cv G v :: st.map (cv G))) := k
  rw [ha] at hj2 k
  exact lv_aload_n hx hb hd hi (lv_at hl j hj2) k
theorem x_aload {i : Nat} {v : AV} (j : Nat) (hj : ls[j]? = some (i, v)) (hv : isRf v = true) (hd : decode cc pc = .ok (.aload i, 2)) (hp : pc + 2 = q) (k : ExW G R nc ns Z own cc nL ret q ls (v :: st) mem) : ExW G R nc ns Z own cc nL ret pc ls (st) mem := by
  subst hp
  intro p l e s m args below meth c H locs lsA C hWd hS hl
  obtain ⟨hx, hb, hr, hml, hown, hlk, hts, hK, hE⟩ := id C
  have hj2 : (ls.map (cvl G))[j]? = some (i, cv G v) := by rw [List.getElem?_map, hj]; rfl
  obtain ⟨a, ha⟩ := rf_cv hv G
  have k := k p l e s m args below meth c H locs lsA C hWd hS hl
  have k : W p l e R s m args below meth c H locs nc ns (Z G s args below) (F0 m (pc + 2) lsA (cv G v :: st.map (cv G))) := k
  rw [ha] at hj2 k
  exact lv_aload hx hb hd (lv_at hl j hj2) k
theorem x_aloadFn {i : Nat} (j : Nat) {kk : Fin 4} (hi : (kk : Nat) = i) (hj : ls[j]? = some (i, vF)) (hd : decode cc pc = .ok (.aload_n kk, 1)) (hp : pc + 1 = q) (k : ExW G R nc ns Z own cc nL ret q ls (vF :: st) mem) : ExW G R nc ns Z own cc nL ret pc ls (st) mem := by
  subst hp
  intro p l e s m args below meth c H locs lsA C hWd hS hl
  obtain ⟨hx, hb, hr, hml, hown, hlk, hts, hK, hE⟩ := id C
  have hj2 : (ls.map (cvl G))[j]? = some (i, va_rf (gF G)) := by rw [List.getElem?_map, hj]; rfl
  cases hF : gF G with
  | none =>
    rw [hF] at hj2
    have k := k p l e s m args below meth c H locs lsA C hWd hS hl
    have k : W p l e R s m args below meth c H locs nc ns (Z G s args below) (F0 m (pc + 1) lsA (va_rf (gF G) :: st.map (cv G))) := k
    rw [hF] at k
    exact lv_aload_nN hx hb hd hi (lv_at hl j hj2) k
  | some a =>
    rw [hF] at hj2
    have k := k p l e s m args below meth c H locs lsA C hWd hS hl
    have k : W p l e R s m args below meth c H locs nc ns (Z G s args below) (F0 m (pc + 1) lsA (va_rf (gF G) :: st.map (cv G))) := k
    rw [hF] at k
    exact lv_aload_n hx hb hd hi (lv_at hl j hj2) k
/-- a local becomes v: what stood there goes, a long that reached into it too -/
def lput1 (ls : List (Nat × AV)) (i : Nat) (v : AV) : List (Nat × AV) := (i, v) :: ls.filter (fun q => !(q.1 == i) && !(q.1 + 1 == i && q.2.1 == 1))
def lput2 (ls : List (Nat × AV)) (i : Nat) (v : AV) : List (Nat × AV) := (i, v) :: ls.filter (fun q => !(q.1 == i) && (!(q.1 == i + 1) && !(q.1 + 1 == i && q.2.1 == 1)))
theorem cat2 (G : GT) (v : AV) : ((cv G v).category == 2) = (v.1 == 1) := by
  rw [cat_cv]
  unfold avCat
  split <;> simp_all
theorem lput1_map (G : GT) (ls : List (Nat × AV)) (i : Nat) (v : AV) : (i, cv G v) :: (ls.map (cvl G)).filter (fun q => !(q.1 == i) && !(q.1 + 1 == i && q.2.category == 2)) = (lput1 ls i v).map (cvl G) := by
  unfold lput1
  rw [List.map_cons, List.filter_map]
  congr 2
  apply List.filter_congr
  intro x _
  simp only [Function.comp, cvl, cat2]
theorem lput2_map (G : GT) (ls : List (Nat × AV)) (i : Nat) (v : AV) : (i, cv G v) :: (ls.map (cvl G)).filter (fun q => !(q.1 == i) && (!(q.1 == i + 1) && !(q.1 + 1 == i && q.2.category == 2))) = (lput2 ls i v).map (cvl G) := by
  unfold lput2
  rw [List.map_cons, List.filter_map]
  congr 2
  apply List.filter_congr
  intro x _
  simp only [Function.comp, cvl, cat2]
/-- fewer locals, in any order -/
def lpick (ls : List (Nat × AV)) (ks : List Nat) : List (Nat × AV) := ks.filterMap (fun k => ls[k]?)
theorem x_sub {ls' : List (Nat × AV)} (ks : List Nat) (h : lpick ls ks = ls') (k : ExW G R nc ns Z own cc nL ret pc ls' st mem) : ExW G R nc ns Z own cc nL ret pc ls st mem := by
  intro p l e s m args below meth c H locs lsA C hWd hS hl
  refine k p l e s m args below meth c H locs lsA C hWd hS (lv_sub hl ks ?_)
  subst h
  unfold lv_pick lpick
  rw [List.map_filterMap]
  congr 1
  funext k
  rw [List.getElem?_map]
theorem x_istoren {i : Nat} {z : Int} {ls' : List (Nat × AV)} {kk : Fin 4} (hi : (kk : Nat) = i) (hn : i < nL) (hl9 : lput1 ls i (vI z) = ls') (hd : decode cc pc = .ok (.istore_n kk, 1)) (hp : pc + 1 = q) (k : ExW G R nc ns Z own cc nL ret q ls' (st) mem) : ExW G R nc ns Z own cc nL ret pc ls (vI z :: st) mem := by
  subst hp
  intro p l e s m args below meth c H locs lsA C hWd hS hl
  obtain ⟨hx, hb, hr, hml, hown, hlk, hts, hK, hE⟩ := id C
  subst hl9
  refine lv_istore_n hx hb hd hi hl hn (lput1_map G ls i (vI z)) (fun ls2 hl2 => ?_)
  exact k p l e s m args below meth c H locs ls2 C hWd hS hl2
theorem x_istore {i : Nat} {z : Int} {ls' : List (Nat × AV)} (hn : i < nL) (hl9 : lput1 ls i (vI z) = ls') (hd : decode cc pc = .ok (.istore i, 2)) (hp : pc + 2 = q) (k : ExW G R nc ns Z own cc nL ret q ls' (st) mem) : ExW G R nc ns Z own cc nL ret pc ls (vI z :: st) mem := by
  subst hp
  intro p l e s m args below meth c H locs lsA C hWd hS hl
  obtain ⟨hx, hb, hr, hml, hown, hlk, hts, hK, hE⟩ := id C
  subst hl9
  refine lv_istore hx hb hd hl hn (lput1_map G ls i (vI z)) (fun ls2 hl2 => ?_)
  exact k p l e s m args below meth c H locs ls2 C hWd hS hl2
theorem x_lstoren {i : Nat} {z : Int} {ls' : List (Nat × AV)} {kk : Fin 4} (hi : (kk : Nat) = i) (hn : i + 1 < nL) (hl9 : lput2 ls i (vL z) = ls') (hd : decode cc pc = .ok (.lstore_n kk, 1)) (hp : pc + 1 = q) (k : ExW G R nc ns Z own cc nL ret q ls' (st) mem) : ExW G R nc ns Z own cc nL ret pc ls (vL z :: st) mem := by
  subst hp
  intro p l e s m args below meth c H locs lsA C hWd hS hl
  obtain ⟨hx, hb, hr, hml, hown, hlk, hts, hK, hE⟩ := id C
  subst hl9
  refine lv_lstore_n hx hb hd hi hl hn (lput2_map G ls i (vL z)) (fun ls2 hl2 => ?_)
  exact k p l e s m args below meth c H locs ls2 C hWd hS hl2
theorem x_lstore {i : Nat} {z : Int} {ls' : List (Nat × AV)} (hn : i + 1 < nL) (hl9 : lput2 ls i (vL z) = ls') (hd : decode cc pc = .ok (.lstore i, 2)) (hp : pc + 2 = q) (k : ExW G R nc ns Z own cc nL ret q ls' (st) mem) : ExW G R nc ns Z own cc nL ret pc ls (vL z :: st) mem := by
  subst hp
  intro p l e s m args below meth c H locs lsA C hWd hS hl
  obtain ⟨hx, hb, hr, hml, hown, hlk, hts, hK, hE⟩ := id C
  subst hl9
  refine lv_lstore hx hb hd hl hn (lput2_map G ls i (vL z)) (fun ls2 hl2 => ?_)
  exact k p l e s m args below meth c H locs ls2 C hWd hS hl2
theorem x_astoren {i : Nat} {v : AV} {ls' : List (Nat × AV)} {kk : Fin 4} (hi : (kk : Nat) = i) (hn : i < nL) (hv : isRf v = true) (hl9 : lput1 ls i v = ls') (hd : decode cc pc = .ok (.astore_n kk, 1)) (hp : pc + 1 = q) (k : ExW G R nc ns Z own cc nL ret q ls' (st) mem) : ExW G R nc ns Z own cc nL ret pc ls (v :: st) mem := by
  subst hp
  intro p l e s m args below meth c H locs lsA C hWd hS hl
  obtain ⟨hx, hb, hr, hml, hown, hlk, hts, hK, hE⟩ := id C
  subst hl9
  obtain ⟨a, ha⟩ := rf_cv hv G
  show W _ _ _ _ _ _ _ _ _ _ _ _ _ _ _ (F0 _ _ _ (cv G v :: st.map (cv G)))
  have e9 := lput1_map G ls i v
  rw [ha] at e9 ⊢
  refine lv_astore_n hx hb hd hi hl hn e9 (fun ls2 hl2 => ?_)
  exact k p l e s m args below meth c H locs ls2 C hWd hS hl2
theorem x_astore {i : Nat} {v : AV} {ls' : List (Nat × AV)} (hn : i < nL) (hv : isRf v = true) (hl9 : lput1 ls i v = ls') (hd : decode cc pc = .ok (.astore i, 2)) (hp : pc + 2 = q) (k : ExW G R nc ns Z own cc nL ret q ls' (st) mem) : ExW G R nc ns Z own cc nL ret pc ls (v :: st) mem := by
  subst hp
  intro p l e s m args below meth c H locs lsA C hWd hS hl
  obtain ⟨hx, hb, hr, hml, hown, hlk, hts, hK, hE⟩ := id C
  subst hl9
  obtain ⟨a, ha⟩ := rf_cv hv G
  show W _ _ _ _ _ _ _ _ _ _ _ _ _ _ _ (F0 _ _ _ (cv G v :: st.map (cv G)))
  have e9 := lput1_map G ls i v
  rw [ha] at e9 ⊢
  refine lv_astore hx hb hd hl hn e9 (fun ls2 hl2 => ?_)
  exact k p l e s m args below meth c H locs ls2 C hWd hS hl2
theorem x_iinc {i : Nat} {n z : Int} {ls' : List (Nat × AV)} (j : Nat) (hj : ls[j]? = some (i, vI z)) (hn : i < nL) (hl9 : lput1 ls i (vI (z + n)) = ls') (hd : decode cc pc = .ok (.iinc i n, 3)) (hp : pc + 3 = q) (k : ExW G R nc ns Z own cc nL ret q ls' (st) mem) : ExW G R nc ns Z own cc nL ret pc ls (st) mem := by
  subst hp
  intro p l e s m args below meth c H locs lsA C hWd hS hl
  obtain ⟨hx, hb, hr, hml, hown, hlk, hts, hK, hE⟩ := id C
  subst hl9
  have hj2 : (ls.map (cvl G))[j]? = some (i, .int (Int32.ofInt z)) := by rw [List.getElem?_map, hj]; rfl
  refine lv_iinc (v := Int32.ofInt (z + n)) hx hb hd hl hj2 (by rw [Int32.ofInt_add]) hn (lput1_map G ls i (vI (z + n))) (fun ls2 hl2 => ?_)
  exact k p l e s m args below meth c H locs ls2 C hWd hS hl2
theorem x_iadd {a b : Int} (hd : decode cc pc = .ok (.iadd, 1)) (hp : pc + 1 = q) (k : ExW G R nc ns Z own cc nL ret q ls (vI (a + b) :: st) mem) : ExW G R nc ns Z own cc nL ret pc ls (vI b :: vI a :: st) mem := by
  subst hp
  intro p l e s m args below meth c H locs lsA C hWd hS hl
  obtain ⟨hx, hb, hr, hml, hown, hlk, hts, hK, hE⟩ := id C
  show W _ _ _ _ _ _ _ _ _ _ _ _ _ _ _ (F0 _ _ _ (Value.int (Int32.ofInt b) :: Value.int (Int32.ofInt a) :: st.map (cv G)))
  have k := k p l e s m args below meth c H locs lsA C hWd hS hl
  refine lv_iadd hx hb hd ?_
  rw [← Int32.ofInt_add]
  exact k
theorem x_isub {a b : Int} (hd : decode cc pc = .ok (.isub, 1)) (hp : pc + 1 = q) (k : ExW G R nc ns Z own cc nL ret q ls (vI (a - b) :: st) mem) : ExW G R nc ns Z own cc nL ret pc ls (vI b :: vI a :: st) mem := by
  subst hp
  intro p l e s m args below meth c H locs lsA C hWd hS hl
  obtain ⟨hx, hb, hr, hml, hown, hlk, hts, hK, hE⟩ := id C
  show W _ _ _ _ _ _ _ _ _ _ _ _ _ _ _ (F0 _ _ _ (Value.int (Int32.ofInt b) :: Value.int (Int32.ofInt a) :: st.map (cv G)))
  have k := k p l e s m args below meth c H locs lsA C hWd hS hl
  refine lv_isub hx hb hd ?_
  rw [← Int32.ofInt_sub]
  exact k
theorem x_imul {a b : Int} (hd : decode cc pc = .ok (.imul, 1)) (hp : pc + 1 = q) (k : ExW G R nc ns Z own cc nL ret q ls (vI (a * b) :: st) mem) : ExW G R nc ns Z own cc nL ret pc ls (vI b :: vI a :: st) mem := by
  subst hp
  intro p l e s m args below meth c H locs lsA C hWd hS hl
  obtain ⟨hx, hb, hr, hml, hown, hlk, hts, hK, hE⟩ := id C
  show W _ _ _ _ _ _ _ _ _ _ _ _ _ _ _ (F0 _ _ _ (Value.int (Int32.ofInt b) :: Value.int (Int32.ofInt a) :: st.map (cv G)))
  have k := k p l e s m args below meth c H locs lsA C hWd hS hl
  refine lv_imul hx hb hd ?_
  rw [← Int32.ofInt_mul]
  exact k
theorem x_ladd {a b : Int} (hd : decode cc pc = .ok (.ladd, 1)) (hp : pc + 1 = q) (k : ExW G R nc ns Z own cc nL ret q ls (vL (a + b) :: st) mem) : ExW G R nc ns Z own cc nL ret pc ls (vL b :: vL a :: st) mem := by
  subst hp
  intro p l e s m args below meth c H locs lsA C hWd hS hl
  obtain ⟨hx, hb, hr, hml, hown, hlk, hts, hK, hE⟩ := id C
  show W _ _ _ _ _ _ _ _ _ _ _ _ _ _ _ (F0 _ _ _ (Value.long (Int64.ofInt b) :: Value.long (Int64.ofInt a) :: st.map (cv G)))
  have k := k p l e s m args below meth c H locs lsA C hWd hS hl
  refine lv_ladd hx hb hd ?_
  rw [← Int64.ofInt_add]
  exact k
theorem x_lsub {a b : Int} (hd : decode cc pc = .ok (.lsub, 1)) (hp : pc + 1 = q) (k : ExW G R nc ns Z own cc nL ret q ls (vL (a - b) :: st) mem) : ExW G R nc ns Z own cc nL ret pc ls (vL b :: vL a :: st) mem := by
  subst hp
  intro p l e s m args below meth c H locs lsA C hWd hS hl
  obtain ⟨hx, hb, hr, hml, hown, hlk, hts, hK, hE⟩ := id C
  show W _ _ _ _ _ _ _ _ _ _ _ _ _ _ _ (F0 _ _ _ (Value.long (Int64.ofInt b) :: Value.long (Int64.ofInt a) :: st.map (cv G)))
  have k := k p l e s m args below meth c H locs lsA C hWd hS hl
  refine lv_lsub hx hb hd ?_
  rw [← Int64.ofInt_sub]
  exact k
theorem x_lmul {a b : Int} (hd : decode cc pc = .ok (.lmul, 1)) (hp : pc + 1 = q) (k : ExW G R nc ns Z own cc nL ret q ls (vL (a * b) :: st) mem) : ExW G R nc ns Z own cc nL ret pc ls (vL b :: vL a :: st) mem := by
  subst hp
  intro p l e s m args below meth c H locs lsA C hWd hS hl
  obtain ⟨hx, hb, hr, hml, hown, hlk, hts, hK, hE⟩ := id C
  show W _ _ _ _ _ _ _ _ _ _ _ _ _ _ _ (F0 _ _ _ (Value.long (Int64.ofInt b) :: Value.long (Int64.ofInt a) :: st.map (cv G)))
  have k := k p l e s m args below meth c H locs lsA C hWd hS hl
  refine lv_lmul hx hb hd ?_
  rw [← Int64.ofInt_mul]
  exact k
theorem x_iand {a b : Int} (hd : decode cc pc = .ok (.iand, 1)) (hp : pc + 1 = q) (k : ExW G R nc ns Z own cc nL ret q ls (vI (iand a b) :: st) mem) : ExW G R nc ns Z own cc nL ret pc ls (vI b :: vI a :: st) mem := by
  subst hp
  intro p l e s m args below meth c H locs lsA C hWd hS hl
  obtain ⟨hx, hb, hr, hml, hown, hlk, hts, hK, hE⟩ := id C
  show W _ _ _ _ _ _ _ _ _ _ _ _ _ _ _ (F0 _ _ _ (Value.int (Int32.ofInt b) :: Value.int (Int32.ofInt a) :: st.map (cv G)))
  have k := k p l e s m args below meth c H locs lsA C hWd hS hl
  refine lv_iand hx hb hd ?_
  rw [← Int32.ofInt_toInt (_ &&& _)]
  exact k
theorem x_ior {a b : Int} (hd : decode cc pc = .ok (.ior, 1)) (hp : pc + 1 = q) (k : ExW G R nc ns Z own cc nL ret q ls (vI (ior a b) :: st) mem) : ExW G R nc ns Z own cc nL ret pc ls (vI b :: vI a :: st) mem := by
  subst hp
  intro p l e s m args below meth c H locs lsA C hWd hS hl
  obtain ⟨hx, hb, hr, hml, hown, hlk, hts, hK, hE⟩ := id C
  show W _ _ _ _ _ _ _ _ _ _ _ _ _ _ _ (F0 _ _ _ (Value.int (Int32.ofInt b) :: Value.int (Int32.ofInt a) :: st.map (cv G)))
  have k := k p l e s m args below meth c H locs lsA C hWd hS hl
  refine lv_ior hx hb hd ?_
  rw [← Int32.ofInt_toInt (_ ||| _)]
  exact k
theorem x_ixor {a b : Int} (hd : decode cc pc = .ok (.ixor, 1)) (hp : pc + 1 = q) (k : ExW G R nc ns Z own cc nL ret q ls (vI (ixor a b) :: st) mem) : ExW G R nc ns Z own cc nL ret pc ls (vI b :: vI a :: st) mem := by
  subst hp
  intro p l e s m args below meth c H locs lsA C hWd hS hl
  obtain ⟨hx, hb, hr, hml, hown, hlk, hts, hK, hE⟩ := id C
  show W _ _ _ _ _ _ _ _ _ _ _ _ _ _ _ (F0 _ _ _ (Value.int (Int32.ofInt b) :: Value.int (Int32.ofInt a) :: st.map (cv G)))
  have k := k p l e s m args below meth c H locs lsA C hWd hS hl
  refine lv_ixor hx hb hd ?_
  rw [← Int32.ofInt_toInt (_ ^^^ _)]
  exact k
theorem x_land {a b : Int} (hd : decode cc pc = .ok (.land, 1)) (hp : pc + 1 = q) (k : ExW G R nc ns Z own cc nL ret q ls (vL (land a b) :: st) mem) : ExW G R nc ns Z own cc nL ret pc ls (vL b :: vL a :: st) mem := by
  subst hp
  intro p l e s m args below meth c H locs lsA C hWd hS hl
  obtain ⟨hx, hb, hr, hml, hown, hlk, hts, hK, hE⟩ := id C
  show W _ _ _ _ _ _ _ _ _ _ _ _ _ _ _ (F0 _ _ _ (Value.long (Int64.ofInt b) :: Value.long (Int64.ofInt a) :: st.map (cv G)))
  have k := k p l e s m args below meth c H locs lsA C hWd hS hl
  refine lv_land hx hb hd ?_
  rw [← Int64.ofInt_toInt (_ &&& _)]
  exact k
theorem x_lor {a b : Int} (hd : decode cc pc = .ok (.lor, 1)) (hp : pc + 1 = q) (k : ExW G R nc ns Z own cc nL ret q ls (vL (lor a b) :: st) mem) : ExW G R nc ns Z own cc nL ret pc ls (vL b :: vL a :: st) mem := by
  subst hp
  intro p l e s m args below meth c H locs lsA C hWd hS hl
  obtain ⟨hx, hb, hr, hml, hown, hlk, hts, hK, hE⟩ := id C
  show W _ _ _ _ _ _ _ _ _ _ _ _ _ _ _ (F0 _ _ _ (Value.long (Int64.ofInt b) :: Value.long (Int64.ofInt a) :: st.map (cv G)))
  have k := k p l e s m args below meth c H locs lsA C hWd hS hl
  refine lv_lor hx hb hd ?_
  rw [← Int64.ofInt_toInt (_ ||| _)]
  exact k
theorem x_lxor {a b : Int} (hd : decode cc pc = .ok (.lxor, 1)) (hp : pc + 1 = q) (k : ExW G R nc ns Z own cc nL ret q ls (vL (lxor a b) :: st) mem) : ExW G R nc ns Z own cc nL ret pc ls (vL b :: vL a :: st) mem := by
  subst hp
  intro p l e s m args below meth c H locs lsA C hWd hS hl
  obtain ⟨hx, hb, hr, hml, hown, hlk, hts, hK, hE⟩ := id C
  show W _ _ _ _ _ _ _ _ _ _ _ _ _ _ _ (F0 _ _ _ (Value.long (Int64.ofInt b) :: Value.long (Int64.ofInt a) :: st.map (cv G)))
  have k := k p l e s m args below meth c H locs lsA C hWd hS hl
  refine lv_lxor hx hb hd ?_
  rw [← Int64.ofInt_toInt (_ ^^^ _)]
  exact k
theorem x_ishl {a b : Int} (hd : decode cc pc = .ok (.ishl, 1)) (hp : pc + 1 = q) (k : ExW G R nc ns Z own cc nL ret q ls (vI (ishl a b) :: st) mem) : ExW G R nc ns Z own cc nL ret pc ls (vI b :: vI a :: st) mem := by
  subst hp
  intro p l e s m args below meth c H locs lsA C hWd hS hl
  obtain ⟨hx, hb, hr, hml, hown, hlk, hts, hK, hE⟩ := id C
  show W _ _ _ _ _ _ _ _ _ _ _ _ _ _ _ (F0 _ _ _ (Value.int (Int32.ofInt b) :: Value.int (Int32.ofInt a) :: st.map (cv G)))
  have k := k p l e s m args below meth c H locs lsA C hWd hS hl
  refine lv_ishl hx hb hd ?_
  rw [← Int32.ofInt_toInt (_ <<< _)]
  exact k
theorem x_ishr {a b : Int} (hd : decode cc pc = .ok (.ishr, 1)) (hp : pc + 1 = q) (k : ExW G R nc ns Z own cc nL ret q ls (vI (ishr a b) :: st) mem) : ExW G R nc ns Z own cc nL ret pc ls (vI b :: vI a :: st) mem := by
  subst hp
  intro p l e s m args below meth c H locs lsA C hWd hS hl
  obtain ⟨hx, hb, hr, hml, hown, hlk, hts, hK, hE⟩ := id C
  show W _ _ _ _ _ _ _ _ _ _ _ _ _ _ _ (F0 _ _ _ (Value.int (Int32.ofInt b) :: Value.int (Int32.ofInt a) :: st.map (cv G)))
  have k := k p l e s m args below meth c H locs lsA C hWd hS hl
  refine lv_ishr hx hb hd ?_
  rw [← Int32.ofInt_toInt (_ >>> _)]
  exact k
theorem x_idiv {a b : Int} (ha : inr a) (hb2 : inr b) (h0 : b ≠ 0) (hd : decode cc pc = .ok (.idiv, 1)) (hp : pc + 1 = q) (k : ExW G R nc ns Z own cc nL ret q ls (vI (a.tdiv b) :: st) mem) : ExW G R nc ns Z own cc nL ret pc ls (vI b :: vI a :: st) mem := by
  subst hp
  intro p l e s m args below meth c H locs lsA C hWd hS hl
  obtain ⟨hx, hb, hr, hml, hown, hlk, hts, hK, hE⟩ := id C
  show W _ _ _ _ _ _ _ _ _ _ _ _ _ _ _ (F0 _ _ _ (Value.int (Int32.ofInt b) :: Value.int (Int32.ofInt a) :: st.map (cv G)))
  have k := k p l e s m args below meth c H locs lsA C hWd hS hl
  refine lv_idiv hx hb hd (fun q => h0 ((eq32z hb2).mp q)) ?_
  rw [div32 ha hb2]
  exact k
theorem x_irem {a b : Int} (ha : inr a) (hb2 : inr b) (h0 : b ≠ 0) (hd : decode cc pc = .ok (.irem, 1)) (hp : pc + 1 = q) (k : ExW G R nc ns Z own cc nL ret q ls (vI (a.tmod b) :: st) mem) : ExW G R nc ns Z own cc nL ret pc ls (vI b :: vI a :: st) mem := by
  subst hp
  intro p l e s m args below meth c H locs lsA C hWd hS hl
  obtain ⟨hx, hb, hr, hml, hown, hlk, hts, hK, hE⟩ := id C
  show W _ _ _ _ _ _ _ _ _ _ _ _ _ _ _ (F0 _ _ _ (Value.int (Int32.ofInt b) :: Value.int (Int32.ofInt a) :: st.map (cv G)))
  have k := k p l e s m args below meth c H locs lsA C hWd hS hl
  refine lv_irem hx hb hd (fun q => h0 ((eq32z hb2).mp q)) ?_
  rw [div32 ha hb2, ← Int32.ofInt_mul, ← Int32.ofInt_sub, ← tmod_eq]
  exact k
theorem eq64z {a : Int} (ha : inl a) : Int64.ofInt a = 0 ↔ a = 0 := by
  rw [show (0 : Int64) = Int64.ofInt 0 from rfl, ← Int64.toInt_inj, ofInt_toInt64 ha, ofInt_toInt64 (by decide)]
theorem eq64 {a b : Int} (ha : inl a) (hb : inl b) : Int64.ofInt a = Int64.ofInt b ↔ a = b := by rw [← Int64.toInt_inj, ofInt_toInt64 ha, ofInt_toInt64 hb]
theorem lt64 {a b : Int} (ha : inl a) (hb : inl b) : Int64.ofInt a < Int64.ofInt b ↔ a < b := by rw [Int64.lt_iff_toInt_lt, ofInt_toInt64 ha, ofInt_toInt64 hb]
theorem lg_lcmp {a b : Int} (ha : inl a) (hb : inl b) : lg_cmp (Int64.ofInt a) (Int64.ofInt b) = Int32.ofInt (lcmp a b) := by
  unfold lg_cmp lcmp
  simp only [gt_iff_lt, lt64 hb ha, eq64 ha hb]
  by_cases h1 : a < b
  · rw [if_neg (by omega), if_neg (by omega), if_pos h1]; rfl
  · by_cases h2 : a = b
    · rw [if_neg (by omega), if_pos h2, if_neg (by omega), if_pos h2]; rfl
    · rw [if_pos (by omega), if_neg (by omega), if_neg (by omega)]; rfl
theorem x_ldiv {a b : Int} (ha : inl a) (hb2 : inl b) (h0 : b ≠ 0) (hd : decode cc pc = .ok (.ldiv, 1)) (hp : pc + 1 = q) (k : ExW G R nc ns Z own cc nL ret q ls (vL (a.tdiv b) :: st) mem) : ExW G R nc ns Z own cc nL ret pc ls (vL b :: vL a :: st) mem := by
  subst hp
  intro p l e s m args below meth c H locs lsA C hWd hS hl
  obtain ⟨hx, hb, hr, hml, hown, hlk, hts, hK, hE⟩ := id C
  show W _ _ _ _ _ _ _ _ _ _ _ _ _ _ _ (F0 _ _ _ (Value.long (Int64.ofInt b) :: Value.long (Int64.ofInt a) :: st.map (cv G)))
  have k := k p l e s m args below meth c H locs lsA C hWd hS hl
  refine lv_ldiv hx hb hd (fun q => h0 ((eq64z hb2).mp q)) ?_
  rw [div64 ha hb2]
  exact k
theorem x_lrem {a b : Int} (ha : inl a) (hb2 : inl b) (h0 : b ≠ 0) (hd : decode cc pc = .ok (.lrem, 1)) (hp : pc + 1 = q) (k : ExW G R nc ns Z own cc nL ret q ls (vL (a.tmod b) :: st) mem) : ExW G R nc ns Z own cc nL ret pc ls (vL b :: vL a :: st) mem := by
  subst hp
  intro p l e s m args below meth c H locs lsA C hWd hS hl
  obtain ⟨hx, hb, hr, hml, hown, hlk, hts, hK, hE⟩ := id C
  show W _ _ _ _ _ _ _ _ _ _ _ _ _ _ _ (F0 _ _ _ (Value.long (Int64.ofInt b) :: Value.long (Int64.ofInt a) :: st.map (cv G)))
  have k := k p l e s m args below meth c H locs lsA C hWd hS hl
  refine lv_lrem hx hb hd (fun q => h0 ((eq64z hb2).mp q)) ?_
  rw [div64 ha hb2, ← Int64.ofInt_mul, ← Int64.ofInt_sub, ← tmod_eq]
  exact k
theorem x_iushr {a b : Int} (hd : decode cc pc = .ok (.iushr, 1)) (hp : pc + 1 = q) (k : ExW G R nc ns Z own cc nL ret q ls (vI (iushr a b) :: st) mem) : ExW G R nc ns Z own cc nL ret pc ls (vI b :: vI a :: st) mem := by
  subst hp
  intro p l e s m args below meth c H locs lsA C hWd hS hl
  obtain ⟨hx, hb, hr, hml, hown, hlk, hts, hK, hE⟩ := id C
  show W _ _ _ _ _ _ _ _ _ _ _ _ _ _ _ (F0 _ _ _ (Value.int (Int32.ofInt b) :: Value.int (Int32.ofInt a) :: st.map (cv G)))
  exact lv_iushr (v := Int32.ofInt (iushr a b)) hx hb hd (Int32.ofInt_toInt _).symm (k p l e s m args below meth c H locs lsA C hWd hS hl)
theorem x_lshl {a b : Int} (hd : decode cc pc = .ok (.lshl, 1)) (hp : pc + 1 = q) (k : ExW G R nc ns Z own cc nL ret q ls (vL (lshl a b) :: st) mem) : ExW G R nc ns Z own cc nL ret pc ls (vI b :: vL a :: st) mem := by
  subst hp
  intro p l e s m args below meth c H locs lsA C hWd hS hl
  obtain ⟨hx, hb, hr, hml, hown, hlk, hts, hK, hE⟩ := id C
  show W _ _ _ _ _ _ _ _ _ _ _ _ _ _ _ (F0 _ _ _ (Value.int (Int32.ofInt b) :: Value.long (Int64.ofInt a) :: st.map (cv G)))
  exact lv_lshl (v := Int64.ofInt (lshl a b)) hx hb hd (Int64.ofInt_toInt _).symm (k p l e s m args below meth c H locs lsA C hWd hS hl)
theorem x_lshr {a b : Int} (hd : decode cc pc = .ok (.lshr, 1)) (hp : pc + 1 = q) (k : ExW G R nc ns Z own cc nL ret q ls (vL (lshr a b) :: st) mem) : ExW G R nc ns Z own cc nL ret pc ls (vI b :: vL a :: st) mem := by
  subst hp
  intro p l e s m args below meth c H locs lsA C hWd hS hl
  obtain ⟨hx, hb, hr, hml, hown, hlk, hts, hK, hE⟩ := id C
  show W _ _ _ _ _ _ _ _ _ _ _ _ _ _ _ (F0 _ _ _ (Value.int (Int32.ofInt b) :: Value.long (Int64.ofInt a) :: st.map (cv G)))
  exact lv_lshr (v := Int64.ofInt (lshr a b)) hx hb hd (Int64.ofInt_toInt _).symm (k p l e s m args below meth c H locs lsA C hWd hS hl)
theorem x_lushr {a b : Int} (hd : decode cc pc = .ok (.lushr, 1)) (hp : pc + 1 = q) (k : ExW G R nc ns Z own cc nL ret q ls (vL (lushr a b) :: st) mem) : ExW G R nc ns Z own cc nL ret pc ls (vI b :: vL a :: st) mem := by
  subst hp
  intro p l e s m args below meth c H locs lsA C hWd hS hl
  obtain ⟨hx, hb, hr, hml, hown, hlk, hts, hK, hE⟩ := id C
  show W _ _ _ _ _ _ _ _ _ _ _ _ _ _ _ (F0 _ _ _ (Value.int (Int32.ofInt b) :: Value.long (Int64.ofInt a) :: st.map (cv G)))
  exact lv_lushr (v := Int64.ofInt (lushr a b)) hx hb hd (Int64.ofInt_toInt _).symm (k p l e s m args below meth c H locs lsA C hWd hS hl)
theorem x_ineg {a : Int} (hd : decode cc pc = .ok (.ineg, 1)) (hp : pc + 1 = q) (k : ExW G R nc ns Z own cc nL ret q ls (vI (-a) :: st) mem) : ExW G R nc ns Z own cc nL ret pc ls (vI a :: st) mem := by
  subst hp
  intro p l e s m args below meth c H locs lsA C hWd hS hl
  obtain ⟨hx, hb, hr, hml, hown, hlk, hts, hK, hE⟩ := id C
  show W _ _ _ _ _ _ _ _ _ _ _ _ _ _ _ (F0 _ _ _ (Value.int (Int32.ofInt a) :: st.map (cv G)))
  have k := k p l e s m args below meth c H locs lsA C hWd hS hl
  refine lv_ineg hx hb hd ?_
  rw [← Int32.ofInt_neg]
  exact k
theorem x_i2l {a : Int} (ha : inr a) (hd : decode cc pc = .ok (.i2l, 1)) (hp : pc + 1 = q) (k : ExW G R nc ns Z own cc nL ret q ls (vL a :: st) mem) : ExW G R nc ns Z own cc nL ret pc ls (vI a :: st) mem := by
  subst hp
  intro p l e s m args below meth c H locs lsA C hWd hS hl
  obtain ⟨hx, hb, hr, hml, hown, hlk, hts, hK, hE⟩ := id C
  show W _ _ _ _ _ _ _ _ _ _ _ _ _ _ _ (F0 _ _ _ (Value.int (Int32.ofInt a) :: st.map (cv G)))
  exact lv_i2l (v := Int64.ofInt a) hx hb hd (by apply Int64.toInt_inj.mp; rw [Int32.toInt_toInt64, ofInt_toInt32 ha, ofInt_toInt64 ⟨by omega, by omega⟩]) (k p l e s m args below meth c H locs lsA C hWd hS hl)
theorem x_l2i {a : Int} (hd : decode cc pc = .ok (.l2i, 1)) (hp : pc + 1 = q) (k : ExW G R nc ns Z own cc nL ret q ls (vI a :: st) mem) : ExW G R nc ns Z own cc nL ret pc ls (vL a :: st) mem := by
  subst hp
  intro p l e s m args below meth c H locs lsA C hWd hS hl
  obtain ⟨hx, hb, hr, hml, hown, hlk, hts, hK, hE⟩ := id C
  show W _ _ _ _ _ _ _ _ _ _ _ _ _ _ _ (F0 _ _ _ (Value.long (Int64.ofInt a) :: st.map (cv G)))
  exact lv_l2i (v := Int32.ofInt a) hx hb hd Int64.toInt32_ofInt (k p l e s m args below meth c H locs lsA C hWd hS hl)
theorem x_i2b {a : Int} (hd : decode cc pc = .ok (.i2b, 1)) (hp : pc + 1 = q) (k : ExW G R nc ns Z own cc nL ret q ls (vI (i2b a) :: st) mem) : ExW G R nc ns Z own cc nL ret pc ls (vI a :: st) mem := by
  subst hp
  intro p l e s m args below meth c H locs lsA C hWd hS hl
  obtain ⟨hx, hb, hr, hml, hown, hlk, hts, hK, hE⟩ := id C
  show W _ _ _ _ _ _ _ _ _ _ _ _ _ _ _ (F0 _ _ _ (Value.int (Int32.ofInt a) :: st.map (cv G)))
  exact lv_i2b (v := Int32.ofInt (i2b a)) hx hb hd (Int32.ofInt_toInt _).symm (k p l e s m args below meth c H locs lsA C hWd hS hl)
theorem x_i2s {a : Int} (hd : decode cc pc = .ok (.i2s, 1)) (hp : pc + 1 = q) (k : ExW G R nc ns Z own cc nL ret q ls (vI (i2s a) :: st) mem) : ExW G R nc ns Z own cc nL ret pc ls (vI a :: st) mem := by
  subst hp
  intro p l e s m args below meth c H locs lsA C hWd hS hl
  obtain ⟨hx, hb, hr, hml, hown, hlk, hts, hK, hE⟩ := id C
  show W _ _ _ _ _ _ _ _ _ _ _ _ _ _ _ (F0 _ _ _ (Value.int (Int32.ofInt a) :: st.map (cv G)))
  exact lv_i2s (v := Int32.ofInt (i2s a)) hx hb hd (Int32.ofInt_toInt _).symm (k p l e s m args below meth c H locs lsA C hWd hS hl)
theorem x_i2c {a : Int} (hd : decode cc pc = .ok (.i2c, 1)) (hp : pc + 1 = q) (k : ExW G R nc ns Z own cc nL ret q ls (vI (i2c a) :: st) mem) : ExW G R nc ns Z own cc nL ret pc ls (vI a :: st) mem := by
  subst hp
  intro p l e s m args below meth c H locs lsA C hWd hS hl
  obtain ⟨hx, hb, hr, hml, hown, hlk, hts, hK, hE⟩ := id C
  show W _ _ _ _ _ _ _ _ _ _ _ _ _ _ _ (F0 _ _ _ (Value.int (Int32.ofInt a) :: st.map (cv G)))
  exact lv_i2c (v := Int32.ofInt (i2c a)) hx hb hd (Int32.ofInt_toInt _).symm (k p l e s m args below meth c H locs lsA C hWd hS hl)
theorem x_lcmp {a b : Int} (ha : inl a) (hb2 : inl b) (hd : decode cc pc = .ok (.lcmp, 1)) (hp : pc + 1 = q) (k : ExW G R nc ns Z own cc nL ret q ls (vI (lcmp a b) :: st) mem) : ExW G R nc ns Z own cc nL ret pc ls (vL b :: vL a :: st) mem := by
  subst hp
  intro p l e s m args below meth c H locs lsA C hWd hS hl
  obtain ⟨hx, hb, hr, hml, hown, hlk, hts, hK, hE⟩ := id C
  show W _ _ _ _ _ _ _ _ _ _ _ _ _ _ _ (F0 _ _ _ (Value.long (Int64.ofInt b) :: Value.long (Int64.ofInt a) :: st.map (cv G)))
  have k := k p l e s m args below meth c H locs lsA C hWd hS hl
  refine W.lcmp hx hb hd ?_
  rw [lg_lcmp ha hb2]
  exact k
theorem x_dup {v : AV} (hv : v.1 ≠ 1) (hd : decode cc pc = .ok (.dup, 1)) (hp : pc + 1 = q) (k : ExW G R nc ns Z own cc nL ret q ls (v :: v :: st) mem) : ExW G R nc ns Z own cc nL ret pc ls (v :: st) mem := by
  subst hp
  intro p l e s m args below meth c H locs lsA C hWd hS hl
  obtain ⟨hx, hb, hr, hml, hown, hlk, hts, hK, hE⟩ := id C
  show W _ _ _ _ _ _ _ _ _ _ _ _ _ _ _ (F0 _ _ _ (cv G v :: st.map (cv G)))
  exact lv_dup hx hb hd (by rw [cat_cv]; simp [avCat, hv]) (k p l e s m args below meth c H locs lsA C hWd hS hl)
theorem x_pop {v : AV} (hv : v.1 ≠ 1) (hd : decode cc pc = .ok (.pop, 1)) (hp : pc + 1 = q) (k : ExW G R nc ns Z own cc nL ret q ls (st) mem) : ExW G R nc ns Z own cc nL ret pc ls (v :: st) mem := by
  subst hp
  intro p l e s m args below meth c H locs lsA C hWd hS hl
  obtain ⟨hx, hb, hr, hml, hown, hlk, hts, hK, hE⟩ := id C
  show W _ _ _ _ _ _ _ _ _ _ _ _ _ _ _ (F0 _ _ _ (cv G v :: st.map (cv G)))
  exact lv_pop hx hb hd (by rw [cat_cv]; simp [avCat, hv]) (k p l e s m args below meth c H locs lsA C hWd hS hl)
theorem x_dup2 {v w : AV} (hv : v.1 ≠ 1) (hw : w.1 ≠ 1) (hd : decode cc pc = .ok (.dup2, 1)) (hp : pc + 1 = q) (k : ExW G R nc ns Z own cc nL ret q ls (v :: w :: v :: w :: st) mem) : ExW G R nc ns Z own cc nL ret pc ls (v :: w :: st) mem := by
  subst hp
  intro p l e s m args below meth c H locs lsA C hWd hS hl
  obtain ⟨hx, hb, hr, hml, hown, hlk, hts, hK, hE⟩ := id C
  show W _ _ _ _ _ _ _ _ _ _ _ _ _ _ _ (F0 _ _ _ (cv G v :: cv G w :: st.map (cv G)))
  exact lv_dup2_11 hx hb hd (by rw [cat_cv]; simp [avCat, hv]) (by rw [cat_cv]; simp [avCat, hw]) (k p l e s m args below meth c H locs lsA C hWd hS hl)
theorem x_goto {off : Int} {tgt : Nat} (hd : decode cc pc = .ok (.goto off, 3)) (ht : (pc : Int) + off = (tgt : Int)) (k : ExW G R nc ns Z own cc nL ret tgt ls st mem) : ExW G R nc ns Z own cc nL ret pc ls st mem := by
  intro p l e s m args below meth c H locs lsA C hWd hS hl
  obtain ⟨hx, hb, hr, hml, hown, hlk, hts, hK, hE⟩ := id C
  exact lv_goto hx hb hd ht (k p l e s m args below meth c H locs lsA C hWd hS hl)
theorem x_icmp_eq {a b : Int} {off : Int} {tgt : Nat} (hd : decode cc pc = .ok (.if_icmp .eq off, 3)) (ht : (pc : Int) + off = (tgt : Int)) (hp : pc + 3 = q) (ha : inr a) (hb2 : inr b) (kt : a = b → ExW G R nc ns Z own cc nL ret tgt ls st mem) (kf : ¬ (a = b) → ExW G R nc ns Z own cc nL ret q ls st mem) : ExW G R nc ns Z own cc nL ret pc ls (vI b :: vI a :: st) mem := by
  subst hp
  intro p l e s m args below meth c H locs lsA C hWd hS hl
  obtain ⟨hx, hb, hr, hml, hown, hlk, hts, hK, hE⟩ := id C
  show W _ _ _ _ _ _ _ _ _ _ _ _ _ _ _ (F0 _ _ _ (Value.int (Int32.ofInt b) :: Value.int (Int32.ofInt a) :: st.map (cv G)))
  exact lv_icmp_eq hx hb hd ht (fun q => kt ((eq32 ha hb2).mp q) p l e s m args below meth c H locs lsA C hWd hS hl) (fun q => kf (fun z => q ((eq32 ha hb2).mpr z)) p l e s m args below meth c H locs lsA C hWd hS hl)
theorem x_if_eq {a : Int} {off : Int} {tgt : Nat} (hd : decode cc pc = .ok (.ifCond .eq off, 3)) (ht : (pc : Int) + off = (tgt : Int)) (hp : pc + 3 = q) (ha : inr a) (kt : a = 0 → ExW G R nc ns Z own cc nL ret tgt ls st mem) (kf : ¬ (a = 0) → ExW G R nc ns Z own cc nL ret q ls st mem) : ExW G R nc ns Z own cc nL ret pc ls (vI a :: st) mem := by
  subst hp
  intro p l e s m args below meth c H locs lsA C hWd hS hl
  obtain ⟨hx, hb, hr, hml, hown, hlk, hts, hK, hE⟩ := id C
  show W _ _ _ _ _ _ _ _ _ _ _ _ _ _ _ (F0 _ _ _ (Value.int (Int32.ofInt a) :: st.map (cv G)))
  exact lv_if_eq hx hb hd ht (fun q => kt ((eq32z ha).mp q) p l e s m args below meth c H locs lsA C hWd hS hl) (fun q => kf (fun z => q ((eq32z ha).mpr z)) p l e s m args below meth c H locs lsA C hWd hS hl)
theorem x_icmp_ne {a b : Int} {off : Int} {tgt : Nat} (hd : decode cc pc = .ok (.if_icmp .ne off, 3)) (ht : (pc : Int) + off = (tgt : Int)) (hp : pc + 3 = q) (ha : inr a) (hb2 : inr b) (kt : a ≠ b → ExW G R nc ns Z own cc nL ret tgt ls st mem) (kf : ¬ (a ≠ b) → ExW G R nc ns Z own cc nL ret q ls st mem) : ExW G R nc ns Z own cc nL ret pc ls (vI b :: vI a :: st) mem := by
  subst hp
  intro p l e s m args below meth c H locs lsA C hWd hS hl
  obtain ⟨hx, hb, hr, hml, hown, hlk, hts, hK, hE⟩ := id C
  show W _ _ _ _ _ _ _ _ _ _ _ _ _ _ _ (F0 _ _ _ (Value.int (Int32.ofInt b) :: Value.int (Int32.ofInt a) :: st.map (cv G)))
  exact lv_icmp_ne hx hb hd ht (fun q => kt (fun z => q ((eq32 ha hb2).mpr z)) p l e s m args below meth c H locs lsA C hWd hS hl) (fun q => kf (fun z => z ((eq32 ha hb2).mp q)) p l e s m args below meth c H locs lsA C hWd hS hl)
theorem x_if_ne {a : Int} {off : Int} {tgt : Nat} (hd : decode cc pc = .ok (.ifCond .ne off, 3)) (ht : (pc : Int) + off = (tgt : Int)) (hp : pc + 3 = q) (ha : inr a) (kt : a ≠ 0 → ExW G R nc ns Z own cc nL ret tgt ls st mem) (kf : ¬ (a ≠ 0) → ExW G R nc ns Z own cc nL ret q ls st mem) : ExW G R nc ns Z own cc nL ret pc ls (vI a :: st) mem := by
  subst hp
  intro p l e s m args below meth c H locs lsA C hWd hS hl
  obtain ⟨hx, hb, hr, hml, hown, hlk, hts, hK, hE⟩ := id C
  show W _ _ _ _ _ _ _ _ _ _ _ _ _ _ _ (F0 _ _ _ (Value.int (Int32.ofInt a) :: st.map (cv G)))
  exact lv_if_ne hx hb hd ht (fun q => kt (fun z => q ((eq32z ha).mpr z)) p l e s m args below meth c H locs lsA C hWd hS hl) (fun q => kf (fun z => z ((eq32z ha).mp q)) p l e s m args below meth c H locs lsA C hWd hS hl)
theorem x_icmp_lt {a b : Int} {off : Int} {tgt : Nat} (hd : decode cc pc = .ok (.if_icmp .lt off, 3)) (ht : (pc : Int) + off = (tgt : Int)) (hp : pc + 3 = q) (ha : inr a) (hb2 : inr b) (kt : a < b → ExW G R nc ns Z own cc nL ret tgt ls st mem) (kf : ¬ (a < b) → ExW G R nc ns Z own cc nL ret q ls st mem) : ExW G R nc ns Z own cc nL ret pc ls (vI b :: vI a :: st) mem := by
  subst hp
  intro p l e s m args below meth c H locs lsA C hWd hS hl
  obtain ⟨hx, hb, hr, hml, hown, hlk, hts, hK, hE⟩ := id C
  show W _ _ _ _ _ _ _ _ _ _ _ _ _ _ _ (F0 _ _ _ (Value.int (Int32.ofInt b) :: Value.int (Int32.ofInt a) :: st.map (cv G)))
  exact lv_icmp_lt hx hb hd ht (fun q => kt ((lt32 ha hb2).mp q) p l e s m args below meth c H locs lsA C hWd hS hl) (fun q => kf (fun z => q ((lt32 ha hb2).mpr z)) p l e s m args below meth c H locs lsA C hWd hS hl)
theorem x_if_lt {a : Int} {off : Int} {tgt : Nat} (hd : decode cc pc = .ok (.ifCond .lt off, 3)) (ht : (pc : Int) + off = (tgt : Int)) (hp : pc + 3 = q) (ha : inr a) (kt : a < 0 → ExW G R nc ns Z own cc nL ret tgt ls st mem) (kf : ¬ (a < 0) → ExW G R nc ns Z own cc nL ret q ls st mem) : ExW G R nc ns Z own cc nL ret pc ls (vI a :: st) mem := by
  subst hp
  intro p l e s m args below meth c H locs lsA C hWd hS hl
  obtain ⟨hx, hb, hr, hml, hown, hlk, hts, hK, hE⟩ := id C
  show W _ _ _ _ _ _ _ _ _ _ _ _ _ _ _ (F0 _ _ _ (Value.int (Int32.ofInt a) :: st.map (cv G)))
  exact lv_if_lt hx hb hd ht (fun q => kt ((lt32z ha).mp q) p l e s m args below meth c H locs lsA C hWd hS hl) (fun q => kf (fun z => q ((lt32z ha).mpr z)) p l e s m args below meth c H locs lsA C hWd hS hl)
theorem x_icmp_ge {a b : Int} {off : Int} {tgt : Nat} (hd : decode cc pc = .ok (.if_icmp .ge off, 3)) (ht : (pc : Int) + off = (tgt : Int)) (hp : pc + 3 = q) (ha : inr a) (hb2 : inr b) (kt : b ≤ a → ExW G R nc ns Z own cc nL ret tgt ls st mem) (kf : ¬ (b ≤ a) → ExW G R nc ns Z own cc nL ret q ls st mem) : ExW G R nc ns Z own cc nL ret pc ls (vI b :: vI a :: st) mem := by
  subst hp
  intro p l e s m args below meth c H locs lsA C hWd hS hl
  obtain ⟨hx, hb, hr, hml, hown, hlk, hts, hK, hE⟩ := id C
  show W _ _ _ _ _ _ _ _ _ _ _ _ _ _ _ (F0 _ _ _ (Value.int (Int32.ofInt b) :: Value.int (Int32.ofInt a) :: st.map (cv G)))
  exact lv_icmp_ge hx hb hd ht (fun q => kt ((le32 hb2 ha).mp q) p l e s m args below meth c H locs lsA C hWd hS hl) (fun q => kf (fun z => q ((le32 hb2 ha).mpr z)) p l e s m args below meth c H locs lsA C hWd hS hl)
theorem x_if_ge {a : Int} {off : Int} {tgt : Nat} (hd : decode cc pc = .ok (.ifCond .ge off, 3)) (ht : (pc : Int) + off = (tgt : Int)) (hp : pc + 3 = q) (ha : inr a) (kt : 0 ≤ a → ExW G R nc ns Z own cc nL ret tgt ls st mem) (kf : ¬ (0 ≤ a) → ExW G R nc ns Z own cc nL ret q ls st mem) : ExW G R nc ns Z own cc nL ret pc ls (vI a :: st) mem := by
  subst hp
  intro p l e s m args below meth c H locs lsA C hWd hS hl
  obtain ⟨hx, hb, hr, hml, hown, hlk, hts, hK, hE⟩ := id C
  show W _ _ _ _ _ _ _ _ _ _ _ _ _ _ _ (F0 _ _ _ (Value.int (Int32.ofInt a) :: st.map (cv G)))
  exact lv_if_ge hx hb hd ht (fun q => kt ((zle32 ha).mp q) p l e s m args below meth c H locs lsA C hWd hS hl) (fun q => kf (fun z => q ((zle32 ha).mpr z)) p l e s m args below meth c H locs lsA C hWd hS hl)
theorem x_icmp_gt {a b : Int} {off : Int} {tgt : Nat} (hd : decode cc pc = .ok (.if_icmp .gt off, 3)) (ht : (pc : Int) + off = (tgt : Int)) (hp : pc + 3 = q) (ha : inr a) (hb2 : inr b) (kt : b < a → ExW G R nc ns Z own cc nL ret tgt ls st mem) (kf : ¬ (b < a) → ExW G R nc ns Z own cc nL ret q ls st mem) : ExW G R nc ns Z own cc nL ret pc ls (vI b :: vI a :: st) mem := by
  subst hp
  intro p l e s m args below meth c H locs lsA C hWd hS hl
  obtain ⟨hx, hb, hr, hml, hown, hlk, hts, hK, hE⟩ := id C
  show W _ _ _ _ _ _ _ _ _ _ _ _ _ _ _ (F0 _ _ _ (Value.int (Int32.ofInt b) :: Value.int (Int32.ofInt a) :: st.map (cv G)))
  exact lv_icmp_gt hx hb hd ht (fun q => kt ((lt32 hb2 ha).mp q) p l e s m args below meth c H locs lsA C hWd hS hl) (fun q => kf (fun z => q ((lt32 hb2 ha).mpr z)) p l e s m args below meth c H locs lsA C hWd hS hl)
theorem x_if_gt {a : Int} {off : Int} {tgt : Nat} (hd : decode cc pc = .ok (.ifCond .gt off, 3)) (ht : (pc : Int) + off = (tgt : Int)) (hp : pc + 3 = q) (ha : inr a) (kt : 0 < a → ExW G R nc ns Z own cc nL ret tgt ls st mem) (kf : ¬ (0 < a) → ExW G R nc ns Z own cc nL ret q ls st mem) : ExW G R nc ns Z own cc nL ret pc ls (vI a :: st) mem := by
  subst hp
  intro p l e s m args below meth c H locs lsA C hWd hS hl
  obtain ⟨hx, hb, hr, hml, hown, hlk, hts, hK, hE⟩ := id C
  show W _ _ _ _ _ _ _ _ _ _ _ _ _ _ _ (F0 _ _ _ (Value.int (Int32.ofInt a) :: st.map (cv G)))
  exact lv_if_gt hx hb hd ht (fun q => kt ((zlt32 ha).mp q) p l e s m args below meth c H locs lsA C hWd hS hl) (fun q => kf (fun z => q ((zlt32 ha).mpr z)) p l e s m args below meth c H locs lsA C hWd hS hl)
theorem x_icmp_le {a b : Int} {off : Int} {tgt : Nat} (hd : decode cc pc = .ok (.if_icmp .le off, 3)) (ht : (pc : Int) + off = (tgt : Int)) (hp : pc + 3 = q) (ha : inr a) (hb2 : inr b) (kt : a ≤ b → ExW G R nc ns Z own cc nL ret tgt ls st mem) (kf : ¬ (a ≤ b) → ExW G R nc ns Z own cc nL ret q ls st mem) : ExW G R nc ns Z own cc nL ret pc ls (vI b :: vI a :: st) mem := by
  subst hp
  intro p l e s m args below meth c H locs lsA C hWd hS hl
  obtain ⟨hx, hb, hr, hml, hown, hlk, hts, hK, hE⟩ := id C
  show W _ _ _ _ _ _ _ _ _ _ _ _ _ _ _ (F0 _ _ _ (Value.int (Int32.ofInt b) :: Value.int (Int32.ofInt a) :: st.map (cv G)))
  exact lv_icmp_le hx hb hd ht (fun q => kt ((le32 ha hb2).mp q) p l e s m args below meth c H locs lsA C hWd hS hl) (fun q => kf (fun z => q ((le32 ha hb2).mpr z)) p l e s m args below meth c H locs lsA C hWd hS hl)
theorem x_if_le {a : Int} {off : Int} {tgt : Nat} (hd : decode cc pc = .ok (.ifCond .le off, 3)) (ht : (pc : Int) + off = (tgt : Int)) (hp : pc + 3 = q) (ha : inr a) (kt : a ≤ 0 → ExW G R nc ns Z own cc nL ret tgt ls st mem) (kf : ¬ (a ≤ 0) → ExW G R nc ns Z own cc nL ret q ls st mem) : ExW G R nc ns Z own cc nL ret pc ls (vI a :: st) mem := by
  subst hp
  intro p l e s m args below meth c H locs lsA C hWd hS hl
  obtain ⟨hx, hb, hr, hml, hown, hlk, hts, hK, hE⟩ := id C
  show W _ _ _ _ _ _ _ _ _ _ _ _ _ _ _ (F0 _ _ _ (Value.int (Int32.ofInt a) :: st.map (cv G)))
  exact lv_if_le hx hb hd ht (fun q => kt ((le32z ha).mp q) p l e s m args below meth c H locs lsA C hWd hS hl) (fun q => kf (fun z => q ((le32z ha).mpr z)) p l e s m args below meth c H locs lsA C hWd hS hl)
theorem x_tswOut {dflt lo hi : Int} {offs : Array Int} {len : Nat} {a : Int} {tgt : Nat} (hd : decode cc pc = .ok (.tableswitch dflt lo hi offs, len)) (ha : inr a) (h : a < lo ∨ hi < a) (ht : (pc : Int) + dflt = (tgt : Int)) (k : ExW G R nc ns Z own cc nL ret tgt ls st mem) : ExW G R nc ns Z own cc nL ret pc ls (vI a :: st) mem := by
  intro p l e s m args below meth c H locs lsA C hWd hS hl
  obtain ⟨hx, hb, hr, hml, hown, hlk, hts, hK, hE⟩ := id C
  show W _ _ _ _ _ _ _ _ _ _ _ _ _ _ _ (F0 _ _ _ (Value.int (Int32.ofInt a) :: st.map (cv G)))
  exact lv_tableOut hx hb hd (by rw [ofInt_toInt32 ha]; exact h) ht (k p l e s m args below meth c H locs lsA C hWd hS hl)
theorem x_tswIn {dflt lo hi : Int} {offs : Array Int} {len : Nat} {a z : Int} {off : Int} {tgt : Nat} (hd : decode cc pc = .ok (.tableswitch dflt lo hi offs, len)) (ha : a = z) (hz : inr z) (h1 : ¬ z < lo) (h2 : ¬ hi < z) (ho : offs[(z - lo).toNat]? = some off) (ht : (pc : Int) + off = (tgt : Int)) (k : ExW G R nc ns Z own cc nL ret tgt ls st mem) : ExW G R nc ns Z own cc nL ret pc ls (vI a :: st) mem := by
  subst ha
  intro p l e s m args below meth c H locs lsA C hWd hS hl
  obtain ⟨hx, hb, hr, hml, hown, hlk, hts, hK, hE⟩ := id C
  show W _ _ _ _ _ _ _ _ _ _ _ _ _ _ _ (F0 _ _ _ (Value.int (Int32.ofInt a) :: st.map (cv G)))
  exact lv_tableIn hx hb hd (by rw [ofInt_toInt32 hz]; exact h1) (by rw [ofInt_toInt32 hz]; exact h2) (by rw [ofInt_toInt32 hz]; exact ho) ht (k p l e s m args below meth c H locs lsA C hWd hS hl)
theorem x_lsw {dflt : Int} {ps : Array (Int × Int)} {len : Nat} {a off : Int} {tgt : Nat} (hd : decode cc pc = .ok (.lookupswitch dflt ps, len)) (ha : inr a) (hp : (ps.toList.zip (ps.toList.drop 1)).all (fun (a, next) => a.1 < next.1) = true) (ho : Op.lookupswitch.offset ps.toList dflt a = off) (ht : (pc : Int) + off = (tgt : Int)) (k : ExW G R nc ns Z own cc nL ret tgt ls st mem) : ExW G R nc ns Z own cc nL ret pc ls (vI a :: st) mem := by
  intro p l e s m args below meth c H locs lsA C hWd hS hl
  obtain ⟨hx, hb, hr, hml, hown, hlk, hts, hK, hE⟩ := id C
  show W _ _ _ _ _ _ _ _ _ _ _ _ _ _ _ (F0 _ _ _ (Value.int (Int32.ofInt a) :: st.map (cv G)))
  exact lv_lookup hx hb hd hp (by rw [ofInt_toInt32 ha]; exact ho) ht (k p l e s m args below meth c H locs lsA C hWd hS hl)
end XR
