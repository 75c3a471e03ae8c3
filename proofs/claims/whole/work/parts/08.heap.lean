/-! ===== the rules of cells ===== -/
theorem cell_obj {G : GT} {mem : Mem} {k ci : Nat} {fl : List (Nat × Nat)} (hs : shp k = .inr (ci, fl)) : (wsOf G mem)[k]? = some (gB G + k, .inr (ci, fl.zipIdx.map (fval G mem k))) := by
  rw [ws_get (shp_lt hs (by simp))]
  unfold cellOf
  rw [hs]
theorem cell_arr {G : GT} {mem : Mem} {k a n : Nat} (hs : shp k = .inl (a, n)) (ha : a ≠ 9) : (wsOf G mem)[k]? = some (gB G + k, .inl (gC G a, n, arrF G mem k a)) := by
  rw [ws_get (shp_lt hs (by simp [ha]))]
  unfold cellOf
  rw [hs]
theorem fld_at {G : GT} {mem : Mem} {k j : Nat} {fl : List (Nat × Nat)} {x : Nat × Nat} (h : fl[j]? = some x) : (fl.zipIdx.map (fval G mem k))[j]? = some (fval G mem k (x, j)) := by
  rw [List.getElem?_map, List.getElem?_zipIdx, h]
  simp
theorem W_get {G : GT} {own : String} {cc : ByteArray} {nL : Nat} {ret : Option FieldType} {p : Program} {l : Launch} {e : Env} {R : Room} {s : State} {m : MethodId} {args : Array Value} {below : List Frame} {meth : Method} {c : Code} {H : Heap} {locs : List Loc} {nc ns : Nat} {Q : State → Prop} {pc k ci j idx : Nat} {fl : List (Nat × Nat)} {x : Nat × Nat} {mem : Mem} {ls : Array Slot} {rest : List Value}
    (C : Cx own cc nL ret G p s m args meth c) (hWd : World G mem H) (fa : FA own idx ci j) (hs : shp k = .inr (ci, fl)) (hf : fl[j]? = some x) (hd : decode cc pc = .ok (.getfield idx, 3))
    (kk : W p l e R s m args below meth c H locs nc ns Q (F0 m (pc + 3) ls (fval G mem k (x, j) :: rest))) : W p l e R s m args below meth c H locs nc ns Q (F0 m pc ls (.ref (gB G + k) :: rest)) := by
  obtain ⟨hx, hb, hr, hml, hown, hlk, hts, hK, hE⟩ := C
  obtain ⟨Cn, T, N, hc, hj, hin, hl | ⟨host, hl⟩⟩ := fa
  · exact va_get hx hb hts hin hown hK hWd.1 k (cell_obj hs) hc j hj (hts _ hl) (fun _ h => h) (fld_at hf) hd kk
  · exact va_getN hx hb hts hin hown hK hWd.1 k (cell_obj hs) hc j hj (NW_use hl hE.1) (fun _ h => h) (fld_at hf) hd kk
theorem fset {G : GT} {mem : Mem} {k j : Nat} {fl : List (Nat × Nat)} {x : Nat × Nat} {z : Int} (h : fl[j]? = some x) : (fl.zipIdx.map (fval G mem k)).set j (fval G (upM mem k j z) k (x, j)) = fl.zipIdx.map (fval G (upM mem k j z) k) := by
  apply List.ext_getElem?
  intro i
  have hjl : j < fl.length := (List.getElem?_eq_some_iff.mp h).1
  by_cases hij : i = j
  · subst hij
    rw [List.getElem?_set_self (by simpa using hjl), fld_at h]
  · rw [List.getElem?_set_ne (Ne.symm hij), List.getElem?_map, List.getElem?_map, List.getElem?_zipIdx]
    cases hfi : fl[i]? with
    | none => rfl
    | some y =>
      have hne : ¬ ((i : Int) = (j : Int)) := by omega
      simp only [Option.map_some, fval, Nat.zero_add]
      rw [upM_ne (by simp [hne])]
theorem W_put {G : GT} {own : String} {cc : ByteArray} {nL : Nat} {ret : Option FieldType} {p : Program} {l : Launch} {e : Env} {R : Room} {s : State} {m : MethodId} {args : Array Value} {below : List Frame} {meth : Method} {c : Code} {H : Heap} {locs : List Loc} {nc ns : Nat} {Q : State → Prop} {pc k ci j idx : Nat} {fl : List (Nat × Nat)} {x : Nat × Nat} {mem : Mem} {ls : Array Slot} {rest : List Value} {ty : FieldType} {z : Int}
    (C : Cx own cc nL ret G p s m args meth c) (hWd : World G mem H) (hS : va_S (fun q => gB G ≤ q) s.heap H locs) (fp : FP own idx ci j ty) (hs : shp k = .inr (ci, fl)) (hf : fl[j]? = some x) (hok : MemOK (upM mem k j z)) (hn : narrow ty (fval G (upM mem k j z) k (x, j)) = fval G (upM mem k j z) k (x, j)) (hfit : fits ty (fval G (upM mem k j z) k (x, j)) = true) (hd : decode cc pc = .ok (.putfield idx, 3))
    (kk : ∀ H1 locs1, World G (upM mem k j z) H1 → va_S (fun q => gB G ≤ q) s.heap H1 locs1 → W p l e R s m args below meth c H1 locs1 nc ns Q (F0 m (pc + 3) ls rest)) : W p l e R s m args below meth c H locs nc ns Q (F0 m pc ls (fval G (upM mem k j z) k (x, j) :: .ref (gB G + k) :: rest)) := by
  obtain ⟨hx, hb, hr, hml, hown, hlk, hts, hK, hE⟩ := C
  obtain ⟨Cn, T, N, ty0, hc, hj, hin, hlq, hfin, hty, hnm, ety⟩ := fp
  have hk := shp_lt hs (by simp)
  have hjl : j < (fl.zipIdx.map (fval G mem k)).length := by simpa using (List.getElem?_eq_some_iff.mp hf).1
  have hpd : parseFieldDescriptor (T j).2.2.1 = some ty := by rw [hty j hj, ety]
  have key : ∀ H1 locs1, va_P (gD G) vwCl ((wsOf G mem).set k (gB G + k, .inr (ci, (fl.zipIdx.map (fval G mem k)).set j (fval G (upM mem k j z) k (x, j))))) H1 → va_D (fun q => gB G ≤ q) ((wsOf G mem).set k (gB G + k, .inr (ci, (fl.zipIdx.map (fval G mem k)).set j (fval G (upM mem k j z) k (x, j))))) → va_S (fun q => gB G ≤ q) s.heap H1 locs1 → W p l e R s m args below meth c H1 locs1 nc ns Q (F0 m (pc + 3) ls rest) := by
    intro H1 locs1 h1 _ h3
    refine kk H1 locs1 ⟨?_, hok⟩ h3
    rw [fset hf, ws_set (mem' := upM mem k j z) hk (fun a ha b => upM_ne (by simp [ha])) (by unfold cellOf; rw [hs])] at h1
    exact h1
  rcases hlq with hl | ⟨host, hl⟩
  · exact va_put hx hb hts hin ty0 hty hnm hown hK hWd.1 ws_D hS k (cell_obj hs) hc j hj (hts _ hl) (fun _ h => h) hfin hpd hn hfit hjl hd key
  · exact va_putN hx hb hts hin ty0 hty hnm hown hK hWd.1 ws_D hS k (cell_obj hs) hc j hj (NW_use hl hE.1) (fun _ h => h) hfin hpd hn hfit hjl hd key
theorem fits_int (v : Int32) : fits .int (.int v) = true := rfl
theorem fits_long (v : Int64) : fits .long (.long v) = true := rfl
theorem bool_nf {z : Int} (h : z = 0 ∨ z = 1) : narrow .boolean (.int (Int32.ofInt z)) = .int (Int32.ofInt z) ∧ fits .boolean (.int (Int32.ofInt z)) = true := by
  rcases h with rfl | rfl <;> exact ⟨by decide, by decide⟩
section XH
variable {G : GT} {R : Room} {nc ns : Nat} {Z : GT → State → Array Value → List Frame → State → Prop} {own : String} {cc : ByteArray} {nL : Nat} {ret : Option FieldType} {pc q : Nat} {ls : List (Nat × AV)} {st : List AV} {mem : Mem}
theorem ok_fi {mem : Mem} (h : MemOK mem) {c0 ci j r : Nat} {fl : List (Nat × Nat)} (hs : shp c0 = .inr (ci, fl)) (hf : fl[j]? = some (0, r)) : inr (mem c0 j) := by
  refine (h c0 j).2 ?_
  unfold isLg
  rw [hs]
  show ((fl.getD (j : Int).toNat (0, 0)).1 == 1) = false
  rw [Int.toNat_natCast, List.getD_eq_getElem?_getD, hf]
  rfl
theorem ok_ai {mem : Mem} (h : MemOK mem) {c0 a n : Nat} (hs : shp c0 = .inl (a, n)) (ha : a ≠ 1) (z : Int) : inr (mem c0 z) := by
  refine (h c0 z).2 ?_
  unfold isLg
  rw [hs]
  show (a == 1) = false
  simp [ha]
theorem ok_up {mem : Mem} (h : MemOK mem) {k : Nat} {j v : Int} (h1 : inl v) (h2 : isLg k j = false → inr v) : MemOK (upM mem k j v) := by
  intro a b
  unfold upM
  by_cases hab : a = k ∧ b = j
  · rw [if_pos hab]
    rw [hab.1, hab.2]
    exact ⟨h1, h2⟩
  · rw [if_neg hab]
    exact h a b
theorem inl_of {z : Int} (h : inr z) : inl z := ⟨by omega, by omega⟩
def sx (z : Int) : Int := (Int32.ofInt z).toInt
theorem sx_inr (z : Int) : inr (sx z) := by
  have h1 := Int32.toInt_lt (Int32.ofInt z)
  have h2 := Int32.le_toInt (Int32.ofInt z)
  unfold sx
  constructor <;> omega
theorem sx_of {z : Int} (h : inr z) : sx z = z := ofInt_toInt32 h
theorem x_geti {idx c0 ci j r : Nat} {fl : List (Nat × Nat)} (hd : decode cc pc = .ok (.getfield idx, 3)) (hp : pc + 3 = q) (fa : FA own idx ci j) (hs : shp c0 = .inr (ci, fl)) (hf : fl[j]? = some (0, r)) {ji : Int} (hji : (j : Int) = ji) (k : inr (mem c0 ji) → ExW G R nc ns Z own cc nL ret q ls (vI (mem c0 ji) :: st) mem) : ExW G R nc ns Z own cc nL ret pc ls (vR c0 :: st) mem := by
  subst hp
  subst hji
  intro p l e s m args below meth c H locs lsA C hWd hS hl
  obtain ⟨hx, hb, hr, hml, hown, hlk, hts, hK, hE⟩ := id C
  exact W_get C hWd fa hs hf hd (k (ok_fi hWd.2 hs hf) p l e s m args below meth c H locs lsA C hWd hS hl)
theorem x_getl {idx c0 ci j r : Nat} {fl : List (Nat × Nat)} (hd : decode cc pc = .ok (.getfield idx, 3)) (hp : pc + 3 = q) (fa : FA own idx ci j) (hs : shp c0 = .inr (ci, fl)) (hf : fl[j]? = some (1, r)) {ji : Int} (hji : (j : Int) = ji) (k : inl (mem c0 ji) → ExW G R nc ns Z own cc nL ret q ls (vL (mem c0 ji) :: st) mem) : ExW G R nc ns Z own cc nL ret pc ls (vR c0 :: st) mem := by
  subst hp
  subst hji
  intro p l e s m args below meth c H locs lsA C hWd hS hl
  obtain ⟨hx, hb, hr, hml, hown, hlk, hts, hK, hE⟩ := id C
  exact W_get C hWd fa hs hf hd (k (hWd.2 c0 j).1 p l e s m args below meth c H locs lsA C hWd hS hl)
theorem x_getr {idx c0 ci j r : Nat} {fl : List (Nat × Nat)} (hd : decode cc pc = .ok (.getfield idx, 3)) (hp : pc + 3 = q) (fa : FA own idx ci j) (hs : shp c0 = .inr (ci, fl)) (hf : fl[j]? = some (2, r)) (k : ExW G R nc ns Z own cc nL ret q ls (vR r :: st) mem) : ExW G R nc ns Z own cc nL ret pc ls (vR c0 :: st) mem := by
  subst hp
  intro p l e s m args below meth c H locs lsA C hWd hS hl
  obtain ⟨hx, hb, hr, hml, hown, hlk, hts, hK, hE⟩ := id C
  exact W_get C hWd fa hs hf hd (k p l e s m args below meth c H locs lsA C hWd hS hl)
theorem x_puti {idx c0 ci j r : Nat} {fl : List (Nat × Nat)} {z : Int} (hd : decode cc pc = .ok (.putfield idx, 3)) (hp : pc + 3 = q) (fp : FP own idx ci j .int) (hs : shp c0 = .inr (ci, fl)) (hf : fl[j]? = some (0, r)) {ji : Int} (hji : (j : Int) = ji) (hz : inr z) (k : ∀ m9 : Mem, m9 = upM mem c0 ji z → ExW G R nc ns Z own cc nL ret q ls st m9) : ExW G R nc ns Z own cc nL ret pc ls (vI z :: vR c0 :: st) mem := by
  subst hp
  subst hji
  intro p l e s m args below meth c H locs lsA C hWd hS hl
  obtain ⟨hx, hb, hr, hml, hown, hlk, hts, hK, hE⟩ := id C
  have ev : fval G (upM mem c0 j z) c0 ((0, r), j) = cv G (vI z) := by
    show Value.int (Int32.ofInt (upM mem c0 j z c0 j)) = _
    rw [upM_same]
    rfl
  show W _ _ _ _ _ _ _ _ _ _ _ _ _ _ _ (F0 _ _ _ (cv G (vI z) :: .ref (gB G + c0) :: st.map (cv G)))
  rw [← ev]
  refine W_put C hWd hS fp hs hf (ok_up hWd.2 (inl_of hz) (fun _ => hz)) ?_ ?_ hd (fun H1 locs1 hWd1 hS1 => k _ rfl p l e s m args below meth c H1 locs1 lsA C hWd1 hS1 hl)
  · rw [ev]; exact rfl
  · rw [ev]; exact rfl
theorem x_putz {idx c0 ci j r : Nat} {fl : List (Nat × Nat)} {z : Int} (hd : decode cc pc = .ok (.putfield idx, 3)) (hp : pc + 3 = q) (fp : FP own idx ci j .boolean) (hs : shp c0 = .inr (ci, fl)) (hf : fl[j]? = some (0, r)) {ji : Int} (hji : (j : Int) = ji) (hz : z = 0 ∨ z = 1) (k : ∀ m9 : Mem, m9 = upM mem c0 ji z → ExW G R nc ns Z own cc nL ret q ls st m9) : ExW G R nc ns Z own cc nL ret pc ls (vI z :: vR c0 :: st) mem := by
  subst hp
  subst hji
  intro p l e s m args below meth c H locs lsA C hWd hS hl
  obtain ⟨hx, hb, hr, hml, hown, hlk, hts, hK, hE⟩ := id C
  have ev : fval G (upM mem c0 j z) c0 ((0, r), j) = cv G (vI z) := by
    show Value.int (Int32.ofInt (upM mem c0 j z c0 j)) = _
    rw [upM_same]
    rfl
  show W _ _ _ _ _ _ _ _ _ _ _ _ _ _ _ (F0 _ _ _ (cv G (vI z) :: .ref (gB G + c0) :: st.map (cv G)))
  rw [← ev]
  refine W_put C hWd hS fp hs hf (ok_up hWd.2 ⟨by omega, by omega⟩ (fun _ => ⟨by omega, by omega⟩)) ?_ ?_ hd (fun H1 locs1 hWd1 hS1 => k _ rfl p l e s m args below meth c H1 locs1 lsA C hWd1 hS1 hl)
  · rw [ev]; exact (bool_nf hz).1
  · rw [ev]; exact (bool_nf hz).2
theorem x_putl {idx c0 ci j r : Nat} {fl : List (Nat × Nat)} {z : Int} (hd : decode cc pc = .ok (.putfield idx, 3)) (hp : pc + 3 = q) (fp : FP own idx ci j .long) (hs : shp c0 = .inr (ci, fl)) (hf : fl[j]? = some (1, r)) {ji : Int} (hji : (j : Int) = ji) (hz : inl z) (k : ∀ m9 : Mem, m9 = upM mem c0 ji z → ExW G R nc ns Z own cc nL ret q ls st m9) : ExW G R nc ns Z own cc nL ret pc ls (vL z :: vR c0 :: st) mem := by
  subst hp
  subst hji
  intro p l e s m args below meth c H locs lsA C hWd hS hl
  obtain ⟨hx, hb, hr, hml, hown, hlk, hts, hK, hE⟩ := id C
  have ev : fval G (upM mem c0 j z) c0 ((1, r), j) = cv G (vL z) := by
    show Value.long (Int64.ofInt (upM mem c0 j z c0 j)) = _
    rw [upM_same]
    rfl
  show W _ _ _ _ _ _ _ _ _ _ _ _ _ _ _ (F0 _ _ _ (cv G (vL z) :: .ref (gB G + c0) :: st.map (cv G)))
  rw [← ev]
  refine W_put C hWd hS fp hs hf (ok_up hWd.2 hz (fun h9 => absurd h9 (by unfold isLg; rw [hs]; show ¬ ((fl.getD (j : Int).toNat (0, 0)).1 == 1) = false; rw [Int.toNat_natCast, List.getD_eq_getElem?_getD, hf]; simp))) ?_ ?_ hd (fun H1 locs1 hWd1 hS1 => k _ rfl p l e s m args below meth c H1 locs1 lsA C hWd1 hS1 hl)
  · rw [ev]; exact rfl
  · rw [ev]; exact rfl
theorem t32_inr (x : Int32) : inr x.toInt := by
  have h1 := Int32.toInt_lt x
  have h2 := Int32.le_toInt x
  constructor <;> omega
theorem t64_inl (x : Int64) : inl x.toInt := by
  have h1 := Int64.toInt_lt x
  have h2 := Int64.le_toInt x
  constructor <;> omega
theorem iand_inr (a b : Int) : inr (iand a b) := t32_inr _
theorem ior_inr (a b : Int) : inr (ior a b) := t32_inr _
theorem ixor_inr (a b : Int) : inr (ixor a b) := t32_inr _
theorem ishl_inr (a b : Int) : inr (ishl a b) := t32_inr _
theorem ishr_inr (a b : Int) : inr (ishr a b) := t32_inr _
theorem iushr_inr (a b : Int) : inr (iushr a b) := t32_inr _
theorem i2b_inr (a : Int) : inr (i2b a) := t32_inr _
theorem i2s_inr (a : Int) : inr (i2s a) := t32_inr _
theorem i2c_inr (a : Int) : inr (i2c a) := t32_inr _
theorem land_inl (a b : Int) : inl (land a b) := t64_inl _
theorem lor_inl (a b : Int) : inl (lor a b) := t64_inl _
theorem lxor_inl (a b : Int) : inl (lxor a b) := t64_inl _
theorem lshl_inl (a b : Int) : inl (lshl a b) := t64_inl _
theorem lshr_inl (a b : Int) : inl (lshr a b) := t64_inl _
theorem lushr_inl (a b : Int) : inl (lushr a b) := t64_inl _
theorem lcmp_inr (a b : Int) : inr (lcmp a b) := by unfold lcmp; split <;> (try split) <;> decide
def arrOk (x : Sh) : Bool := match x with
  | .inl (_, n) => decide (n < 2147483648)
  | _ => true
theorem arr_len {k a n : Nat} (hs : shp k = .inl (a, n)) : n < 2147483648 := by
  have h : SHL.all arrOk = true := by decide +kernel
  rcases Nat.lt_or_ge k NC with hk | hk
  · have h1 : SHL[k]? = some (.inl (a, n)) := by
      unfold shp at hs
      rw [List.getD_eq_getElem?_getD] at hs
      cases h2 : SHL[k]? with
      | none => rw [List.getElem?_eq_none_iff, SHL_len] at h2; omega
      | some y => rw [h2] at hs; exact congrArg some hs
    have h2 := List.all_eq_true.mp h _ (List.mem_of_getElem? h1)
    simpa [arrOk] using h2
  · unfold shp at hs
    rw [List.getD_eq_getElem?_getD, List.getElem?_eq_none (by rw [SHL_len]; exact hk)] at hs
    cases hs
    decide
theorem clampc {z : Int} {n : Nat} (h0 : 0 ≤ z) (h1 : z < (n : Int)) (hn : n < 2147483648) : ((Int32.ofInt z).toNatClampNeg : Int) = z := by
  rw [clamp32 ⟨by omega, by omega⟩]
  omega
theorem x_iald {c0 n : Nat} {z : Int} (hd : decode cc pc = .ok (.iaload, 1)) (hp : pc + 1 = q) (hs : shp c0 = .inl (0, n)) (h0 : 0 ≤ z) (h1 : z < (n : Int)) (k : inr (mem c0 z) → ExW G R nc ns Z own cc nL ret q ls (vI (mem c0 z) :: st) mem) : ExW G R nc ns Z own cc nL ret pc ls (vI z :: vR c0 :: st) mem := by
  subst hp
  intro p l e s m args below meth c H locs lsA C hWd hS hl
  obtain ⟨hx, hb, hr, hml, hown, hlk, hts, hK, hE⟩ := id C
  show W _ _ _ _ _ _ _ _ _ _ _ _ _ _ _ (F0 _ _ _ (Value.int (Int32.ofInt z) :: .ref (gB G + c0) :: st.map (cv G)))
  have kk := k (ok_ai hWd.2 hs (by decide) z) p l e s m args below meth c H locs lsA C hWd hS hl
  refine va_iald hx hb hK hWd.1 c0 0 (cell_arr hs (by decide)) rfl (vin32 h0 h1 (arr_len hs)) hd ?_
  show W _ _ _ _ _ _ _ _ _ _ _ _ _ _ _ (F0 _ _ _ (Value.int (Int32.ofInt (mem c0 ((Int32.ofInt z).toNatClampNeg : Int))) :: st.map (cv G)))
  rw [clampc h0 h1 (arr_len hs)]
  exact kk
theorem x_lald {c0 n : Nat} {z : Int} (hd : decode cc pc = .ok (.laload, 1)) (hp : pc + 1 = q) (hs : shp c0 = .inl (1, n)) (h0 : 0 ≤ z) (h1 : z < (n : Int)) (k : inl (mem c0 z) → ExW G R nc ns Z own cc nL ret q ls (vL (mem c0 z) :: st) mem) : ExW G R nc ns Z own cc nL ret pc ls (vI z :: vR c0 :: st) mem := by
  subst hp
  intro p l e s m args below meth c H locs lsA C hWd hS hl
  obtain ⟨hx, hb, hr, hml, hown, hlk, hts, hK, hE⟩ := id C
  show W _ _ _ _ _ _ _ _ _ _ _ _ _ _ _ (F0 _ _ _ (Value.int (Int32.ofInt z) :: .ref (gB G + c0) :: st.map (cv G)))
  have kk := k (hWd.2 c0 z).1 p l e s m args below meth c H locs lsA C hWd hS hl
  refine va_lald hx hb hK hWd.1 c0 1 (cell_arr hs (by decide)) rfl (vin32 h0 h1 (arr_len hs)) hd ?_
  show W _ _ _ _ _ _ _ _ _ _ _ _ _ _ _ (F0 _ _ _ (Value.long (Int64.ofInt (mem c0 ((Int32.ofInt z).toNatClampNeg : Int))) :: st.map (cv G)))
  rw [clampc h0 h1 (arr_len hs)]
  exact kk
theorem x_bald {c0 n : Nat} {z : Int} (hd : decode cc pc = .ok (.baload, 1)) (hp : pc + 1 = q) (hs : shp c0 = .inl (2, n)) (h0 : 0 ≤ z) (h1 : z < (n : Int)) (k : inr (mem c0 z) → ExW G R nc ns Z own cc nL ret q ls (vI (mem c0 z) :: st) mem) : ExW G R nc ns Z own cc nL ret pc ls (vI z :: vR c0 :: st) mem := by
  subst hp
  intro p l e s m args below meth c H locs lsA C hWd hS hl
  obtain ⟨hx, hb, hr, hml, hown, hlk, hts, hK, hE⟩ := id C
  show W _ _ _ _ _ _ _ _ _ _ _ _ _ _ _ (F0 _ _ _ (Value.int (Int32.ofInt z) :: .ref (gB G + c0) :: st.map (cv G)))
  have kk := k (ok_ai hWd.2 hs (by decide) z) p l e s m args below meth c H locs lsA C hWd hS hl
  refine va_bald hx hb hK hWd.1 c0 2 (cell_arr hs (by decide)) rfl (vin32 h0 h1 (arr_len hs)) hd ?_
  show W _ _ _ _ _ _ _ _ _ _ _ _ _ _ _ (F0 _ _ _ (Value.int (Int32.ofInt (mem c0 ((Int32.ofInt z).toNatClampNeg : Int))) :: st.map (cv G)))
  rw [clampc h0 h1 (arr_len hs)]
  exact kk
theorem aset {mem : Mem} {c0 : Nat} {z v : Int} (h0 : 0 ≤ z) (j : Nat) : upM mem c0 z v c0 j = if j = z.toNat then v else mem c0 j := by
  unfold upM
  by_cases h : j = z.toNat
  · rw [if_pos h, if_pos ⟨rfl, by omega⟩]
  · rw [if_neg h, if_neg (fun q => h (by omega))]
theorem x_iast {c0 n : Nat} {z v : Int} (hd : decode cc pc = .ok (.iastore, 1)) (hp : pc + 1 = q) (hs : shp c0 = .inl (0, n)) (h0 : 0 ≤ z) (h1 : z < (n : Int)) (hv : inr v) (k : ∀ m9 : Mem, m9 = upM mem c0 z v → ExW G R nc ns Z own cc nL ret q ls st m9) : ExW G R nc ns Z own cc nL ret pc ls (vI v :: vI z :: vR c0 :: st) mem := by
  subst hp
  intro p l e s m args below meth c H locs lsA C hWd hS hl
  obtain ⟨hx, hb, hr, hml, hown, hlk, hts, hK, hE⟩ := id C
  show W _ _ _ _ _ _ _ _ _ _ _ _ _ _ _ (F0 _ _ _ (Value.int (Int32.ofInt v) :: Value.int (Int32.ofInt z) :: .ref (gB G + c0) :: st.map (cv G)))
  refine va_iast hx hb hK hWd.1 ws_D hS c0 0 (cell_arr hs (by decide)) rfl (vin32 h0 h1 (arr_len hs)) hd (fun H1 locs1 hP1 _ hS1 => ?_)
  refine k _ rfl p l e s m args below meth c H1 locs1 lsA C ⟨?_, ok_up hWd.2 (inl_of hv) (fun _ => hv)⟩ hS1 hl
  rw [ws_set (mem' := upM mem c0 z v) (shp_lt hs (by simp)) (fun a ha b => upM_ne (by simp [ha]))] at hP1
  · exact hP1
  · unfold cellOf
    rw [hs]
    show (Sum.inl (gC G 0, n, _) : va_E) = (Sum.inl (gC G 0, n, .inl (fun j => Int32.ofInt (upM mem c0 z v c0 j))) : va_E)
    congr 4
    funext j
    rw [aset h0, clamp32 ⟨by omega, by have := arr_len hs; omega⟩]
    unfold upd
    split <;> rfl
theorem x_last {c0 n : Nat} {z v : Int} (hd : decode cc pc = .ok (.lastore, 1)) (hp : pc + 1 = q) (hs : shp c0 = .inl (1, n)) (h0 : 0 ≤ z) (h1 : z < (n : Int)) (hv : inl v) (k : ∀ m9 : Mem, m9 = upM mem c0 z v → ExW G R nc ns Z own cc nL ret q ls st m9) : ExW G R nc ns Z own cc nL ret pc ls (vL v :: vI z :: vR c0 :: st) mem := by
  subst hp
  intro p l e s m args below meth c H locs lsA C hWd hS hl
  obtain ⟨hx, hb, hr, hml, hown, hlk, hts, hK, hE⟩ := id C
  show W _ _ _ _ _ _ _ _ _ _ _ _ _ _ _ (F0 _ _ _ (Value.long (Int64.ofInt v) :: Value.int (Int32.ofInt z) :: .ref (gB G + c0) :: st.map (cv G)))
  refine va_last hx hb hK hWd.1 ws_D hS c0 1 (cell_arr hs (by decide)) rfl (vin32 h0 h1 (arr_len hs)) hd (fun H1 locs1 hP1 _ hS1 => ?_)
  refine k _ rfl p l e s m args below meth c H1 locs1 lsA C ⟨?_, ok_up hWd.2 hv (fun h9 => absurd h9 (by unfold isLg; rw [hs]; simp))⟩ hS1 hl
  rw [ws_set (mem' := upM mem c0 z v) (shp_lt hs (by simp)) (fun a ha b => upM_ne (by simp [ha]))] at hP1
  · exact hP1
  · unfold cellOf
    rw [hs]
    show (Sum.inl (gC G 1, n, _) : va_E) = (Sum.inl (gC G 1, n, .inr (.inl (fun j => Int64.ofInt (upM mem c0 z v c0 j)))) : va_E)
    congr 5
    funext j
    rw [aset h0, clamp32 ⟨by omega, by have := arr_len hs; omega⟩]
    unfold vp_updL
    split <;> rfl
theorem x_iastX {c0 n : Nat} {z v : Int} (hd : decode cc pc = .ok (.iastore, 1)) (hp : pc + 1 = q) (hs : shp c0 = .inl (0, n)) (h0 : 0 ≤ z) (h1 : z < (n : Int)) (k : ∀ m9 : Mem, m9 = upM mem c0 z (sx v) → ExW G R nc ns Z own cc nL ret q ls st m9) : ExW G R nc ns Z own cc nL ret pc ls (vI v :: vI z :: vR c0 :: st) mem := by
  have h := x_iast (G := G) (R := R) (nc := nc) (ns := ns) (Z := Z) (own := own) (nL := nL) (ret := ret) (ls := ls) (st := st) (mem := mem) (v := sx v) hd hp hs h0 h1 (sx_inr v) k
  intro p l e s m args below meth c H locs lsA C hWd hS hl
  obtain ⟨hx, hb, hr, hml, hown, hlk, hts, hK, hE⟩ := id C
  have e9 : cv G (vI (sx v)) = cv G (vI v) := by
    show Value.int (Int32.ofInt (sx v)) = Value.int (Int32.ofInt v)
    unfold sx
    rw [Int32.ofInt_toInt]
  have h9 := h p l e s m args below meth c H locs lsA C hWd hS hl
  show W _ _ _ _ _ _ _ _ _ _ _ _ _ _ _ (F0 _ _ _ (cv G (vI v) :: cv G (vI z) :: cv G (vR c0) :: st.map (cv G)))
  rw [← e9]
  exact h9
theorem x_bast {c0 n : Nat} {z v : Int} (hd : decode cc pc = .ok (.bastore, 1)) (hp : pc + 1 = q) (hs : shp c0 = .inl (2, n)) (h0 : 0 ≤ z) (h1 : z < (n : Int)) (k : ∀ m9 : Mem, m9 = upM mem c0 z (i2b v) → ExW G R nc ns Z own cc nL ret q ls st m9) : ExW G R nc ns Z own cc nL ret pc ls (vI v :: vI z :: vR c0 :: st) mem := by
  subst hp
  intro p l e s m args below meth c H locs lsA C hWd hS hl
  obtain ⟨hx, hb, hr, hml, hown, hlk, hts, hK, hE⟩ := id C
  show W _ _ _ _ _ _ _ _ _ _ _ _ _ _ _ (F0 _ _ _ (Value.int (Int32.ofInt v) :: Value.int (Int32.ofInt z) :: .ref (gB G + c0) :: st.map (cv G)))
  refine va_bast hx hb hK hWd.1 ws_D hS c0 2 (cell_arr hs (by decide)) rfl (vin32 h0 h1 (arr_len hs)) hd (fun H1 locs1 hP1 _ hS1 => ?_)
  refine k _ rfl p l e s m args below meth c H1 locs1 lsA C ⟨?_, ok_up hWd.2 (inl_of (i2b_inr v)) (fun _ => i2b_inr v)⟩ hS1 hl
  rw [ws_set (mem' := upM mem c0 z (i2b v)) (shp_lt hs (by simp)) (fun a ha b => upM_ne (by simp [ha]))] at hP1
  · exact hP1
  · unfold cellOf
    rw [hs]
    show (Sum.inl (gC G 2, n, _) : va_E) = (Sum.inl (gC G 2, n, .inl (fun j => Int32.ofInt (upM mem c0 z (i2b v) c0 j))) : va_E)
    congr 4
    funext j
    rw [aset h0, clamp32 ⟨by omega, by have := arr_len hs; omega⟩]
    unfold upd
    split
    · rw [vp_nar_byte]; exact (Int32.ofInt_toInt _).symm
    · rfl
theorem x_alen {c0 a n : Nat} {t : Int} (hd : decode cc pc = .ok (.arraylength, 1)) (hp : pc + 1 = q) (hs : shp c0 = .inl (a, n)) (ha : a < 5) (ht : (n : Int) = t) (k : ExW G R nc ns Z own cc nL ret q ls (vI t :: st) mem) : ExW G R nc ns Z own cc nL ret pc ls (vR c0 :: st) mem := by
  subst hp
  subst ht
  intro p l e s m args below meth c H locs lsA C hWd hS hl
  obtain ⟨hx, hb, hr, hml, hown, hlk, hts, hK, hE⟩ := id C
  show W _ _ _ _ _ _ _ _ _ _ _ _ _ _ _ (F0 _ _ _ (.ref (gB G + c0) :: st.map (cv G)))
  obtain ⟨ty, hty⟩ : ∃ ty, (tysOf G)[a]? = some (gC G a, ty) := by
    have : a = 0 ∨ a = 1 ∨ a = 2 ∨ a = 3 ∨ a = 4 := by omega
    rcases this with rfl | rfl | rfl | rfl | rfl <;> exact ⟨_, rfl⟩
  exact va_alen hx hb hK hWd.1 c0 a (cell_arr hs (by omega)) hty (v := Int32.ofInt n) Int32.ofInt_eq_ofNat.symm hd (k p l e s m args below meth c H locs lsA C hWd hS hl)
theorem x_aldS {c0 n : Nat} {z : Int} (hd : decode cc pc = .ok (.aaload, 1)) (hp : pc + 1 = q) (hs : shp c0 = .inl (3, n)) (h0 : 0 ≤ z) (h1 : z < (n : Int)) (k : ExW G R nc ns Z own cc nL ret q ls (vR (63 + 2 * z.toNat) :: st) mem) : ExW G R nc ns Z own cc nL ret pc ls (vI z :: vR c0 :: st) mem := by
  subst hp
  intro p l e s m args below meth c H locs lsA C hWd hS hl
  obtain ⟨hx, hb, hr, hml, hown, hlk, hts, hK, hE⟩ := id C
  show W _ _ _ _ _ _ _ _ _ _ _ _ _ _ _ (F0 _ _ _ (Value.int (Int32.ofInt z) :: .ref (gB G + c0) :: st.map (cv G)))
  have kk := k p l e s m args below meth c H locs lsA C hWd hS hl
  refine va_aldq hx hb hK hWd.1 c0 3 (cell_arr hs (by decide)) rfl (vin32 h0 h1 (arr_len hs)) hd ?_
  show W _ _ _ _ _ _ _ _ _ _ _ _ _ _ _ (F0 _ _ _ (Value.ref (gB G + (63 + 2 * (Int32.ofInt z).toNatClampNeg)) :: st.map (cv G)))
  rw [clamp32 ⟨by omega, by have := arr_len hs; omega⟩]
  exact kk
theorem x_aldK {c0 n : Nat} {z : Int} (hd : decode cc pc = .ok (.aaload, 1)) (hp : pc + 1 = q) (hs : shp c0 = .inl (4, n)) (h0 : 0 ≤ z) (h1 : z < (n : Int)) (k : ExW G R nc ns Z own cc nL ret q ls (vS (strK z.toNat) :: st) mem) : ExW G R nc ns Z own cc nL ret pc ls (vI z :: vR c0 :: st) mem := by
  subst hp
  intro p l e s m args below meth c H locs lsA C hWd hS hl
  obtain ⟨hx, hb, hr, hml, hown, hlk, hts, hK, hE⟩ := id C
  show W _ _ _ _ _ _ _ _ _ _ _ _ _ _ _ (F0 _ _ _ (Value.int (Int32.ofInt z) :: .ref (gB G + c0) :: st.map (cv G)))
  have kk := k p l e s m args below meth c H locs lsA C hWd hS hl
  refine va_aldq hx hb hK hWd.1 c0 4 (cell_arr hs (by decide)) rfl (vin32 h0 h1 (arr_len hs)) hd ?_
  show W _ _ _ _ _ _ _ _ _ _ _ _ _ _ _ (F0 _ _ _ (Value.ref (gK G (strK (Int32.ofInt z).toNatClampNeg)) :: st.map (cv G)))
  rw [clamp32 ⟨by omega, by have := arr_len hs; omega⟩]
  exact kk
theorem W_gets {own : String} {cc : ByteArray} {nL : Nat} {ret : Option FieldType} {p : Program} {l : Launch} {e : Env} {R : Room} {s : State} {m : MethodId} {args : Array Value} {below : List Frame} {meth : Method} {c : Code} {H : Heap} {locs : List Loc} {nc ns : Nat} {Q : State → Prop} {pc idx : Nat} {ls : Array Slot} {rest : List Value} {Cn n d : String} {v : Value}
    (C : Cx own cc nL ret G p s m args meth c) (hS : va_S (fun q => gB G ≤ q) s.heap H locs) (gs : GS own idx Cn n d) (hZ : va_Z Cn n d v (fun q => gB G ≤ q) s s.heap) (hd : decode cc pc = .ok (.getstatic idx, 3)) (kk : W p l e R s m args below meth c H locs nc ns Q (F0 m (pc + 3) ls (v :: rest))) : W p l e R s m args below meth c H locs nc ns Q (F0 m pc ls rest) := by
  obtain ⟨hx, hb, hr, hml, hown, hlk, hts, hK, hE⟩ := C
  rcases gs with hl | ⟨host, hl⟩
  · exact va_gets hx hb hZ hS hown (hts _ hl) (fun _ h => h) hd kk
  · exact va_getsN hx hb hZ hS hown (NW_use hl hE.1) (fun _ h => h) hd kk
theorem x_getT {idx : Nat} (t : Nat) (ht : t < 2) (hd : decode cc pc = .ok (.getstatic idx, 3)) (hp : pc + 3 = q) (gs : GS own idx "PoliteHall" (tblN t) "[I") (k : ExW G R nc ns Z own cc nL ret q ls (vT t :: st) mem) : ExW G R nc ns Z own cc nL ret pc ls st mem := by
  subst hp
  intro p l e s m args below meth c H locs lsA C hWd hS hl
  obtain ⟨hx, hb, hr, hml, hown, hlk, hts, hK, hE⟩ := id C
  exact W_gets C hS gs (hE.2.2.1 t ht).1 hd (k p l e s m args below meth c H locs lsA C hWd hS hl)
theorem x_getCS {idx : Nat} (hd : decode cc pc = .ok (.getstatic idx, 3)) (hp : pc + 3 = q) (gs : GS own idx "java/lang/String" "COMPACT_STRINGS" "Z") (k : ExW G R nc ns Z own cc nL ret q ls (vI 1 :: st) mem) : ExW G R nc ns Z own cc nL ret pc ls st mem := by
  subst hp
  intro p l e s m args below meth c H locs lsA C hWd hS hl
  obtain ⟨hx, hb, hr, hml, hown, hlk, hts, hK, hE⟩ := id C
  exact W_gets C hS gs hE.2.2.2.1 hd (k p l e s m args below meth c H locs lsA C hWd hS hl)
theorem x_getFm {idx : Nat} (hd : decode cc pc = .ok (.getstatic idx, 3)) (hp : pc + 3 = q) (gs : GS own idx "jdk/internal/util/Preconditions" "SIOOBE_FORMATTER" "Ljava/util/function/BiFunction;") (k : ExW G R nc ns Z own cc nL ret q ls (vF :: st) mem) : ExW G R nc ns Z own cc nL ret pc ls st mem := by
  subst hp
  intro p l e s m args below meth c H locs lsA C hWd hS hl
  obtain ⟨hx, hb, hr, hml, hown, hlk, hts, hK, hE⟩ := id C
  exact W_gets C hS gs hE.2.2.2.2.1 hd (k p l e s m args below meth c H locs lsA C hWd hS hl)
theorem getD_int {L : List Int} {z : Int} {n : Nat} (h : z.toNat = n) : L.getD n 0 = L.getD z.toNat 0 := by rw [h]
theorem x_tald {t : Nat} {z : Int} (ht : t < 2) (hd : decode cc pc = .ok (.iaload, 1)) (hp : pc + 1 = q) (h0 : 0 ≤ z) (h1 : z < ((tbl t).length : Int)) (k : ExW G R nc ns Z own cc nL ret q ls (vI ((tbl t).getD z.toNat 0) :: st) mem) : ExW G R nc ns Z own cc nL ret pc ls (vI z :: vT t :: st) mem := by
  subst hp
  intro p l e s m args below meth c H locs lsA C hWd hS hl
  obtain ⟨hx, hb, hr, hml, hown, hlk, hts, hK, hE⟩ := id C
  show W _ _ _ _ _ _ _ _ _ _ _ _ _ _ _ (F0 _ _ _ (Value.int (Int32.ofInt z) :: .ref (gTb G t) :: st.map (cv G)))
  have hlen : (tbl t).length < 2147483648 := by
    have : t = 0 ∨ t = 1 := by omega
    rcases this with rfl | rfl <;> decide
  exact va_ti hx hb (hE.2.2.1 t ht).2 hS (vin32 h0 h1 hlen) (by rw [clamp32 ⟨by omega, by omega⟩]; rfl) hd (k p l e s m args below meth c H locs lsA C hWd hS hl)
theorem x_tlen {t : Nat} {v : Int} (ht : t < 2) (hd : decode cc pc = .ok (.arraylength, 1)) (hp : pc + 1 = q) (hv : ((tbl t).length : Int) = v) (k : ExW G R nc ns Z own cc nL ret q ls (vI v :: st) mem) : ExW G R nc ns Z own cc nL ret pc ls (vT t :: st) mem := by
  subst hp
  subst hv
  intro p l e s m args below meth c H locs lsA C hWd hS hl
  obtain ⟨hx, hb, hr, hml, hown, hlk, hts, hK, hE⟩ := id C
  show W _ _ _ _ _ _ _ _ _ _ _ _ _ _ _ (F0 _ _ _ (.ref (gTb G t) :: st.map (cv G)))
  exact va_tlen hx hb (hE.2.2.1 t ht).2 hS (v := Int32.ofInt (tbl t).length) Int32.ofInt_eq_ofNat.symm hd (k p l e s m args below meth c H locs lsA C hWd hS hl)
/-! literals -/
theorem x_strVal {idx t : Nat} (ht : t < 25) (hd : decode cc pc = .ok (.getfield idx, 3)) (hp : pc + 3 = q) (hl9 : Cond.fieldLink own idx "java/lang/String" "value" "[B" ∈ CW) (k : ExW G R nc ns Z own cc nL ret q ls (vV t :: st) mem) : ExW G R nc ns Z own cc nL ret pc ls (vS t :: st) mem := by
  subst hp
  intro p l e s m args below meth c H locs lsA C hWd hS hl
  obtain ⟨hx, hb, hr, hml, hown, hlk, hts, hK, hE⟩ := id C
  show W _ _ _ _ _ _ _ _ _ _ _ _ _ _ _ (F0 _ _ _ (.ref (gK G t) :: st.map (cv G)))
  exact vk_getf hx hb (hE.2.1 t ht).2.2.2.1 hS hown (hts _ hl9) (fun _ h => h) hd (k p l e s m args below meth c H locs lsA C hWd hS hl)
theorem x_strCoder {idx t : Nat} (ht : t < 25) (hd : decode cc pc = .ok (.getfield idx, 3)) (hp : pc + 3 = q) (hl9 : Cond.fieldLink own idx "java/lang/String" "coder" "B" ∈ CW) (k : ExW G R nc ns Z own cc nL ret q ls (vI 0 :: st) mem) : ExW G R nc ns Z own cc nL ret pc ls (vS t :: st) mem := by
  subst hp
  intro p l e s m args below meth c H locs lsA C hWd hS hl
  obtain ⟨hx, hb, hr, hml, hown, hlk, hts, hK, hE⟩ := id C
  show W _ _ _ _ _ _ _ _ _ _ _ _ _ _ _ (F0 _ _ _ (.ref (gK G t) :: st.map (cv G)))
  exact vk_getf hx hb (hE.2.1 t ht).2.2.1 hS hown (hts _ hl9) (fun _ h => h) hd (k p l e s m args below meth c H locs lsA C hWd hS hl)
theorem lit_len {t : Nat} (ht : t < 25) : (litB t).length < 2147483648 := by
  have h : ∀ t, t < 25 → (litB t).length < 2147483648 := by decide +kernel
  exact h t ht
theorem x_strLen {t : Nat} (ht : t < 25) (hd : decode cc pc = .ok (.arraylength, 1)) (hp : pc + 1 = q) (k : ExW G R nc ns Z own cc nL ret q ls (vI (litB t).length :: st) mem) : ExW G R nc ns Z own cc nL ret pc ls (vV t :: st) mem := by
  subst hp
  intro p l e s m args below meth c H locs lsA C hWd hS hl
  obtain ⟨hx, hb, hr, hml, hown, hlk, hts, hK, hE⟩ := id C
  show W _ _ _ _ _ _ _ _ _ _ _ _ _ _ _ (F0 _ _ _ (.ref (gV G t) :: st.map (cv G)))
  exact va_tlen hx hb (hE.2.1 t ht).2.2.2.2 hS (v := Int32.ofInt (litB t).length) Int32.ofInt_eq_ofNat.symm hd (k p l e s m args below meth c H locs lsA C hWd hS hl)
theorem x_strByte {t : Nat} {z : Int} (ht : t < 25) (hd : decode cc pc = .ok (.baload, 1)) (hp : pc + 1 = q) (h0 : 0 ≤ z) (h1 : z < ((litB t).length : Int)) (k : ExW G R nc ns Z own cc nL ret q ls (vI ((litB t).getD z.toNat 0) :: st) mem) : ExW G R nc ns Z own cc nL ret pc ls (vI z :: vV t :: st) mem := by
  subst hp
  intro p l e s m args below meth c H locs lsA C hWd hS hl
  obtain ⟨hx, hb, hr, hml, hown, hlk, hts, hK, hE⟩ := id C
  show W _ _ _ _ _ _ _ _ _ _ _ _ _ _ _ (F0 _ _ _ (Value.int (Int32.ofInt z) :: .ref (gV G t) :: st.map (cv G)))
  have := lit_len ht
  exact va_tb hx hb (hE.2.1 t ht).2.2.2.2 hS (vin32 h0 h1 this) (by rw [clamp32 ⟨by omega, by omega⟩]; rfl) hd (k p l e s m args below meth c H locs lsA C hWd hS hl)
/-! the script -/
theorem x_sld {z : Int} (hd : decode cc pc = .ok (.iaload, 1)) (hp : pc + 1 = q) (h0 : 0 ≤ z) (h1 : z < ((gX G).2.1 : Int)) (k : ExW G R nc ns Z own cc nL ret q ls (vI ((gX G).2.2 z.toNat).toInt :: st) mem) : ExW G R nc ns Z own cc nL ret pc ls (vI z :: vX :: st) mem := by
  subst hp
  intro p l e s m args below meth c H locs lsA C hWd hS hl
  obtain ⟨hx, hb, hr, hml, hown, hlk, hts, hK, hE⟩ := id C
  show W _ _ _ _ _ _ _ _ _ _ _ _ _ _ _ (F0 _ _ _ (Value.int (Int32.ofInt z) :: .ref (gX G).1 :: st.map (cv G)))
  obtain ⟨e1, e2, e3, e4⟩ := hE.2.2.2.2.2
  have kk := k p l e s m args below meth c H locs lsA C hWd hS hl
  refine va_sld hx hb e1 e2 (by omega) hS (vin32 h0 h1 (by omega)) hd ?_
  have kk : W p l e R s m args below meth c H locs nc ns (Z G s args below) (F0 m (pc + 1) lsA (Value.int (Int32.ofInt ((gX G).2.2 z.toNat).toInt) :: st.map (cv G))) := kk
  rw [Int32.ofInt_toInt] at kk
  rw [clamp32 ⟨by omega, by omega⟩]
  exact kk
theorem x_slen (hd : decode cc pc = .ok (.arraylength, 1)) (hp : pc + 1 = q) (k : ExW G R nc ns Z own cc nL ret q ls (vI (gX G).2.1 :: st) mem) : ExW G R nc ns Z own cc nL ret pc ls (vX :: st) mem := by
  subst hp
  intro p l e s m args below meth c H locs lsA C hWd hS hl
  obtain ⟨hx, hb, hr, hml, hown, hlk, hts, hK, hE⟩ := id C
  show W _ _ _ _ _ _ _ _ _ _ _ _ _ _ _ (F0 _ _ _ (.ref (gX G).1 :: st.map (cv G)))
  obtain ⟨e1, e2, e3, e4⟩ := hE.2.2.2.2.2
  have kk := k p l e s m args below meth c H locs lsA C hWd hS hl
  have kk : W p l e R s m args below meth c H locs nc ns (Z G s args below) (F0 m (pc + 1) lsA (Value.int (Int32.ofInt ((gX G).2.1 : Int)) :: st.map (cv G))) := kk
  rw [Int32.ofInt_eq_ofNat] at kk
  exact va_slen hx hb e1 e2 (by omega) hS hd kk
theorem x_putiX {idx c0 ci j r : Nat} {fl : List (Nat × Nat)} {z : Int} (hd : decode cc pc = .ok (.putfield idx, 3)) (hp : pc + 3 = q) (fp : FP own idx ci j .int) (hs : shp c0 = .inr (ci, fl)) (hf : fl[j]? = some (0, r)) {ji : Int} (hji : (j : Int) = ji) (k : ∀ m9 : Mem, m9 = upM mem c0 ji (sx z) → ExW G R nc ns Z own cc nL ret q ls st m9) : ExW G R nc ns Z own cc nL ret pc ls (vI z :: vR c0 :: st) mem := by
  have h := x_puti (G := G) (R := R) (nc := nc) (ns := ns) (Z := Z) (own := own) (nL := nL) (ret := ret) (ls := ls) (st := st) (mem := mem) (z := sx z) hd hp fp hs hf hji (sx_inr z) k
  intro p l e s m args below meth c H locs lsA C hWd hS hl
  obtain ⟨hx, hb, hr, hml, hown, hlk, hts, hK, hE⟩ := id C
  have e9 : cv G (vI (sx z)) = cv G (vI z) := by
    show Value.int (Int32.ofInt (sx z)) = Value.int (Int32.ofInt z)
    unfold sx
    rw [Int32.ofInt_toInt]
  have h9 := h p l e s m args below meth c H locs lsA C hWd hS hl
  show W _ _ _ _ _ _ _ _ _ _ _ _ _ _ _ (F0 _ _ _ (cv G (vI z) :: cv G (vR c0) :: st.map (cv G)))
  rw [← e9]
  exact h9
end XH
