/-! ===== what holds at the start ===== -/
def posL : List Nat := [625, 690, 691, 692, 693, 694, 695, 710, 716, 723, 724, 726, 1211, 1212, 1213, 1214, 1215, 1216, 1409, 1424, 1429, 1430, 1431, 1432, 1433]
theorem lit_at : ∀ i, i < 25 → lw_tbl[posL.getD i 0]? = some (Cond.stringRef (lit i).1 (lit i).2.1 (lit i).2.2.1) := by decide +kernel
abbrev litT (i : Nat) : Term := Term.string (lit i).1 (lit i).2.1
abbrev litV (i : Nat) : Term := Term.field (litT i) "java/lang/String" "value" "[B"
def litW (i : Nat) : List Cond := [Cond.exactly (litT i) "java/lang/String", Cond.eq (.field (litT i) "java/lang/String" "coder" "B") (.int 0), Cond.arrayOf (litV i) .byte, Cond.eq (.length (litV i)) (.int (Int32.ofNat (litB i).length))] ++ (List.range (litB i).length).map (fun j => Cond.eq (.elem (litV i) (.int (Int32.ofNat j))) (.int (((litB i).map Int32.ofInt).getD j 0)))
abbrev gvn : Cond := Jvm.Cond.and given_1 narrow_1
theorem in_tk {w : Cond} {a n : Nat} (h : w ∈ ((flatC gvn).drop a).take n) : w ∈ flatC gvn := List.mem_of_mem_drop (List.mem_of_mem_take h)
theorem litW_0 : litW 0 = ((flatC gvn).drop 45).take 8 := by decide +kernel
theorem litW_1 : litW 1 = ((flatC gvn).drop 53).take 10 := by decide +kernel
theorem litW_2 : litW 2 = ((flatC gvn).drop 64).take 12 := by decide +kernel
theorem litW_3 : litW 3 = ((flatC gvn).drop 78).take 9 := by decide +kernel
theorem litW_4 : litW 4 = ((flatC gvn).drop 90).take 8 := by decide +kernel
theorem litW_5 : litW 5 = ((flatC gvn).drop 102).take 8 := by decide +kernel
theorem litW_6 : litW 6 = ((flatC gvn).drop 115).take 7 := by decide +kernel
theorem litW_7 : litW 7 = ((flatC gvn).drop 128).take 7 := by decide +kernel
theorem litW_8 : litW 8 = ((flatC gvn).drop 142).take 7 := by decide +kernel
theorem litW_9 : litW 9 = ((flatC gvn).drop 157).take 9 := by decide +kernel
theorem litW_10 : litW 10 = ((flatC gvn).drop 175).take 10 := by decide +kernel
theorem litW_11 : litW 11 = ((flatC gvn).drop 195).take 8 := by decide +kernel
theorem litW_12 : litW 12 = ((flatC gvn).drop 214).take 7 := by decide +kernel
theorem litW_13 : litW 13 = ((flatC gvn).drop 233).take 10 := by decide +kernel
theorem litW_14 : litW 14 = ((flatC gvn).drop 256).take 12 := by decide +kernel
theorem litW_15 : litW 15 = ((flatC gvn).drop 282).take 9 := by decide +kernel
theorem litW_16 : litW 16 = ((flatC gvn).drop 306).take 8 := by decide +kernel
theorem litW_17 : litW 17 = ((flatC gvn).drop 330).take 8 := by decide +kernel
theorem litW_18 : litW 18 = ((flatC gvn).drop 355).take 8 := by decide +kernel
theorem litW_19 : litW 19 = ((flatC gvn).drop 381).take 7 := by decide +kernel
theorem litW_20 : litW 20 = ((flatC gvn).drop 407).take 7 := by decide +kernel
theorem litW_21 : litW 21 = ((flatC gvn).drop 434).take 9 := by decide +kernel
theorem litW_22 : litW 22 = ((flatC gvn).drop 464).take 10 := by decide +kernel
theorem litW_23 : litW 23 = ((flatC gvn).drop 496).take 8 := by decide +kernel
theorem litW_24 : litW 24 = ((flatC gvn).drop 527).take 5 := by decide +kernel
theorem litW_in : ∀ i, i < 25 → ∀ w ∈ litW i, w ∈ flatC gvn := (lt_s (lt_s (lt_s (lt_s (lt_s (lt_s (lt_s (lt_s (lt_s (lt_s (lt_s (lt_s (lt_s (lt_s (lt_s (lt_s (lt_s (lt_s (lt_s (lt_s (lt_s (lt_s (lt_s (lt_s (lt_s lt_0 (fun w hw => in_tk (litW_0 ▸ hw))) (fun w hw => in_tk (litW_1 ▸ hw))) (fun w hw => in_tk (litW_2 ▸ hw))) (fun w hw => in_tk (litW_3 ▸ hw))) (fun w hw => in_tk (litW_4 ▸ hw))) (fun w hw => in_tk (litW_5 ▸ hw))) (fun w hw => in_tk (litW_6 ▸ hw))) (fun w hw => in_tk (litW_7 ▸ hw))) (fun w hw => in_tk (litW_8 ▸ hw))) (fun w hw => in_tk (litW_9 ▸ hw))) (fun w hw => in_tk (litW_10 ▸ hw))) (fun w hw => in_tk (litW_11 ▸ hw))) (fun w hw => in_tk (litW_12 ▸ hw))) (fun w hw => in_tk (litW_13 ▸ hw))) (fun w hw => in_tk (litW_14 ▸ hw))) (fun w hw => in_tk (litW_15 ▸ hw))) (fun w hw => in_tk (litW_16 ▸ hw))) (fun w hw => in_tk (litW_17 ▸ hw))) (fun w hw => in_tk (litW_18 ▸ hw))) (fun w hw => in_tk (litW_19 ▸ hw))) (fun w hw => in_tk (litW_20 ▸ hw))) (fun w hw => in_tk (litW_21 ▸ hw))) (fun w hw => in_tk (litW_22 ▸ hw))) (fun w hw => in_tk (litW_23 ▸ hw))) (fun w hw => in_tk (litW_24 ▸ hw)))
abbrev tblT (i : Nat) : Term := Term.static "PoliteHall" (tblN i) "[I"
def tblW (i : Nat) : List Cond := [Cond.arrayOf (tblT i) .int, Cond.eq (.length (tblT i)) (.int (Int32.ofNat (tbl i).length))] ++ (List.range (tbl i).length).map (fun j => Cond.eq (.elem (tblT i) (.int (Int32.ofNat j))) (.int (((tbl i).map Int32.ofInt).getD j 0)))
theorem tblW_0 : tblW 0 = ((flatC gvn).drop 5).take 8 := by decide +kernel
theorem tblW_1 : tblW 1 = ((flatC gvn).drop 19).take 26 := by decide +kernel
theorem tblW_in : ∀ i, i < 2 → ∀ w ∈ tblW i, w ∈ flatC gvn := (lt_s (lt_s lt_0 (fun w hw => in_tk (tblW_0 ▸ hw))) (fun w hw => in_tk (tblW_1 ▸ hw)))
theorem getD_mapI (l : List Int) (j : Nat) : (l.map Int32.ofInt).getD j 0 = Int32.ofInt (l.getD j 0) := by
  rw [List.getD_eq_getElem?_getD, List.getD_eq_getElem?_getD, List.getElem?_map]
  cases l[j]? <;> rfl
section ST
variable {s : State} {A0 : Array Value} {A : Nat → Prop}
theorem lit_start (hgv : gvn.before A0 s = true) (hA : ∀ a : Nat, a < s.heap.size → ¬ A a) {i : Nat} (hi : i < 25) : ∃ q : Nat × Nat, (litT i).eval A0 s none [] s = some (.ref q.1) ∧ va_O "java/lang/String" q.1 A s s.heap ∧ va_OF "java/lang/String" "coder" "B" (.int 0) q.1 A s s.heap ∧ va_OF "java/lang/String" "value" "[B" (.ref q.2) q.1 A s s.heap ∧ va_T .byte q.2 (litB i).length (fun j => .int (Int32.ofInt ((litB i).getD j 0))) A s s.heap := by
  have hw : ∀ w ∈ litW i, w.before A0 s = true := fun w h => flat_of_before _ hgv w (litW_in i hi w h)
  have hlen : (litB i).length < 2 ^ 31 := by
    have : ∀ i, i < 25 → (litB i).length < 2 ^ 31 := by decide +kernel
    exact this i hi
  have hel : ∀ j : Nat, j < (litB i).length → (Cond.eq (.elem (litV i) (.int (Int32.ofNat j))) (.int (((litB i).map Int32.ofInt).getD j 0))).before A0 s = true := fun j hj => hw _ (List.mem_append_right _ (List.mem_map.mpr ⟨j, List.mem_range.mpr hj, rfl⟩))
  have hex := hw _ (List.mem_append_left _ (List.mem_of_getElem? (i := 0) rfl))
  obtain ⟨a, c, cA, kA, q1, q2, q3, q4, q5, q6, -⟩ := Cond.exactly_spec (args := A0) (first := s) (o := none) (s := s) (idx := []) hex
  obtain ⟨t, ht, hT⟩ := va_Tof (f := fun j => .int (((litB i).map Int32.ofInt).getD j 0)) (A := A) hlen (hw _ (List.mem_append_left _ (List.mem_of_getElem? (i := 2) rfl))) (va_eqt (hw _ (List.mem_append_left _ (List.mem_of_getElem? (i := 3) rfl)))) (fun j hj => va_eqt (hel j hj)) hA
  refine ⟨(a, t), q1, ⟨cA, q3, q5, by rw [q6]; exact q2, hA a (Array.getElem?_eq_some_iff.mp q3).1⟩, vk_OFof q1 (va_eqt (hw _ (List.mem_append_left _ (List.mem_of_getElem? (i := 1) rfl)))) hA, vk_OFof q1 ht hA, ?_⟩
  have e9 : (fun j : Nat => Value.int (((litB i).map Int32.ofInt).getD j 0)) = fun j : Nat => Value.int (Int32.ofInt ((litB i).getD j 0)) := by
    funext j
    rw [getD_mapI]
  rw [e9] at hT
  exact hT
theorem tbl_start (hts : ∀ w ∈ lw_tbl, w.before A0 s = true) (hgv : gvn.before A0 s = true) (hA : ∀ a : Nat, a < s.heap.size → ¬ A a) {i : Nat} (hi : i < 2) : ∃ t : Nat, va_Z "PoliteHall" (tblN i) "[I" (.ref t) A s s.heap ∧ va_T .int t (tbl i).length (fun j => .int (Int32.ofInt ((tbl i).getD j 0))) A s s.heap := by
  have hw : ∀ w ∈ tblW i, w.before A0 s = true := fun w h => flat_of_before _ hgv w (tblW_in i hi w h)
  have hlen : (tbl i).length < 2 ^ 31 := by
    have : ∀ i, i < 2 → (tbl i).length < 2 ^ 31 := by decide +kernel
    exact this i hi
  have hel : ∀ j : Nat, j < (tbl i).length → (Cond.eq (.elem (tblT i) (.int (Int32.ofNat j))) (.int (((tbl i).map Int32.ofInt).getD j 0))).before A0 s = true := fun j hj => hw _ (List.mem_append_right _ (List.mem_map.mpr ⟨j, List.mem_range.mpr hj, rfl⟩))
  obtain ⟨t, ht, hT⟩ := va_Tof (f := fun j => .int (((tbl i).map Int32.ofInt).getD j 0)) (A := A) hlen (hw _ (List.mem_append_left _ (List.mem_of_getElem? (i := 0) rfl))) (va_eqt (hw _ (List.mem_append_left _ (List.mem_of_getElem? (i := 1) rfl)))) (fun j hj => va_eqt (hel j hj)) hA
  have e9 : (fun j : Nat => Value.int (((tbl i).map Int32.ofInt).getD j 0)) = fun j : Nat => Value.int (Int32.ofInt ((tbl i).getD j 0)) := by
    funext j
    rw [getD_mapI]
  rw [e9] at hT
  have hls : lw_tbl[([517, 1103] : List Nat).getD i 0]? = some (Cond.laysStatic "PoliteHall" (tblN i) "[I") := by
    have : ∀ i, i < 2 → lw_tbl[([517, 1103] : List Nat).getD i 0]? = some (Cond.laysStatic "PoliteHall" (tblN i) "[I") := by decide +kernel
    exact this i hi
  exact ⟨t, va_Zof (hts _ (List.mem_of_getElem? hls)) (hts _ (List.mem_filter.mp ini_X10).1) ht hA, hT⟩
theorem arr_start {ty : FieldType} (hp : ∀ cA : ClassId, s.vm.findClass ("[" ++ ty.toString) = some cA → va_RA s cA ty) (h : (Cond.arrayClass ty).before A0 s = true) : ∃ cA : ClassId, ArrOfT s cA ty ∧ va_RA s cA ty := by
  obtain ⟨c, k, comp, h1, h2, h3⟩ := Cond.arrayClass_spec h
  exact ⟨c, fun n z => ⟨fun k h => (by cases h), k, h2, comp, h3⟩, hp c h1⟩
theorem over_start {Cn : String} (h : (Cond.arrayOver (.object Cn)).before A0 s = true) : ∃ cA : ClassId, ArrOfT s cA (.object Cn) ∧ va_RA s cA (.object Cn) := by
  obtain ⟨comp, c, k, h1, h2, h3, h4, h5⟩ := Cond.arrayOver_spec h
  exact ⟨c, fun n z => ⟨fun k h => (by cases h), k, h3, comp, h4⟩, k, comp, h3, h4, h1, h5⟩
theorem cls_start (hcw : ∀ w ∈ CW, w.before A0 s = true) (c : Nat) : ∃ q : ClassId × (Nat → Nat), ∀ r, vwCl[c]? = some r → u_Kn s r.1 r.2.1 r.2.2 q.1 q.2 := by
  match c with
  | 0 =>
    obtain ⟨cC, iS, hk⟩ := u_known hcw inCX0 (hcw _ inst_X0)
    exact ⟨(cC, iS), fun r hr => by cases hr; exact hk⟩
  | 1 =>
    obtain ⟨cC, iS, hk⟩ := u_known hcw inCX1 (hcw _ inst_X1)
    exact ⟨(cC, iS), fun r hr => by cases hr; exact hk⟩
  | 2 =>
    obtain ⟨cC, iS, hk⟩ := u_known hcw inCX2 (hcw _ inst_X2)
    exact ⟨(cC, iS), fun r hr => by cases hr; exact hk⟩
  | 3 =>
    obtain ⟨cC, iS, hk⟩ := u_known hcw inCX4 (hcw _ inst_X4)
    exact ⟨(cC, iS), fun r hr => by cases hr; exact hk⟩
  | 4 =>
    obtain ⟨cC, iS, hk⟩ := u_known hcw inCX5 (hcw _ inst_X5)
    exact ⟨(cC, iS), fun r hr => by cases hr; exact hk⟩
  | 5 =>
    obtain ⟨cC, iS, hk⟩ := u_known hcw inCX6 (hcw _ inst_X6)
    exact ⟨(cC, iS), fun r hr => by cases hr; exact hk⟩
  | 6 =>
    obtain ⟨cC, iS, hk⟩ := u_known hcw inCX7 (hcw _ inst_X7)
    exact ⟨(cC, iS), fun r hr => by cases hr; exact hk⟩
  | 7 =>
    obtain ⟨cC, iS, hk⟩ := u_known hcw inCX8 (hcw _ inst_X8)
    exact ⟨(cC, iS), fun r hr => by cases hr; exact hk⟩
  | 8 =>
    obtain ⟨cC, iS, hk⟩ := u_known hcw inCX9 (hcw _ inst_X9)
    exact ⟨(cC, iS), fun r hr => by cases hr; exact hk⟩
  | 9 =>
    obtain ⟨cC, iS, hk⟩ := u_known hcw inCX10 (hcw _ inst_X10)
    exact ⟨(cC, iS), fun r hr => by cases hr; exact hk⟩
  | 10 =>
    obtain ⟨cC, iS, hk⟩ := u_known hcw inCX11 (hcw _ inst_X11)
    exact ⟨(cC, iS), fun r hr => by cases hr; exact hk⟩
  | c + 11 => exact ⟨(0, fun _ => 0), fun r hr => by simp at hr⟩
theorem ao_S : lw_tbl[411]? = some (Cond.arrayOver (.object "PoliteHall$Sheet")) := by decide +kernel
theorem ao_T : lw_tbl[1210]? = some (Cond.arrayOver (.object "java/lang/String")) := by decide +kernel
theorem ls_C : lw_tbl[639]? = some (Cond.laysStatic "java/lang/String" "COMPACT_STRINGS" "Z") := by decide +kernel
theorem ls_F : lw_tbl[655]? = some (Cond.laysStatic "jdk/internal/util/Preconditions" "SIOOBE_FORMATTER" "Ljava/util/function/BiFunction;") := by decide +kernel
theorem in_P : lw_tbl[99]? = some (Cond.initialized "jdk/internal/util/Preconditions") := by decide +kernel
set_option maxRecDepth 100000 in
theorem fl_C : Cond.eq (.static "java/lang/String" "COMPACT_STRINGS" "Z") (.int 1) ∈ flatC gvn := List.mem_of_getElem? (i := 13) (by decide +kernel)
set_option maxRecDepth 100000 in
theorem fl_F : Cond.isRef (.static "jdk/internal/util/Preconditions" "SIOOBE_FORMATTER" "Ljava/util/function/BiFunction;") ∈ flatC gvn := List.mem_of_getElem? (i := 14) (by decide +kernel)
theorem form_start (hts : ∀ w ∈ lw_tbl, w.before A0 s = true) (hgv : gvn.before A0 s = true) (hA : ∀ a : Nat, a < s.heap.size → ¬ A a) : ∃ f : Option Nat, va_Z "jdk/internal/util/Preconditions" "SIOOBE_FORMATTER" "Ljava/util/function/BiFunction;" (va_rf f) A s s.heap := by
  rcases va_Zqof (A := A) (hts _ (List.mem_of_getElem? ls_F)) (hts _ (List.mem_of_getElem? in_P)) (flat_of_before _ hgv _ fl_F) hA with h | ⟨t, h⟩
  · exact ⟨none, h⟩
  · exact ⟨some t, h⟩
theorem env_start {b L : Nat} {xs : Nat → Int32} (hL : L ≤ 384) (hts : ∀ w ∈ lw_tbl, w.before #[Value.ref b] s = true) (hX : va_X b L xs s s.heap) (hbl : b < s.heap.size) (hgv : gvn.before #[Value.ref b] s = true) : ∃ G : GT, gB G = s.heap.size ∧ gX G = (b, L, xs) ∧ va_K (gD G) vwCl (tysOf G) s ∧ EnvF G s ∧ AO2 s := by
  have hcw : ∀ w ∈ CW, w.before #[Value.ref b] s = true := fun w hw => hts w (List.mem_filter.mp hw).1
  have hA : ∀ a : Nat, a < s.heap.size → ¬ s.heap.size ≤ a := fun a h => by omega
  obtain ⟨dd, hdd⟩ := Classical.axiomOfChoice (cls_start hcw)
  obtain ⟨c0, h0⟩ := arr_start (ty := .int) (fun _ h => h) (hcw _ ac_int)
  obtain ⟨c1, h1⟩ := arr_start (ty := .long) (fun _ h => h) (hcw _ ac_long)
  obtain ⟨c2, h2⟩ := arr_start (ty := .byte) (fun _ h => h) (hcw _ ac_byte)
  obtain ⟨c3, h3⟩ := over_start (hts _ (List.mem_of_getElem? ao_S))
  obtain ⟨c4, h4⟩ := over_start (hts _ (List.mem_of_getElem? ao_T))
  have hlit : ∀ i : Nat, ∃ q : Nat × Nat, i < 25 → (litT i).eval #[Value.ref b] s none [] s = some (.ref q.1) ∧ va_O "java/lang/String" q.1 (fun q => s.heap.size ≤ q) s s.heap ∧ va_OF "java/lang/String" "coder" "B" (.int 0) q.1 (fun q => s.heap.size ≤ q) s s.heap ∧ va_OF "java/lang/String" "value" "[B" (.ref q.2) q.1 (fun q => s.heap.size ≤ q) s s.heap ∧ va_T .byte q.2 (litB i).length (fun j => .int (Int32.ofInt ((litB i).getD j 0))) (fun q => s.heap.size ≤ q) s s.heap := by
    intro i
    by_cases hi : i < 25
    · obtain ⟨q, hq⟩ := lit_start (A := fun q => s.heap.size ≤ q) hgv hA hi
      exact ⟨q, fun _ => hq⟩
    · exact ⟨(0, 0), fun h => absurd h hi⟩
  obtain ⟨kv, hkv⟩ := Classical.axiomOfChoice hlit
  have htb : ∀ i : Nat, ∃ t : Nat, i < 2 → va_Z "PoliteHall" (tblN i) "[I" (.ref t) (fun q => s.heap.size ≤ q) s s.heap ∧ va_T .int t (tbl i).length (fun j => .int (Int32.ofInt ((tbl i).getD j 0))) (fun q => s.heap.size ≤ q) s s.heap := by
    intro i
    by_cases hi : i < 2
    · obtain ⟨q, hq⟩ := tbl_start (A := fun q => s.heap.size ≤ q) hts hgv hA hi
      exact ⟨q, fun _ => hq⟩
    · exact ⟨0, fun h => absurd h hi⟩
  obtain ⟨tb, htb⟩ := Classical.axiomOfChoice htb
  obtain ⟨ff, hff⟩ := form_start (A := fun q => s.heap.size ≤ q) hts hgv hA
  refine ⟨(s.heap.size, (fun c => (dd c).1, fun c => (dd c).2), fun a => ([c0, c1, c2, c3, c4] : List ClassId).getD a 0, fun i => (kv i).1, fun i => (kv i).2, tb, (b, L, xs), ff), rfl, rfl, ⟨fun c r hr => hdd c r hr, fun k q hk => ?_⟩, ⟨fun w hw => ?_, fun i hi => ?_, fun i hi => htb i hi, ?_, hff, hX, hbl, hbl, hL⟩, ⟨va_AO.of (hts _ (List.mem_of_getElem? ao_S)), va_AO.of (hts _ (List.mem_of_getElem? ao_T))⟩⟩
  · match k, hk with
    | 0, hk => cases hk; exact h0
    | 1, hk => cases hk; exact h1
    | 2, hk => cases hk; exact h2
    | 3, hk => cases hk; exact h3
    | 4, hk => cases hk; exact h4
    | k + 5, hk => simp [tysOf] at hk
  · exact va_Nw.of (NW_tab (List.mem_filter.mp hw).2) (hts w (List.mem_filter.mp hw).1)
  · obtain ⟨q1, q2, q3, q4, q5⟩ := hkv i hi
    exact ⟨vk_R.of (hts _ (List.mem_of_getElem? (lit_at i hi))) q1, q2, q3, q4, q5⟩
  · exact va_Zof (hts _ (List.mem_of_getElem? ls_C)) (hts _ (List.mem_filter.mp ini_J0).1) (va_eqi (flat_of_before _ hgv _ fl_C)) hA
end ST
