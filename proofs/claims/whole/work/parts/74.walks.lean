/-! ===== the constructors ===== -/
section TC
variable {G : GT} {R : Room} {nc ns : Nat} {Z : GT → State → Array Value → List Frame → State → Prop} {own : String} {cc : ByteArray} {nL : Nat} {ret : Option FieldType} {ini : Bool} {pc q : Nat} {ls : List (Nat × AV)} {st : List AV} {pre B : List va_E} {ci n : Nat} {fs : List Value}
theorem tl_app {x : List va_E} : tcL pre ci fs B ++ x = tcL pre ci fs (B ++ x) := by simp [tcL]
theorem tl_len {K : Nat} (hn9 : pre.length = n) (hB : B.length + 1 = K) : (tcL pre ci fs B).length = n + K := by
  simp only [tcL, List.length_append, List.length_cons]
  omega
theorem tl_get {j : Nat} {e : va_E} (hn9 : pre.length = n) (h : B[j]? = some e) : (tcL pre ci fs B)[n + (j + 1)]? = some e := by
  show (pre ++ .inr (ci, fs) :: B)[n + (j + 1)]? = some e
  rw [List.getElem?_append_right (by omega), show n + (j + 1) - pre.length = j + 1 by omega, List.getElem?_cons_succ]
  exact h
theorem tl_set {j : Nat} {e : va_E} (hn9 : pre.length = n) : (tcL pre ci fs B).set (n + (j + 1)) e = tcL pre ci fs (B.set j e) := by
  show (pre ++ .inr (ci, fs) :: B).set (n + (j + 1)) e = _
  rw [List.set_append_right _ _ (by omega), show n + (j + 1) - pre.length = j + 1 by omega, List.set_cons_succ]
theorem t_new {idx ci' N K : Nat} {fs0 : List Value} (hd : decode cc pc = .ok (.new idx, 3)) (hp : pc + 3 = q) (nw : NewW own idx ci' N fs0) (hn9 : pre.length = n) (hB : B.length + 1 = K) (hC : nc + 1 ≤ R.cells ∧ ns + N ≤ R.slots) (k : ExC G R (nc + 1) (ns + N) Z own cc nL ret ini q ls (vR (n + K) :: st) (tcL pre ci fs (B ++ [.inr (ci', fs0)]))) : ExC G R nc ns Z own cc nL ret ini pc ls st (tcL pre ci fs B) :=
  c_new hd hp nw (tl_len hn9 hB) hC (by rw [tl_app]; exact k)
theorem t_newi {N K : Nat} {z : Int} (hN : z = (N : Int)) (hNb : N ≤ 10000) (hd : decode cc pc = .ok (.newarray .int, 2)) (hp : pc + 2 = q) (hn9 : pre.length = n) (hB : B.length + 1 = K) (hC : nc + 1 ≤ R.cells ∧ ns + N ≤ R.slots) (k : ExC G R (nc + 1) (ns + N) Z own cc nL ret ini q ls (vR (n + K) :: st) (tcL pre ci fs (B ++ [.inl (gC G 0, N, .inl (fun _ => 0))]))) : ExC G R nc ns Z own cc nL ret ini pc ls (vI z :: st) (tcL pre ci fs B) :=
  c_newi ac_int hN hNb hd hp (tl_len hn9 hB) hC (by rw [tl_app]; exact k)
theorem t_newb {N K : Nat} {z : Int} (hN : z = (N : Int)) (hNb : N ≤ 10000) (hd : decode cc pc = .ok (.newarray .byte, 2)) (hp : pc + 2 = q) (hn9 : pre.length = n) (hB : B.length + 1 = K) (hC : nc + 1 ≤ R.cells ∧ ns + N ≤ R.slots) (k : ExC G R (nc + 1) (ns + N) Z own cc nL ret ini q ls (vR (n + K) :: st) (tcL pre ci fs (B ++ [.inl (gC G 2, N, .inl (fun _ => 0))]))) : ExC G R nc ns Z own cc nL ret ini pc ls (vI z :: st) (tcL pre ci fs B) :=
  c_newb ac_byte hN hNb hd hp (tl_len hn9 hB) hC (by rw [tl_app]; exact k)
theorem t_newl {N K : Nat} {z : Int} (hN : z = (N : Int)) (hNb : N ≤ 10000) (hd : decode cc pc = .ok (.newarray .long, 2)) (hp : pc + 2 = q) (hn9 : pre.length = n) (hB : B.length + 1 = K) (hC : nc + 1 ≤ R.cells ∧ ns + N ≤ R.slots) (k : ExC G R (nc + 1) (ns + N) Z own cc nL ret ini q ls (vR (n + K) :: st) (tcL pre ci fs (B ++ [.inl (gC G 1, N, .inr (.inl (fun _ => 0)))]))) : ExC G R nc ns Z own cc nL ret ini pc ls (vI z :: st) (tcL pre ci fs B) :=
  c_newl ac_long hN hNb hd hp (tl_len hn9 hB) hC (by rw [tl_app]; exact k)
theorem t_newq {a idx N K : Nat} {Cn : String} {z : Int} (hta : (tysOf G)[a]? = some (gC G a, .object Cn)) (hAO : ∀ U, AO2 U → va_AO Cn U) (hw : Cond.classLink own idx Cn ∈ CW) (hN : z = (N : Int)) (hNb : N ≤ 10000) (hd : decode cc pc = .ok (.anewarray idx, 3)) (hp : pc + 3 = q) (hn9 : pre.length = n) (hB : B.length + 1 = K) (hC : nc + 1 ≤ R.cells ∧ ns + N ≤ R.slots) (k : ExC G R (nc + 1) (ns + N) Z own cc nL ret ini q ls (vR (n + K) :: st) (tcL pre ci fs (B ++ [.inl (gC G a, N, .inr (.inr (.inr (.inr (fun _ => none)))))]))) : ExC G R nc ns Z own cc nL ret ini pc ls (vI z :: st) (tcL pre ci fs B) :=
  c_newq hta hAO hw hN hNb hd hp (tl_len hn9 hB) hC (by rw [tl_app]; exact k)
theorem t_call {idx m9 t mc ms k0 : Nat} {y : MethodName} {cc' : ByteArray} {nL' : Nat} {as stk : List AV} {x : va_E} {L : List va_E} (hd : decode cc pc = .ok (.invokespecial idx, 3)) (hp : pc + 3 = q) (mi : MI own idx y cc' nL' m9) (h : CtC G y cc' nL' t mc ms (vR k0 :: as) (tcL pre ci fs B ++ [x]) (tcL pre ci fs B ++ L))
    (hn : as.length = m9) (hst : stk = as.reverse ++ vR k0 :: st) (hw : (st.map avCat).sum ≤ 8) (hR : t + 1 ≤ R.frames ∧ 19 + nL' + 40 * t ≤ R.locals) (hC : nc + mc ≤ R.cells ∧ ns + ms ≤ R.slots)
    (k : ExC G R (nc + mc) (ns + ms) Z own cc nL ret ini q ls st (tcL pre ci fs (B ++ L))) : ExC G R nc ns Z own cc nL ret ini pc ls stk (tcL pre ci fs (B ++ [x])) := by
  rw [← tl_app]
  exact c_call hd hp mi h hn hst hw hR hC (by rw [tl_app]; exact k)
theorem t_aastR {a j kk m9 : Nat} {B9 : List va_E} {z : Int} {f : Nat → Option Nat} {vs : List Value} (ha : a = 3) (hn9 : pre.length = n) (hk0 : B[j]? = some (.inl (gC G a, m9, .inr (.inr (.inr (.inr f)))))) (h0 : 0 ≤ z) (h1 : z < m9) (hm : m9 ≤ 10000) (hv : B[kk]? = some (.inr (5, vs)))
    (hd : decode cc pc = .ok (.aastore, 1)) (hp : pc + 1 = q) (h9 : B.set j (.inl (gC G a, m9, .inr (.inr (.inr (.inr (va_up f z.toNat (some (gB G + (n + (kk + 1)))))))))) = B9) (k : ExC G R nc ns Z own cc nL ret ini q ls st (tcL pre ci fs B9)) : ExC G R nc ns Z own cc nL ret ini pc ls (vR (n + (kk + 1)) :: vI z :: vR (n + (j + 1)) :: st) (tcL pre ci fs B) := by
  subst ha
  subst h9
  refine c_aast (a := 3) rfl (tl_get hn9 hk0) h0 h1 hm (v_sheet (tl_get hn9 hv)) hd hp (fun b hb => ?_)
  obtain rfl : gB G + (n + (kk + 1)) = b := Value.ref.inj hb
  rw [tl_set hn9]
  exact k
theorem t_aastS {j t m9 : Nat} {B9 : List va_E} {z : Int} {f : Nat → Option Nat} (ht : t < 25) (hn9 : pre.length = n) (hk0 : B[j]? = some (.inl (gC G 4, m9, .inr (.inr (.inr (.inr f)))))) (h0 : 0 ≤ z) (h1 : z < m9) (hm : m9 ≤ 10000)
    (hd : decode cc pc = .ok (.aastore, 1)) (hp : pc + 1 = q) (h9 : B.set j (.inl (gC G 4, m9, .inr (.inr (.inr (.inr (va_up f z.toNat (some (gK G t)))))))) = B9) (k : ExC G R nc ns Z own cc nL ret ini q ls st (tcL pre ci fs B9)) : ExC G R nc ns Z own cc nL ret ini pc ls (vS t :: vI z :: vR (n + (j + 1)) :: st) (tcL pre ci fs B) := by
  subst h9
  refine c_aast (a := 4) rfl (tl_get hn9 hk0) h0 h1 hm (v_str ht) hd hp (fun b hb => ?_)
  obtain rfl : gK G t = b := Value.ref.inj hb
  rw [tl_set hn9]
  exact k
theorem c_putS {idx j : Nat} {v : AV} {ty : FieldType} {fs9 : List Value} (hd : decode cc pc = .ok (.putfield idx, 3)) (hp : pc + 3 = q) (fq : FQ own idx ci j ty) (hn9 : pre.length = n) (hj : j < fs.length) (hnr : narrow ty (cv G v) = cv G v) (hfit : fits ty (cv G v) = true) (h9 : fs.set j (cv G v) = fs9) (k : ExC G R nc ns Z own cc nL ret true q ls st (tcL pre ci fs9 B)) : ExC G R nc ns Z own cc nL ret true pc ls (v :: vR n :: st) (tcL pre ci fs B) := by
  subst h9
  exact c_put hd hp fq hn9 hj hnr hfit k
theorem t_iast {j m9 : Nat} {B9 : List va_E} {z x : Int} {f : Nat → Int32} (hn9 : pre.length = n) (hk0 : B[j]? = some (.inl (gC G 0, m9, .inl f))) (h0 : 0 ≤ z) (h1 : z < m9) (hm : m9 ≤ 10000) (hd : decode cc pc = .ok (.iastore, 1)) (hp : pc + 1 = q) (h9 : B.set j (.inl (gC G 0, m9, .inl (upd f z.toNat (Int32.ofInt x)))) = B9) (k : ExC G R nc ns Z own cc nL ret ini q ls st (tcL pre ci fs B9)) : ExC G R nc ns Z own cc nL ret ini pc ls (vI x :: vI z :: vR (n + (j + 1)) :: st) (tcL pre ci fs B) := by
  subst h9
  refine c_iast (tl_get hn9 hk0) h0 h1 hm hd hp ?_
  rw [tl_set hn9]
  exact k
end TC
def hallL (G : GT) (n : Nat) : List va_E := .inr (2, [.int 0, .ref (gB G + (n + 1)), .ref (gB G + (n + 2)), .ref (gB G + (n + 3)), .ref (gB G + (n + 4)), .ref (gB G + (n + 5)), .int 0, .ref (gB G + (n + 6)), .ref (gB G + (n + 7)), .long 0, .long 0, .int (Int32.ofInt 12), .ref (gB G + (n + 8)), .int 0, .ref (gB G + (n + 9)), .int 0, .int (Int32.ofInt 1)]) :: ([.inl (gC G 0, 12, .inl (fun _ => 0)), .inl (gC G 0, 12, .inl (fun _ => 0)), .inl (gC G 0, 12, .inl (fun _ => 0)), .inl (gC G 0, 12, .inl (fun _ => 0)), .inl (gC G 0, 144, .inl (fun _ => 0)), .inl (gC G 0, 60, .inl (fun _ => 0)), .inl (gC G 0, 60, .inl (fun _ => 0)), .inl (gC G 2, 80, .inl (fun _ => 0)), .inl (gC G 0, 48, .inl (fun _ => 0))])
set_option maxRecDepth 100000 in
set_option maxHeartbeats 4000000 in
theorem ct_X2_init {G : GT} {pre : List va_E} {n : Nat} (hn : pre.length = n) : CtC G yX2_init cX2_init 1 1 9 440 [vR n] (pre ++ [.inr (2, [.int 0, .null, .null, .null, .null, .null, .int 0, .null, .null, .long 0, .long 0, .int 0, .null, .int 0, .null, .int 0, .int 0])]) (pre ++ hallL G n) := by
  refine CtC_of (by decide) rfl (Nat.le_of_ble_eq_true rfl) (ls := [(0, vR n)]) rfl ?_
  show ExC _ _ _ _ _ RX2 _ _ _ _ _ _ _ (tcL pre 2 [.int 0, .null, .null, .null, .null, .null, .int 0, .null, .null, .long 0, .long 0, .int 0, .null, .int 0, .null, .int 0, .int 0] [])
  refine c_aloadn 0 rfl rfl dX2_init_0 rfl ?_
  refine c_obj dX2_init_1 rfl ob_X2_3 ob_im ob_cd ⟨Nat.le_of_ble_eq_true rfl, Nat.le_of_ble_eq_true rfl⟩ ?_
  refine c_aloadn 0 rfl rfl dX2_init_4 rfl ?_
  refine c_bipush (by decide) dX2_init_5 rfl ?_
  refine t_newi (N := 12) (K := 1) rfl (by decide) dX2_init_7 rfl hn rfl ⟨Nat.le_of_ble_eq_true rfl, Nat.le_of_ble_eq_true rfl⟩ ?_
  refine c_putS (fs9 := [.int 0, .ref (gB G + (n + 1)), .null, .null, .null, .null, .int 0, .null, .null, .long 0, .long 0, .int 0, .null, .int 0, .null, .int 0, .int 0]) dX2_init_9 rfl fq_X2_9 hn (Nat.le_of_ble_eq_true rfl) rfl rfl rfl ?_
  refine c_aloadn 0 rfl rfl dX2_init_12 rfl ?_
  refine c_bipush (by decide) dX2_init_13 rfl ?_
  refine t_newi (N := 12) (K := 2) rfl (by decide) dX2_init_15 rfl hn rfl ⟨Nat.le_of_ble_eq_true rfl, Nat.le_of_ble_eq_true rfl⟩ ?_
  refine c_putS (fs9 := [.int 0, .ref (gB G + (n + 1)), .ref (gB G + (n + 2)), .null, .null, .null, .int 0, .null, .null, .long 0, .long 0, .int 0, .null, .int 0, .null, .int 0, .int 0]) dX2_init_17 rfl fq_X2_15 hn (Nat.le_of_ble_eq_true rfl) rfl rfl rfl ?_
  refine c_aloadn 0 rfl rfl dX2_init_20 rfl ?_
  refine c_bipush (by decide) dX2_init_21 rfl ?_
  refine t_newi (N := 12) (K := 3) rfl (by decide) dX2_init_23 rfl hn rfl ⟨Nat.le_of_ble_eq_true rfl, Nat.le_of_ble_eq_true rfl⟩ ?_
  refine c_putS (fs9 := [.int 0, .ref (gB G + (n + 1)), .ref (gB G + (n + 2)), .ref (gB G + (n + 3)), .null, .null, .int 0, .null, .null, .long 0, .long 0, .int 0, .null, .int 0, .null, .int 0, .int 0]) dX2_init_25 rfl fq_X2_18 hn (Nat.le_of_ble_eq_true rfl) rfl rfl rfl ?_
  refine c_aloadn 0 rfl rfl dX2_init_28 rfl ?_
  refine c_bipush (by decide) dX2_init_29 rfl ?_
  refine t_newi (N := 12) (K := 4) rfl (by decide) dX2_init_31 rfl hn rfl ⟨Nat.le_of_ble_eq_true rfl, Nat.le_of_ble_eq_true rfl⟩ ?_
  refine c_putS (fs9 := [.int 0, .ref (gB G + (n + 1)), .ref (gB G + (n + 2)), .ref (gB G + (n + 3)), .ref (gB G + (n + 4)), .null, .int 0, .null, .null, .long 0, .long 0, .int 0, .null, .int 0, .null, .int 0, .int 0]) dX2_init_33 rfl fq_X2_21 hn (Nat.le_of_ble_eq_true rfl) rfl rfl rfl ?_
  refine c_aloadn 0 rfl rfl dX2_init_36 rfl ?_
  refine c_sipush (by decide) dX2_init_37 rfl ?_
  refine t_newi (N := 144) (K := 5) rfl (by decide) dX2_init_40 rfl hn rfl ⟨Nat.le_of_ble_eq_true rfl, Nat.le_of_ble_eq_true rfl⟩ ?_
  refine c_putS (fs9 := [.int 0, .ref (gB G + (n + 1)), .ref (gB G + (n + 2)), .ref (gB G + (n + 3)), .ref (gB G + (n + 4)), .ref (gB G + (n + 5)), .int 0, .null, .null, .long 0, .long 0, .int 0, .null, .int 0, .null, .int 0, .int 0]) dX2_init_42 rfl fq_X2_24 hn (Nat.le_of_ble_eq_true rfl) rfl rfl rfl ?_
  refine c_aloadn 0 rfl rfl dX2_init_45 rfl ?_
  refine c_bipush (by decide) dX2_init_46 rfl ?_
  refine t_newi (N := 60) (K := 6) rfl (by decide) dX2_init_48 rfl hn rfl ⟨Nat.le_of_ble_eq_true rfl, Nat.le_of_ble_eq_true rfl⟩ ?_
  refine c_putS (fs9 := [.int 0, .ref (gB G + (n + 1)), .ref (gB G + (n + 2)), .ref (gB G + (n + 3)), .ref (gB G + (n + 4)), .ref (gB G + (n + 5)), .int 0, .ref (gB G + (n + 6)), .null, .long 0, .long 0, .int 0, .null, .int 0, .null, .int 0, .int 0]) dX2_init_50 rfl fq_X2_27 hn (Nat.le_of_ble_eq_true rfl) rfl rfl rfl ?_
  refine c_aloadn 0 rfl rfl dX2_init_53 rfl ?_
  refine c_bipush (by decide) dX2_init_54 rfl ?_
  refine t_newi (N := 60) (K := 7) rfl (by decide) dX2_init_56 rfl hn rfl ⟨Nat.le_of_ble_eq_true rfl, Nat.le_of_ble_eq_true rfl⟩ ?_
  refine c_putS (fs9 := [.int 0, .ref (gB G + (n + 1)), .ref (gB G + (n + 2)), .ref (gB G + (n + 3)), .ref (gB G + (n + 4)), .ref (gB G + (n + 5)), .int 0, .ref (gB G + (n + 6)), .ref (gB G + (n + 7)), .long 0, .long 0, .int 0, .null, .int 0, .null, .int 0, .int 0]) dX2_init_58 rfl fq_X2_30 hn (Nat.le_of_ble_eq_true rfl) rfl rfl rfl ?_
  refine c_aloadn 0 rfl rfl dX2_init_61 rfl ?_
  refine c_bipush (by decide) dX2_init_62 rfl ?_
  refine c_putS (fs9 := [.int 0, .ref (gB G + (n + 1)), .ref (gB G + (n + 2)), .ref (gB G + (n + 3)), .ref (gB G + (n + 4)), .ref (gB G + (n + 5)), .int 0, .ref (gB G + (n + 6)), .ref (gB G + (n + 7)), .long 0, .long 0, .int (Int32.ofInt 12), .null, .int 0, .null, .int 0, .int 0]) dX2_init_64 rfl fq_X2_33 hn (Nat.le_of_ble_eq_true rfl) rfl rfl rfl ?_
  refine c_aloadn 0 rfl rfl dX2_init_67 rfl ?_
  refine c_bipush (by decide) dX2_init_68 rfl ?_
  refine t_newb (N := 80) (K := 8) rfl (by decide) dX2_init_70 rfl hn rfl ⟨Nat.le_of_ble_eq_true rfl, Nat.le_of_ble_eq_true rfl⟩ ?_
  refine c_putS (fs9 := [.int 0, .ref (gB G + (n + 1)), .ref (gB G + (n + 2)), .ref (gB G + (n + 3)), .ref (gB G + (n + 4)), .ref (gB G + (n + 5)), .int 0, .ref (gB G + (n + 6)), .ref (gB G + (n + 7)), .long 0, .long 0, .int (Int32.ofInt 12), .ref (gB G + (n + 8)), .int 0, .null, .int 0, .int 0]) dX2_init_72 rfl fq_X2_37 hn (Nat.le_of_ble_eq_true rfl) rfl rfl rfl ?_
  refine c_aloadn 0 rfl rfl dX2_init_75 rfl ?_
  refine c_bipush (by decide) dX2_init_76 rfl ?_
  refine t_newi (N := 48) (K := 9) rfl (by decide) dX2_init_78 rfl hn rfl ⟨Nat.le_of_ble_eq_true rfl, Nat.le_of_ble_eq_true rfl⟩ ?_
  refine c_putS (fs9 := [.int 0, .ref (gB G + (n + 1)), .ref (gB G + (n + 2)), .ref (gB G + (n + 3)), .ref (gB G + (n + 4)), .ref (gB G + (n + 5)), .int 0, .ref (gB G + (n + 6)), .ref (gB G + (n + 7)), .long 0, .long 0, .int (Int32.ofInt 12), .ref (gB G + (n + 8)), .int 0, .ref (gB G + (n + 9)), .int 0, .int 0]) dX2_init_80 rfl fq_X2_41 hn (Nat.le_of_ble_eq_true rfl) rfl rfl rfl ?_
  refine c_aloadn 0 rfl rfl dX2_init_83 rfl ?_
  refine c_iconst dX2_init_84 rfl ?_
  refine c_putS (fs9 := [.int 0, .ref (gB G + (n + 1)), .ref (gB G + (n + 2)), .ref (gB G + (n + 3)), .ref (gB G + (n + 4)), .ref (gB G + (n + 5)), .int 0, .ref (gB G + (n + 6)), .ref (gB G + (n + 7)), .long 0, .long 0, .int (Int32.ofInt 12), .ref (gB G + (n + 8)), .int 0, .ref (gB G + (n + 9)), .int 0, .int (Int32.ofInt 1)]) dX2_init_85 rfl fq_X2_44 hn (Nat.le_of_ble_eq_true rfl) (bool_nf (by decide)).1 (bool_nf (by decide)).2 rfl ?_
  exact c_ret dX2_init_88 (Nat.le_of_ble_eq_true rfl) (Nat.le_of_ble_eq_true rfl) rfl
def tallyL (G : GT) (n : Nat) : List va_E := .inr (6, [.ref (gB G + (n + 1)), .ref (gB G + (n + 2)), .ref (gB G + (n + 3)), .int 0]) :: ([.inl (gC G 0, 4096, .inl (fun _ => 0)), .inl (gC G 0, 12, .inl (fun _ => 0)), .inl (gC G 0, 144, .inl (fun _ => 0))])
set_option maxRecDepth 100000 in
set_option maxHeartbeats 4000000 in
theorem ct_X7_init {G : GT} {pre : List va_E} {n : Nat} (hn : pre.length = n) : CtC G yX7_init cX7_init 1 1 3 4252 [vR n] (pre ++ [.inr (6, [.null, .null, .null, .int 0])]) (pre ++ tallyL G n) := by
  refine CtC_of (by decide) rfl (Nat.le_of_ble_eq_true rfl) (ls := [(0, vR n)]) rfl ?_
  show ExC _ _ _ _ _ RX7 _ _ _ _ _ _ _ (tcL pre 6 [.null, .null, .null, .int 0] [])
  refine c_aloadn 0 rfl rfl dX7_init_0 rfl ?_
  refine c_obj dX7_init_1 rfl ob_X7_3 ob_im ob_cd ⟨Nat.le_of_ble_eq_true rfl, Nat.le_of_ble_eq_true rfl⟩ ?_
  refine c_aloadn 0 rfl rfl dX7_init_4 rfl ?_
  refine c_sipush (by decide) dX7_init_5 rfl ?_
  refine t_newi (N := 4096) (K := 1) rfl (by decide) dX7_init_8 rfl hn rfl ⟨Nat.le_of_ble_eq_true rfl, Nat.le_of_ble_eq_true rfl⟩ ?_
  refine c_putS (fs9 := [.ref (gB G + (n + 1)), .null, .null, .int 0]) dX7_init_10 rfl fq_X7_9 hn (Nat.le_of_ble_eq_true rfl) rfl rfl rfl ?_
  refine c_aloadn 0 rfl rfl dX7_init_13 rfl ?_
  refine c_bipush (by decide) dX7_init_14 rfl ?_
  refine t_newi (N := 12) (K := 2) rfl (by decide) dX7_init_16 rfl hn rfl ⟨Nat.le_of_ble_eq_true rfl, Nat.le_of_ble_eq_true rfl⟩ ?_
  refine c_putS (fs9 := [.ref (gB G + (n + 1)), .ref (gB G + (n + 2)), .null, .int 0]) dX7_init_18 rfl fq_X7_15 hn (Nat.le_of_ble_eq_true rfl) rfl rfl rfl ?_
  refine c_aloadn 0 rfl rfl dX7_init_21 rfl ?_
  refine c_sipush (by decide) dX7_init_22 rfl ?_
  refine t_newi (N := 144) (K := 3) rfl (by decide) dX7_init_25 rfl hn rfl ⟨Nat.le_of_ble_eq_true rfl, Nat.le_of_ble_eq_true rfl⟩ ?_
  refine c_putS (fs9 := [.ref (gB G + (n + 1)), .ref (gB G + (n + 2)), .ref (gB G + (n + 3)), .int 0]) dX7_init_27 rfl fq_X7_18 hn (Nat.le_of_ble_eq_true rfl) rfl rfl rfl ?_
  exact c_ret dX7_init_30 (Nat.le_of_ble_eq_true rfl) (Nat.le_of_ble_eq_true rfl) rfl
def sheetL (G : GT) (n : Nat) : List va_E := .inr (5, [.ref (gB G + (n + 1)), .int 0, .int 0]) :: ([.inl (gC G 0, 24, .inl (fun _ => 0))])
set_option maxRecDepth 100000 in
set_option maxHeartbeats 4000000 in
theorem ct_X6_init {G : GT} {pre : List va_E} {n : Nat} (hn : pre.length = n) : CtC G yX6_init cX6_init 1 1 1 24 [vR n] (pre ++ [.inr (5, [.null, .int 0, .int 0])]) (pre ++ sheetL G n) := by
  refine CtC_of (by decide) rfl (Nat.le_of_ble_eq_true rfl) (ls := [(0, vR n)]) rfl ?_
  show ExC _ _ _ _ _ RX6 _ _ _ _ _ _ _ (tcL pre 5 [.null, .int 0, .int 0] [])
  refine c_aloadn 0 rfl rfl dX6_init_0 rfl ?_
  refine c_obj dX6_init_1 rfl ob_X6_3 ob_im ob_cd ⟨Nat.le_of_ble_eq_true rfl, Nat.le_of_ble_eq_true rfl⟩ ?_
  refine c_aloadn 0 rfl rfl dX6_init_4 rfl ?_
  refine c_bipush (by decide) dX6_init_5 rfl ?_
  refine t_newi (N := 24) (K := 1) rfl (by decide) dX6_init_7 rfl hn rfl ⟨Nat.le_of_ble_eq_true rfl, Nat.le_of_ble_eq_true rfl⟩ ?_
  refine c_putS (fs9 := [.ref (gB G + (n + 1)), .int 0, .int 0]) dX6_init_9 rfl fq_X6_9 hn (Nat.le_of_ble_eq_true rfl) rfl rfl rfl ?_
  exact c_ret dX6_init_12 (Nat.le_of_ble_eq_true rfl) (Nat.le_of_ble_eq_true rfl) rfl
def readerL (G : GT) (n a : Nat) : List va_E := .inr (3, [.ref (gB G + a), .int 0, .int 0, .int 0, .int 0]) :: ([])
set_option maxRecDepth 100000 in
set_option maxHeartbeats 4000000 in
theorem ct_X4_init {G : GT} {pre : List va_E} {n a : Nat} (hn : pre.length = n) : CtC G yX4_init cX4_init 2 1 0 0 [vR n, vR a] (pre ++ [.inr (3, [.null, .int 0, .int 0, .int 0, .int 0])]) (pre ++ readerL G n a) := by
  refine CtC_of (by decide) rfl (Nat.le_of_ble_eq_true rfl) (ls := [(0, vR n), (1, vR a)]) rfl ?_
  show ExC _ _ _ _ _ RX4 _ _ _ _ _ _ _ (tcL pre 3 [.null, .int 0, .int 0, .int 0, .int 0] [])
  refine c_aloadn 0 rfl rfl dX4_init_0 rfl ?_
  refine c_obj dX4_init_1 rfl ob_X4_3 ob_im ob_cd ⟨Nat.le_of_ble_eq_true rfl, Nat.le_of_ble_eq_true rfl⟩ ?_
  refine c_aloadn 0 rfl rfl dX4_init_4 rfl ?_
  refine c_aloadn 1 rfl rfl dX4_init_5 rfl ?_
  refine c_putS (fs9 := [.ref (gB G + a), .int 0, .int 0, .int 0, .int 0]) dX4_init_6 rfl fq_X4_9 hn (Nat.le_of_ble_eq_true rfl) rfl rfl rfl ?_
  exact c_ret dX4_init_9 (Nat.le_of_ble_eq_true rfl) (Nat.le_of_ble_eq_true rfl) rfl
def fittingL (G : GT) (n a : Nat) : List va_E := .inr (1, [.ref (gB G + a), .ref (gB G + (n + 1)), .ref (gB G + (n + 5)), .ref (gB G + (n + 6)), .ref (gB G + (n + 7)), .ref (gB G + (n + 8)), .ref (gB G + (n + 9)), .int 0]) :: (tallyL G (n + 1) ++ ([.inl (gC G 0, 4096, .inl (fun _ => 0)), .inl (gC G 0, 14, .inl (fun _ => 0)), .inl (gC G 0, 4096, .inl (fun _ => 0)), .inl (gC G 0, 4096, .inl (fun _ => 0)), .inl (gC G 1, 4096, .inr (.inl (fun _ => 0)))]))
set_option maxRecDepth 100000 in
set_option maxHeartbeats 4000000 in
theorem ct_X1_init {G : GT} {pre : List va_E} {n a : Nat} (hn : pre.length = n) : CtC G yX1_init cX1_init 2 2 9 20654 [vR n, vR a] (pre ++ [.inr (1, [.null, .null, .null, .null, .null, .null, .null, .int 0])]) (pre ++ fittingL G n a) := by
  refine CtC_of (by decide) rfl (Nat.le_of_ble_eq_true rfl) (ls := [(0, vR n), (1, vR a)]) rfl ?_
  show ExC _ _ _ _ _ RX1 _ _ _ _ _ _ _ (tcL pre 1 [.null, .null, .null, .null, .null, .null, .null, .int 0] [])
  refine c_aloadn 0 rfl rfl dX1_init_0 rfl ?_
  refine c_obj dX1_init_1 rfl ob_X1_3 ob_im ob_cd ⟨Nat.le_of_ble_eq_true rfl, Nat.le_of_ble_eq_true rfl⟩ ?_
  refine c_aloadn 0 rfl rfl dX1_init_4 rfl ?_
  refine t_new (K := 1) dX1_init_5 rfl nw_X1_9 hn rfl ⟨Nat.le_of_ble_eq_true rfl, Nat.le_of_ble_eq_true rfl⟩ ?_
  refine c_dup (fun h => Nat.noConfusion h (fun h => Nat.noConfusion h)) dX1_init_8 rfl ?_
  refine t_call (t := 1) (L := tallyL G (n + 1)) (as := []) dX1_init_9 rfl mi_X1_11 (ct_X7_init (tl_len hn rfl)) rfl rfl (Nat.le_of_ble_eq_true rfl) ⟨Nat.le_of_ble_eq_true rfl, Nat.le_of_ble_eq_true rfl⟩ ⟨Nat.le_of_ble_eq_true rfl, Nat.le_of_ble_eq_true rfl⟩ ?_
  refine c_putS (fs9 := [.null, .ref (gB G + (n + 1)), .null, .null, .null, .null, .null, .int 0]) dX1_init_12 rfl fq_X1_12 hn (Nat.le_of_ble_eq_true rfl) rfl rfl rfl ?_
  refine c_aloadn 0 rfl rfl dX1_init_15 rfl ?_
  refine c_sipush (by decide) dX1_init_16 rfl ?_
  refine t_newi (N := 4096) (K := 5) rfl (by decide) dX1_init_19 rfl hn rfl ⟨Nat.le_of_ble_eq_true rfl, Nat.le_of_ble_eq_true rfl⟩ ?_
  refine c_putS (fs9 := [.null, .ref (gB G + (n + 1)), .ref (gB G + (n + 5)), .null, .null, .null, .null, .int 0]) dX1_init_21 rfl fq_X1_18 hn (Nat.le_of_ble_eq_true rfl) rfl rfl rfl ?_
  refine c_aloadn 0 rfl rfl dX1_init_24 rfl ?_
  refine c_bipush (by decide) dX1_init_25 rfl ?_
  refine t_newi (N := 14) (K := 6) rfl (by decide) dX1_init_27 rfl hn rfl ⟨Nat.le_of_ble_eq_true rfl, Nat.le_of_ble_eq_true rfl⟩ ?_
  refine c_putS (fs9 := [.null, .ref (gB G + (n + 1)), .ref (gB G + (n + 5)), .ref (gB G + (n + 6)), .null, .null, .null, .int 0]) dX1_init_29 rfl fq_X1_22 hn (Nat.le_of_ble_eq_true rfl) rfl rfl rfl ?_
  refine c_aloadn 0 rfl rfl dX1_init_32 rfl ?_
  refine c_sipush (by decide) dX1_init_33 rfl ?_
  refine t_newi (N := 4096) (K := 7) rfl (by decide) dX1_init_36 rfl hn rfl ⟨Nat.le_of_ble_eq_true rfl, Nat.le_of_ble_eq_true rfl⟩ ?_
  refine c_putS (fs9 := [.null, .ref (gB G + (n + 1)), .ref (gB G + (n + 5)), .ref (gB G + (n + 6)), .ref (gB G + (n + 7)), .null, .null, .int 0]) dX1_init_38 rfl fq_X1_25 hn (Nat.le_of_ble_eq_true rfl) rfl rfl rfl ?_
  refine c_aloadn 0 rfl rfl dX1_init_41 rfl ?_
  refine c_sipush (by decide) dX1_init_42 rfl ?_
  refine t_newi (N := 4096) (K := 8) rfl (by decide) dX1_init_45 rfl hn rfl ⟨Nat.le_of_ble_eq_true rfl, Nat.le_of_ble_eq_true rfl⟩ ?_
  refine c_putS (fs9 := [.null, .ref (gB G + (n + 1)), .ref (gB G + (n + 5)), .ref (gB G + (n + 6)), .ref (gB G + (n + 7)), .ref (gB G + (n + 8)), .null, .int 0]) dX1_init_47 rfl fq_X1_28 hn (Nat.le_of_ble_eq_true rfl) rfl rfl rfl ?_
  refine c_aloadn 0 rfl rfl dX1_init_50 rfl ?_
  refine c_sipush (by decide) dX1_init_51 rfl ?_
  refine t_newl (N := 4096) (K := 9) rfl (by decide) dX1_init_54 rfl hn rfl ⟨Nat.le_of_ble_eq_true rfl, Nat.le_of_ble_eq_true rfl⟩ ?_
  refine c_putS (fs9 := [.null, .ref (gB G + (n + 1)), .ref (gB G + (n + 5)), .ref (gB G + (n + 6)), .ref (gB G + (n + 7)), .ref (gB G + (n + 8)), .ref (gB G + (n + 9)), .int 0]) dX1_init_56 rfl fq_X1_31 hn (Nat.le_of_ble_eq_true rfl) rfl rfl rfl ?_
  refine c_aloadn 0 rfl rfl dX1_init_59 rfl ?_
  refine c_aloadn 1 rfl rfl dX1_init_60 rfl ?_
  refine c_putS (fs9 := [.ref (gB G + a), .ref (gB G + (n + 1)), .ref (gB G + (n + 5)), .ref (gB G + (n + 6)), .ref (gB G + (n + 7)), .ref (gB G + (n + 8)), .ref (gB G + (n + 9)), .int 0]) dX1_init_61 rfl fq_X1_35 hn (Nat.le_of_ble_eq_true rfl) rfl rfl rfl ?_
  exact c_ret dX1_init_64 (Nat.le_of_ble_eq_true rfl) (Nat.le_of_ble_eq_true rfl) rfl
def doubtL (G : GT) (n a : Nat) : List va_E := .inr (0, [.ref (gB G + a), .ref (gB G + (n + 1)), .ref (gB G + (n + 2)), .int 0, .int 0, .int 0]) :: ([.inl (gC G 0, 12, .inl (fun _ => 0)), .inl (gC G 0, 4096, .inl (fun _ => 0))])
set_option maxRecDepth 100000 in
set_option maxHeartbeats 4000000 in
theorem ct_X0_init {G : GT} {pre : List va_E} {n a : Nat} (hn : pre.length = n) : CtC G yX0_init cX0_init 2 1 2 4108 [vR n, vR a] (pre ++ [.inr (0, [.null, .null, .null, .int 0, .int 0, .int 0])]) (pre ++ doubtL G n a) := by
  refine CtC_of (by decide) rfl (Nat.le_of_ble_eq_true rfl) (ls := [(0, vR n), (1, vR a)]) rfl ?_
  show ExC _ _ _ _ _ RX0 _ _ _ _ _ _ _ (tcL pre 0 [.null, .null, .null, .int 0, .int 0, .int 0] [])
  refine c_aloadn 0 rfl rfl dX0_init_0 rfl ?_
  refine c_obj dX0_init_1 rfl ob_X0_3 ob_im ob_cd ⟨Nat.le_of_ble_eq_true rfl, Nat.le_of_ble_eq_true rfl⟩ ?_
  refine c_aloadn 0 rfl rfl dX0_init_4 rfl ?_
  refine c_bipush (by decide) dX0_init_5 rfl ?_
  refine t_newi (N := 12) (K := 1) rfl (by decide) dX0_init_7 rfl hn rfl ⟨Nat.le_of_ble_eq_true rfl, Nat.le_of_ble_eq_true rfl⟩ ?_
  refine c_putS (fs9 := [.null, .ref (gB G + (n + 1)), .null, .int 0, .int 0, .int 0]) dX0_init_9 rfl fq_X0_9 hn (Nat.le_of_ble_eq_true rfl) rfl rfl rfl ?_
  refine c_aloadn 0 rfl rfl dX0_init_12 rfl ?_
  refine c_sipush (by decide) dX0_init_13 rfl ?_
  refine t_newi (N := 4096) (K := 2) rfl (by decide) dX0_init_16 rfl hn rfl ⟨Nat.le_of_ble_eq_true rfl, Nat.le_of_ble_eq_true rfl⟩ ?_
  refine c_putS (fs9 := [.null, .ref (gB G + (n + 1)), .ref (gB G + (n + 2)), .int 0, .int 0, .int 0]) dX0_init_18 rfl fq_X0_15 hn (Nat.le_of_ble_eq_true rfl) rfl rfl rfl ?_
  refine c_aloadn 0 rfl rfl dX0_init_21 rfl ?_
  refine c_aloadn 1 rfl rfl dX0_init_22 rfl ?_
  refine c_putS (fs9 := [.ref (gB G + a), .ref (gB G + (n + 1)), .ref (gB G + (n + 2)), .int 0, .int 0, .int 0]) dX0_init_23 rfl fq_X0_18 hn (Nat.le_of_ble_eq_true rfl) rfl rfl rfl ?_
  exact c_ret dX0_init_26 (Nat.le_of_ble_eq_true rfl) (Nat.le_of_ble_eq_true rfl) rfl
def trialsL (G : GT) (n a b : Nat) : List va_E := .inr (7, [.ref (gB G + a), .ref (gB G + b), .ref (gB G + (n + 1)), .ref (gB G + (n + 2)), .ref (gB G + (n + 3)), .int 0]) :: ([.inl (gC G 0, 12, .inl (fun _ => 0)), .inl (gC G 0, 12, .inl (fun _ => 0)), .inl (gC G 0, 256, .inl (fun _ => 0))])
set_option maxRecDepth 100000 in
set_option maxHeartbeats 4000000 in
theorem ct_X8_init {G : GT} {pre : List va_E} {n a b : Nat} (hn : pre.length = n) : CtC G yX8_init cX8_init 3 1 3 280 [vR n, vR a, vR b] (pre ++ [.inr (7, [.null, .null, .null, .null, .null, .int 0])]) (pre ++ trialsL G n a b) := by
  refine CtC_of (by decide) rfl (Nat.le_of_ble_eq_true rfl) (ls := [(0, vR n), (1, vR a), (2, vR b)]) rfl ?_
  show ExC _ _ _ _ _ RX8 _ _ _ _ _ _ _ (tcL pre 7 [.null, .null, .null, .null, .null, .int 0] [])
  refine c_aloadn 0 rfl rfl dX8_init_0 rfl ?_
  refine c_obj dX8_init_1 rfl ob_X8_3 ob_im ob_cd ⟨Nat.le_of_ble_eq_true rfl, Nat.le_of_ble_eq_true rfl⟩ ?_
  refine c_aloadn 0 rfl rfl dX8_init_4 rfl ?_
  refine c_bipush (by decide) dX8_init_5 rfl ?_
  refine t_newi (N := 12) (K := 1) rfl (by decide) dX8_init_7 rfl hn rfl ⟨Nat.le_of_ble_eq_true rfl, Nat.le_of_ble_eq_true rfl⟩ ?_
  refine c_putS (fs9 := [.null, .null, .ref (gB G + (n + 1)), .null, .null, .int 0]) dX8_init_9 rfl fq_X8_9 hn (Nat.le_of_ble_eq_true rfl) rfl rfl rfl ?_
  refine c_aloadn 0 rfl rfl dX8_init_12 rfl ?_
  refine c_bipush (by decide) dX8_init_13 rfl ?_
  refine t_newi (N := 12) (K := 2) rfl (by decide) dX8_init_15 rfl hn rfl ⟨Nat.le_of_ble_eq_true rfl, Nat.le_of_ble_eq_true rfl⟩ ?_
  refine c_putS (fs9 := [.null, .null, .ref (gB G + (n + 1)), .ref (gB G + (n + 2)), .null, .int 0]) dX8_init_17 rfl fq_X8_15 hn (Nat.le_of_ble_eq_true rfl) rfl rfl rfl ?_
  refine c_aloadn 0 rfl rfl dX8_init_20 rfl ?_
  refine c_sipush (by decide) dX8_init_21 rfl ?_
  refine t_newi (N := 256) (K := 3) rfl (by decide) dX8_init_24 rfl hn rfl ⟨Nat.le_of_ble_eq_true rfl, Nat.le_of_ble_eq_true rfl⟩ ?_
  refine c_putS (fs9 := [.null, .null, .ref (gB G + (n + 1)), .ref (gB G + (n + 2)), .ref (gB G + (n + 3)), .int 0]) dX8_init_26 rfl fq_X8_18 hn (Nat.le_of_ble_eq_true rfl) rfl rfl rfl ?_
  refine c_aloadn 0 rfl rfl dX8_init_29 rfl ?_
  refine c_aloadn 1 rfl rfl dX8_init_30 rfl ?_
  refine c_putS (fs9 := [.ref (gB G + a), .null, .ref (gB G + (n + 1)), .ref (gB G + (n + 2)), .ref (gB G + (n + 3)), .int 0]) dX8_init_31 rfl fq_X8_21 hn (Nat.le_of_ble_eq_true rfl) rfl rfl rfl ?_
  refine c_aloadn 0 rfl rfl dX8_init_34 rfl ?_
  refine c_aloadn 2 rfl rfl dX8_init_35 rfl ?_
  refine c_putS (fs9 := [.ref (gB G + a), .ref (gB G + b), .ref (gB G + (n + 1)), .ref (gB G + (n + 2)), .ref (gB G + (n + 3)), .int 0]) dX8_init_36 rfl fq_X8_25 hn (Nat.le_of_ble_eq_true rfl) rfl rfl rfl ?_
  exact c_ret dX8_init_39 (Nat.le_of_ble_eq_true rfl) (Nat.le_of_ble_eq_true rfl) rfl
def rumourL (G : GT) (n a : Nat) : List va_E := .inr (4, [.ref (gB G + a), .ref (gB G + (n + 1)), .ref (gB G + (n + 5)), .ref (gB G + (n + 6)), .ref (gB G + (n + 7)), .ref (gB G + (n + 8)), .ref (gB G + (n + 9)), .int 0, .int 0, .int 0]) :: (tallyL G (n + 1) ++ ([.inl (gC G 0, 8, .inl (fun _ => 0)), .inl (gC G 0, 8, .inl (fun _ => 0)), .inl (gC G 0, 8, .inl (fun _ => 0)), .inl (gC G 0, 8, .inl (fun _ => 0)), .inl (gC G 0, 6561, .inl (fun _ => 0))]))
set_option maxRecDepth 100000 in
set_option maxHeartbeats 4000000 in
theorem ct_X5_init {G : GT} {pre : List va_E} {n a : Nat} (hn : pre.length = n) : CtC G yX5_init cX5_init 2 2 9 10849 [vR n, vR a] (pre ++ [.inr (4, [.null, .null, .null, .null, .null, .null, .null, .int 0, .int 0, .int 0])]) (pre ++ rumourL G n a) := by
  refine CtC_of (by decide) rfl (Nat.le_of_ble_eq_true rfl) (ls := [(0, vR n), (1, vR a)]) rfl ?_
  show ExC _ _ _ _ _ RX5 _ _ _ _ _ _ _ (tcL pre 4 [.null, .null, .null, .null, .null, .null, .null, .int 0, .int 0, .int 0] [])
  refine c_aloadn 0 rfl rfl dX5_init_0 rfl ?_
  refine c_obj dX5_init_1 rfl ob_X5_3 ob_im ob_cd ⟨Nat.le_of_ble_eq_true rfl, Nat.le_of_ble_eq_true rfl⟩ ?_
  refine c_aloadn 0 rfl rfl dX5_init_4 rfl ?_
  refine t_new (K := 1) dX5_init_5 rfl nw_X5_9 hn rfl ⟨Nat.le_of_ble_eq_true rfl, Nat.le_of_ble_eq_true rfl⟩ ?_
  refine c_dup (fun h => Nat.noConfusion h (fun h => Nat.noConfusion h)) dX5_init_8 rfl ?_
  refine t_call (t := 1) (L := tallyL G (n + 1)) (as := []) dX5_init_9 rfl mi_X5_11 (ct_X7_init (tl_len hn rfl)) rfl rfl (Nat.le_of_ble_eq_true rfl) ⟨Nat.le_of_ble_eq_true rfl, Nat.le_of_ble_eq_true rfl⟩ ⟨Nat.le_of_ble_eq_true rfl, Nat.le_of_ble_eq_true rfl⟩ ?_
  refine c_putS (fs9 := [.null, .ref (gB G + (n + 1)), .null, .null, .null, .null, .null, .int 0, .int 0, .int 0]) dX5_init_12 rfl fq_X5_12 hn (Nat.le_of_ble_eq_true rfl) rfl rfl rfl ?_
  refine c_aloadn 0 rfl rfl dX5_init_15 rfl ?_
  refine c_bipush (by decide) dX5_init_16 rfl ?_
  refine t_newi (N := 8) (K := 5) rfl (by decide) dX5_init_18 rfl hn rfl ⟨Nat.le_of_ble_eq_true rfl, Nat.le_of_ble_eq_true rfl⟩ ?_
  refine c_putS (fs9 := [.null, .ref (gB G + (n + 1)), .ref (gB G + (n + 5)), .null, .null, .null, .null, .int 0, .int 0, .int 0]) dX5_init_20 rfl fq_X5_18 hn (Nat.le_of_ble_eq_true rfl) rfl rfl rfl ?_
  refine c_aloadn 0 rfl rfl dX5_init_23 rfl ?_
  refine c_bipush (by decide) dX5_init_24 rfl ?_
  refine t_newi (N := 8) (K := 6) rfl (by decide) dX5_init_26 rfl hn rfl ⟨Nat.le_of_ble_eq_true rfl, Nat.le_of_ble_eq_true rfl⟩ ?_
  refine c_putS (fs9 := [.null, .ref (gB G + (n + 1)), .ref (gB G + (n + 5)), .ref (gB G + (n + 6)), .null, .null, .null, .int 0, .int 0, .int 0]) dX5_init_28 rfl fq_X5_22 hn (Nat.le_of_ble_eq_true rfl) rfl rfl rfl ?_
  refine c_aloadn 0 rfl rfl dX5_init_31 rfl ?_
  refine c_bipush (by decide) dX5_init_32 rfl ?_
  refine t_newi (N := 8) (K := 7) rfl (by decide) dX5_init_34 rfl hn rfl ⟨Nat.le_of_ble_eq_true rfl, Nat.le_of_ble_eq_true rfl⟩ ?_
  refine c_putS (fs9 := [.null, .ref (gB G + (n + 1)), .ref (gB G + (n + 5)), .ref (gB G + (n + 6)), .ref (gB G + (n + 7)), .null, .null, .int 0, .int 0, .int 0]) dX5_init_36 rfl fq_X5_25 hn (Nat.le_of_ble_eq_true rfl) rfl rfl rfl ?_
  refine c_aloadn 0 rfl rfl dX5_init_39 rfl ?_
  refine c_bipush (by decide) dX5_init_40 rfl ?_
  refine t_newi (N := 8) (K := 8) rfl (by decide) dX5_init_42 rfl hn rfl ⟨Nat.le_of_ble_eq_true rfl, Nat.le_of_ble_eq_true rfl⟩ ?_
  refine c_putS (fs9 := [.null, .ref (gB G + (n + 1)), .ref (gB G + (n + 5)), .ref (gB G + (n + 6)), .ref (gB G + (n + 7)), .ref (gB G + (n + 8)), .null, .int 0, .int 0, .int 0]) dX5_init_44 rfl fq_X5_28 hn (Nat.le_of_ble_eq_true rfl) rfl rfl rfl ?_
  refine c_aloadn 0 rfl rfl dX5_init_47 rfl ?_
  refine c_sipush (by decide) dX5_init_48 rfl ?_
  refine t_newi (N := 6561) (K := 9) rfl (by decide) dX5_init_51 rfl hn rfl ⟨Nat.le_of_ble_eq_true rfl, Nat.le_of_ble_eq_true rfl⟩ ?_
  refine c_putS (fs9 := [.null, .ref (gB G + (n + 1)), .ref (gB G + (n + 5)), .ref (gB G + (n + 6)), .ref (gB G + (n + 7)), .ref (gB G + (n + 8)), .ref (gB G + (n + 9)), .int 0, .int 0, .int 0]) dX5_init_53 rfl fq_X5_31 hn (Nat.le_of_ble_eq_true rfl) rfl rfl rfl ?_
  refine c_aloadn 0 rfl rfl dX5_init_56 rfl ?_
  refine c_aloadn 1 rfl rfl dX5_init_57 rfl ?_
  refine c_putS (fs9 := [.ref (gB G + a), .ref (gB G + (n + 1)), .ref (gB G + (n + 5)), .ref (gB G + (n + 6)), .ref (gB G + (n + 7)), .ref (gB G + (n + 8)), .ref (gB G + (n + 9)), .int 0, .int 0, .int 0]) dX5_init_58 rfl fq_X5_34 hn (Nat.le_of_ble_eq_true rfl) rfl rfl rfl ?_
  exact c_ret dX5_init_61 (Nat.le_of_ble_eq_true rfl) (Nat.le_of_ble_eq_true rfl) rfl
def voicesL (G : GT) (n : Nat) : List va_E := .inr (8, [.ref (gB G + (n + 1)), .int 0, .int 0, .int 0, .int 0, .int 0, .int 0]) :: ([.inl (gC G 0, 30, .inl (fun _ => 0))])
set_option maxRecDepth 100000 in
set_option maxHeartbeats 4000000 in
theorem ct_X9_init {G : GT} {pre : List va_E} {n : Nat} (hn : pre.length = n) : CtC G yX9_init cX9_init 1 1 1 30 [vR n] (pre ++ [.inr (8, [.null, .int 0, .int 0, .int 0, .int 0, .int 0, .int 0])]) (pre ++ voicesL G n) := by
  refine CtC_of (by decide) rfl (Nat.le_of_ble_eq_true rfl) (ls := [(0, vR n)]) rfl ?_
  show ExC _ _ _ _ _ RX9 _ _ _ _ _ _ _ (tcL pre 8 [.null, .int 0, .int 0, .int 0, .int 0, .int 0, .int 0] [])
  refine c_aloadn 0 rfl rfl dX9_init_0 rfl ?_
  refine c_obj dX9_init_1 rfl ob_X9_3 ob_im ob_cd ⟨Nat.le_of_ble_eq_true rfl, Nat.le_of_ble_eq_true rfl⟩ ?_
  refine c_aloadn 0 rfl rfl dX9_init_4 rfl ?_
  refine c_bipush (by decide) dX9_init_5 rfl ?_
  refine t_newi (N := 30) (K := 1) rfl (by decide) dX9_init_7 rfl hn rfl ⟨Nat.le_of_ble_eq_true rfl, Nat.le_of_ble_eq_true rfl⟩ ?_
  refine c_putS (fs9 := [.ref (gB G + (n + 1)), .int 0, .int 0, .int 0, .int 0, .int 0, .int 0]) dX9_init_9 rfl fq_X9_9 hn (Nat.le_of_ble_eq_true rfl) rfl rfl rfl ?_
  exact c_ret dX9_init_12 (Nat.le_of_ble_eq_true rfl) (Nat.le_of_ble_eq_true rfl) rfl
abbrev shArr (G : GT) (f : Nat → Option Nat) : va_E := .inl (gC G 3, 4, .inr (.inr (.inr (.inr f))))
theorem loop10_in {G : GT} {R : Room} {nc ns : Nat} {Z : GT → State → Array Value → List Frame → State → Prop} {own : String} {cc : ByteArray} {nL : Nat} {ret : Option FieldType} {ini : Bool} {pc : Nat} {ls : List (Nat × AV)} {st : List AV} {pre B0 : List va_E} {ci : Nat} {fs : List Value} {x y : va_E} (k : ExC G R nc ns Z own cc nL ret ini pc ls st (tcL pre ci fs (B0 ++ x :: [y]))) : ExC G R nc ns Z own cc nL ret ini pc ls st (tcL pre ci fs (B0 ++ [x] ++ [y])) := by
  rw [List.append_assoc]
  exact k
set_option maxRecDepth 100000 in
theorem loop10 {G : GT} {R : Room} {nc ns : Nat} {Z : GT → State → Array Value → List Frame → State → Prop} {pre B0 B2 : List va_E} {n K2 : Nat} {f : Nat → Option Nat} {z : Int} (hn : pre.length = n) (hB0 : B0.length = 60) (hB2 : B2.length = K2) (h0 : 0 ≤ z) (h4 : z < 4) (hC : nc + 2 ≤ R.cells) (hC2 : ns + 27 ≤ R.slots) (hR1 : 2 ≤ R.frames) (hR2 : 60 ≤ R.locals)
    (k : ExC G R (nc + 1 + 1) (ns + 3 + 24) Z RX10 cX10_init 2 none true 145 [(1, vI (z + 1)), (0, vR n)] [] (tcL pre 9 [.ref (gB G + (n + 1)), .ref (gB G + (n + 11)), .ref (gB G + (n + 21)), .ref (gB G + (n + 31)), .ref (gB G + (n + 32)), .ref (gB G + (n + 42)), .ref (gB G + (n + 45)), .ref (gB G + (n + 49)), .ref (gB G + (n + 59)), .ref (gB G + (n + 61)), .ref (gB G + (n + 62)), .int 0] (B0 ++ shArr G (va_up f z.toNat (some (gB G + (n + (61 + K2 + 1))))) :: (B2 ++ sheetL G (n + (61 + K2 + 1)))))) : ExC G R nc ns Z RX10 cX10_init 2 none true 145 [(1, vI z), (0, vR n)] [] (tcL pre 9 [.ref (gB G + (n + 1)), .ref (gB G + (n + 11)), .ref (gB G + (n + 21)), .ref (gB G + (n + 31)), .ref (gB G + (n + 32)), .ref (gB G + (n + 42)), .ref (gB G + (n + 45)), .ref (gB G + (n + 49)), .ref (gB G + (n + 59)), .ref (gB G + (n + 61)), .ref (gB G + (n + 62)), .int 0] (B0 ++ shArr G f :: B2)) := by
  have hr9 : inr z := ⟨by omega, by omega⟩
  have hB : (B0 ++ shArr G f :: B2).length + 1 = 61 + K2 + 1 := by simp [hB0, hB2]; omega
  refine c_iloadn 0 rfl rfl dX10_init_145 rfl ?_
  refine c_iconst dX10_init_146 rfl ?_
  refine c_geN (tgt := 169) dX10_init_147 rfl rfl hr9 ⟨by decide, by decide⟩ h4 ?_
  refine c_aloadn 1 rfl rfl dX10_init_150 rfl ?_
  refine c_get (v := vR (n + 61)) dX10_init_151 rfl fq_X10_70 hn rfl ?_
  refine c_iloadn 0 rfl rfl dX10_init_154 rfl ?_
  refine t_new dX10_init_155 rfl nw_X10_68 hn hB ⟨by omega, by omega⟩ ?_
  refine c_dup (fun h => Nat.noConfusion h (fun h => Nat.noConfusion h)) dX10_init_158 rfl ?_
  refine t_call (t := 1) (L := sheetL G (n + (61 + K2 + 1))) (as := []) dX10_init_159 rfl mi_X10_78 (ct_X6_init (tl_len hn hB)) rfl rfl (Nat.le_of_ble_eq_true rfl) ⟨hR1, hR2⟩ ⟨by omega, by omega⟩ ?_
  refine t_aastR (j := 60) (kk := 61 + K2) (m9 := 4) (f := f) (vs := [.ref (gB G + (n + (61 + K2 + 1) + 1)), .int 0, .int 0]) (B9 := B0 ++ shArr G (va_up f z.toNat (some (gB G + (n + (61 + K2 + 1))))) :: (B2 ++ sheetL G (n + (61 + K2 + 1)))) rfl hn ?_ h0 h4 (by decide) ?_ dX10_init_162 rfl ?_ ?_
  · rw [List.append_assoc, List.getElem?_append_right (by omega), show 60 - B0.length = 0 by omega]; rfl
  · rw [List.getElem?_append_right (by omega), show 61 + K2 - (B0 ++ shArr G f :: B2).length = 0 by omega]; rfl
  · rw [List.append_assoc, List.set_append_right _ _ (by omega), show 60 - B0.length = 0 by omega]; rfl
  refine c_iinc (ls' := [(1, vI (z + 1)), (0, vR n)]) 0 rfl (by decide) rfl dX10_init_163 rfl ?_
  exact c_goto (tgt := 145) dX10_init_166 rfl k
def classL (G : GT) (n : Nat) : List va_E := .inr (9, [.ref (gB G + (n + 1)), .ref (gB G + (n + 11)), .ref (gB G + (n + 21)), .ref (gB G + (n + 31)), .ref (gB G + (n + 32)), .ref (gB G + (n + 42)), .ref (gB G + (n + 45)), .ref (gB G + (n + 49)), .ref (gB G + (n + 59)), .ref (gB G + (n + 61)), .ref (gB G + (n + 62)), .int 0]) :: (([] ++ hallL G (n + 1) ++ hallL G (n + 11) ++ hallL G (n + 21) ++ readerL G (n + 31) (n + 21) ++ fittingL G (n + 32) (n + 1) ++ doubtL G (n + 42) (n + 1) ++ trialsL G (n + 45) (n + 1) (n + 32) ++ rumourL G (n + 49) (n + 1) ++ voicesL G (n + 59)) ++ shArr G (va_up (va_up (va_up (va_up (fun _ => none) 0 (some (gB G + (n + 63)))) 1 (some (gB G + (n + 65)))) 2 (some (gB G + (n + 67)))) 3 (some (gB G + (n + 69)))) :: (((([.inl (gC G 0, 7, .inl (fun _ => 0))] ++ sheetL G (n + 63)) ++ sheetL G (n + 65)) ++ sheetL G (n + 67)) ++ sheetL G (n + 69)))
set_option maxRecDepth 100000 in
set_option maxHeartbeats 4000000 in
theorem ct_X10_init {G : GT} {pre : List va_E} {n : Nat} (hn : pre.length = n) : CtC G yX10_init cX10_init 2 3 70 37453 [vR n] (pre ++ [.inr (9, [.null, .null, .null, .null, .null, .null, .null, .null, .null, .null, .null, .int 0])]) (pre ++ classL G n) := by
  refine CtC_of (by decide) rfl (Nat.le_of_ble_eq_true rfl) (ls := [(0, vR n)]) rfl ?_
  show ExC _ _ _ _ _ RX10 _ _ _ _ _ _ _ (tcL pre 9 [.null, .null, .null, .null, .null, .null, .null, .null, .null, .null, .null, .int 0] [])
  refine c_aloadn 0 rfl rfl dX10_init_0 rfl ?_
  refine c_obj dX10_init_1 rfl ob_X10_3 ob_im ob_cd ⟨Nat.le_of_ble_eq_true rfl, Nat.le_of_ble_eq_true rfl⟩ ?_
  refine c_aloadn 0 rfl rfl dX10_init_4 rfl ?_
  refine t_new (K := 1) dX10_init_5 rfl nw_X10_9 hn rfl ⟨Nat.le_of_ble_eq_true rfl, Nat.le_of_ble_eq_true rfl⟩ ?_
  refine c_dup (fun h => Nat.noConfusion h (fun h => Nat.noConfusion h)) dX10_init_8 rfl ?_
  refine t_call (t := 1) (L := hallL G (n + 1)) (as := []) dX10_init_9 rfl mi_X10_11 (ct_X2_init (tl_len hn rfl)) rfl rfl (Nat.le_of_ble_eq_true rfl) ⟨Nat.le_of_ble_eq_true rfl, Nat.le_of_ble_eq_true rfl⟩ ⟨Nat.le_of_ble_eq_true rfl, Nat.le_of_ble_eq_true rfl⟩ ?_
  refine c_putS (fs9 := [.ref (gB G + (n + 1)), .null, .null, .null, .null, .null, .null, .null, .null, .null, .null, .int 0]) dX10_init_12 rfl fq_X10_12 hn (Nat.le_of_ble_eq_true rfl) rfl rfl rfl ?_
  refine c_aloadn 0 rfl rfl dX10_init_15 rfl ?_
  refine t_new (K := 11) dX10_init_16 rfl nw_X10_9 hn rfl ⟨Nat.le_of_ble_eq_true rfl, Nat.le_of_ble_eq_true rfl⟩ ?_
  refine c_dup (fun h => Nat.noConfusion h (fun h => Nat.noConfusion h)) dX10_init_19 rfl ?_
  refine t_call (t := 1) (L := hallL G (n + 11)) (as := []) dX10_init_20 rfl mi_X10_11 (ct_X2_init (tl_len hn rfl)) rfl rfl (Nat.le_of_ble_eq_true rfl) ⟨Nat.le_of_ble_eq_true rfl, Nat.le_of_ble_eq_true rfl⟩ ⟨Nat.le_of_ble_eq_true rfl, Nat.le_of_ble_eq_true rfl⟩ ?_
  refine c_putS (fs9 := [.ref (gB G + (n + 1)), .ref (gB G + (n + 11)), .null, .null, .null, .null, .null, .null, .null, .null, .null, .int 0]) dX10_init_23 rfl fq_X10_16 hn (Nat.le_of_ble_eq_true rfl) rfl rfl rfl ?_
  refine c_aloadn 0 rfl rfl dX10_init_26 rfl ?_
  refine t_new (K := 21) dX10_init_27 rfl nw_X10_9 hn rfl ⟨Nat.le_of_ble_eq_true rfl, Nat.le_of_ble_eq_true rfl⟩ ?_
  refine c_dup (fun h => Nat.noConfusion h (fun h => Nat.noConfusion h)) dX10_init_30 rfl ?_
  refine t_call (t := 1) (L := hallL G (n + 21)) (as := []) dX10_init_31 rfl mi_X10_11 (ct_X2_init (tl_len hn rfl)) rfl rfl (Nat.le_of_ble_eq_true rfl) ⟨Nat.le_of_ble_eq_true rfl, Nat.le_of_ble_eq_true rfl⟩ ⟨Nat.le_of_ble_eq_true rfl, Nat.le_of_ble_eq_true rfl⟩ ?_
  refine c_putS (fs9 := [.ref (gB G + (n + 1)), .ref (gB G + (n + 11)), .ref (gB G + (n + 21)), .null, .null, .null, .null, .null, .null, .null, .null, .int 0]) dX10_init_34 rfl fq_X10_19 hn (Nat.le_of_ble_eq_true rfl) rfl rfl rfl ?_
  refine c_aloadn 0 rfl rfl dX10_init_37 rfl ?_
  refine t_new (K := 31) dX10_init_38 rfl nw_X10_22 hn rfl ⟨Nat.le_of_ble_eq_true rfl, Nat.le_of_ble_eq_true rfl⟩ ?_
  refine c_dup (fun h => Nat.noConfusion h (fun h => Nat.noConfusion h)) dX10_init_41 rfl ?_
  refine c_aloadn 0 rfl rfl dX10_init_42 rfl ?_
  refine c_get (v := vR (n + 21)) dX10_init_43 rfl fq_X10_19 hn rfl ?_
  refine t_call (t := 1) (L := readerL G (n + 31) (n + 21)) (as := [vR (n + 21)]) dX10_init_46 rfl mi_X10_24 (ct_X4_init (tl_len hn rfl)) rfl rfl (Nat.le_of_ble_eq_true rfl) ⟨Nat.le_of_ble_eq_true rfl, Nat.le_of_ble_eq_true rfl⟩ ⟨Nat.le_of_ble_eq_true rfl, Nat.le_of_ble_eq_true rfl⟩ ?_
  refine c_putS (fs9 := [.ref (gB G + (n + 1)), .ref (gB G + (n + 11)), .ref (gB G + (n + 21)), .ref (gB G + (n + 31)), .null, .null, .null, .null, .null, .null, .null, .int 0]) dX10_init_49 rfl fq_X10_27 hn (Nat.le_of_ble_eq_true rfl) rfl rfl rfl ?_
  refine c_aloadn 0 rfl rfl dX10_init_52 rfl ?_
  refine t_new (K := 32) dX10_init_53 rfl nw_X10_31 hn rfl ⟨Nat.le_of_ble_eq_true rfl, Nat.le_of_ble_eq_true rfl⟩ ?_
  refine c_dup (fun h => Nat.noConfusion h (fun h => Nat.noConfusion h)) dX10_init_56 rfl ?_
  refine c_aloadn 0 rfl rfl dX10_init_57 rfl ?_
  refine c_get (v := vR (n + 1)) dX10_init_58 rfl fq_X10_12 hn rfl ?_
  refine t_call (t := 2) (L := fittingL G (n + 32) (n + 1)) (as := [vR (n + 1)]) dX10_init_61 rfl mi_X10_33 (ct_X1_init (tl_len hn rfl)) rfl rfl (Nat.le_of_ble_eq_true rfl) ⟨Nat.le_of_ble_eq_true rfl, Nat.le_of_ble_eq_true rfl⟩ ⟨Nat.le_of_ble_eq_true rfl, Nat.le_of_ble_eq_true rfl⟩ ?_
  refine c_putS (fs9 := [.ref (gB G + (n + 1)), .ref (gB G + (n + 11)), .ref (gB G + (n + 21)), .ref (gB G + (n + 31)), .ref (gB G + (n + 32)), .null, .null, .null, .null, .null, .null, .int 0]) dX10_init_64 rfl fq_X10_34 hn (Nat.le_of_ble_eq_true rfl) rfl rfl rfl ?_
  refine c_aloadn 0 rfl rfl dX10_init_67 rfl ?_
  refine t_new (K := 42) dX10_init_68 rfl nw_X10_38 hn rfl ⟨Nat.le_of_ble_eq_true rfl, Nat.le_of_ble_eq_true rfl⟩ ?_
  refine c_dup (fun h => Nat.noConfusion h (fun h => Nat.noConfusion h)) dX10_init_71 rfl ?_
  refine c_aloadn 0 rfl rfl dX10_init_72 rfl ?_
  refine c_get (v := vR (n + 1)) dX10_init_73 rfl fq_X10_12 hn rfl ?_
  refine t_call (t := 1) (L := doubtL G (n + 42) (n + 1)) (as := [vR (n + 1)]) dX10_init_76 rfl mi_X10_40 (ct_X0_init (tl_len hn rfl)) rfl rfl (Nat.le_of_ble_eq_true rfl) ⟨Nat.le_of_ble_eq_true rfl, Nat.le_of_ble_eq_true rfl⟩ ⟨Nat.le_of_ble_eq_true rfl, Nat.le_of_ble_eq_true rfl⟩ ?_
  refine c_putS (fs9 := [.ref (gB G + (n + 1)), .ref (gB G + (n + 11)), .ref (gB G + (n + 21)), .ref (gB G + (n + 31)), .ref (gB G + (n + 32)), .ref (gB G + (n + 42)), .null, .null, .null, .null, .null, .int 0]) dX10_init_79 rfl fq_X10_41 hn (Nat.le_of_ble_eq_true rfl) rfl rfl rfl ?_
  refine c_aloadn 0 rfl rfl dX10_init_82 rfl ?_
  refine t_new (K := 45) dX10_init_83 rfl nw_X10_45 hn rfl ⟨Nat.le_of_ble_eq_true rfl, Nat.le_of_ble_eq_true rfl⟩ ?_
  refine c_dup (fun h => Nat.noConfusion h (fun h => Nat.noConfusion h)) dX10_init_86 rfl ?_
  refine c_aloadn 0 rfl rfl dX10_init_87 rfl ?_
  refine c_get (v := vR (n + 1)) dX10_init_88 rfl fq_X10_12 hn rfl ?_
  refine c_aloadn 0 rfl rfl dX10_init_91 rfl ?_
  refine c_get (v := vR (n + 32)) dX10_init_92 rfl fq_X10_34 hn rfl ?_
  refine t_call (t := 1) (L := trialsL G (n + 45) (n + 1) (n + 32)) (as := [vR (n + 1), vR (n + 32)]) dX10_init_95 rfl mi_X10_47 (ct_X8_init (tl_len hn rfl)) rfl rfl (Nat.le_of_ble_eq_true rfl) ⟨Nat.le_of_ble_eq_true rfl, Nat.le_of_ble_eq_true rfl⟩ ⟨Nat.le_of_ble_eq_true rfl, Nat.le_of_ble_eq_true rfl⟩ ?_
  refine c_putS (fs9 := [.ref (gB G + (n + 1)), .ref (gB G + (n + 11)), .ref (gB G + (n + 21)), .ref (gB G + (n + 31)), .ref (gB G + (n + 32)), .ref (gB G + (n + 42)), .ref (gB G + (n + 45)), .null, .null, .null, .null, .int 0]) dX10_init_98 rfl fq_X10_50 hn (Nat.le_of_ble_eq_true rfl) rfl rfl rfl ?_
  refine c_aloadn 0 rfl rfl dX10_init_101 rfl ?_
  refine t_new (K := 49) dX10_init_102 rfl nw_X10_54 hn rfl ⟨Nat.le_of_ble_eq_true rfl, Nat.le_of_ble_eq_true rfl⟩ ?_
  refine c_dup (fun h => Nat.noConfusion h (fun h => Nat.noConfusion h)) dX10_init_105 rfl ?_
  refine c_aloadn 0 rfl rfl dX10_init_106 rfl ?_
  refine c_get (v := vR (n + 1)) dX10_init_107 rfl fq_X10_12 hn rfl ?_
  refine t_call (t := 2) (L := rumourL G (n + 49) (n + 1)) (as := [vR (n + 1)]) dX10_init_110 rfl mi_X10_56 (ct_X5_init (tl_len hn rfl)) rfl rfl (Nat.le_of_ble_eq_true rfl) ⟨Nat.le_of_ble_eq_true rfl, Nat.le_of_ble_eq_true rfl⟩ ⟨Nat.le_of_ble_eq_true rfl, Nat.le_of_ble_eq_true rfl⟩ ?_
  refine c_putS (fs9 := [.ref (gB G + (n + 1)), .ref (gB G + (n + 11)), .ref (gB G + (n + 21)), .ref (gB G + (n + 31)), .ref (gB G + (n + 32)), .ref (gB G + (n + 42)), .ref (gB G + (n + 45)), .ref (gB G + (n + 49)), .null, .null, .null, .int 0]) dX10_init_113 rfl fq_X10_57 hn (Nat.le_of_ble_eq_true rfl) rfl rfl rfl ?_
  refine c_aloadn 0 rfl rfl dX10_init_116 rfl ?_
  refine t_new (K := 59) dX10_init_117 rfl nw_X10_61 hn rfl ⟨Nat.le_of_ble_eq_true rfl, Nat.le_of_ble_eq_true rfl⟩ ?_
  refine c_dup (fun h => Nat.noConfusion h (fun h => Nat.noConfusion h)) dX10_init_120 rfl ?_
  refine t_call (t := 1) (L := voicesL G (n + 59)) (as := []) dX10_init_121 rfl mi_X10_63 (ct_X9_init (tl_len hn rfl)) rfl rfl (Nat.le_of_ble_eq_true rfl) ⟨Nat.le_of_ble_eq_true rfl, Nat.le_of_ble_eq_true rfl⟩ ⟨Nat.le_of_ble_eq_true rfl, Nat.le_of_ble_eq_true rfl⟩ ?_
  refine c_putS (fs9 := [.ref (gB G + (n + 1)), .ref (gB G + (n + 11)), .ref (gB G + (n + 21)), .ref (gB G + (n + 31)), .ref (gB G + (n + 32)), .ref (gB G + (n + 42)), .ref (gB G + (n + 45)), .ref (gB G + (n + 49)), .ref (gB G + (n + 59)), .null, .null, .int 0]) dX10_init_124 rfl fq_X10_64 hn (Nat.le_of_ble_eq_true rfl) rfl rfl rfl ?_
  refine c_aloadn 0 rfl rfl dX10_init_127 rfl ?_
  refine c_iconst dX10_init_128 rfl ?_
  refine t_newq (a := 3) (N := 4) (K := 61) rfl (fun _ h => h.1) cl_X10_68 rfl (by decide) dX10_init_129 rfl hn rfl ⟨Nat.le_of_ble_eq_true rfl, Nat.le_of_ble_eq_true rfl⟩ ?_
  refine c_putS (fs9 := [.ref (gB G + (n + 1)), .ref (gB G + (n + 11)), .ref (gB G + (n + 21)), .ref (gB G + (n + 31)), .ref (gB G + (n + 32)), .ref (gB G + (n + 42)), .ref (gB G + (n + 45)), .ref (gB G + (n + 49)), .ref (gB G + (n + 59)), .ref (gB G + (n + 61)), .null, .int 0]) dX10_init_132 rfl fq_X10_70 hn (Nat.le_of_ble_eq_true rfl) rfl rfl rfl ?_
  refine c_aloadn 0 rfl rfl dX10_init_135 rfl ?_
  refine c_bipush (by decide) dX10_init_136 rfl ?_
  refine t_newi (N := 7) (K := 62) rfl (by decide) dX10_init_138 rfl hn rfl ⟨Nat.le_of_ble_eq_true rfl, Nat.le_of_ble_eq_true rfl⟩ ?_
  refine c_putS (fs9 := [.ref (gB G + (n + 1)), .ref (gB G + (n + 11)), .ref (gB G + (n + 21)), .ref (gB G + (n + 31)), .ref (gB G + (n + 32)), .ref (gB G + (n + 42)), .ref (gB G + (n + 45)), .ref (gB G + (n + 49)), .ref (gB G + (n + 59)), .ref (gB G + (n + 61)), .ref (gB G + (n + 62)), .int 0]) dX10_init_140 rfl fq_X10_74 hn (Nat.le_of_ble_eq_true rfl) rfl rfl rfl ?_
  refine c_iconst dX10_init_143 rfl ?_
  refine c_istoren (ls' := [(1, vI 0), (0, vR n)]) rfl (by decide) rfl dX10_init_144 rfl ?_
  refine loop10_in (B0 := [] ++ hallL G (n + 1) ++ hallL G (n + 11) ++ hallL G (n + 21) ++ readerL G (n + 31) (n + 21) ++ fittingL G (n + 32) (n + 1) ++ doubtL G (n + 42) (n + 1) ++ trialsL G (n + 45) (n + 1) (n + 32) ++ rumourL G (n + 49) (n + 1) ++ voicesL G (n + 59)) ?_
  have hB0 : ([] ++ hallL G (n + 1) ++ hallL G (n + 11) ++ hallL G (n + 21) ++ readerL G (n + 31) (n + 21) ++ fittingL G (n + 32) (n + 1) ++ doubtL G (n + 42) (n + 1) ++ trialsL G (n + 45) (n + 1) (n + 32) ++ rumourL G (n + 49) (n + 1) ++ voicesL G (n + 59)).length = 60 := rfl
  generalize hBe : [] ++ hallL G (n + 1) ++ hallL G (n + 11) ++ hallL G (n + 21) ++ readerL G (n + 31) (n + 21) ++ fittingL G (n + 32) (n + 1) ++ doubtL G (n + 42) (n + 1) ++ trialsL G (n + 45) (n + 1) (n + 32) ++ rumourL G (n + 49) (n + 1) ++ voicesL G (n + 59) = B0 at hB0 ⊢
  refine loop10 (z := 0) (K2 := 1) hn hB0 ?_ (by decide) (by decide) ?_ ?_ ?_ ?_ ?_
  · rfl
  · exact Nat.le_of_ble_eq_true rfl
  · exact Nat.le_of_ble_eq_true rfl
  · exact Nat.le_of_ble_eq_true rfl
  · exact Nat.le_of_ble_eq_true rfl
  refine loop10 (z := 1) (K2 := 3) hn hB0 ?_ (by decide) (by decide) ?_ ?_ ?_ ?_ ?_
  · rfl
  · exact Nat.le_of_ble_eq_true rfl
  · exact Nat.le_of_ble_eq_true rfl
  · exact Nat.le_of_ble_eq_true rfl
  · exact Nat.le_of_ble_eq_true rfl
  refine loop10 (z := 2) (K2 := 5) hn hB0 ?_ (by decide) (by decide) ?_ ?_ ?_ ?_ ?_
  · rfl
  · exact Nat.le_of_ble_eq_true rfl
  · exact Nat.le_of_ble_eq_true rfl
  · exact Nat.le_of_ble_eq_true rfl
  · exact Nat.le_of_ble_eq_true rfl
  refine loop10 (z := 3) (K2 := 7) hn hB0 ?_ (by decide) (by decide) ?_ ?_ ?_ ?_ ?_
  · rfl
  · exact Nat.le_of_ble_eq_true rfl
  · exact Nat.le_of_ble_eq_true rfl
  · exact Nat.le_of_ble_eq_true rfl
  · exact Nat.le_of_ble_eq_true rfl
  refine c_iloadn 0 rfl rfl dX10_init_145 rfl ?_
  refine c_iconst dX10_init_146 rfl ?_
  refine c_geY (tgt := 169) dX10_init_147 rfl ⟨by decide, by decide⟩ ⟨by decide, by decide⟩ (by decide) ?_
  subst hBe
  exact c_ret dX10_init_169 (Nat.le_of_ble_eq_true rfl) (Nat.le_of_ble_eq_true rfl) rfl
def modelL (G : GT) (n : Nat) : List va_E := .inr (10, [.ref (gB G + (n + 1)), .ref (gB G + (n + 2)), .ref (gB G + (n + 3)), .int 0, .ref (gB G + (n + 4)), .ref (gB G + (n + 5)), .int 0, .int 0, .int 0, .ref (gB G + (n + 6)), .ref (gB G + (n + 7)), .ref (gB G + (n + 8)), .int 0, .ref (gB G + (n + 9)), .int 0, .ref (gB G + (n + 10)), .ref (gB G + (n + 11)), .ref (gB G + (n + 12)), .ref (gB G + (n + 13)), .ref (gB G + (n + 14)), .ref (gB G + (n + 15)), .int 0, .int 0, .int 0, .ref (gB G + (n + 16)), .ref (gB G + (n + 17)), .ref (gB G + (n + 18)), .ref (gB G + (n + 19))]) :: ([.inl (gC G 0, 553, .inl (upd (fun _ => 0) 2 (Int32.ofInt 12))), .inl (gC G 0, 553, .inl (fun _ => 0)), .inl (gC G 0, 553, .inl (fun _ => 0)), .inl (gC G 0, 7, .inl (fun _ => 0)), .inl (gC G 4, 6, .inr (.inr (.inr (.inr (va_up (va_up (va_up (va_up (va_up (va_up (fun _ => none) 0 (some (gK G 12))) 1 (some (gK G 13))) 2 (some (gK G 14))) 3 (some (gK G 15))) 4 (some (gK G 16))) 5 (some (gK G 17))))))), .inl (gC G 0, 4096, .inl (fun _ => 0)), .inl (gC G 0, 4096, .inl (fun _ => 0)), .inl (gC G 0, 14, .inl (fun _ => 0)), .inl (gC G 0, 4096, .inl (fun _ => 0)), .inl (gC G 0, 768, .inl (fun _ => 0)), .inl (gC G 0, 3, .inl (fun _ => 0)), .inl (gC G 0, 8, .inl (fun _ => 0)), .inl (gC G 0, 256, .inl (fun _ => 0)), .inl (gC G 0, 4096, .inl (fun _ => 0)), .inl (gC G 0, 30, .inl (fun _ => 0)), .inl (gC G 0, 4, .inl (fun _ => 0)), .inl (gC G 0, 4, .inl (fun _ => 0)), .inl (gC G 0, 96, .inl (fun _ => 0)), .inl (gC G 0, 24, .inl (fun _ => 0))])
set_option maxRecDepth 100000 in
set_option maxHeartbeats 4000000 in
theorem ct_X11_init {G : GT} {pre : List va_E} {n : Nat} (hn : pre.length = n) : CtC G yX11_init cX11_init 1 1 19 19263 [vR n] (pre ++ [.inr (10, [.null, .null, .null, .int 0, .null, .null, .int 0, .int 0, .int 0, .null, .null, .null, .int 0, .null, .int 0, .null, .null, .null, .null, .null, .null, .int 0, .int 0, .int 0, .null, .null, .null, .null])]) (pre ++ modelL G n) := by
  refine CtC_of (by decide) rfl (Nat.le_of_ble_eq_true rfl) (ls := [(0, vR n)]) rfl ?_
  show ExC _ _ _ _ _ RX11 _ _ _ _ _ _ _ (tcL pre 10 [.null, .null, .null, .int 0, .null, .null, .int 0, .int 0, .int 0, .null, .null, .null, .int 0, .null, .int 0, .null, .null, .null, .null, .null, .null, .int 0, .int 0, .int 0, .null, .null, .null, .null] [])
  refine c_aloadn 0 rfl rfl dX11_init_0 rfl ?_
  refine c_obj dX11_init_1 rfl ob_X11_3 ob_im ob_cd ⟨Nat.le_of_ble_eq_true rfl, Nat.le_of_ble_eq_true rfl⟩ ?_
  refine c_aloadn 0 rfl rfl dX11_init_4 rfl ?_
  refine c_sipush (by decide) dX11_init_5 rfl ?_
  refine t_newi (N := 553) (K := 1) rfl (by decide) dX11_init_8 rfl hn rfl ⟨Nat.le_of_ble_eq_true rfl, Nat.le_of_ble_eq_true rfl⟩ ?_
  refine c_putS (fs9 := [.ref (gB G + (n + 1)), .null, .null, .int 0, .null, .null, .int 0, .int 0, .int 0, .null, .null, .null, .int 0, .null, .int 0, .null, .null, .null, .null, .null, .null, .int 0, .int 0, .int 0, .null, .null, .null, .null]) dX11_init_10 rfl fq_X11_9 hn (Nat.le_of_ble_eq_true rfl) rfl rfl rfl ?_
  refine c_aloadn 0 rfl rfl dX11_init_13 rfl ?_
  refine c_sipush (by decide) dX11_init_14 rfl ?_
  refine t_newi (N := 553) (K := 2) rfl (by decide) dX11_init_17 rfl hn rfl ⟨Nat.le_of_ble_eq_true rfl, Nat.le_of_ble_eq_true rfl⟩ ?_
  refine c_putS (fs9 := [.ref (gB G + (n + 1)), .ref (gB G + (n + 2)), .null, .int 0, .null, .null, .int 0, .int 0, .int 0, .null, .null, .null, .int 0, .null, .int 0, .null, .null, .null, .null, .null, .null, .int 0, .int 0, .int 0, .null, .null, .null, .null]) dX11_init_19 rfl fq_X11_13 hn (Nat.le_of_ble_eq_true rfl) rfl rfl rfl ?_
  refine c_aloadn 0 rfl rfl dX11_init_22 rfl ?_
  refine c_sipush (by decide) dX11_init_23 rfl ?_
  refine t_newi (N := 553) (K := 3) rfl (by decide) dX11_init_26 rfl hn rfl ⟨Nat.le_of_ble_eq_true rfl, Nat.le_of_ble_eq_true rfl⟩ ?_
  refine c_putS (fs9 := [.ref (gB G + (n + 1)), .ref (gB G + (n + 2)), .ref (gB G + (n + 3)), .int 0, .null, .null, .int 0, .int 0, .int 0, .null, .null, .null, .int 0, .null, .int 0, .null, .null, .null, .null, .null, .null, .int 0, .int 0, .int 0, .null, .null, .null, .null]) dX11_init_28 rfl fq_X11_16 hn (Nat.le_of_ble_eq_true rfl) rfl rfl rfl ?_
  refine c_aloadn 0 rfl rfl dX11_init_31 rfl ?_
  refine c_bipush (by decide) dX11_init_32 rfl ?_
  refine t_newi (N := 7) (K := 4) rfl (by decide) dX11_init_34 rfl hn rfl ⟨Nat.le_of_ble_eq_true rfl, Nat.le_of_ble_eq_true rfl⟩ ?_
  refine c_putS (fs9 := [.ref (gB G + (n + 1)), .ref (gB G + (n + 2)), .ref (gB G + (n + 3)), .int 0, .ref (gB G + (n + 4)), .null, .int 0, .int 0, .int 0, .null, .null, .null, .int 0, .null, .int 0, .null, .null, .null, .null, .null, .null, .int 0, .int 0, .int 0, .null, .null, .null, .null]) dX11_init_36 rfl fq_X11_19 hn (Nat.le_of_ble_eq_true rfl) rfl rfl rfl ?_
  refine c_aloadn 0 rfl rfl dX11_init_39 rfl ?_
  refine c_bipush (by decide) dX11_init_40 rfl ?_
  refine t_newq (a := 4) (N := 6) (K := 5) rfl (fun _ h => h.2) cl_X11_22 rfl (by decide) dX11_init_42 rfl hn rfl ⟨Nat.le_of_ble_eq_true rfl, Nat.le_of_ble_eq_true rfl⟩ ?_
  refine c_dup (fun h => Nat.noConfusion h (fun h => Nat.noConfusion h)) dX11_init_45 rfl ?_
  refine c_iconst dX11_init_46 rfl ?_
  refine c_ldcS (t := 12) (by decide) ⟨rfl, rfl⟩ dX11_init_47 rfl ?_
  refine t_aastS (j := 4) (B9 := [.inl (gC G 0, 553, .inl (fun _ => 0)), .inl (gC G 0, 553, .inl (fun _ => 0)), .inl (gC G 0, 553, .inl (fun _ => 0)), .inl (gC G 0, 7, .inl (fun _ => 0)), .inl (gC G 4, 6, .inr (.inr (.inr (.inr (va_up (fun _ => none) 0 (some (gK G 12)))))))]) (by decide) hn rfl (by decide) (by decide) (by decide) dX11_init_49 rfl rfl ?_
  refine c_dup (fun h => Nat.noConfusion h (fun h => Nat.noConfusion h)) dX11_init_50 rfl ?_
  refine c_iconst dX11_init_51 rfl ?_
  refine c_ldcS (t := 13) (by decide) ⟨rfl, rfl⟩ dX11_init_52 rfl ?_
  refine t_aastS (j := 4) (B9 := [.inl (gC G 0, 553, .inl (fun _ => 0)), .inl (gC G 0, 553, .inl (fun _ => 0)), .inl (gC G 0, 553, .inl (fun _ => 0)), .inl (gC G 0, 7, .inl (fun _ => 0)), .inl (gC G 4, 6, .inr (.inr (.inr (.inr (va_up (va_up (fun _ => none) 0 (some (gK G 12))) 1 (some (gK G 13)))))))]) (by decide) hn rfl (by decide) (by decide) (by decide) dX11_init_54 rfl rfl ?_
  refine c_dup (fun h => Nat.noConfusion h (fun h => Nat.noConfusion h)) dX11_init_55 rfl ?_
  refine c_iconst dX11_init_56 rfl ?_
  refine c_ldcS (t := 14) (by decide) ⟨rfl, rfl⟩ dX11_init_57 rfl ?_
  refine t_aastS (j := 4) (B9 := [.inl (gC G 0, 553, .inl (fun _ => 0)), .inl (gC G 0, 553, .inl (fun _ => 0)), .inl (gC G 0, 553, .inl (fun _ => 0)), .inl (gC G 0, 7, .inl (fun _ => 0)), .inl (gC G 4, 6, .inr (.inr (.inr (.inr (va_up (va_up (va_up (fun _ => none) 0 (some (gK G 12))) 1 (some (gK G 13))) 2 (some (gK G 14)))))))]) (by decide) hn rfl (by decide) (by decide) (by decide) dX11_init_59 rfl rfl ?_
  refine c_dup (fun h => Nat.noConfusion h (fun h => Nat.noConfusion h)) dX11_init_60 rfl ?_
  refine c_iconst dX11_init_61 rfl ?_
  refine c_ldcS (t := 15) (by decide) ⟨rfl, rfl⟩ dX11_init_62 rfl ?_
  refine t_aastS (j := 4) (B9 := [.inl (gC G 0, 553, .inl (fun _ => 0)), .inl (gC G 0, 553, .inl (fun _ => 0)), .inl (gC G 0, 553, .inl (fun _ => 0)), .inl (gC G 0, 7, .inl (fun _ => 0)), .inl (gC G 4, 6, .inr (.inr (.inr (.inr (va_up (va_up (va_up (va_up (fun _ => none) 0 (some (gK G 12))) 1 (some (gK G 13))) 2 (some (gK G 14))) 3 (some (gK G 15)))))))]) (by decide) hn rfl (by decide) (by decide) (by decide) dX11_init_64 rfl rfl ?_
  refine c_dup (fun h => Nat.noConfusion h (fun h => Nat.noConfusion h)) dX11_init_65 rfl ?_
  refine c_iconst dX11_init_66 rfl ?_
  refine c_ldcS (t := 16) (by decide) ⟨rfl, rfl⟩ dX11_init_67 rfl ?_
  refine t_aastS (j := 4) (B9 := [.inl (gC G 0, 553, .inl (fun _ => 0)), .inl (gC G 0, 553, .inl (fun _ => 0)), .inl (gC G 0, 553, .inl (fun _ => 0)), .inl (gC G 0, 7, .inl (fun _ => 0)), .inl (gC G 4, 6, .inr (.inr (.inr (.inr (va_up (va_up (va_up (va_up (va_up (fun _ => none) 0 (some (gK G 12))) 1 (some (gK G 13))) 2 (some (gK G 14))) 3 (some (gK G 15))) 4 (some (gK G 16)))))))]) (by decide) hn rfl (by decide) (by decide) (by decide) dX11_init_69 rfl rfl ?_
  refine c_dup (fun h => Nat.noConfusion h (fun h => Nat.noConfusion h)) dX11_init_70 rfl ?_
  refine c_iconst dX11_init_71 rfl ?_
  refine c_ldcS (t := 17) (by decide) ⟨rfl, rfl⟩ dX11_init_72 rfl ?_
  refine t_aastS (j := 4) (B9 := [.inl (gC G 0, 553, .inl (fun _ => 0)), .inl (gC G 0, 553, .inl (fun _ => 0)), .inl (gC G 0, 553, .inl (fun _ => 0)), .inl (gC G 0, 7, .inl (fun _ => 0)), .inl (gC G 4, 6, .inr (.inr (.inr (.inr (va_up (va_up (va_up (va_up (va_up (va_up (fun _ => none) 0 (some (gK G 12))) 1 (some (gK G 13))) 2 (some (gK G 14))) 3 (some (gK G 15))) 4 (some (gK G 16))) 5 (some (gK G 17)))))))]) (by decide) hn rfl (by decide) (by decide) (by decide) dX11_init_74 rfl rfl ?_
  refine c_putS (fs9 := [.ref (gB G + (n + 1)), .ref (gB G + (n + 2)), .ref (gB G + (n + 3)), .int 0, .ref (gB G + (n + 4)), .ref (gB G + (n + 5)), .int 0, .int 0, .int 0, .null, .null, .null, .int 0, .null, .int 0, .null, .null, .null, .null, .null, .null, .int 0, .int 0, .int 0, .null, .null, .null, .null]) dX11_init_75 rfl fq_X11_36 hn (Nat.le_of_ble_eq_true rfl) rfl rfl rfl ?_
  refine c_aloadn 0 rfl rfl dX11_init_78 rfl ?_
  refine c_sipush (by decide) dX11_init_79 rfl ?_
  refine t_newi (N := 4096) (K := 6) rfl (by decide) dX11_init_82 rfl hn rfl ⟨Nat.le_of_ble_eq_true rfl, Nat.le_of_ble_eq_true rfl⟩ ?_
  refine c_putS (fs9 := [.ref (gB G + (n + 1)), .ref (gB G + (n + 2)), .ref (gB G + (n + 3)), .int 0, .ref (gB G + (n + 4)), .ref (gB G + (n + 5)), .int 0, .int 0, .int 0, .ref (gB G + (n + 6)), .null, .null, .int 0, .null, .int 0, .null, .null, .null, .null, .null, .null, .int 0, .int 0, .int 0, .null, .null, .null, .null]) dX11_init_84 rfl fq_X11_40 hn (Nat.le_of_ble_eq_true rfl) rfl rfl rfl ?_
  refine c_aloadn 0 rfl rfl dX11_init_87 rfl ?_
  refine c_sipush (by decide) dX11_init_88 rfl ?_
  refine t_newi (N := 4096) (K := 7) rfl (by decide) dX11_init_91 rfl hn rfl ⟨Nat.le_of_ble_eq_true rfl, Nat.le_of_ble_eq_true rfl⟩ ?_
  refine c_putS (fs9 := [.ref (gB G + (n + 1)), .ref (gB G + (n + 2)), .ref (gB G + (n + 3)), .int 0, .ref (gB G + (n + 4)), .ref (gB G + (n + 5)), .int 0, .int 0, .int 0, .ref (gB G + (n + 6)), .ref (gB G + (n + 7)), .null, .int 0, .null, .int 0, .null, .null, .null, .null, .null, .null, .int 0, .int 0, .int 0, .null, .null, .null, .null]) dX11_init_93 rfl fq_X11_43 hn (Nat.le_of_ble_eq_true rfl) rfl rfl rfl ?_
  refine c_aloadn 0 rfl rfl dX11_init_96 rfl ?_
  refine c_bipush (by decide) dX11_init_97 rfl ?_
  refine t_newi (N := 14) (K := 8) rfl (by decide) dX11_init_99 rfl hn rfl ⟨Nat.le_of_ble_eq_true rfl, Nat.le_of_ble_eq_true rfl⟩ ?_
  refine c_putS (fs9 := [.ref (gB G + (n + 1)), .ref (gB G + (n + 2)), .ref (gB G + (n + 3)), .int 0, .ref (gB G + (n + 4)), .ref (gB G + (n + 5)), .int 0, .int 0, .int 0, .ref (gB G + (n + 6)), .ref (gB G + (n + 7)), .ref (gB G + (n + 8)), .int 0, .null, .int 0, .null, .null, .null, .null, .null, .null, .int 0, .int 0, .int 0, .null, .null, .null, .null]) dX11_init_101 rfl fq_X11_46 hn (Nat.le_of_ble_eq_true rfl) rfl rfl rfl ?_
  refine c_aloadn 0 rfl rfl dX11_init_104 rfl ?_
  refine c_sipush (by decide) dX11_init_105 rfl ?_
  refine t_newi (N := 4096) (K := 9) rfl (by decide) dX11_init_108 rfl hn rfl ⟨Nat.le_of_ble_eq_true rfl, Nat.le_of_ble_eq_true rfl⟩ ?_
  refine c_putS (fs9 := [.ref (gB G + (n + 1)), .ref (gB G + (n + 2)), .ref (gB G + (n + 3)), .int 0, .ref (gB G + (n + 4)), .ref (gB G + (n + 5)), .int 0, .int 0, .int 0, .ref (gB G + (n + 6)), .ref (gB G + (n + 7)), .ref (gB G + (n + 8)), .int 0, .ref (gB G + (n + 9)), .int 0, .null, .null, .null, .null, .null, .null, .int 0, .int 0, .int 0, .null, .null, .null, .null]) dX11_init_110 rfl fq_X11_49 hn (Nat.le_of_ble_eq_true rfl) rfl rfl rfl ?_
  refine c_aloadn 0 rfl rfl dX11_init_113 rfl ?_
  refine c_sipush (by decide) dX11_init_114 rfl ?_
  refine t_newi (N := 768) (K := 10) rfl (by decide) dX11_init_117 rfl hn rfl ⟨Nat.le_of_ble_eq_true rfl, Nat.le_of_ble_eq_true rfl⟩ ?_
  refine c_putS (fs9 := [.ref (gB G + (n + 1)), .ref (gB G + (n + 2)), .ref (gB G + (n + 3)), .int 0, .ref (gB G + (n + 4)), .ref (gB G + (n + 5)), .int 0, .int 0, .int 0, .ref (gB G + (n + 6)), .ref (gB G + (n + 7)), .ref (gB G + (n + 8)), .int 0, .ref (gB G + (n + 9)), .int 0, .ref (gB G + (n + 10)), .null, .null, .null, .null, .null, .int 0, .int 0, .int 0, .null, .null, .null, .null]) dX11_init_119 rfl fq_X11_52 hn (Nat.le_of_ble_eq_true rfl) rfl rfl rfl ?_
  refine c_aloadn 0 rfl rfl dX11_init_122 rfl ?_
  refine c_iconst dX11_init_123 rfl ?_
  refine t_newi (N := 3) (K := 11) rfl (by decide) dX11_init_124 rfl hn rfl ⟨Nat.le_of_ble_eq_true rfl, Nat.le_of_ble_eq_true rfl⟩ ?_
  refine c_putS (fs9 := [.ref (gB G + (n + 1)), .ref (gB G + (n + 2)), .ref (gB G + (n + 3)), .int 0, .ref (gB G + (n + 4)), .ref (gB G + (n + 5)), .int 0, .int 0, .int 0, .ref (gB G + (n + 6)), .ref (gB G + (n + 7)), .ref (gB G + (n + 8)), .int 0, .ref (gB G + (n + 9)), .int 0, .ref (gB G + (n + 10)), .ref (gB G + (n + 11)), .null, .null, .null, .null, .int 0, .int 0, .int 0, .null, .null, .null, .null]) dX11_init_126 rfl fq_X11_55 hn (Nat.le_of_ble_eq_true rfl) rfl rfl rfl ?_
  refine c_aloadn 0 rfl rfl dX11_init_129 rfl ?_
  refine c_bipush (by decide) dX11_init_130 rfl ?_
  refine t_newi (N := 8) (K := 12) rfl (by decide) dX11_init_132 rfl hn rfl ⟨Nat.le_of_ble_eq_true rfl, Nat.le_of_ble_eq_true rfl⟩ ?_
  refine c_putS (fs9 := [.ref (gB G + (n + 1)), .ref (gB G + (n + 2)), .ref (gB G + (n + 3)), .int 0, .ref (gB G + (n + 4)), .ref (gB G + (n + 5)), .int 0, .int 0, .int 0, .ref (gB G + (n + 6)), .ref (gB G + (n + 7)), .ref (gB G + (n + 8)), .int 0, .ref (gB G + (n + 9)), .int 0, .ref (gB G + (n + 10)), .ref (gB G + (n + 11)), .ref (gB G + (n + 12)), .null, .null, .null, .int 0, .int 0, .int 0, .null, .null, .null, .null]) dX11_init_134 rfl fq_X11_58 hn (Nat.le_of_ble_eq_true rfl) rfl rfl rfl ?_
  refine c_aloadn 0 rfl rfl dX11_init_137 rfl ?_
  refine c_sipush (by decide) dX11_init_138 rfl ?_
  refine t_newi (N := 256) (K := 13) rfl (by decide) dX11_init_141 rfl hn rfl ⟨Nat.le_of_ble_eq_true rfl, Nat.le_of_ble_eq_true rfl⟩ ?_
  refine c_putS (fs9 := [.ref (gB G + (n + 1)), .ref (gB G + (n + 2)), .ref (gB G + (n + 3)), .int 0, .ref (gB G + (n + 4)), .ref (gB G + (n + 5)), .int 0, .int 0, .int 0, .ref (gB G + (n + 6)), .ref (gB G + (n + 7)), .ref (gB G + (n + 8)), .int 0, .ref (gB G + (n + 9)), .int 0, .ref (gB G + (n + 10)), .ref (gB G + (n + 11)), .ref (gB G + (n + 12)), .ref (gB G + (n + 13)), .null, .null, .int 0, .int 0, .int 0, .null, .null, .null, .null]) dX11_init_143 rfl fq_X11_61 hn (Nat.le_of_ble_eq_true rfl) rfl rfl rfl ?_
  refine c_aloadn 0 rfl rfl dX11_init_146 rfl ?_
  refine c_sipush (by decide) dX11_init_147 rfl ?_
  refine t_newi (N := 4096) (K := 14) rfl (by decide) dX11_init_150 rfl hn rfl ⟨Nat.le_of_ble_eq_true rfl, Nat.le_of_ble_eq_true rfl⟩ ?_
  refine c_putS (fs9 := [.ref (gB G + (n + 1)), .ref (gB G + (n + 2)), .ref (gB G + (n + 3)), .int 0, .ref (gB G + (n + 4)), .ref (gB G + (n + 5)), .int 0, .int 0, .int 0, .ref (gB G + (n + 6)), .ref (gB G + (n + 7)), .ref (gB G + (n + 8)), .int 0, .ref (gB G + (n + 9)), .int 0, .ref (gB G + (n + 10)), .ref (gB G + (n + 11)), .ref (gB G + (n + 12)), .ref (gB G + (n + 13)), .ref (gB G + (n + 14)), .null, .int 0, .int 0, .int 0, .null, .null, .null, .null]) dX11_init_152 rfl fq_X11_64 hn (Nat.le_of_ble_eq_true rfl) rfl rfl rfl ?_
  refine c_aloadn 0 rfl rfl dX11_init_155 rfl ?_
  refine c_bipush (by decide) dX11_init_156 rfl ?_
  refine t_newi (N := 30) (K := 15) rfl (by decide) dX11_init_158 rfl hn rfl ⟨Nat.le_of_ble_eq_true rfl, Nat.le_of_ble_eq_true rfl⟩ ?_
  refine c_putS (fs9 := [.ref (gB G + (n + 1)), .ref (gB G + (n + 2)), .ref (gB G + (n + 3)), .int 0, .ref (gB G + (n + 4)), .ref (gB G + (n + 5)), .int 0, .int 0, .int 0, .ref (gB G + (n + 6)), .ref (gB G + (n + 7)), .ref (gB G + (n + 8)), .int 0, .ref (gB G + (n + 9)), .int 0, .ref (gB G + (n + 10)), .ref (gB G + (n + 11)), .ref (gB G + (n + 12)), .ref (gB G + (n + 13)), .ref (gB G + (n + 14)), .ref (gB G + (n + 15)), .int 0, .int 0, .int 0, .null, .null, .null, .null]) dX11_init_160 rfl fq_X11_67 hn (Nat.le_of_ble_eq_true rfl) rfl rfl rfl ?_
  refine c_aloadn 0 rfl rfl dX11_init_163 rfl ?_
  refine c_iconst dX11_init_164 rfl ?_
  refine t_newi (N := 4) (K := 16) rfl (by decide) dX11_init_165 rfl hn rfl ⟨Nat.le_of_ble_eq_true rfl, Nat.le_of_ble_eq_true rfl⟩ ?_
  refine c_putS (fs9 := [.ref (gB G + (n + 1)), .ref (gB G + (n + 2)), .ref (gB G + (n + 3)), .int 0, .ref (gB G + (n + 4)), .ref (gB G + (n + 5)), .int 0, .int 0, .int 0, .ref (gB G + (n + 6)), .ref (gB G + (n + 7)), .ref (gB G + (n + 8)), .int 0, .ref (gB G + (n + 9)), .int 0, .ref (gB G + (n + 10)), .ref (gB G + (n + 11)), .ref (gB G + (n + 12)), .ref (gB G + (n + 13)), .ref (gB G + (n + 14)), .ref (gB G + (n + 15)), .int 0, .int 0, .int 0, .ref (gB G + (n + 16)), .null, .null, .null]) dX11_init_167 rfl fq_X11_70 hn (Nat.le_of_ble_eq_true rfl) rfl rfl rfl ?_
  refine c_aloadn 0 rfl rfl dX11_init_170 rfl ?_
  refine c_iconst dX11_init_171 rfl ?_
  refine t_newi (N := 4) (K := 17) rfl (by decide) dX11_init_172 rfl hn rfl ⟨Nat.le_of_ble_eq_true rfl, Nat.le_of_ble_eq_true rfl⟩ ?_
  refine c_putS (fs9 := [.ref (gB G + (n + 1)), .ref (gB G + (n + 2)), .ref (gB G + (n + 3)), .int 0, .ref (gB G + (n + 4)), .ref (gB G + (n + 5)), .int 0, .int 0, .int 0, .ref (gB G + (n + 6)), .ref (gB G + (n + 7)), .ref (gB G + (n + 8)), .int 0, .ref (gB G + (n + 9)), .int 0, .ref (gB G + (n + 10)), .ref (gB G + (n + 11)), .ref (gB G + (n + 12)), .ref (gB G + (n + 13)), .ref (gB G + (n + 14)), .ref (gB G + (n + 15)), .int 0, .int 0, .int 0, .ref (gB G + (n + 16)), .ref (gB G + (n + 17)), .null, .null]) dX11_init_174 rfl fq_X11_73 hn (Nat.le_of_ble_eq_true rfl) rfl rfl rfl ?_
  refine c_aloadn 0 rfl rfl dX11_init_177 rfl ?_
  refine c_bipush (by decide) dX11_init_178 rfl ?_
  refine t_newi (N := 96) (K := 18) rfl (by decide) dX11_init_180 rfl hn rfl ⟨Nat.le_of_ble_eq_true rfl, Nat.le_of_ble_eq_true rfl⟩ ?_
  refine c_putS (fs9 := [.ref (gB G + (n + 1)), .ref (gB G + (n + 2)), .ref (gB G + (n + 3)), .int 0, .ref (gB G + (n + 4)), .ref (gB G + (n + 5)), .int 0, .int 0, .int 0, .ref (gB G + (n + 6)), .ref (gB G + (n + 7)), .ref (gB G + (n + 8)), .int 0, .ref (gB G + (n + 9)), .int 0, .ref (gB G + (n + 10)), .ref (gB G + (n + 11)), .ref (gB G + (n + 12)), .ref (gB G + (n + 13)), .ref (gB G + (n + 14)), .ref (gB G + (n + 15)), .int 0, .int 0, .int 0, .ref (gB G + (n + 16)), .ref (gB G + (n + 17)), .ref (gB G + (n + 18)), .null]) dX11_init_182 rfl fq_X11_76 hn (Nat.le_of_ble_eq_true rfl) rfl rfl rfl ?_
  refine c_aloadn 0 rfl rfl dX11_init_185 rfl ?_
  refine c_bipush (by decide) dX11_init_186 rfl ?_
  refine t_newi (N := 24) (K := 19) rfl (by decide) dX11_init_188 rfl hn rfl ⟨Nat.le_of_ble_eq_true rfl, Nat.le_of_ble_eq_true rfl⟩ ?_
  refine c_putS (fs9 := [.ref (gB G + (n + 1)), .ref (gB G + (n + 2)), .ref (gB G + (n + 3)), .int 0, .ref (gB G + (n + 4)), .ref (gB G + (n + 5)), .int 0, .int 0, .int 0, .ref (gB G + (n + 6)), .ref (gB G + (n + 7)), .ref (gB G + (n + 8)), .int 0, .ref (gB G + (n + 9)), .int 0, .ref (gB G + (n + 10)), .ref (gB G + (n + 11)), .ref (gB G + (n + 12)), .ref (gB G + (n + 13)), .ref (gB G + (n + 14)), .ref (gB G + (n + 15)), .int 0, .int 0, .int 0, .ref (gB G + (n + 16)), .ref (gB G + (n + 17)), .ref (gB G + (n + 18)), .ref (gB G + (n + 19))]) dX11_init_190 rfl fq_X11_79 hn (Nat.le_of_ble_eq_true rfl) rfl rfl rfl ?_
  refine c_aloadn 0 rfl rfl dX11_init_193 rfl ?_
  refine c_get (v := vR (n + 1)) dX11_init_194 rfl fq_X11_9 hn rfl ?_
  refine c_iconst dX11_init_197 rfl ?_
  refine c_bipush (by decide) dX11_init_198 rfl ?_
  refine t_iast (j := 0) (B9 := [.inl (gC G 0, 553, .inl (upd (fun _ => 0) 2 (Int32.ofInt 12))), .inl (gC G 0, 553, .inl (fun _ => 0)), .inl (gC G 0, 553, .inl (fun _ => 0)), .inl (gC G 0, 7, .inl (fun _ => 0)), .inl (gC G 4, 6, .inr (.inr (.inr (.inr (va_up (va_up (va_up (va_up (va_up (va_up (fun _ => none) 0 (some (gK G 12))) 1 (some (gK G 13))) 2 (some (gK G 14))) 3 (some (gK G 15))) 4 (some (gK G 16))) 5 (some (gK G 17))))))), .inl (gC G 0, 4096, .inl (fun _ => 0)), .inl (gC G 0, 4096, .inl (fun _ => 0)), .inl (gC G 0, 14, .inl (fun _ => 0)), .inl (gC G 0, 4096, .inl (fun _ => 0)), .inl (gC G 0, 768, .inl (fun _ => 0)), .inl (gC G 0, 3, .inl (fun _ => 0)), .inl (gC G 0, 8, .inl (fun _ => 0)), .inl (gC G 0, 256, .inl (fun _ => 0)), .inl (gC G 0, 4096, .inl (fun _ => 0)), .inl (gC G 0, 30, .inl (fun _ => 0)), .inl (gC G 0, 4, .inl (fun _ => 0)), .inl (gC G 0, 4, .inl (fun _ => 0)), .inl (gC G 0, 96, .inl (fun _ => 0)), .inl (gC G 0, 24, .inl (fun _ => 0))]) hn rfl (by decide) (by decide) (by decide) dX11_init_200 rfl rfl ?_
  exact c_ret dX11_init_201 (Nat.le_of_ble_eq_true rfl) (Nat.le_of_ble_eq_true rfl) rfl
