/-! ===== what holds between the class and the reference ===== -/
theorem VN_c {S S' : NS} (h : VN S) (e : ∀ x : Int, 0 ≤ x → x < 553 → S' x = S x) : VN S' := by
  obtain ⟨v0, v1, v2, v3, v4, v5, v6, v7, v8, v9⟩ := h
  refine ⟨?_, ?_, ?_, ?_, ?_, fun i h0 h1 => ?_, fun i h0 h1 => ?_, fun i j h0 h1 h2 h3 => ?_, fun s h0 h1 => ?_, fun i h0 h1 => ?_⟩
  · rw [e 0 (by omega) (by omega)]; exact v0
  · rw [e 1 (by omega) (by omega)]; exact v1
  · rw [e 2 (by omega) (by omega)]; exact v2
  · rw [e 3 (by omega) (by omega)]; exact v3
  · rw [e 4 (by omega) (by omega)]; exact v4
  · rw [e _ (by omega) (by omega)]; exact v5 i h0 h1
  · rw [e 0 (by omega) (by omega)] at h1
    rw [e (5 + 3 * i + 1) (by omega) (by omega), e (5 + 3 * i + 2) (by omega) (by omega)]; exact v6 i h0 h1
  · rw [e _ (by omega) (by omega), e 0 (by omega) (by omega)]; exact v7 i j h0 h1 h2 h3
  · rw [e (185 + 4 * s) (by omega) (by omega), e (185 + 4 * s + 1) (by omega) (by omega), e (185 + 4 * s + 2) (by omega) (by omega), e (185 + 4 * s + 3) (by omega) (by omega), e 0 (by omega) (by omega), e 1 (by omega) (by omega)]; exact v8 s h0 h1
  · rw [e _ (by omega) (by omega)]; exact v9 i h0 h1
theorem HR_c {h : Nat} {S S' : NS} {mem : Mem} (hR : HR h S mem) (e : ∀ x : Int, 0 ≤ x → x < 553 → S' x = S x) : HR h S' mem := by
  obtain ⟨⟨a1, a2, a3, a4, a5⟩, b, c, dd, f, g, k, l, m⟩ := hR
  refine ⟨⟨?_, ?_, ?_, ?_, ?_⟩, fun i h0 h1 => ?_, fun i j h0 h1 h2 h3 => ?_, fun i hi => ?_, fun s h0 h1 => ?_, ?_, ?_, fun i h0 h1 => ?_, fun i h0 h1 => ?_⟩
  · rw [e 0 (by omega) (by omega)]; exact a1
  · rw [e 1 (by omega) (by omega)]; exact a2
  · rw [e 2 (by omega) (by omega)]; exact a3
  · rw [e 3 (by omega) (by omega)]; exact a4
  · rw [e 4 (by omega) (by omega)]; exact a5
  · rw [e (5 + 3 * i) (by omega) (by omega), e (5 + 3 * i + 1) (by omega) (by omega), e (5 + 3 * i + 2) (by omega) (by omega)]; exact b i h0 h1
  · rw [e _ (by omega) (by omega)]; exact c i j h0 h1 h2 h3
  · obtain ⟨w, w1, w2, w3⟩ := dd i hi
    exact ⟨w, w1, w2, fun j hj => by rw [e _ (by omega) (by omega)]; exact w3 j hj⟩
  · rw [e (185 + 4 * s) (by omega) (by omega), e (185 + 4 * s + 1) (by omega) (by omega)]; exact f s h0 h1
  · obtain ⟨w, w1, w2, w3⟩ := g
    refine ⟨w, w1, w2, fun s hs hs2 => ?_⟩
    rw [e 1 (by omega) (by omega)] at hs2
    rw [e _ (by omega) (by omega)]; exact w3 s hs hs2
  · obtain ⟨w, w1, w2, w3⟩ := k
    exact ⟨w, w1, w2, fun s hs => by rw [e _ (by omega) (by omega)]; exact w3 s hs⟩
  · rw [e _ (by omega) (by omega)]; exact l i h0 h1
  · rw [e _ (by omega) (by omega)]; exact m i h0 h1
/-- what fits doesn't hang on ties, tape and row -/
def sameF (S S' : NS) : Prop := S' 0 = S 0 ∧ S' 1 = S 1 ∧ S' 2 = S 2 ∧ (∀ x : Int, 5 ≤ x → x < 41 → S' x = S x) ∧ (∀ x : Int, 185 ≤ x → x < 425 → S' x = S x)
theorem bad_c {S S' : NS} (hV : VN S) (h : sameF S S') {set : Int} {s : Nat} (hs : (s : Int) < S 1) : bad S' set s = bad S set s := by
  obtain ⟨h0, h1, h2, h3, h4⟩ := h
  have v1 := hV.2.1
  obtain ⟨i, j, e1, e2, e3, e4, e5, e6, e7⟩ := hV.say hs
  unfold bad cnt ltS
  rw [h4 (185 + 4 * (s : Int) + 3) (by omega) (by omega), h4 (185 + 4 * (s : Int)) (by omega) (by omega), h4 (185 + 4 * (s : Int) + 1) (by omega) (by omega), h4 (185 + 4 * (s : Int) + 2) (by omega) (by omega), e1, h3 (5 + 3 * (i : Int)) (by omega) (by omega)]
theorem nl_c {S S' : NS} (hV : VN S) (h : sameF S S') (set : Nat) : nl S' set = nl S set := by
  unfold nl
  rw [h.2.1]
  refine sm_congr (fun s hs => ?_)
  rw [bad_c hV h (by omega)]
theorem fitB_c {S S' : NS} (hV : VN S) (h : sameF S S') : fitB S' = fitB S := by
  funext set
  refine bool_iff ?_
  rw [fitB_iff, fitB_iff, nl_c hV h, h.2.2.1]
theorem FT_c {S S' : NS} {mem m' : Mem} (hV : VN S) (h : sameF S S') (hF : FT S mem) (e34 : ∀ z : Int, m' 34 z = mem 34 z) (e37 : ∀ z : Int, m' 37 z = mem 37 z) (e32 : m' 32 7 = mem 32 7) : FT S' m' := by
  unfold FT
  rw [h.1, fitB_c hV h]
  refine ⟨fun set hs => by rw [e34, nl_c hV h]; exact hF.1 set hs, fun s hs hp => by rw [e37]; exact hF.2.1 s hs hp, by rw [e32]; exact hF.2.2⟩
theorem sameF_r (S : NS) : sameF S S := ⟨rfl, rfl, rfl, fun _ _ _ => rfl, fun _ _ _ => rfl⟩
def RA (S : NS) (m : Mem) : Prop := VN S ∧ HR 1 S m ∧ (m 1 16 = 0 → FT S m) ∧ m 44 0 = 0
def RI (J : Int) (m : Mem) : Prop := m 0 11 = m 71 3 ∧ 0 ≤ m 71 3 ∧ m 71 3 ≤ J ∧ (m 71 3 ≠ 0 → VN (m 73) ∧ HR 11 (m 73) m)
def RE (m : Mem) : Prop := ∀ k : Int, 0 ≤ k → k < 7 → m 62 k = m 75 k
def RV (m : Mem) : Prop := m 59 1 = m 71 21 ∧ 0 ≤ m 59 1 ∧ m 59 1 ≤ 30 ∧ ∀ z : Int, 0 ≤ z → z < 30 → m 60 z = m 86 z
def RSh (m : Mem) : Prop := ∀ s : Nat, s < 4 → m (63 + 2 * s) 1 = m 87 s ∧ m (63 + 2 * s) 2 = m 88 s ∧ (0 ≤ m 88 s ∧ m 88 s ≤ 24) ∧ ∀ k : Int, 0 ≤ k → k < 24 → m (64 + 2 * s) k = m 89 (24 * s + k)
def Rl (J : Int) (m : Mem) : Prop := RA (m 72) m ∧ RI J m ∧ RE m ∧ RV m ∧ RSh m
theorem Rl.mono {J J' : Int} {m : Mem} (h : Rl J m) (hj : J ≤ J') : Rl J' m := ⟨h.1, ⟨h.2.1.1, h.2.1.2.1, by have := h.2.1.2.2.1; omega, h.2.1.2.2.2⟩, h.2.2⟩
/-- cells of which nothing is kept -/
def scr (a : Nat) (b : Int) : Prop := (21 ≤ a ∧ a ≤ 58) ∨ (a = 59 ∧ 2 ≤ b) ∨ (a = 71 ∧ b ≠ 3 ∧ b ≠ 21) ∨ a = 74 ∨ (76 ≤ a ∧ a ≤ 85) ∨ a = 90
/-- all but the hall, the row and those cells stays -/
def sF (mem m : Mem) : Prop := ∀ (a : Nat) (b : Int), ¬ (1 ≤ a ∧ a ≤ 10) → a ≠ 72 → ¬ scr a b → m a b = mem a b
theorem sF_t {a b c : Mem} (h : sF a b) (h' : sF b c) : sF a c := fun x y p q r => by rw [h' x y p q r, h x y p q r]
theorem sF_r (a : Mem) : sF a a := fun _ _ _ _ _ => rfl
theorem Rl_new {J : Int} {mem m : Mem} (h : Rl J mem) (hA : RA (m 72) m) (f : sF mem m) : Rl J m := by
  unfold sF scr at f
  obtain ⟨_, ⟨i1, i2, i3, i4⟩, e, ⟨v1, v2, v3, v4⟩, s⟩ := h
  have f73 : m 73 = mem 73 := funext (fun z => f 73 z (by omega) (by omega) (by omega))
  refine ⟨hA, ⟨?_, ?_, ?_, fun z => ?_⟩, fun k h0 h1 => ?_, ⟨?_, ?_, ?_, fun z h0 h1 => ?_⟩, fun t ht => ?_⟩
  · rw [f 0 11 (by omega) (by omega) (by omega), f 71 3 (by omega) (by omega) (by omega)]; exact i1
  · rw [f 71 3 (by omega) (by omega) (by omega)]; exact i2
  · rw [f 71 3 (by omega) (by omega) (by omega)]; exact i3
  · rw [f 71 3 (by omega) (by omega) (by omega)] at z
    rw [f73]
    exact ⟨(i4 z).1, (i4 z).2.congr (fun c b hc _ => f (11 + c) b (by omega) (by omega) (by omega))⟩
  · rw [f 62 k (by omega) (by omega) (by omega), f 75 k (by omega) (by omega) (by omega)]; exact e k h0 h1
  · rw [f 59 1 (by omega) (by omega) (by omega), f 71 21 (by omega) (by omega) (by omega)]; exact v1
  · rw [f 59 1 (by omega) (by omega) (by omega)]; exact v2
  · rw [f 59 1 (by omega) (by omega) (by omega)]; exact v3
  · rw [f 60 z (by omega) (by omega) (by omega), f 86 z (by omega) (by omega) (by omega)]; exact v4 z h0 h1
  · obtain ⟨s1, s2, s3, s4⟩ := s t ht
    rw [f (63 + 2 * t) 1 (by omega) (by omega) (by omega), f (63 + 2 * t) 2 (by omega) (by omega) (by omega), f 87 t (by omega) (by omega) (by omega), f 88 t (by omega) (by omega) (by omega)]
    refine ⟨s1, s2, s3, fun k h0 h1 => ?_⟩
    rw [f (64 + 2 * t) k (by omega) (by omega) (by omega), f 89 _ (by omega) (by omega) (by omega)]; exact s4 k h0 h1
/-- a question: the hall and the row stay -/
def qF (mem m : Mem) : Prop := ∀ (a : Nat) (b : Int), ¬ (a = 1 ∧ b = 16) → ¬ scr a b → m a b = mem a b
theorem qF_t {a b c : Mem} (h : qF a b) (h' : qF b c) : qF a c := fun x y p q => by rw [h' x y p q, h x y p q]
theorem qF_r (a : Mem) : qF a a := fun _ _ _ _ => rfl
theorem qF_72 {a b : Mem} (h : qF a b) : b 72 = a 72 := funext (fun z => h 72 z (by omega) (by unfold scr; omega))
theorem Rl_q {J : Int} {mem m : Mem} (h : Rl J mem) (f : qF mem m) (hF : m 1 16 = 0 → FT (mem 72) m) (h44 : m 44 0 = 0) : Rl J m := by
  have e := qF_72 f
  refine Rl_new h ?_ (fun a b p q r => f a b (by omega) r)
  rw [e]
  refine ⟨h.1.1, h.1.2.1.congr (fun c b hc hb => f (1 + c) b (by omega) (by unfold scr; omega)), hF, h44⟩
/-- the cells of the fitting sets stay -/
theorem FT_f {S : NS} {mem m : Mem} (h : FT S mem) (f : ∀ (a : Nat) (b : Int), a = 34 ∨ a = 37 ∨ (a = 32 ∧ b = 7) → m a b = mem a b) : FT S m :=
  ⟨fun set hs => by rw [f 34 _ (by omega)]; exact h.1 set hs, fun s hs hp => by rw [f 37 _ (by omega)]; exact h.2.1 s hs hp, by rw [f 32 7 (by omega)]; exact h.2.2⟩
theorem Rl_q2 {J : Int} {mem m : Mem} (h : Rl J mem) (f : qF mem m) (f2 : ∀ (a : Nat) (b : Int), a = 34 ∨ a = 37 ∨ (a = 32 ∧ b = 7) ∨ (a = 1 ∧ b = 16) ∨ (a = 44 ∧ b = 0) → m a b = mem a b) : Rl J m :=
  Rl_q h f (fun z => FT_f (h.1.2.2.1 (by rw [← f2 1 16 (by omega)]; exact z)) (fun a b x => f2 a b (by omega))) (by rw [f2 44 0 (by omega)]; exact h.1.2.2.2)
theorem ref_f {mem : Mem} {e : Int} {a : Nat} {b : Int} (h : a ≠ 62) : refM mem e a b = mem a b := by unfold refM; rw [upM_ne (by omega)]
theorem fnd_f {mem : Mem} {e : Int} {a : Nat} {b : Int} (h : a ≠ 75) : fndM mem e a b = mem a b := by unfold fndM; rw [upM_ne (by omega)]
theorem ref_c {mem : Mem} {e : Int} {a : Nat} (h : a ≠ 62) : refM mem e a = mem a := funext (fun z => ref_f h)
theorem Rl_ref {J : Int} {mem m : Mem} (h : Rl J mem) {e : Int} (h1 : -1000006 ≤ e) (h2 : e ≤ -1000001) (hm : m = fndM (refM mem e) e) : Rl J m := by
  have g : ∀ (a : Nat) (b : Int), a ≠ 62 → a ≠ 75 → m a b = mem a b := fun a b x y => by rw [hm, fnd_f y, ref_f x]
  obtain ⟨⟨a1, a2, a3, a4⟩, ⟨i1, i2, i3, i4⟩, ee, ⟨v1, v2, v3, v4⟩, s⟩ := h
  have f72 : m 72 = mem 72 := funext (fun z => g 72 z (by omega) (by omega))
  have f73 : m 73 = mem 73 := funext (fun z => g 73 z (by omega) (by omega))
  refine ⟨?_, ⟨?_, ?_, ?_, fun z => ?_⟩, fun k h0 h1 => ?_, ⟨?_, ?_, ?_, fun z h0 h1 => ?_⟩, fun t ht => ?_⟩
  · rw [f72]
    exact ⟨a1, a2.congr (fun c b hc _ => g (1 + c) b (by omega) (by omega)), fun z => FT_f (a3 (by rw [← g 1 16 (by omega) (by omega)]; exact z)) (fun a b x => g a b (by omega) (by omega)), by rw [g 44 0 (by omega) (by omega)]; exact a4⟩
  · rw [g 0 11 (by omega) (by omega), g 71 3 (by omega) (by omega)]; exact i1
  · rw [g 71 3 (by omega) (by omega)]; exact i2
  · rw [g 71 3 (by omega) (by omega)]; exact i3
  · rw [g 71 3 (by omega) (by omega)] at z
    rw [f73]
    exact ⟨(i4 z).1, (i4 z).2.congr (fun c b hc _ => g (11 + c) b (by omega) (by omega))⟩
  · have hA : m 62 k = refM mem e 62 k := by rw [hm, fnd_f (by omega)]
    have hB : m 75 k = fndM (refM mem e) e 75 k := by rw [hm]
    rw [hA, hB]
    show upM mem 62 (-1000000 - e) (sx (mem 62 (-1000000 - e) + 1)) 62 k = upM (refM mem e) 75 (-1000000 - e) (sx (refM mem e 75 (-1000000 - e) + 1)) 75 k
    by_cases q : k = -1000000 - e
    · rw [q, upM_same, upM_same, ref_f (a := 75) (by omega), ee _ (by omega) (by omega)]
    · rw [upM_ne (by omega), upM_ne (by omega), ref_f (a := 75) (by omega)]; exact ee k h0 h1
  · rw [g 59 1 (by omega) (by omega), g 71 21 (by omega) (by omega)]; exact v1
  · rw [g 59 1 (by omega) (by omega)]; exact v2
  · rw [g 59 1 (by omega) (by omega)]; exact v3
  · rw [g 60 z (by omega) (by omega), g 86 z (by omega) (by omega)]; exact v4 z h0 h1
  · obtain ⟨s1, s2, s3, s4⟩ := s t ht
    rw [g (63 + 2 * t) 1 (by omega) (by omega), g (63 + 2 * t) 2 (by omega) (by omega), g 87 t (by omega) (by omega), g 88 t (by omega) (by omega)]
    refine ⟨s1, s2, s3, fun k h0 h1 => ?_⟩
    rw [g (64 + 2 * t) k (by omega) (by omega), g 89 _ (by omega) (by omega)]; exact s4 k h0 h1
/-- the reference's half of an operation: the same answer, and the relation again -/
def An (J z : Int) (r : Option AV) (m : Mem) : Prop := ∃ _u : Unit, r = some (vI z) ∧ Rl J m
theorem An.mk {J z : Int} (m : Mem) (h : Rl J m) : An J z (some (vI z)) m := ⟨(), rfl, h⟩
theorem an_mk {J z z' : Int} {m : Mem} (h : Rl J m) (e : z' = z) : An J z (some (vI z')) m := by rw [e]; exact An.mk m h
theorem an_ref {J e : Int} {mem m4 m5 : Mem} (h : Rl J mem) (h1 : -1000006 ≤ e) (h2 : e ≤ -1000001) (e4 : m4 = refM mem e) (e5 : m5 = fndM m4 e) : An J e (some (vI e)) m5 := An.mk m5 (Rl_ref h h1 h2 (by rw [e5, e4]))
theorem ref72 {e : Int} {mem m : Mem} (h : m = refM mem e) : m 72 = mem 72 := by rw [h, ref_c (by decide)]
