theorem i32_eq {x y : Int32} {n : Int} (h : x.toInt = n) (e : y.toInt = n) : x = y := Int32.toInt_inj.mp (h.trans e.symm)
theorem c_barOf {C : CC} (hC : Clo C) {d : Nat} {M : MT} {K : KT} {v : Int32} (hK : K (some (.int (barO v))) M) : C d 76 [.int v] M K := by
  refine g_X6_barOf hC (fun X hX => ?_)
  have b86 : barO v = -1 → X 86 [some (.int v)] [] M := fun z => by
    rw [z] at hK
    refine b_X6_barOf_86 hX ?_
    conv => whnf
    exact hK
  refine b_X6_barOf_0 hX ?_
  conv => whnf
  refine ⟨fun h => ?_, fun h => ?_, fun h => ?_, fun h => ?_, fun h => ?_, fun h => ?_, fun h => ?_, fun h => ?_, fun h => ?_, fun h => ?_, fun h => ?_, fun h => ?_, fun h => ?_, fun h => ?_, fun h => ?_, fun h => ?_, trivial⟩
  · refine b86 ?_
    unfold barO
    rw [if_neg (fun z => by subst z; revert h; decide), if_neg (fun z => by subst z; revert h; decide), if_neg (fun z => by subst z; revert h; decide), if_neg (fun z => by subst z; revert h; decide), if_neg (fun z => by subst z; revert h; decide)]
  · have e : v = 99 := i32_eq h (by decide)
    subst e
    refine b_X6_barOf_82 hX ?_
    conv => whnf
    exact hK
  · have e : v = 100 := i32_eq h (by decide)
    subst e
    exact b86 (by decide)
  · have e : v = 101 := i32_eq h (by decide)
    subst e
    refine b_X6_barOf_76 hX ?_
    conv => whnf
    exact hK
  · have e : v = 102 := i32_eq h (by decide)
    subst e
    refine b_X6_barOf_78 hX ?_
    conv => whnf
    exact hK
  · have e : v = 103 := i32_eq h (by decide)
    subst e
    exact b86 (by decide)
  · have e : v = 104 := i32_eq h (by decide)
    subst e
    refine b_X6_barOf_84 hX ?_
    conv => whnf
    exact hK
  · have e : v = 105 := i32_eq h (by decide)
    subst e
    exact b86 (by decide)
  · have e : v = 106 := i32_eq h (by decide)
    subst e
    exact b86 (by decide)
  · have e : v = 107 := i32_eq h (by decide)
    subst e
    exact b86 (by decide)
  · have e : v = 108 := i32_eq h (by decide)
    subst e
    exact b86 (by decide)
  · have e : v = 109 := i32_eq h (by decide)
    subst e
    exact b86 (by decide)
  · have e : v = 110 := i32_eq h (by decide)
    subst e
    exact b86 (by decide)
  · have e : v = 111 := i32_eq h (by decide)
    subst e
    exact b86 (by decide)
  · have e : v = 112 := i32_eq h (by decide)
    subst e
    exact b86 (by decide)
  · have e : v = 113 := i32_eq h (by decide)
    subst e
    refine b_X6_barOf_80 hX ?_
    conv => whnf
    exact hK
theorem c_kindOf {C : CC} (hC : Clo C) {d : Nat} {M : MT} {K : KT} {v : Int32} (hK : K (some (.int (kindO v))) M) : C d 77 [.int v] M K := by
  refine g_X6_kindOf hC (fun X hX => ?_)
  refine b_X6_kindOf_0 hX ?_
  conv => whnf
  refine ⟨fun h => ?_, fun h => ?_, fun h => ?_, fun h => ?_, fun h => ?_, fun h => ?_, trivial⟩
  · have z : kindO v = 0 := by
      unfold kindO
      rw [if_neg (fun z => by subst z; revert h; decide), if_neg (fun z => by subst z; revert h; decide), if_neg (fun z => by subst z; revert h; decide), if_neg (fun z => by subst z; revert h; decide), if_neg (fun z => by subst z; revert h; decide)]
    rw [z] at hK
    refine b_X6_kindOf_62 hX ?_
    conv => whnf
    exact hK
  · have e : v = 100 := i32_eq h (by decide)
    subst e
    refine b_X6_kindOf_56 hX ?_
    conv => whnf
    exact hK
  · have e : v = 107 := i32_eq h (by decide)
    subst e
    refine b_X6_kindOf_58 hX ?_
    conv => whnf
    exact hK
  · have e : v = 108 := i32_eq h (by decide)
    subst e
    refine b_X6_kindOf_60 hX ?_
    conv => whnf
    exact hK
  · have e : v = 114 := i32_eq h (by decide)
    subst e
    refine b_X6_kindOf_54 hX ?_
    conv => whnf
    exact hK
  · have e : v = 116 := i32_eq h (by decide)
    subst e
    refine b_X6_kindOf_52 hX ?_
    conv => whnf
    exact hK
theorem TC.fd {g : Nat → Int32} {T a k : Nat} {v : Int32} {M : MT} (h : TC g T a M) : TC g T a (wr M 15 k v) := h.fr (Fm.wr (lo := 15) (hi := 15) Fm.rf (by decide) (by decide)) (by decide)
theorem c_readLaw {C : CC} (hC : Clo C) {d : Nat} (hd : 3 ≤ d) {M : MT} {K : KT} {g : Nat → Int32} {T : Nat} (hT : TC g T 0 M) (h1 : ∀ M' a v0 v1 v2 v3, (∀ k, lawP g T k = k a (setB (setB (setB (setB (fun _ => 0) 0 v0) 1 v1) 2 v2) 3 v3)) → a ≤ T → TC g T a M' → (M' 15 4 = v0 ∧ M' 15 5 = v1 ∧ M' 15 6 = v2 ∧ M' 15 7 = v3 ∧ ∀ k, k < 4 → M' 15 k = M 15 k) → Fl M M' → K (some (.int 1)) M') (h0 : ∀ M' f p, (∀ k, lawP g T k = .inr (f, p)) → FLc f p M' → Fl M M' → K (some (.int 0)) M') : C d 62 [.ref 6, .ref 15] M K := by
  refine g_X6_readLaw hC (fun X hX => ?_)
  unfold lawP at h1 h0
  have bad : ∀ (f : Int32) (p : Nat) (M' : MT) (pc : Nat), (pc = 19 ∨ pc = 48 ∨ pc = 77 ∨ pc = 107) → (∀ k, (lawP g T k) = .inr (f, p)) → FLc f p M' → Fl M M' → X pc [some (.ref 6), some (.ref 15)] [] M' := by
    intro f p M' pc hpc hk hf fm
    rcases hpc with rfl | rfl | rfl | rfl
    · refine b_X6_readLaw_19 hX ?_
      conv => whnf
      exact ⟨Or.inl rfl, h0 M' f p hk hf fm⟩
    · refine b_X6_readLaw_48 hX ?_
      conv => whnf
      exact ⟨Or.inl rfl, h0 M' f p hk hf fm⟩
    · refine b_X6_readLaw_77 hX ?_
      conv => whnf
      exact ⟨Or.inl rfl, h0 M' f p hk hf fm⟩
    · refine b_X6_readLaw_107 hX ?_
      conv => whnf
      exact ⟨Or.inl rfl, h0 M' f p hk hf fm⟩
  refine b_X6_readLaw_0 hX ?_
  conv => whnf
  refine ⟨by omega, c_takes hC (by omega) hT (Nat.zero_le _) (by decide) (fun N1 y1 e1 l1 t1 f1 => ?_) (fun N e h f => ?_)⟩
  rotate_left
  · conv => whnf
    refine ⟨fun _ => bad _ _ N 19 (by decide) (fun k => by unfold lawP; rw [e]) h ((Fl.rf).tr (f.fl)), fun z => absurd rfl z⟩
  conv => whnf
  refine ⟨fun q => absurd q (by decide), fun _ => ?_⟩
  conv => whnf
  refine ⟨by omega, c_takesNumber hC (by omega) t1 l1 (fun N2 a2 w2 e2 l2 g2 k2 t2 v2 f2 => ?_) (fun N f0 e h f => ?_)⟩
  rotate_left
  · conv => whnf
    refine ⟨fun z => absurd rfl z, fun _ => bad _ _ N 19 (by decide) (fun k => by unfold lawP; rw [e1, e]) h ((((Fl.rf).tr (f1.fl))).tr (f.fl))⟩
  conv => whnf
  refine ⟨fun _ => ?_, fun z => absurd z (by decide)⟩
  refine b_X6_readLaw_21 hX ?_
  conv => whnf
  rw [v2]
  refine ⟨by omega, c_takes hC (by omega) t2.fd l2 (by decide) (fun N3 y3 e3 l3 t3 f3 => ?_) (fun N e h f => ?_)⟩
  rotate_left
  · conv => whnf
    refine ⟨fun _ => bad _ _ N 48 (by decide) (fun k => by unfold lawP; rw [e1, e2, e]) h (((Fl.sw (((((Fl.rf).tr (f1.fl))).tr (f2.fl))) (k := 4) (v := w2) (by decide) (by decide))).tr (f.fl)), fun z => absurd rfl z⟩
  conv => whnf
  refine ⟨fun q => absurd q (by decide), fun _ => ?_⟩
  conv => whnf
  refine ⟨by omega, c_takesNumber hC (by omega) t3 l3 (fun N4 a4 w4 e4 l4 g4 k4 t4 v4 f4 => ?_) (fun N f0 e h f => ?_)⟩
  rotate_left
  · conv => whnf
    refine ⟨fun z => absurd rfl z, fun _ => bad _ _ N 48 (by decide) (fun k => by unfold lawP; rw [e1, e2, e3, e]) h (((((Fl.sw (((((Fl.rf).tr (f1.fl))).tr (f2.fl))) (k := 4) (v := w2) (by decide) (by decide))).tr (f3.fl))).tr (f.fl))⟩
  conv => whnf
  refine ⟨fun _ => ?_, fun z => absurd z (by decide)⟩
  refine b_X6_readLaw_50 hX ?_
  conv => whnf
  rw [v4]
  refine ⟨by omega, c_takes hC (by omega) t4.fd l4 (by decide) (fun N5 y5 e5 l5 t5 f5 => ?_) (fun N e h f => ?_)⟩
  rotate_left
  · conv => whnf
    refine ⟨fun _ => bad _ _ N 77 (by decide) (fun k => by unfold lawP; rw [e1, e2, e3, e4, e]) h (((Fl.sw ((((((Fl.sw (((((Fl.rf).tr (f1.fl))).tr (f2.fl))) (k := 4) (v := w2) (by decide) (by decide))).tr (f3.fl))).tr (f4.fl))) (k := 5) (v := w4) (by decide) (by decide))).tr (f.fl)), fun z => absurd rfl z⟩
  conv => whnf
  refine ⟨fun q => absurd q (by decide), fun _ => ?_⟩
  conv => whnf
  refine ⟨by omega, c_takesNumber hC (by omega) t5 l5 (fun N6 a6 w6 e6 l6 g6 k6 t6 v6 f6 => ?_) (fun N f0 e h f => ?_)⟩
  rotate_left
  · conv => whnf
    refine ⟨fun z => absurd rfl z, fun _ => bad _ _ N 77 (by decide) (fun k => by unfold lawP; rw [e1, e2, e3, e4, e5, e]) h (((((Fl.sw ((((((Fl.sw (((((Fl.rf).tr (f1.fl))).tr (f2.fl))) (k := 4) (v := w2) (by decide) (by decide))).tr (f3.fl))).tr (f4.fl))) (k := 5) (v := w4) (by decide) (by decide))).tr (f5.fl))).tr (f.fl))⟩
  conv => whnf
  refine ⟨fun _ => ?_, fun z => absurd z (by decide)⟩
  refine b_X6_readLaw_79 hX ?_
  conv => whnf
  rw [v6]
  refine ⟨by omega, c_takes hC (by omega) t6.fd l6 (by decide) (fun N7 y7 e7 l7 t7 f7 => ?_) (fun N e h f => ?_)⟩
  rotate_left
  · conv => whnf
    refine ⟨fun _ => bad _ _ N 107 (by decide) (fun k => by unfold lawP; rw [e1, e2, e3, e4, e5, e6, e]) h (((Fl.sw ((((((Fl.sw ((((((Fl.sw (((((Fl.rf).tr (f1.fl))).tr (f2.fl))) (k := 4) (v := w2) (by decide) (by decide))).tr (f3.fl))).tr (f4.fl))) (k := 5) (v := w4) (by decide) (by decide))).tr (f5.fl))).tr (f6.fl))) (k := 6) (v := w6) (by decide) (by decide))).tr (f.fl)), fun z => absurd rfl z⟩
  conv => whnf
  refine ⟨fun q => absurd q (by decide), fun _ => ?_⟩
  conv => whnf
  refine ⟨by omega, c_takesNumber hC (by omega) t7 l7 (fun N8 a8 w8 e8 l8 g8 k8 t8 v8 f8 => ?_) (fun N f0 e h f => ?_)⟩
  rotate_left
  · conv => whnf
    refine ⟨fun z => absurd rfl z, fun _ => bad _ _ N 107 (by decide) (fun k => by unfold lawP; rw [e1, e2, e3, e4, e5, e6, e7, e]) h (((((Fl.sw ((((((Fl.sw ((((((Fl.sw (((((Fl.rf).tr (f1.fl))).tr (f2.fl))) (k := 4) (v := w2) (by decide) (by decide))).tr (f3.fl))).tr (f4.fl))) (k := 5) (v := w4) (by decide) (by decide))).tr (f5.fl))).tr (f6.fl))) (k := 6) (v := w6) (by decide) (by decide))).tr (f7.fl))).tr (f.fl))⟩
  conv => whnf
  refine ⟨fun _ => ?_, fun z => absurd z (by decide)⟩
  refine b_X6_readLaw_109 hX ?_
  conv => whnf
  rw [v8]
  refine ⟨by omega, c_takes hC (by omega) t8.fd l8 (by decide) (fun N9 y9 e9 l9 t9 f9 => ?_) (fun N e h f => ?_)⟩
  rotate_left
  · conv => whnf
    exact ⟨Or.inl rfl, h0 N _ _ (fun k => by rw [e1, e2, e3, e4, e5, e6, e7, e8, e]) h (((Fl.sw ((((((Fl.sw ((((((Fl.sw ((((((Fl.sw (((((Fl.rf).tr (f1.fl))).tr (f2.fl))) (k := 4) (v := w2) (by decide) (by decide))).tr (f3.fl))).tr (f4.fl))) (k := 5) (v := w4) (by decide) (by decide))).tr (f5.fl))).tr (f6.fl))) (k := 6) (v := w6) (by decide) (by decide))).tr (f7.fl))).tr (f8.fl))) (k := 7) (v := w8) (by decide) (by decide))).tr (f.fl))⟩
  conv => whnf
  refine ⟨Or.inr rfl, h1 N9 _ w2 w4 w6 w8 (fun k => by rw [e1, e2, e3, e4, e5, e6, e7, e8, e9]) l9 t9 ⟨?_, ?_, ?_, ?_, fun k hk => ?_⟩ (((Fl.sw ((((((Fl.sw ((((((Fl.sw ((((((Fl.sw (((((Fl.rf).tr (f1.fl))).tr (f2.fl))) (k := 4) (v := w2) (by decide) (by decide))).tr (f3.fl))).tr (f4.fl))) (k := 5) (v := w4) (by decide) (by decide))).tr (f5.fl))).tr (f6.fl))) (k := 6) (v := w6) (by decide) (by decide))).tr (f7.fl))).tr (f8.fl))) (k := 7) (v := w8) (by decide) (by decide))).tr (f9.fl))⟩
  · rw [f9 15 (by decide), wr_ne (by omega), f8 15 (by decide), f7 15 (by decide), wr_ne (by omega), f6 15 (by decide), f5 15 (by decide), wr_ne (by omega), f4 15 (by decide), f3 15 (by decide), wr_at]
  · rw [f9 15 (by decide), wr_ne (by omega), f8 15 (by decide), f7 15 (by decide), wr_ne (by omega), f6 15 (by decide), f5 15 (by decide), wr_at]
  · rw [f9 15 (by decide), wr_ne (by omega), f8 15 (by decide), f7 15 (by decide), wr_at]
  · rw [f9 15 (by decide), wr_at]
  · rw [f9 15 (by decide), wr_ne (by omega), f8 15 (by decide), f7 15 (by decide), wr_ne (by omega), f6 15 (by decide), f5 15 (by decide), wr_ne (by omega), f4 15 (by decide), f3 15 (by decide), wr_ne (by omega), f2 15 (by decide), f1 15 (by decide)]
