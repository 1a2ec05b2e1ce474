noncomputable def hrP (g : Nat → Int32) (T : Nat) (b : BV) (i : Int32) (a : Nat) (k : Nat → Int32 → PR) : PR := nmP g T 0 (b 5 - 1) a fun a3 j => if i = j ∨ ¬ b (36 + (5 * tN i + tN j)) = 0 then .inr (2, a) else k a3 j
theorem c_takesHeard {C : CC} (hC : Clo C) {d : Nat} (hd : 2 ≤ d) {M : MT} {K : KT} {g : Nat → Int32} {T a x : Nat} {b : BV} (hT : TC g T a M) (ha : a ≤ T) (hb : Bd 15 b M) (hp : b 5 = nI (nP b)) (h5 : nP b ≤ 5) (hx : x < nP b) (h1 : ∀ M' a' y, (∀ k, hrP g T b (nI x) a k = k a' (nI y)) → y < nP b → a' ≤ T → TC g T a' M' → M' 6 5 = nI y → Fm M M' 6 6 → K (some (.int 1)) M') (h0 : ∀ M' f, (∀ k, hrP g T b (nI x) a k = .inr (f, a)) → FLc f a M' → Fm M M' 6 6 → K (some (.int 0)) M') : C d 68 [.ref 6, .ref 15, .int (nI x)] M K := by
  refine g_X6_takesHeard hC (fun X hX => ?_)
  refine b_X6_takesHeard_0 hX ?_
  conv => whnf
  refine ⟨by omega, c_seesNumber hC (by omega) hT ha (fun M1 hn hl t1 e5 e6 f => ?_) (fun M1 hn t1 f => ?_)⟩
  rotate_left
  · conv => whnf
    refine ⟨fun z => absurd rfl z, fun _ => ?_⟩
    conv => whnf
    refine ⟨by omega, c_fails hC ?_⟩
    conv => whnf
    refine ⟨Or.inl rfl, h0 _ 1 (fun k => by unfold hrP nmP; rw [pit_neg hn]) ⟨?_, ?_⟩ (Fm.wr (Fm.wr f (by decide) (by decide)) (by decide) (by decide))⟩
    · rw [wr_ne (by decide), wr_at]
    · rw [wr_at]; exact t1.2.2.1
  have hb1 := hb.lo f (by decide)
  have e0 : M1 15 0 = nI (nP b) := hb1.1.1.trans hp
  have b37 : (∀ k, hrP g T b (nI x) a k = .inr (2, a)) → X 37 [some (.ref 6), some (.ref 15), some (.int (nI x))] [] M1 := fun hk => by
    refine b_X6_takesHeard_37 hX ?_
    conv => whnf
    refine ⟨by omega, c_fails hC ?_⟩
    conv => whnf
    refine ⟨Or.inl rfl, h0 _ 2 hk ⟨?_, ?_⟩ (Fm.wr (Fm.wr f (by decide) (by decide)) (by decide) (by decide))⟩
    · rw [wr_ne (by decide), wr_at]
    · rw [wr_at]; exact t1.2.2.1
  have sN : ∀ k, hrP g T b (nI x) a k = pit (0 ≤ numv g T a (numw g T a) ∧ numv g T a (numw g T a) ≤ b 5 - 1) (if nI x = numv g T a (numw g T a) ∨ ¬ b (36 + (5 * tN (nI x) + tN (numv g T a (numw g T a)))) = 0 then .inr (2, a) else k (a + numw g T a) (numv g T a (numw g T a))) (.inr (2, a)) := fun k => by
    unfold hrP nmP
    rw [pit_pos hn]
  conv => whnf
  refine ⟨fun _ => ?_, fun z => absurd z (by decide)⟩
  refine b_X6_takesHeard_13 hX ?_
  conv => whnf
  rw [e5]
  refine ⟨by omega, c_canHear_15 hC (by omega) e0 h5 (fun i j hi hj hij ei ej => ?_) (fun q => ?_)⟩
  rotate_left
  · conv => whnf
    refine ⟨fun _ => b37 (fun k => ?_), fun z => absurd rfl z⟩
    rw [sN]
    by_cases z : 0 ≤ numv g T a (numw g T a) ∧ numv g T a (numw g T a) ≤ b 5 - 1
    · rw [pit_pos z, if_pos (Or.inl ?_)]
      rw [hp] at z
      have z2 := (isPl_iff (by omega)).mp z
      exact Classical.byContradiction (fun z3 => q ⟨⟨x, hx, rfl⟩, z2, z3⟩)
    · rw [pit_neg z]
  have hix : i = x := ((eq_nI (by omega) (by omega)).mp ei).symm
  subst hix
  have hr : 0 ≤ nI j ∧ nI j ≤ b 5 - 1 := by rw [hp]; exact (isPl_iff (by omega)).mpr ⟨j, hj, rfl⟩
  rw [ej] at sN e5
  have hne : ¬ nI i = nI j := fun z => hij ((eq_nI (by omega) (by omega)).mp z)
  rw [tN_nI (by omega), tN_nI (by omega)] at sN
  conv => whnf
  refine ⟨fun q => absurd q (by decide), fun _ => ?_⟩
  conv => whnf
  rw [e5]
  refine ⟨by omega, c_weight_15 hC (by omega) (by omega) ?_⟩
  conv => whnf
  have ew : M1 20 (5 * i + j) = b (36 + (5 * i + j)) := hb1.2.2.1 (5 * i + j) (by omega)
  rw [ew]
  refine ⟨fun z => ?_, fun z => ?_⟩
  · refine b_X6_takesHeard_43 hX ?_
    conv => whnf
    rw [e6, t1.2.2.1, nI_add]
    exact ⟨Or.inr rfl, h1 _ (a + numw g T a) j (fun k => by rw [sN, pit_pos hr, if_neg (fun y => y.elim hne (fun y => y z))]) hj hl t1.at (by rw [wr_ne (by decide)]; exact e5) (Fm.wr f (by decide) (by decide))⟩
  · exact b37 (fun k => by rw [sN, pit_pos hr, if_pos (Or.inr z)])
theorem c_readEar {C : CC} (hC : Clo C) {d : Nat} (hd : 3 ≤ d) {M : MT} {K : KT} {g : Nat → Int32} {T a : Nat} {b : BV} (hT : TC g T a M) (ha : a ≤ T) (hw : byt g T a = 119) (hb : Bd 15 b M) (hp : b 5 = nI (nP b)) (h5 : nP b ≤ 5) (h12 : nB b ≤ 12) (h1 : ∀ M' a' p v, (∀ k, earP g T a b k = k a' (setB b (36 + p) v)) → p < 25 → a' ≤ T → TC g T a' M' → Bd 15 (setB b (36 + p) v) M' → Fdr M M' → K (some (.int 1)) M') (h0 : ∀ M' f p, (∀ k, earP g T a b k = .inr (f, p)) → FLc f p M' → Fdr M M' → K (some (.int 0)) M') : C d 67 [.ref 6, .ref 15] M K := by
  refine g_X6_readEar hC (fun X hX => ?_)
  refine b_X6_readEar_0 hX ?_
  conv => whnf
  refine ⟨by omega, c_takes hC (by omega) hT ha (by decide) (fun N0 y0 e0 l0 t0 f0 => ?_) (fun N e h fm => ?_)⟩
  rotate_left
  · have := e (fun _ => .inl b)
    unfold tkP at this
    rw [if_pos hw] at this
    exact absurd this (by simp)
  conv => whnf
  refine ⟨fun q => absurd q (by decide), fun _ => ?_⟩
  conv => whnf
  have q0 : N0 15 0 = b 5 := (hb.lo f0 (by decide)).1.1
  rw [q0]
  refine ⟨by omega, c_takesNumber hC (by omega) t0 l0 (fun N1 a1 i e1 l1 i0 i1 t1 n1 f1 => ?_) (fun N f e h fm => ?_)⟩
  rotate_left
  · conv => whnf
    refine ⟨fun z => absurd rfl z, fun _ => ?_⟩
    refine b_X6_readEar_23 hX ?_
    conv => whnf
    exact ⟨Or.inl rfl, h0 N _ _ (fun k => by unfold earP; rw [e]) h ((f0.tr fm).fd)⟩
  rw [hp] at i1
  obtain ⟨x, hx, rfl⟩ := (isPl_iff (by omega)).mp ⟨i0, i1⟩
  conv => whnf
  refine ⟨fun _ => ?_, fun z => absurd z (by decide)⟩
  refine b_X6_readEar_25 hX ?_
  conv => whnf
  rw [n1]
  refine ⟨by omega, c_takes hC (by omega) t1 l1 (by decide) (fun N2 y2 e2 l2 t2 f2 => ?_) (fun N e h fm => ?_)⟩
  rotate_left
  · conv => whnf
    refine ⟨fun _ => ?_, fun z => absurd rfl z⟩
    refine b_X6_readEar_48 hX ?_
    conv => whnf
    exact ⟨Or.inl rfl, h0 N _ _ (fun k => by unfold earP; rw [e1, e]) h (((f0.tr f1).tr fm).fd)⟩
  conv => whnf
  refine ⟨fun q => absurd q (by decide), fun _ => ?_⟩
  conv => whnf
  have fm2 : Fm M N2 6 6 := (f0.tr f1).tr f2
  have eE : ∀ k, earP g T a b k = hrP g T b (nI x) (a1 + 1) (fun a3 j => tkP g T 44 a3 fun a4 => nmP g T 1 9 a4 fun a5 w => tkP g T 59 a5 fun a6 => k a6 (setB b (36 + (5 * tN (nI x) + tN j)) w)) := fun k => by
    unfold earP
    rw [e1, e2]
    rfl
  refine ⟨by omega, c_takesHeard hC (by omega) t2 l2 (hb.lo fm2 (by decide)) hp h5 hx (fun N3 a3 y e3 hy l3 t3 n3 f3 => ?_) (fun N f e h fm => ?_)⟩
  rotate_left
  · conv => whnf
    refine ⟨fun z => absurd rfl z, fun _ => ?_⟩
    refine b_X6_readEar_48 hX ?_
    conv => whnf
    exact ⟨Or.inl rfl, h0 N _ _ (fun k => by rw [eE, e]) h ((fm2.tr fm).fd)⟩
  have fm3 : Fm M N3 6 6 := fm2.tr f3
  have eE : ∀ k, earP g T a b k = tkP g T 44 a3 fun a4 => nmP g T 1 9 a4 fun a5 w => tkP g T 59 a5 fun a6 => k a6 (setB b (36 + (5 * x + y)) w) := fun k => by
    rw [eE, e3, tN_nI (by omega), tN_nI (by omega)]
  conv => whnf
  refine ⟨fun _ => ?_, fun z => absurd z (by decide)⟩
  refine b_X6_readEar_50 hX ?_
  conv => whnf
  rw [n3]
  have bad : ∀ (N : MT) (f : Int32) (p : Nat), (∀ k, earP g T a b k = .inr (f, p)) → FLc f p N → Fm M N 6 6 → X 74 [some (.ref 6), some (.ref 15), some (.int (nI x)), some (.int (nI y))] [] N := fun N f p hk hf fm => by
    refine b_X6_readEar_74 hX ?_
    conv => whnf
    exact ⟨Or.inl rfl, h0 N f p hk hf (fm.fd)⟩
  refine ⟨by omega, c_takes hC (by omega) t3 l3 (by decide) (fun N4 y4 e4 l4 t4 f4 => ?_) (fun N e h fm => ?_)⟩
  rotate_left
  · conv => whnf
    exact ⟨fun _ => bad N _ _ (fun k => by rw [eE, e]) h (fm3.tr fm), fun z => absurd rfl z⟩
  conv => whnf
  refine ⟨fun q => absurd q (by decide), fun _ => ?_⟩
  conv => whnf
  refine ⟨by omega, c_takesNumber hC (by omega) t4 l4 (fun N5 a5 w e5 l5 _ _ t5 n5 f5 => ?_) (fun N f e h fm => ?_)⟩
  rotate_left
  · conv => whnf
    exact ⟨fun z => absurd rfl z, fun _ => bad N _ _ (fun k => by rw [eE, e4, e]) h ((fm3.tr f4).tr fm)⟩
  have fm5 : Fm M N5 6 6 := (fm3.tr f4).tr f5
  conv => whnf
  refine ⟨fun _ => ?_, fun z => absurd z (by decide)⟩
  refine b_X6_readEar_76 hX ?_
  conv => whnf
  rw [n5]
  refine ⟨by omega, c_weigh_15 hC (by omega) (by omega) ?_⟩
  conv => whnf
  have t6 : TC g T a5 (wr N5 20 (5 * x + y) w) := t5.fr (Fm.wr (lo := 20) (hi := 20) Fm.rf (by decide) (by decide)) (by decide)
  have f6 : Fdr M (wr N5 20 (5 * x + y) w) := Fdr.sw (fm5.fd) (by decide) (by decide)
  refine ⟨by omega, c_takes hC (by omega) t6 l5 (by decide) (fun N7 y7 e7 l7 t7 f7 => ?_) (fun N e h fm => ?_)⟩
  · conv => whnf
    exact ⟨Or.inr rfl, h1 N7 _ (5 * x + y) w (fun k => by rw [eE, e4, e5, e7]) (by omega) l7 t7 (((hb.lo fm5 (by decide)).ear (by omega) h5 h12).lo f7 (by decide)) (f6.tr (f7.fd))⟩
  · conv => whnf
    exact ⟨Or.inl rfl, h0 N _ _ (fun k => by rw [eE, e4, e5, e]) h (f6.tr (fm.fd))⟩
theorem c_readEars {C : CC} (hC : Clo C) {d : Nat} (hd : 4 ≤ d) {M : MT} {K : KT} {g : Nat → Int32} {T a : Nat} {b : BV} (hT : TC g T a M) (ha : a ≤ T) (hb : Bd 15 b M) (hp : b 5 = nI (nP b)) (h5 : nP b ≤ 5) (h12 : nB b ≤ 12) (h1 : ∀ M' b', ersP g T 12 a b = .inl b' → Bd 15 b' M' → nP b' ≤ 5 → nB b' ≤ 12 → Fdr M M' → K (some (.int 1)) M') (h0 : ∀ M' f p, ersP g T 12 a b = .inr (f, p) → FLc f p M' → Fdr M M' → K (some (.int 0)) M') : C d 66 [.ref 6, .ref 15] M K := by
  refine g_X6_readEars hC (fun X hX => ?_)
  have b33 : ∀ (n a1 : Nat) (b1 : BV) (x : Int32) (M1 : MT), (¬ byt g T a1 = 119 ∨ n = 0) → nP b1 ≤ 5 → nB b1 ≤ 12 → a1 ≤ T → TC g T a1 M1 → Bd 15 b1 M1 → Fdr M M1 → (ersP g T 12 a b = ersP g T n a1 b1) → X 33 [some (.ref 6), some (.ref 15), some (.int x)] [] M1 := by
    intro n a1 b1 x M1 hx hP hB ha1 t1 hb1 f1 hs
    have hT1 := t1.2.1
    have sA : ¬ byt g T a1 = 119 → ersP g T n a1 b1 = if byt g T a1 = -1 then .inl b1 else .inr (1, a1) := fun z => by
      cases n with
      | zero => exact if_neg z
      | succ n => exact if_neg z
    refine b_X6_readEars_33 hX ?_
    conv => whnf
    refine ⟨by omega, c_sign hC (by omega) t1 (by omega) ?_⟩
    conv => whnf
    refine ⟨fun z => ?_, fun z => ?_⟩
    · refine b_X6_readEars_48 hX ?_
      conv => whnf
      refine ⟨by omega, c_sign hC (by omega) t1 (by omega) ?_⟩
      conv => whnf
      refine ⟨fun q => ?_, fun q => ?_⟩
      · refine b_X6_readEars_64 hX ?_
        conv => whnf
        exact ⟨Or.inr rfl, h1 M1 b1 (by rw [hs, sA z, if_pos q]) hb1 hP hB f1⟩
      · conv => whnf
        refine ⟨by omega, c_fails hC ?_⟩
        conv => whnf
        refine ⟨fun _ => ?_, fun z => absurd rfl z⟩
        refine b_X6_readEars_68 hX ?_
        conv => whnf
        refine b_X6_readEars_69 hX ?_
        conv => whnf
        refine ⟨Or.inl rfl, h0 _ 1 a1 (by rw [hs, sA z, if_neg q]) ⟨?_, ?_⟩ (f1.tr (Fdr.sw (Fdr.sw Fdr.rf (by decide) (by decide)) (by decide) (by decide)))⟩
        · rw [wr_ne (by decide), wr_at]
        · rw [wr_at]; exact t1.2.2.1
    · have n0 : n = 0 := hx.resolve_left (fun y => y z)
      subst n0
      conv => whnf
      refine ⟨by omega, c_fails hC ?_⟩
      conv => whnf
      refine ⟨Or.inl rfl, h0 _ 3 a1 (by rw [hs]; exact if_pos z) ⟨?_, ?_⟩ (f1.tr (Fdr.sw (Fdr.sw Fdr.rf (by decide) (by decide)) (by decide) (by decide)))⟩
      · rw [wr_ne (by decide), wr_at]
      · rw [wr_at]; exact t1.2.2.1
  have loop : ∀ (n j a1 : Nat) (b1 : BV) (M1 : MT), j + n = 12 → nP b1 = nP b → b1 5 = b 5 → nB b1 = nB b → a1 ≤ T → TC g T a1 M1 → Bd 15 b1 M1 → Fdr M M1 → (ersP g T 12 a b = ersP g T n a1 b1) → X 2 [some (.ref 6), some (.ref 15), some (.int (nI j))] [] M1 := by
    intro n
    induction n with
    | zero =>
      intro j a1 b1 M1 hn eP e5 eB ha1 t1 hb1 f1 hs
      refine b_X6_readEars_2 hX ?_
      conv => whnf
      exact ⟨fun q => b33 0 a1 b1 _ M1 (Or.inr rfl) (by omega) (by omega) ha1 t1 hb1 f1 hs, fun q => absurd ((le_nI (a := 12) (by omega) (by omega)).mpr (by omega)) q⟩
    | succ n ih =>
      intro j a1 b1 M1 hn eP e5 eB ha1 t1 hb1 f1 hs
      have hT1 := t1.2.1
      refine b_X6_readEars_2 hX ?_
      conv => whnf
      refine ⟨fun q => absurd ((le_nI (a := 12) (by omega) (by omega)).mp q) (by omega), fun q => ?_⟩
      conv => whnf
      refine ⟨by omega, c_sign hC (by omega) t1 (by omega) ?_⟩
      conv => whnf
      refine ⟨fun z => b33 (n + 1) a1 b1 _ M1 (Or.inl z) (by omega) (by omega) ha1 t1 hb1 f1 hs, fun z => ?_⟩
      have hs1 : ersP g T (n + 1) a1 b1 = earP g T a1 b1 (fun a b => ersP g T n a b) := if_pos z
      conv => whnf
      refine ⟨by omega, c_readEar hC (by omega) t1 ha1 z hb1 (by rw [e5, eP]; exact hp) (by omega) (by omega) (fun M2 a2 p v e hp25 l t hb2 f => ?_) (fun M2 f p e h fm => ?_)⟩
      · conv => whnf
        refine ⟨fun _ => ?_, fun z => absurd z (by decide)⟩
        refine b_X6_readEars_27 hX ?_
        conv => whnf
        rw [nI_1]
        exact ih (j + 1) a2 (setB b1 (36 + p) v) M2 (by omega) (by rw [nP_setB (by omega)]; exact eP) (by rw [setB_ne (by omega)]; exact e5) (by rw [nB_setB (by omega)]; exact eB) l t hb2 (f1.tr f) (by rw [hs, hs1, e])
      · conv => whnf
        refine ⟨fun z => absurd rfl z, fun _ => ?_⟩
        conv => whnf
        exact ⟨Or.inl rfl, h0 M2 f p (by rw [hs, hs1, e]) h (f1.tr fm)⟩
  refine b_X6_readEars_0 hX ?_
  conv => whnf
  exact loop 12 0 a b M (by omega) rfl rfl rfl ha hT hb Fdr.rf rfl
