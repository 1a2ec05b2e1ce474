theorem Bd.ply {b : BV} {M M' : MT} {x y h : Int32} (hb : Bd 15 b M) (h5 : nP b < 5) (h12 : nB b ≤ 12) (e0 : M' 15 0 = nI (nP b + 1)) (e1 : ∀ k, k ≠ 0 → M' 15 k = M 15 k) (k1 : M' 16 (nP b) = x ∧ ∀ i, i ≠ nP b → M' 16 i = M 16 i) (k2 : M' 17 (nP b) = h ∧ ∀ i, i ≠ nP b → M' 17 i = M 17 i) (k3 : M' 18 (nP b) = y ∧ ∀ i, i ≠ nP b → M' 18 i = M 18 i) (e20 : M' 20 = M 20) (e21 : M' 21 = M 21) : Bd 15 (setB (setB (setB (setB b (21 + nP b) x) (26 + nP b) y) (31 + nP b) h) 5 (nI (nP b + 1))) M' := by
  obtain ⟨⟨a0, a1, a2, a3, a4, a5, a6, a7⟩, b1, b2, b3⟩ := hb
  have eP : nP (setB (setB (setB (setB b (21 + nP b) x) (26 + nP b) y) (31 + nP b) h) 5 (nI (nP b + 1))) = nP b + 1 := by
    show (setB _ 5 _ 5).toNatClampNeg = _
    rw [setB_at]; exact nI_clamp (by omega)
  have eB : nB (setB (setB (setB (setB b (21 + nP b) x) (26 + nP b) y) (31 + nP b) h) 5 (nI (nP b + 1))) = nB b := by rw [nB_setB (by omega), nB_setB (by omega), nB_setB (by omega), nB_setB (by omega)]
  have e : ∀ k, k ≠ 5 → k ≠ 21 + nP b → k ≠ 26 + nP b → k ≠ 31 + nP b → setB (setB (setB (setB b (21 + nP b) x) (26 + nP b) y) (31 + nP b) h) 5 (nI (nP b + 1)) k = b k := fun k h1 h2 h3 h4 => by rw [setB_ne h1, setB_ne h4, setB_ne h3, setB_ne h2]
  refine ⟨⟨?_, ?_, ?_, ?_, ?_, ?_, ?_, ?_⟩, fun i hi => ?_, fun i hi => ?_, fun i hi => ?_⟩
  · rw [e0, setB_at]
  · rw [e1 _ (by decide), e _ (by omega) (by omega) (by omega) (by omega)]; exact a1
  · rw [e1 _ (by decide), e _ (by omega) (by omega) (by omega) (by omega)]; exact a2
  · rw [e1 _ (by decide), e _ (by omega) (by omega) (by omega) (by omega)]; exact a3
  · rw [e1 _ (by decide), e _ (by omega) (by omega) (by omega) (by omega)]; exact a4
  · rw [e1 _ (by decide), e _ (by omega) (by omega) (by omega) (by omega)]; exact a5
  · rw [e1 _ (by decide), e _ (by omega) (by omega) (by omega) (by omega)]; exact a6
  · rw [e1 _ (by decide), e _ (by omega) (by omega) (by omega) (by omega)]; exact a7
  · rw [eP] at hi
    by_cases z : i = nP b
    · subst z
      refine ⟨?_, ?_, ?_⟩
      · rw [setB_ne (by omega), setB_ne (by omega), setB_ne (by omega), setB_at]; exact k1.1
      · rw [setB_ne (by omega), setB_at]; exact k2.1
      · rw [setB_ne (by omega), setB_ne (by omega), setB_at]; exact k3.1
    · rw [e _ (by omega) (by omega) (by omega) (by omega), e _ (by omega) (by omega) (by omega) (by omega), e _ (by omega) (by omega) (by omega) (by omega)]
      show M' 16 i = _ ∧ M' 17 i = _ ∧ M' 18 i = _
      rw [k1.2 i z, k2.2 i z, k3.2 i z]
      exact b1 i (by omega)
  · show M' 20 i = _
    rw [e20, e _ (by omega) (by omega) (by omega) (by omega)]; exact b2 i hi
  · rw [eB] at hi
    show M' 21 i = _
    rw [e21, e _ (by omega) (by omega) (by omega) (by omega)]; exact b3 i hi
theorem c_readPlayer {C : CC} (hC : Clo C) {d : Nat} (hd : 3 ≤ d) {M : MT} {K : KT} {g : Nat → Int32} {T a : Nat} {b : BV} (hT : TC g T a M) (ha : a < T) (hb : Bd 15 b M) (hp : b 5 = nI (nP b)) (h5 : nP b < 5) (h12 : nB b ≤ 12) (h1 : ∀ M' a' b', (∀ k, plyP g T a b k = k a' b') → a' ≤ T → TC g T a' M' → Bd 15 b' M' → nP b' = nP b + 1 → b' 5 = nI (nP b + 1) → nB b' = nB b → Fdr M M' → K (some (.int 1)) M') (h0 : ∀ M' f p, (∀ k, plyP g T a b k = .inr (f, p)) → FLc f p M' → Fdr M M' → K (some (.int 0)) M') : C d 65 [.ref 6, .ref 15] M K := by
  have hT1 := hT.2.1
  have e0 : M 15 0 = nI (nP b) := hb.1.1.trans hp
  refine g_X6_readPlayer hC (fun X hX => ?_)
  refine b_X6_readPlayer_0 hX ?_
  conv => whnf
  refine ⟨by omega, c_sign hC (by omega) hT (by omega) ?_⟩
  conv => whnf
  refine ⟨by omega, c_kindOf hC ?_⟩
  conv => whnf
  refine ⟨nP b, e0, by omega, ?_⟩
  conv => whnf
  rw [wr_off (q := 6) (p := 16) (by decide), hT.2.2.1, nI_1, e0]
  have f0 : Fdr M (wr (wr M 16 (nP b) (kindO (byt g T a))) 6 4 (nI (a + 1))) := Fdr.sw (Fdr.sw Fdr.rf (by decide) (by decide)) (by decide) (by decide)
  have t0 : TC g T (a + 1) (wr (wr M 16 (nP b) (kindO (byt g T a))) 6 4 (nI (a + 1))) := TC.at (hT.fr (Fm.wr (lo := 16) (hi := 16) Fm.rf (by decide) (by decide)) (by decide))
  refine ⟨by omega, c_takesNumber hC (by omega) t0 (by omega) (fun N1 a1 v e1 l1 _ _ t1 n1 f1 => ?_) (fun N f e h fm => ?_)⟩
  rotate_left
  · conv => whnf
    refine ⟨fun z => absurd rfl z, fun _ => ?_⟩
    conv => whnf
    exact ⟨Or.inl rfl, h0 N _ _ (fun k => by unfold plyP; rw [e]) h (f0.tr (fm.fd))⟩
  conv => whnf
  refine ⟨fun _ => ?_, fun z => absurd z (by decide)⟩
  have bad : ∀ (N : MT) (f : Int32) (p : Nat), (∀ k, plyP g T a b k = .inr (f, p)) → FLc f p N → Fdr M N → X 73 [some (.ref 6), some (.ref 15), some (.int (nI (nP b)))] [] N := fun N f p hk hf fm => by
    refine b_X6_readPlayer_73 hX ?_
    conv => whnf
    exact ⟨Or.inl rfl, h0 N f p hk hf fm⟩
  refine b_X6_readPlayer_41 hX ?_
  conv => whnf
  refine ⟨nP b, rfl, by omega, ?_⟩
  conv => whnf
  rw [n1]
  have t1' : TC g T a1 (wr N1 18 (nP b) (10 * v)) := t1.fr (Fm.wr (lo := 18) (hi := 18) Fm.rf (by decide) (by decide)) (by decide)
  have f1' : Fdr M (wr N1 18 (nP b) (10 * v)) := Fdr.sw (f0.tr (f1.fd)) (by decide) (by decide)
  refine ⟨by omega, c_takes hC (by omega) t1' l1 (by decide) (fun N2 y2 e2 l2 t2 f2 => ?_) (fun N e h fm => ?_)⟩
  rotate_left
  · conv => whnf
    exact ⟨fun _ => bad N _ _ (fun k => by unfold plyP; rw [e1, e]) h (f1'.tr (fm.fd)), fun z => absurd rfl z⟩
  conv => whnf
  refine ⟨fun q => absurd q (by decide), fun _ => ?_⟩
  conv => whnf
  refine ⟨by omega, c_takesNumber hC (by omega) t2 l2 (fun N3 a3 u e3 l3 _ _ t3 n3 f3 => ?_) (fun N f e h fm => ?_)⟩
  rotate_left
  · conv => whnf
    exact ⟨fun z => absurd rfl z, fun _ => bad N _ _ (fun k => by unfold plyP; rw [e1, e2, e]) h ((f1'.tr (f2.fd)).tr (fm.fd))⟩
  conv => whnf
  refine ⟨fun _ => ?_, fun z => absurd z (by decide)⟩
  refine b_X6_readPlayer_75 hX ?_
  conv => whnf
  refine ⟨nP b, rfl, by omega, ?_⟩
  conv => whnf
  have g15 : N3 15 = M 15 := by rw [f3 15 (by decide), f2 15 (by decide), wr_off (by decide), f1 15 (by decide), wr_off (by decide), wr_off (by decide)]
  rw [n3, wr_off (q := 15) (p := 17) (by decide), g15, e0, nI_1]
  have t3' : TC g T a3 (wr (wr N3 17 (nP b) u) 15 0 (nI (nP b + 1))) := t3.fr (Fm.wr (lo := 15) (hi := 17) (Fm.wr Fm.rf (by decide) (by decide)) (by decide) (by decide)) (by decide)
  have f3' : Fdr M (wr (wr N3 17 (nP b) u) 15 0 (nI (nP b + 1))) := Fdr.sw (Fdr.sw ((f1'.tr (f2.fd)).tr (f3.fd)) (by decide) (by decide)) (by decide) (by decide)
  refine ⟨by omega, c_takes hC (by omega) t3' l3 (by decide) (fun N4 y4 e4 l4 t4 f4 => ?_) (fun N e h fm => ?_)⟩
  rotate_left
  · conv => whnf
    exact ⟨Or.inl rfl, h0 N _ _ (fun k => by unfold plyP; rw [e1, e2, e3, e]) h (f3'.tr (fm.fd))⟩
  conv => whnf
  have c16 : N4 16 = (wr M 16 (nP b) (kindO (byt g T a))) 16 := by rw [f4 16 (by decide), wr_off (by decide), wr_off (by decide), f3 16 (by decide), f2 16 (by decide), wr_off (by decide), f1 16 (by decide), wr_off (by decide)]
  have c18 : N4 18 = (wr M 18 (nP b) (10 * v)) 18 := by
    rw [f4 18 (by decide), wr_off (by decide), wr_off (by decide), f3 18 (by decide), f2 18 (by decide)]
    funext i
    by_cases z : i = nP b
    · subst z; rw [wr_at, wr_at]
    · rw [wr_ne z, wr_ne z, f1 18 (by decide), wr_off (by decide), wr_off (by decide)]
  have c17 : N4 17 = (wr M 17 (nP b) u) 17 := by
    rw [f4 17 (by decide), wr_off (by decide)]
    funext i
    by_cases z : i = nP b
    · subst z; rw [wr_at, wr_at]
    · rw [wr_ne z, wr_ne z, f3 17 (by decide), f2 17 (by decide), wr_off (by decide), f1 17 (by decide), wr_off (by decide), wr_off (by decide)]
  have c15 : N4 15 = (wr M 15 0 (nI (nP b + 1))) 15 := by
    rw [f4 15 (by decide)]
    funext i
    by_cases z : i = 0
    · subst z; rw [wr_at, wr_at]
    · rw [wr_ne z, wr_ne z, wr_off (by decide), g15]
  have c20 : ∀ q, 19 ≤ q → q ≤ 21 → N4 q = M q := fun q q1 q2 => by rw [f4 q (by omega), wr_off (by omega), wr_off (by omega), f3 q (by omega), f2 q (by omega), wr_off (by omega), f1 q (by omega), wr_off (by omega), wr_off (by omega)]
  refine ⟨Or.inr rfl, h1 N4 _ _ (fun k => by unfold plyP; rw [e1, e2, e3, e4]) l4 t4 (hb.ply (M' := N4) h5 h12 ?_ (fun k hk => ?_) ⟨?_, fun i hi => ?_⟩ ⟨?_, fun i hi => ?_⟩ ⟨?_, fun i hi => ?_⟩ (c20 20 (by decide) (by decide)) (c20 21 (by decide) (by decide))) ?_ setB_at ?_ (f3'.tr (f4.fd))⟩
  · rw [c15, wr_at]
  · rw [c15, wr_ne hk]
  · rw [c16, wr_at]
  · rw [c16, wr_ne hi]
  · rw [c17, wr_at]
  · rw [c17, wr_ne hi]
  · rw [c18, wr_at]
  · rw [c18, wr_ne hi]
  · show (setB _ 5 _ 5).toNatClampNeg = _
    rw [setB_at]; exact nI_clamp (by omega)
  · rw [nB_setB (by omega), nB_setB (by omega), nB_setB (by omega), nB_setB (by omega)]
theorem c_readPlayers {C : CC} (hC : Clo C) {d : Nat} (hd : 4 ≤ d) {M : MT} {K : KT} {g : Nat → Int32} {T a : Nat} {b : BV} (hT : TC g T a M) (ha : a ≤ T) (hb : Bd 15 b M) (hp : b 5 = 0) (h12 : nB b ≤ 12) (h1 : ∀ M' a' b', (∀ k, plsP g T k 5 a b = k a' b') → a' ≤ T → TC g T a' M' → Bd 15 b' M' → 0 < nP b' → nP b' ≤ 5 → b' 5 = nI (nP b') → nB b' = nB b → Fdr M M' → K (some (.int 1)) M') (h0 : ∀ M' f p, (∀ k, plsP g T k 5 a b = .inr (f, p)) → FLc f p M' → Fdr M M' → K (some (.int 0)) M') : C d 64 [.ref 6, .ref 15] M K := by
  refine g_X6_readPlayers hC (fun X hX => ?_)
  have b33 : ∀ (n a1 : Nat) (b1 : BV) (x : Int32) (M1 : MT), (kindO (byt g T a1) = 0 ∨ n = 0) → nP b1 + n = 5 → b1 5 = nI (nP b1) → nB b1 = nB b → a1 ≤ T → TC g T a1 M1 → Bd 15 b1 M1 → Fdr M M1 → (∀ k, plsP g T k 5 a b = plsP g T k n a1 b1) → X 33 [some (.ref 6), some (.ref 15), some (.int x)] [] M1 := by
    intro n a1 b1 x M1 hx hn e5 eB ha1 t1 hb1 f1 hs
    have hT1 := t1.2.1
    have e0 : M1 15 0 = nI (nP b1) := hb1.1.1.trans e5
    have sA : kindO (byt g T a1) = 0 → ∀ k, plsP g T k n a1 b1 = if nP b1 = 0 then .inr (1, a1) else k a1 b1 := fun z k => by
      cases n with
      | zero => exact if_pos z
      | succ n => exact if_pos z
    refine b_X6_readPlayers_33 hX ?_
    conv => whnf
    rw [e0]
    refine ⟨fun q => ?_, fun q => ?_⟩
    · have hnz : ¬ nP b1 = 0 := fun z => q (by rw [z]; rfl)
      refine b_X6_readPlayers_46 hX ?_
      conv => whnf
      refine ⟨by omega, c_sign hC (by omega) t1 (by omega) ?_⟩
      conv => whnf
      refine ⟨by omega, c_kindOf hC ?_⟩
      conv => whnf
      refine ⟨fun z => ?_, fun z => ?_⟩
      · refine b_X6_readPlayers_64 hX ?_
        conv => whnf
        exact ⟨Or.inr rfl, h1 M1 a1 b1 (fun k => by rw [hs, sA z, if_neg hnz]) ha1 t1 hb1 (by omega) (by omega) e5 eB f1⟩
      · have n0 : n = 0 := hx.resolve_left z
        subst n0
        conv => whnf
        refine ⟨by omega, c_fails hC ?_⟩
        conv => whnf
        refine ⟨fun _ => ?_, fun z => absurd rfl z⟩
        refine b_X6_readPlayers_68 hX ?_
        conv => whnf
        refine b_X6_readPlayers_69 hX ?_
        conv => whnf
        refine ⟨Or.inl rfl, h0 _ 3 a1 (fun k => by rw [hs]; exact if_neg z) ⟨?_, ?_⟩ (f1.tr (Fdr.sw (Fdr.sw Fdr.rf (by decide) (by decide)) (by decide) (by decide)))⟩
        · rw [wr_ne (by decide), wr_at]
        · rw [wr_at]; exact t1.2.2.1
    · have hz : nP b1 = 0 := by
        rcases Nat.eq_zero_or_pos (nP b1) with z | z
        · exact z
        · exact absurd q (nI_ne0 z (by omega))
      have z : kindO (byt g T a1) = 0 := hx.resolve_right (by omega)
      conv => whnf
      refine ⟨by omega, c_fails hC ?_⟩
      conv => whnf
      refine ⟨Or.inl rfl, h0 _ 1 a1 (fun k => by rw [hs, sA z, if_pos hz]) ⟨?_, ?_⟩ (f1.tr (Fdr.sw (Fdr.sw Fdr.rf (by decide) (by decide)) (by decide) (by decide)))⟩
      · rw [wr_ne (by decide), wr_at]
      · rw [wr_at]; exact t1.2.2.1
  have loop : ∀ (n a1 : Nat) (b1 : BV) (M1 : MT), nP b1 + n = 5 → b1 5 = nI (nP b1) → nB b1 = nB b → a1 ≤ T → TC g T a1 M1 → Bd 15 b1 M1 → Fdr M M1 → (∀ k, plsP g T k 5 a b = plsP g T k n a1 b1) → X 2 [some (.ref 6), some (.ref 15), some (.int (nI (nP b1)))] [] M1 := by
    intro n
    induction n with
    | zero =>
      intro a1 b1 M1 hn e5 eB ha1 t1 hb1 f1 hs
      refine b_X6_readPlayers_2 hX ?_
      conv => whnf
      exact ⟨fun q => b33 0 a1 b1 _ M1 (Or.inr rfl) hn e5 eB ha1 t1 hb1 f1 hs, fun q => absurd ((le_nI (a := 5) (by omega) (by omega)).mpr (by omega)) q⟩
    | succ n ih =>
      intro a1 b1 M1 hn e5 eB ha1 t1 hb1 f1 hs
      have hT1 := t1.2.1
      refine b_X6_readPlayers_2 hX ?_
      conv => whnf
      refine ⟨fun q => absurd ((le_nI (a := 5) (by omega) (by omega)).mp q) (by omega), fun q => ?_⟩
      conv => whnf
      refine ⟨by omega, c_sign hC (by omega) t1 (by omega) ?_⟩
      conv => whnf
      refine ⟨by omega, c_kindOf hC ?_⟩
      conv => whnf
      refine ⟨fun z => b33 (n + 1) a1 b1 _ M1 (Or.inl z) hn e5 eB ha1 t1 hb1 f1 hs, fun z => ?_⟩
      have hlt : a1 < T := byt_lt (fun y => z (by rw [y]; decide))
      have hs1 : ∀ k, plsP g T k (n + 1) a1 b1 = plyP g T a1 b1 (fun a b => plsP g T k n a b) := fun k => if_neg z
      conv => whnf
      refine ⟨by omega, c_readPlayer hC (by omega) t1 hlt hb1 e5 (by omega) (by omega) (fun M2 a2 b2 e l t hb2 eP2 e52 eB2 f => ?_) (fun M2 f p e h fm => ?_)⟩
      · conv => whnf
        refine ⟨fun _ => ?_, fun z => absurd z (by decide)⟩
        refine b_X6_readPlayers_27 hX ?_
        conv => whnf
        rw [nI_1, ← eP2]
        exact ih a2 b2 M2 (by omega) (by rw [eP2]; exact e52) (by rw [eB2]; exact eB) l t hb2 (f1.tr f) (fun k => by rw [hs, hs1, e])
      · conv => whnf
        refine ⟨fun z => absurd rfl z, fun _ => ?_⟩
        conv => whnf
        exact ⟨Or.inl rfl, h0 M2 f p (fun k => by rw [hs, hs1, e]) h (f1.tr fm)⟩
  have hz : nP b = 0 := by unfold nP; rw [hp]; rfl
  refine b_X6_readPlayers_0 hX ?_
  conv => whnf
  have := loop 5 a b M (by omega) (by rw [hz, hp]; rfl) rfl ha hT hb Fdr.rf (fun k => rfl)
  rw [hz] at this
  exact this
