theorem Bd.lo {r : Nat} {b : BV} {M M' : MT} (h : Bd r b M) (f : Fm M M' 6 6) (hr : 6 < r) : Bd r b M' := h.fr f (by omega)
theorem Bd.song {b : BV} {M : MT} {v : Int32} (hb : Bd 15 b M) (h5 : nP b ≤ 5) (h12 : nB b < 12) : Bd 15 (setB (setB b (9 + nB b) v) 4 (nI (nB b + 1))) (wr (wr M 21 (nB b) v) 15 1 (nI (nB b + 1))) := by
  obtain ⟨⟨a0, a1, a2, a3, a4, a5, a6, a7⟩, b1, b2, b3⟩ := hb
  have eP : nP (setB (setB b (9 + nB b) v) 4 (nI (nB b + 1))) = nP b := by rw [nP_setB (by omega), nP_setB (by omega)]
  have eB : nB (setB (setB b (9 + nB b) v) 4 (nI (nB b + 1))) = nB b + 1 := by unfold nB; rw [setB_at]; exact nI_clamp (by unfold nB at h12; omega)
  have e : ∀ k, k ≠ 4 → k ≠ 9 + nB b → setB (setB b (9 + nB b) v) 4 (nI (nB b + 1)) k = b k := fun k h1 h2 => by rw [setB_ne h1, setB_ne h2]
  refine ⟨⟨?_, ?_, ?_, ?_, ?_, ?_, ?_, ?_⟩, fun i hi => ?_, fun i hi => ?_, fun i hi => ?_⟩
  · rw [wr_ne (by decide), wr_off (by decide), e 5 (by omega) (by omega)]; exact a0
  · rw [wr_at, setB_at]
  · rw [wr_ne (by decide), wr_off (by decide), e 6 (by omega) (by omega)]; exact a2
  · rw [wr_ne (by decide), wr_off (by decide), e 7 (by omega) (by omega)]; exact a3
  · rw [wr_ne (by decide), wr_off (by decide), e 0 (by omega) (by omega)]; exact a4
  · rw [wr_ne (by decide), wr_off (by decide), e 1 (by omega) (by omega)]; exact a5
  · rw [wr_ne (by decide), wr_off (by decide), e 2 (by omega) (by omega)]; exact a6
  · rw [wr_ne (by decide), wr_off (by decide), e 3 (by omega) (by omega)]; exact a7
  · rw [eP] at hi
    rw [wr_off (by decide), wr_off (by decide), wr_off (by decide), wr_off (by decide), wr_off (by decide), wr_off (by decide), e _ (by omega) (by omega), e _ (by omega) (by omega), e _ (by omega) (by omega)]
    exact b1 i hi
  · rw [wr_off (by decide), wr_off (by decide), e _ (by omega) (by omega)]; exact b2 i hi
  · rw [eB] at hi
    rw [wr_off (by decide), setB_ne (by omega)]
    by_cases z : i = nB b
    · subst z; rw [wr_at, setB_at]
    · rw [wr_ne z, setB_ne (by omega)]; exact b3 i (by omega)
theorem c_readSong {C : CC} (hC : Clo C) {d : Nat} (hd : 3 ≤ d) {M : MT} {K : KT} {g : Nat → Int32} {T a : Nat} {b : BV} (hT : TC g T a M) (ha : a ≤ T) (hb : Bd 15 b M) (h5 : nP b ≤ 5) (h4 : b 4 = 0) (h1 : ∀ M' a' b', (∀ k, tkP g T 122 a (fun a => sngP g T k 12 a b) = k a' b') → a' ≤ T → TC g T a' M' → Bd 15 b' M' → nP b' = nP b → b' 5 = b 5 → nB b' ≤ 12 → Fdr M M' → K (some (.int 1)) M') (h0 : ∀ M' f p, (∀ k, tkP g T 122 a (fun a => sngP g T k 12 a b) = .inr (f, p)) → FLc f p M' → Fdr M M' → K (some (.int 0)) M') : C d 63 [.ref 6, .ref 15] M K := by
  refine g_X6_readSong hC (fun X hX => ?_)
  have loop : ∀ (n a1 : Nat) (b1 : BV) (M1 : MT), nB b1 + n = 12 → b1 4 = nI (nB b1) → nP b1 = nP b → b1 5 = b 5 → a1 ≤ T → TC g T a1 M1 → Bd 15 b1 M1 → Fdr M M1 → (∀ k, tkP g T 122 a (fun a => sngP g T k 12 a b) = sngP g T k n a1 b1) → X 11 [some (.ref 6), some (.ref 15)] [] M1 := by
    intro n
    induction n with
    | zero =>
      intro a1 b1 M1 hn e4 eP e5 ha1 t1 hb1 f1 hs
      have hT1 := t1.2.1
      have el : M1 15 1 = nI (nB b1) := hb1.1.2.1.trans e4
      refine b_X6_readSong_11 hX ?_
      conv => whnf
      rw [el]
      refine ⟨fun q => ?_, fun q => absurd ((le_nI (a := 12) (by omega) (by omega)).mpr (by omega)) q⟩
      refine b_X6_readSong_69 hX ?_
      conv => whnf
      rw [el]
      refine ⟨fun _ => ?_, fun q => absurd q (nI_ne0 (by omega) (by omega))⟩
      refine b_X6_readSong_82 hX ?_
      conv => whnf
      refine ⟨by omega, c_sign hC (by omega) t1 (by omega) ?_⟩
      conv => whnf
      refine ⟨by omega, c_barOf hC ?_⟩
      conv => whnf
      have hs1 : ∀ k, sngP g T k 0 a1 b1 = if barO (byt g T a1) < 0 then (if nB b1 = 0 then .inr (1, a1) else tkP g T 59 a1 (fun a => k a b1)) else .inr (3, a1) := fun k => rfl
      refine ⟨fun q => ?_, fun q => ?_⟩
      · refine b_X6_readSong_100 hX ?_
        conv => whnf
        refine ⟨by omega, c_takes hC (by omega) t1 ha1 (by decide) (fun N y e l t f => ?_) (fun N e h f => ?_)⟩
        · conv => whnf
          refine b_X6_readSong_106 hX ?_
          conv => whnf
          exact ⟨Or.inr rfl, h1 N (a1 + 1) b1 (fun k => by rw [hs, hs1, if_pos q, if_neg (by omega), e]) l t (hb1.lo f (by decide)) eP e5 (by omega) (f1.tr (f.fd))⟩
        · conv => whnf
          refine b_X6_readSong_106 hX ?_
          conv => whnf
          exact ⟨Or.inl rfl, h0 N _ _ (fun k => by rw [hs, hs1, if_pos q, if_neg (by omega), e]) h (f1.tr (f.fd))⟩
      · conv => whnf
        refine ⟨by omega, c_fails hC ?_⟩
        conv => whnf
        refine ⟨Or.inl rfl, h0 _ 3 a1 (fun k => by rw [hs, hs1, if_neg q]) ⟨?_, ?_⟩ (f1.tr (Fdr.sw (Fdr.sw Fdr.rf (by decide) (by decide)) (by decide) (by decide)))⟩
        · rw [wr_ne (by decide), wr_at]
        · rw [wr_at]; exact t1.2.2.1
    | succ n ih =>
      intro a1 b1 M1 hn e4 eP e5 ha1 t1 hb1 f1 hs
      have hT1 := t1.2.1
      have el : M1 15 1 = nI (nB b1) := hb1.1.2.1.trans e4
      have hs1 : ∀ k, sngP g T k (n + 1) a1 b1 = if barO (byt g T a1) < 0 then (if nB b1 = 0 then .inr (1, a1) else tkP g T 59 a1 (fun a => k a b1)) else sngP g T k n (a1 + 1) (setB (setB b1 (9 + nB b1) (barO (byt g T a1))) 4 (nI (nB b1 + 1))) := fun k => rfl
      refine b_X6_readSong_11 hX ?_
      conv => whnf
      rw [el]
      refine ⟨fun q => absurd ((le_nI (a := 12) (by omega) (by omega)).mp q) (by omega), fun q => ?_⟩
      conv => whnf
      refine ⟨by omega, c_sign hC (by omega) t1 (by omega) ?_⟩
      conv => whnf
      refine ⟨by omega, c_barOf hC ?_⟩
      conv => whnf
      refine ⟨fun q => ?_, fun q => ?_⟩
      · refine b_X6_readSong_69 hX ?_
        conv => whnf
        rw [el]
        refine ⟨fun q2 => ?_, fun q2 => ?_⟩
        · have hnz : ¬ nB b1 = 0 := fun z => q2 (by rw [z]; rfl)
          refine b_X6_readSong_82 hX ?_
          conv => whnf
          refine ⟨by omega, c_sign hC (by omega) t1 (by omega) ?_⟩
          conv => whnf
          refine ⟨by omega, c_barOf hC ?_⟩
          conv => whnf
          refine ⟨fun _ => ?_, fun q3 => absurd q q3⟩
          refine b_X6_readSong_100 hX ?_
          conv => whnf
          refine ⟨by omega, c_takes hC (by omega) t1 ha1 (by decide) (fun N y e l t f => ?_) (fun N e h f => ?_)⟩
          · conv => whnf
            refine b_X6_readSong_106 hX ?_
            conv => whnf
            exact ⟨Or.inr rfl, h1 N (a1 + 1) b1 (fun k => by rw [hs, hs1, if_pos q, if_neg hnz, e]) l t (hb1.lo f (by decide)) eP e5 (by omega) (f1.tr (f.fd))⟩
          · conv => whnf
            refine b_X6_readSong_106 hX ?_
            conv => whnf
            exact ⟨Or.inl rfl, h0 N _ _ (fun k => by rw [hs, hs1, if_pos q, if_neg hnz, e]) h (f1.tr (f.fd))⟩
        · have hz : nB b1 = 0 := by
            rcases Nat.eq_zero_or_pos (nB b1) with z | z
            · exact z
            · exact absurd q2 (nI_ne0 z (by omega))
          conv => whnf
          refine ⟨by omega, c_fails hC ?_⟩
          conv => whnf
          refine ⟨Or.inl rfl, h0 _ 1 a1 (fun k => by rw [hs, hs1, if_pos q, if_pos hz]) ⟨?_, ?_⟩ (f1.tr (Fdr.sw (Fdr.sw Fdr.rf (by decide) (by decide)) (by decide) (by decide)))⟩
          · rw [wr_ne (by decide), wr_at]
          · rw [wr_at]; exact t1.2.2.1
      · have hlt : a1 < T := byt_lt (fun z => q (by rw [z]; decide))
        conv => whnf
        refine ⟨by omega, c_sign hC (by omega) t1 (by omega) ?_⟩
        conv => whnf
        refine ⟨by omega, c_barOf hC ?_⟩
        conv => whnf
        refine ⟨nB b1, el, by omega, ?_⟩
        conv => whnf
        rw [wr_off (q := 15) (p := 21) (by decide), el, nI_1, wr_off (q := 6) (p := 15) (by decide), wr_off (q := 6) (p := 21) (by decide), t1.2.2.1, nI_1]
        have hbn : nB (setB (setB b1 (9 + nB b1) (barO (byt g T a1))) 4 (nI (nB b1 + 1))) = nB b1 + 1 := by
          show (setB _ 4 _ 4).toNatClampNeg = _
          rw [setB_at]; exact nI_clamp (by omega)
        refine ih (a1 + 1) (setB (setB b1 (9 + nB b1) (barO (byt g T a1))) 4 (nI (nB b1 + 1))) _ (by omega) (by rw [hbn, setB_at]) (by rw [nP_setB (by omega), nP_setB (by omega)]; exact eP) (by rw [setB_ne (by omega), setB_ne (by omega)]; exact e5) (by omega) ?_ ((hb1.song (by omega) (by omega)).lo (Fm.wr Fm.rf (by decide) (by decide)) (by decide)) (Fdr.sw (Fdr.sw (Fdr.sw f1 (by decide) (by decide)) (by decide) (by decide)) (by decide) (by decide)) (fun k => by rw [hs, hs1, if_neg q])
        have t2 : TC g T a1 (wr (wr M1 21 (nB b1) (barO (byt g T a1))) 15 1 (nI (nB b1 + 1))) := t1.fr (Fm.wr (lo := 15) (hi := 21) (Fm.wr Fm.rf (by decide) (by decide)) (by decide) (by decide)) (by decide)
        exact t2.at
  have hz : nB b = 0 := by unfold nB; rw [h4]; rfl
  refine b_X6_readSong_0 hX ?_
  conv => whnf
  refine ⟨by omega, c_takes hC (by omega) hT ha (by decide) (fun N y e l t f => ?_) (fun N e h f => ?_)⟩
  · conv => whnf
    refine ⟨fun _ => ?_, fun z => absurd z (by decide)⟩
    exact loop 12 (a + 1) b N (by omega) (by rw [hz, h4]; rfl) rfl rfl l t (hb.lo f (by decide)) (f.fd) (fun k => e _)
  · conv => whnf
    refine ⟨fun z => absurd rfl z, fun _ => ?_⟩
    conv => whnf
    exact ⟨Or.inl rfl, h0 N _ _ (fun k => e _) h (f.fd)⟩
