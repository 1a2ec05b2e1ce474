theorem m_takesSong {C : CC} (hC : Clo C) {d : Nat} (hd : 3 ≤ d) {M : MT} {K : KT} {g : Nat → Int32} {T a : Nat} {b : BV} (hT : TMo g T a M) (ha : a ≤ T) (hb : Dm b M) (h4 : b 4 = 0) (h1 : ∀ M' a' b', (∀ k, tkP g T 122 a (fun a => sngP g T k 12 a b) = k a' b') → a' ≤ T → TMo g T a' M' → Dm b' M' → (∀ k, (k = 5 ∨ 21 ≤ k) → b' k = b k) → Fq M M' → K (some (.int 1)) M') (h0 : ∀ M' f p, (∀ k, tkP g T 122 a (fun a => sngP g T k 12 a b) = .inr (f, p)) → FLm f p M' → Fq M M' → K (some (.int 0)) M') : C d 141 [.ref 61] M K := by
  refine g_X8_takesSong hC (fun X hX => ?_)
  have b98 : ∀ (n a1 : Nat) (b1 : BV) (M1 : MT), barO (byt g T a1) < 0 → nB b1 ≤ 12 → b1 4 = nI (nB b1) → (∀ k, (k = 5 ∨ 21 ≤ k) → b1 k = b k) → a1 ≤ T → TMo g T a1 M1 → Dm b1 M1 → Fq M M1 → (∀ k, tkP g T 122 a (fun a => sngP g T k 12 a b) = sngP g T k n a1 b1) → X 98 [some (.ref 61)] [] M1 := by
    intro n a1 b1 M1 hbar hn e4 e5 ha1 t1 hb1 f1 hs
    have sA : ∀ k, sngP g T k n a1 b1 = if nB b1 = 0 then .inr (1, a1) else tkP g T 59 a1 (fun a => k a b1) := fun k => by
      cases n with
      | zero => exact if_pos hbar
      | succ n => exact if_pos hbar
    have t2 : TMo g T a1 (wr (wr M1 61 12 (nI a1)) 61 13 1) := (t1.kp (by decide) (by decide)).kp (by decide) (by decide)
    have f2 : Fq M (wr (wr M1 61 12 (nI a1)) 61 13 1) := Fq.s (Fq.s f1 (by decide) (by decide)) (by decide) (by decide)
    have d2 : Dm b1 (wr (wr M1 61 12 (nI a1)) 61 13 1) := hb1.s.s
    have b135 : ∀ (M' : MT) (f : Int32) (p : Nat), (∀ k, tkP g T 122 a (fun a => sngP g T k 12 a b) = .inr (f, p)) → FLm f p M' → Fq M M' → X 135 [some (.ref 61)] [] M' := fun M' f p hk hf fm => by
      refine b_X8_takesSong_135 hX ?_
      conv => whnf
      refine b_X8_takesSong_136 hX ?_
      conv => whnf
      exact ⟨Or.inl rfl, h0 M' f p hk hf fm⟩
    refine b_X8_takesSong_98 hX ?_
    conv => whnf
    refine ⟨187, rfl, by decide, ?_⟩
    conv => whnf
    rw [t1.2.2.1, show wr (wr M1 61 12 (nI a1)) 61 13 1 62 187 = nI (nB b1) from (d2 4 (by omega)).trans e4]
    refine ⟨fun q => ?_, fun q => ?_⟩
    · have hz : nB b1 = 0 := by
        rcases Nat.eq_zero_or_pos (nB b1) with z | z
        · exact z
        · exact absurd q (nI_nle z (by omega))
      exact b135 _ 1 a1 (fun k => by rw [hs, sA, if_pos hz]) ⟨wr_at, by rw [wr_ne (by decide), wr_at]⟩ f2
    · have hnz : ¬ nB b1 = 0 := fun z => q (by rw [z]; decide)
      conv => whnf
      refine ⟨by omega, m_takes hC (by omega) t2 ha1 (by decide) (fun N y e l t f => ?_) (fun N e h f => ?_)⟩
      · conv => whnf
        refine ⟨fun q => absurd q (by decide), fun _ => ?_⟩
        conv => whnf
        exact ⟨Or.inr rfl, h1 N (a1 + 1) b1 (fun k => by rw [hs, sA, if_neg hnz, e]) l t (d2.fp f) e5 (f2.tr f.fq)⟩
      · conv => whnf
        exact ⟨fun _ => b135 N 1 a1 (fun k => by rw [hs, sA, if_neg hnz, e]) h (f2.tr f.fq), fun z => absurd rfl z⟩
  have loop : ∀ (n a1 : Nat) (b1 : BV) (M1 : MT), nB b1 + n = 12 → b1 4 = nI (nB b1) → (∀ k, (k = 5 ∨ 21 ≤ k) → b1 k = b k) → a1 ≤ T → TMo g T a1 M1 → Dm b1 M1 → Fq M M1 → (∀ k, tkP g T 122 a (fun a => sngP g T k 12 a b) = sngP g T k n a1 b1) → X 11 [some (.ref 61)] [] M1 := by
    intro n
    induction n with
    | zero =>
      intro a1 b1 M1 hn e4 e5 ha1 t1 hb1 f1 hs
      have hT1 := t1.2.1
      refine b_X8_takesSong_11 hX ?_
      conv => whnf
      rw [t1.2.2.1]
      refine ⟨by omega, m_byteAt hC t1 (by omega) ?_⟩
      conv => whnf
      refine ⟨by omega, m_barOf hC ?_⟩
      conv => whnf
      refine ⟨fun q => b98 0 a1 b1 M1 q (by omega) e4 e5 ha1 t1 hb1 f1 hs, fun q => ?_⟩
      conv => whnf
      refine ⟨187, rfl, by decide, ?_⟩
      conv => whnf
      rw [t1.2.2.1, nI_1, show wr M1 61 11 (nI (a1 + 1)) 62 187 = nI (nB b1) from (hb1.s 4 (by omega)).trans e4]
      refine ⟨fun q2 => absurd (by rw [show nB b1 = 12 by omega]; rfl) q2, fun _ => ?_⟩
      conv => whnf
      refine ⟨by omega, m_isMore hC ?_⟩
      conv => whnf
      rw [wr_at, nI_pre]
      exact ⟨Or.inl rfl, h0 _ 3 a1 (fun k => by rw [hs]; exact if_neg q) ⟨wr_at, by rw [wr_ne (by decide), wr_at]⟩ (Fq.s (Fq.s (Fq.s f1 (by decide) (by decide)) (by decide) (by decide)) (by decide) (by decide))⟩
    | succ n ih =>
      intro a1 b1 M1 hn e4 e5 ha1 t1 hb1 f1 hs
      have hT1 := t1.2.1
      refine b_X8_takesSong_11 hX ?_
      conv => whnf
      rw [t1.2.2.1]
      refine ⟨by omega, m_byteAt hC t1 (by omega) ?_⟩
      conv => whnf
      refine ⟨by omega, m_barOf hC ?_⟩
      conv => whnf
      refine ⟨fun q => b98 (n + 1) a1 b1 M1 q (by omega) e4 e5 ha1 t1 hb1 f1 hs, fun q => ?_⟩
      have hlt : a1 < T := byt_lt (fun z => q (by rw [z]; decide))
      conv => whnf
      refine ⟨187, rfl, by decide, ?_⟩
      conv => whnf
      have t2 : TMo g T (a1 + 1) (wr M1 61 11 (nI (a1 + 1))) := t1.at
      have d2 : Dm b1 (wr M1 61 11 (nI (a1 + 1))) := hb1.s
      have f2 : Fq M (wr M1 61 11 (nI (a1 + 1))) := Fq.s f1 (by decide) (by decide)
      rw [t1.2.2.1, nI_1]
      have el : wr M1 61 11 (nI (a1 + 1)) 62 187 = nI (nB b1) := (d2 4 (by omega)).trans e4
      rw [el]
      refine ⟨fun q2 => ?_, fun q2 => absurd ((eq_nI (b := 12) (by omega) (by omega)).mp q2) (by omega)⟩
      revert t2 d2 f2 el
      generalize wr M1 61 11 (nI (a1 + 1)) = M2
      intro t2 d2 f2 el
      refine b_X8_takesSong_53 hX ?_
      conv => whnf
      refine ⟨187, rfl, by decide, ?_⟩
      conv => whnf
      rw [t2.2.2.1, nI_pre]
      refine ⟨by omega, m_byteAt hC t2 (by omega) ?_⟩
      conv => whnf
      refine ⟨by omega, m_barOf hC ?_⟩
      conv => whnf
      rw [el]
      refine ⟨183 + (9 + nB b1), by rw [show (192 : Int32) = nI 192 from rfl, nI_add, show 192 + nB b1 = 183 + (9 + nB b1) by omega], by omega, ?_⟩
      conv => whnf
      refine ⟨187, rfl, by decide, ?_⟩
      conv => whnf
      refine ⟨187, rfl, by decide, ?_⟩
      conv => whnf
      rw [wr_ne (by omega), el, nI_1]
      have hbn : nB (setB (setB b1 (9 + nB b1) (barO (byt g T a1))) 4 (nI (nB b1 + 1))) = nB b1 + 1 := by
        show (setB _ 4 _ 4).toNatClampNeg = _
        rw [setB_at]; exact nI_clamp (by omega)
      exact ih (a1 + 1) (setB (setB b1 (9 + nB b1) (barO (byt g T a1))) 4 (nI (nB b1 + 1))) _ (by omega) (by rw [hbn, setB_at]) (fun k hk => by rw [setB_ne (by omega), setB_ne (by omega)]; exact e5 k hk) (by omega) t2.d.d (Dm.put (k := 4) d2.put) (Fq.d (k := 4) (Fq.d f2 (by omega)) (by omega)) (fun k => by rw [hs]; exact if_neg q)
  have hz : nB b = 0 := by unfold nB; rw [h4]; rfl
  refine b_X8_takesSong_0 hX ?_
  conv => whnf
  refine ⟨by omega, m_takes hC (by omega) hT ha (by decide) (fun N y e l t f => ?_) (fun N e h f => ?_)⟩
  · conv => whnf
    refine ⟨fun _ => ?_, fun z => absurd z (by decide)⟩
    exact loop 12 (a + 1) b N (by omega) (by rw [hz, h4]; rfl) (fun _ _ => rfl) l t (hb.fp f) f.fq (fun k => e _)
  · conv => whnf
    refine ⟨fun z => absurd rfl z, fun _ => ?_⟩
    conv => whnf
    exact ⟨Or.inl rfl, h0 N _ _ (fun k => e _) h f.fq⟩
