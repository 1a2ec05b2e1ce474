theorem m_takesNumber {C : CC} (hC : Clo C) {d : Nat} (hd : 2 ≤ d) {M : MT} {K : KT} {g : Nat → Int32} {T a : Nat} {lo hi : Int32} (hT : TMo g T a M) (ha : a ≤ T) (h1 : ∀ M' a' v, (∀ k, nmP g T lo hi a k = k a' v) → a' ≤ T → lo ≤ v → v ≤ hi → TMo g T a' M' → M' 61 14 = v → FLm 2 a M' → Fp M M' → K (some (.int 1)) M') (h0 : ∀ M' f, (∀ k, nmP g T lo hi a k = .inr (f, a)) → FLm f a M' → Fp M M' → K (some (.int 0)) M') : C d 137 [.ref 61, .int lo, .int hi] M K := by
  have hT1 := hT.2.1
  refine g_X8_takesNumber hC (fun X hX => ?_)
  have b76 : ∀ (w : Nat) (M' : MT), a + w ≤ T → (∀ i, i < w → fig (byt g T (a + i))) → ¬ fig (byt g T (a + w)) → M' 61 14 = numv g T a (min w 2) → M' 61 12 = nI a → M' 61 13 = 1 → TMo g T a M' → Fp M M' → X 76 [some (.ref 61), some (.int lo), some (.int hi), some (.int (nI w))] [] M' := by
    intro w M' hl hf hn ev es ef t f
    have b85 : ¬ (numw g T a = 1 ∨ numw g T a = 2) → X 85 [some (.ref 61), some (.int lo), some (.int hi), some (.int (nI w))] [] M' := fun z => by
      refine b_X8_takesNumber_85 hX ?_
      conv => whnf
      exact ⟨Or.inl rfl, h0 M' 1 (fun k => by unfold nmP; rw [pit_neg z]) ⟨ef, es⟩ f⟩
    refine b_X8_takesNumber_76 hX ?_
    conv => whnf
    refine ⟨fun q => ?_, fun q => ?_⟩
    · have w0 : w = 0 := by
        rcases Nat.eq_zero_or_pos w with z | z
        · exact z
        · exact absurd q (nI_ne0 z (by omega))
      have := numw_ok hf (by omega) (Or.inr hn)
      exact b85 (by omega)
    · have w0 : ¬ w = 0 := fun z => q (by rw [z]; rfl)
      conv => whnf
      refine ⟨fun q2 => ?_, fun q2 => ?_⟩
      · have w2 : w ≤ 2 := (le_nI (b := 2) (by omega) (by omega)).mp q2
        have nw := numw_ok hf (by omega) (Or.inr hn)
        rw [show min w 2 = w by omega] at ev
        refine b_X8_takesNumber_87 hX ?_
        conv => whnf
        rw [t.2.2.1, nI_add, wr_ne (by decide), wr_ne (by decide), ev]
        have f2 : Fp M (wr (wr M' 61 11 (nI (a + w))) 61 13 2) := Fp.sw (Fp.sw f (by decide) (by decide)) (by decide) (by decide)
        have fl : FLm 2 a (wr (wr M' 61 11 (nI (a + w))) 61 13 2) := ⟨wr_at, by rw [wr_ne (by decide), wr_ne (by decide)]; exact es⟩
        refine ⟨by omega, m_in hC (fun p1 p2 => ?_) (fun q => ?_)⟩
        · conv => whnf
          refine ⟨Or.inr rfl, h1 _ (a + w) (numv g T a w) (fun k => by unfold nmP; rw [nw, pit_pos (by omega), pit_pos ⟨p1, p2⟩]) hl p1 p2 (t.at.kp (by decide) (by decide)) ?_ fl f2⟩
          rw [wr_ne (by decide), wr_ne (by decide)]; exact ev
        · conv => whnf
          exact ⟨Or.inl rfl, h0 _ 2 (fun k => by unfold nmP; rw [nw, pit_pos (by omega), pit_neg q]) fl f2⟩
      · have w2 : ¬ w ≤ 2 := fun z => q2 ((le_nI (b := 2) (by omega) (by omega)).mpr z)
        have nw := numw_ok (w := 3) (fun i hi => hf i (by omega)) (by omega) (Or.inl rfl)
        exact b85 (by omega)
  have loop : ∀ (m w : Nat) (M' : MT), a + w + m = T → (∀ i, i < w → fig (byt g T (a + i))) → M' 61 14 = numv g T a (min w 2) → M' 61 12 = nI a → M' 61 13 = 1 → TMo g T a M' → Fp M M' → X 20 [some (.ref 61), some (.int lo), some (.int hi), some (.int (nI w))] [] M' := by
    intro m
    induction m with
    | zero =>
      intro w M' hm hf ev es ef t f
      have hn : ¬ fig (byt g T (a + w)) := fun z => by have := fig_lt z; omega
      refine b_X8_takesNumber_20 hX ?_
      conv => whnf
      rw [t.2.2.1, nI_add]
      refine ⟨by omega, m_isFigure hC (by omega) t (by omega) (fun z => absurd z hn) (fun z => ?_)⟩
      conv => whnf
      exact ⟨fun _ => b76 w M' (by omega) hf hn ev es ef t f, fun z => absurd rfl z⟩
    | succ m ih =>
      intro w M' hm hf ev es ef t f
      refine b_X8_takesNumber_20 hX ?_
      conv => whnf
      rw [t.2.2.1, nI_add]
      refine ⟨by omega, m_isFigure hC (by omega) t (by omega) (fun z => ?_) (fun z => ?_)⟩
      rotate_left
      · conv => whnf
        exact ⟨fun _ => b76 w M' (by omega) hf z ev es ef t f, fun z => absurd rfl z⟩
      have hf2 : ∀ i, i < w + 1 → fig (byt g T (a + i)) := fun i hi => by
        by_cases z2 : i = w
        · subst z2; exact z
        · exact hf i (by omega)
      have nx : ∀ v, v = numv g T a (min (w + 1) 2) → X 20 [some (.ref 61), some (.int lo), some (.int hi), some (.int (nI (w + 1)))] [] (wr M' 61 14 v) := fun v hv => ih (w + 1) _ (by omega) hf2 (by rw [wr_at]; exact hv) (by rw [wr_ne (by decide)]; exact es) (by rw [wr_ne (by decide)]; exact ef) (t.kp (by decide) (by decide)) (Fp.sw f (by decide) (by decide))
      conv => whnf
      refine ⟨fun q => absurd q (by decide), fun _ => ?_⟩
      conv => whnf
      refine ⟨fun q => ?_, fun q => ?_⟩
      · have w2 : 2 ≤ w := (le_nI (a := 2) (by omega) (by omega)).mp q
        refine b_X8_takesNumber_63 hX ?_
        conv => whnf
        refine b_X8_takesNumber_67 hX ?_
        conv => whnf
        rw [nI_1]
        exact nx _ (by rw [ev, show min w 2 = 2 by omega, show min (w + 1) 2 = 2 by omega])
      · have w2 : w < 2 := by
          rcases Nat.lt_or_ge w 2 with z | z
          · exact z
          · exact absurd ((le_nI (a := 2) (by omega) (by omega)).mpr z) q
        conv => whnf
        rw [t.2.2.1, nI_add]
        refine ⟨by omega, m_byteAt hC t (by omega) ?_⟩
        conv => whnf
        rw [nI_1, ev]
        exact nx _ (by rw [show min w 2 = w by omega, show min (w + 1) 2 = w + 1 by omega]; rfl)
  refine b_X8_takesNumber_0 hX ?_
  conv => whnf
  rw [hT.2.2.1]
  exact loop (T - a) 0 _ (by omega) (fun i hi => absurd hi (by omega)) (by rw [wr_at]; rfl) (by rw [wr_ne (by decide), wr_ne (by decide), wr_at]) (by rw [wr_ne (by decide), wr_at]) (((hT.kp (by decide) (by decide)).kp (by decide) (by decide)).kp (by decide) (by decide)) (Fp.sw (Fp.sw (Fp.sw Fp.rf (by decide) (by decide)) (by decide) (by decide)) (by decide) (by decide))
theorem m_barOf {C : CC} (hC : Clo C) {d : Nat} {M : MT} {K : KT} {v : Int32} (hK : K (some (.int (barO v))) M) : C d 140 [.int v] M K := by
  unfold barO at hK
  refine g_X8_barOf hC (fun X hX => ?_)
  refine b_X8_barOf_0 hX ?_
  conv => whnf
  refine ⟨fun q => ?_, fun q => ?_⟩
  rotate_left
  · rw [if_pos q] at hK
    conv => whnf
    exact hK
  rw [if_neg q] at hK
  refine b_X8_barOf_10 hX ?_
  conv => whnf
  refine ⟨fun q => ?_, fun q => ?_⟩
  rotate_left
  · rw [if_pos q] at hK
    conv => whnf
    exact hK
  rw [if_neg q] at hK
  refine b_X8_barOf_20 hX ?_
  conv => whnf
  refine ⟨fun q => ?_, fun q => ?_⟩
  rotate_left
  · rw [if_pos q] at hK
    conv => whnf
    exact hK
  rw [if_neg q] at hK
  refine b_X8_barOf_30 hX ?_
  conv => whnf
  refine ⟨fun q => ?_, fun q => ?_⟩
  rotate_left
  · rw [if_pos q] at hK
    conv => whnf
    exact hK
  rw [if_neg q] at hK
  refine b_X8_barOf_40 hX ?_
  conv => whnf
  refine ⟨fun q => ?_, fun q => ?_⟩
  rotate_left
  · rw [if_pos q] at hK
    conv => whnf
    exact hK
  rw [if_neg q] at hK
  refine b_X8_barOf_50 hX ?_
  conv => whnf
  refine b_X8_barOf_51 hX ?_
  conv => whnf
  exact hK
theorem m_sortOf {C : CC} (hC : Clo C) {d : Nat} {M : MT} {K : KT} {v : Int32} (hK : K (some (.int (kindO v))) M) : C d 142 [.int v] M K := by
  unfold kindO at hK
  refine g_X8_sortOf hC (fun X hX => ?_)
  refine b_X8_sortOf_0 hX ?_
  conv => whnf
  refine ⟨fun q => ?_, fun q => ?_⟩
  rotate_left
  · rw [if_pos q] at hK
    conv => whnf
    exact hK
  rw [if_neg q] at hK
  refine b_X8_sortOf_10 hX ?_
  conv => whnf
  refine ⟨fun q => ?_, fun q => ?_⟩
  rotate_left
  · rw [if_pos q] at hK
    conv => whnf
    exact hK
  rw [if_neg q] at hK
  refine b_X8_sortOf_20 hX ?_
  conv => whnf
  refine ⟨fun q => ?_, fun q => ?_⟩
  rotate_left
  · rw [if_pos q] at hK
    conv => whnf
    exact hK
  rw [if_neg q] at hK
  refine b_X8_sortOf_30 hX ?_
  conv => whnf
  refine ⟨fun q => ?_, fun q => ?_⟩
  rotate_left
  · rw [if_pos q] at hK
    conv => whnf
    exact hK
  rw [if_neg q] at hK
  refine b_X8_sortOf_40 hX ?_
  conv => whnf
  refine ⟨fun q => ?_, fun q => ?_⟩
  rotate_left
  · rw [if_pos q] at hK
    conv => whnf
    exact hK
  rw [if_neg q] at hK
  refine b_X8_sortOf_50 hX ?_
  conv => whnf
  refine b_X8_sortOf_51 hX ?_
  conv => whnf
  exact hK
