theorem AM.rd {σ M M1 : MT} (h : AM σ M) (f : Fe M M1) : AM (sr (wr σ 3 2 0) 4 (σ 4)) (wr M1 61 9 0) := by
  obtain ⟨⟨a1, a2⟩, ⟨a3, a3'⟩, ⟨-, a5⟩, ⟨h6, h7⟩, h8, ⟨h9, h10⟩, h11, h12⟩ := h
  refine ⟨⟨fun i hi => ?_, fun i hi => ?_⟩, ⟨?_, ?_⟩, ⟨?_, fun i hi => ?_⟩, ⟨?_, fun i k hi hk => ?_⟩, fun k hk => ?_, ⟨?_, fun i hi => ?_⟩, ?_, ?_⟩
  · rw [wr_off (q := 64) (by decide), wr_off (q := 65) (by decide), f.1 64 (by decide) (by decide), f.1 65 (by decide) (by decide), sr_ne (by omega), sr_ne (by omega), wr_off (p := 3) (by omega), wr_off (p := 3) (by omega)]; exact a1 i hi
  · rw [wr_off (q := 66) (by decide), f.1 66 (by decide) (by decide), sr_ne (by omega), wr_off (p := 3) (by omega)]; exact a2 i hi
  · rw [wr_ne (by decide), f.2.1 7 (by omega), sr_ne (by omega), wr_ne (by omega)]; exact a3
  · rw [wr_ne (by decide), f.2.1 10 (by omega), sr_ne (by omega), wr_ne (by omega)]; exact a3'
  · rw [wr_at, sr_ne (by omega), wr_at]
  · rw [wr_off (q := 68) (by decide), f.1 68 (by decide) (by decide), sr_at]; exact a5 i hi
  · rw [wr_ne (by decide), f.2.1 1 (by omega), sr_ne (by omega), wr_ne (by omega)]; exact h6
  · rw [nA_tape] at hi
    rw [wr_off (q := 62) (by decide), f.2.2 _ (by omega), sr_ne (by omega), wr_off (p := 3) (by omega)]; exact h7 i k hi hk
  · rw [wr_off (q := 62) (by decide), f.2.2 _ (by omega), f.2.2 _ (by omega), f.2.2 _ (by omega), sr_ne (by omega), sr_ne (by omega), sr_ne (by omega), wr_off (p := 3) (by omega), wr_off (p := 3) (by omega), wr_off (p := 3) (by omega)]; exact h8 k hk
  · rw [wr_ne (by decide), f.2.1 25 (by omega), sr_ne (by omega), wr_ne (by omega)]; exact h9
  · rw [wr_off (q := 75) (by decide), f.1 75 (by decide) (by decide), sr_ne (by omega), wr_off (p := 3) (by omega)]; exact h10 i hi
  · rw [wr_off (q := 63) (by decide), f.1 63 (by decide) (by decide), sr_ne (by omega), wr_ne (by omega)]; exact h11
  · rw [wr_off (q := 63) (by decide), f.1 63 (by decide) (by decide), sr_ne (by omega), wr_ne (by omega)]; exact h12
theorem AM.res {σ M M' : MT} {b : BV} (h : AM σ M) (g1 : ∀ q, q ≠ 62 → M' q = M q) (g2 : ∀ i, M' 62 i = if i < 61 then b i else M 62 i) : AM (sr (wr σ 3 3 0) 5 b) (wr M' 61 1 0) := by
  obtain ⟨⟨h1, h2⟩, ⟨h3, h3'⟩, ⟨h4, h5⟩, ⟨h6, h7⟩, h8, ⟨h9, h10⟩, h11, h12⟩ := h
  refine ⟨⟨fun i hi => ?_, fun i hi => ?_⟩, ⟨?_, ?_⟩, ⟨?_, fun i hi => ?_⟩, ⟨?_, fun i k hi hk => ?_⟩, fun k hk => ?_, ⟨?_, fun i hi => ?_⟩, ?_, ?_⟩
  · rw [wr_off (by decide), wr_off (by decide), g1 64 (by decide), g1 65 (by decide), sr_ne (by omega), sr_ne (by omega), wr_off (p := 3) (by omega), wr_off (p := 3) (by omega)]; exact h1 i hi
  · rw [wr_off (by decide), g1 66 (by decide), sr_ne (by omega), wr_off (p := 3) (by omega)]; exact h2 i hi
  · rw [wr_ne (by decide), g1 61 (by decide), sr_ne (by omega), wr_ne (by omega)]; exact h3
  · rw [wr_ne (by decide), g1 61 (by decide), sr_ne (by omega), wr_ne (by omega)]; exact h3'
  · rw [wr_ne (by decide), g1 61 (by decide), sr_ne (by omega), wr_ne (by omega)]; exact h4
  · rw [wr_off (by decide), g1 68 (by decide), sr_ne (by omega), wr_off (p := 3) (by omega)]; exact h5 i hi
  · rw [wr_at, sr_ne (by omega), wr_at]
  · rw [nA_res] at hi; omega
  · rw [wr_off (by decide), g2, g2, g2, if_pos hk, if_neg (by omega), if_neg (by omega), sr_at, sr_ne (by omega), sr_ne (by omega), wr_off (p := 3) (by omega), wr_off (p := 3) (by omega)]
    exact ⟨rfl, (h8 k hk).2⟩
  · rw [wr_ne (by decide), g1 61 (by decide), sr_ne (by omega), wr_ne (by omega)]; exact h9
  · rw [wr_off (by decide), g1 75 (by decide), sr_ne (by omega), wr_off (p := 3) (by omega)]; exact h10 i hi
  · rw [wr_off (by decide), g1 63 (by decide), sr_ne (by omega), wr_ne (by omega)]; exact h11
  · rw [wr_off (by decide), g1 63 (by decide), sr_ne (by omega), wr_ne (by omega)]; exact h12
theorem mo_band {C : CC} (hC : Clo C) {d : Nat} (hd : 8 ≤ d) {σ M : MT} {K : KT} (hA : AM σ M) (hW : WF σ) (hg : ∀ i, ¬ σ 4 i = -1) (hK : ∀ M1, AM (bandR σ).2 M1 → Fm M M1 61 75 → K (some (.int (bandR σ).1)) M1) : C d 146 [.ref 61] M K := by
  obtain ⟨t, ht, et⟩ := hW.2.1
  unfold bandR at hK
  rw [et, tN_nI (by omega)] at hK
  refine g_X8_band hC (fun X hX => ?_)
  refine b_X8_band_0 hX ?_
  conv => whnf
  refine ⟨by omega, m_isBand (g := σ 4) (T := t) hC (by omega) ⟨hA.2.2.1.1.trans et, ht, hA.2.2.1.2⟩ hg (fun M1 b e db f => ?_) (fun M1 v p e h f => ?_)⟩
  · rw [e] at hK
    have hA1 := hA.rd f
    have f1 : Fm M (wr M1 61 9 0) 61 75 := fun q hq => by rw [wr_off (by omega)]; exact f.1 q (by omega) (by omega)
    have db1 : ∀ k, k < 61 → wr M1 61 9 0 62 (183 + k) = b k := fun k hk => by rw [wr_off (by decide)]; exact db k hk
    conv => whnf
    refine ⟨fun _ => ?_, fun z => absurd z (by decide)⟩
    revert hA1 f1 db1
    generalize wr M1 61 9 0 = M2
    intro hA1 f1 db1
    have loop : ∀ (m k : Nat) (M3 : MT), k + m = 61 → (∀ q, q ≠ 62 → M3 q = M2 q) → (∀ i, M3 62 i = if i < k then b i else M2 62 i) → X 32 [some (.ref 61), some (.int 1), some (.int (nI k))] [] M3 := by
      intro m
      induction m with
      | zero =>
        intro k M3 hk g1 g2
        have hk : k = 61 := by omega
        subst hk
        refine b_X8_band_32 hX ?_
        conv => whnf
        refine ⟨fun q => ?_, fun q => absurd (by decide) q⟩
        refine b_X8_band_60 hX ?_
        conv => whnf
        refine ⟨8, rfl, by decide, ?_⟩
        conv => whnf
        refine ⟨5, rfl, by decide, ?_⟩
        conv => whnf
        rw [wr_off (by decide), wr_ne (by decide), g2 5, if_pos (by decide)]
        refine hK _ (hA1.res (fun q z => by rw [wr_off z]; exact g1 q z) (fun i => ?_)) (fun q hq => by rw [wr_off (by omega), wr_off (by omega), g1 q (by omega)]; exact f1 q hq)
        by_cases z : i = 8
        · subst z; rw [wr_at, if_pos (by decide), setB_at]
        · rw [wr_ne z, g2 i, setB_ne z]
      | succ m ih =>
        intro k M3 hk g1 g2
        refine b_X8_band_32 hX ?_
        conv => whnf
        refine ⟨fun q => absurd ((le_nI (a := 61) (by omega) (by omega)).mp q) (by omega), fun q => ?_⟩
        conv => whnf
        refine ⟨183 + k, (by simp only [lit_nI, nI_add, nI_mul]), by omega, ?_⟩
        conv => whnf
        refine ⟨k, rfl, by omega, ?_⟩
        conv => whnf
        rw [nI_1, g2, if_neg (by omega), db1 k (by omega)]
        refine ih (k + 1) _ (by omega) (fun q z => by rw [wr_off z]; exact g1 q z) (fun i => ?_)
        by_cases z : i = k
        · subst z; rw [wr_at, if_pos (by omega)]
        · rw [wr_ne z, g2 i]
          by_cases z2 : i < k
          · rw [if_pos z2, if_pos (by omega)]
          · rw [if_neg z2, if_neg (by omega)]
    refine b_X8_band_30 hX ?_
    conv => whnf
    exact loop 61 0 M2 (by omega) (fun _ _ => rfl) (fun i => by rw [if_neg (by omega)])
  · rw [e] at hK
    have hA1 := hA.rd f
    have f1 : Fm M (wr M1 61 9 0) 61 75 := fun q hq => by rw [wr_off (by omega)]; exact f.1 q (by omega) (by omega)
    conv => whnf
    refine ⟨fun z => absurd rfl z, fun _ => ?_⟩
    conv => whnf
    rw [wr_ne (by decide), wr_ne (by decide), wr_ne (by decide), h.1, h.2]
    exact hK _ hA1.lf (Fm.wr f1 (by decide) (by decide))
