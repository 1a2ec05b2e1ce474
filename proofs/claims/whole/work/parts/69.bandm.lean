theorem AM.rd {σ M M1 : MT} (h : AM σ M) (f : Fe M M1) : AM (sr (wr σ 3 2 0) 4 (σ 4)) (wr M1 61 9 0) := by
  obtain ⟨⟨a1, a2⟩, ⟨a3, a3'⟩, ⟨-, a5⟩, ⟨h6, h7⟩, h8, ⟨h9, h10⟩, h11, h12⟩ := h
  refine ⟨⟨fun i hi => ?_, fun i hi => ?_⟩, ⟨?_, ?_⟩, ⟨?_, fun i hi => ?_⟩, ⟨?_, fun i k hi hk => ?_⟩, fun k hk => ?_, ⟨?_, fun i hi => ?_⟩, ?_, ?_⟩
  · rw [wr_off (q := 64) (by decide), wr_off (q := 65) (by decide), f.1 64 (by decide) (by decide), f.1 65 (by decide) (by decide), sr_ne (by omega), sr_ne (by omega), wr_off (p := 3) (by omega), wr_off (p := 3) (by omega)]; exact a1 i hi
  · rw [wr_off (q := 66) (by decide), f.1 66 (by decide) (by decide), sr_ne (by omega), wr_off (p := 3) (by omega)]; exact a2 i hi
  · rw [wr_ne (by decide), f.2.1 7 (by omega), sr_ne (by omega), wr_ne (by omega)]; exact a3
  · rw [wr_ne (by decide), f.2.1 10 (by omega), sr_ne (by omega), wr_ne (by omega)]; exact a3'
  · rw [wr_at, sr_ne (by omega), wr_at]
  · rw [wr_off (q := 68) (by decide), f.1 68 (by decide) (by decide), sr_at]; exact a5 i hi
  · rw [wr_ne (by decide), f.2.1 1 (by omega), sr_ne (by omega), wr_ne (by omega)]; exact h6
  · rw [nA_tape] at hi
    rw [wr_off (q := 62) (by decide), f.2.2 _ (by omega), sr_ne (by omega), wr_off (p := 3) (by omega)]; exact h7 i k hi hk
  · rw [wr_off (q := 62) (by decide), f.2.2 _ (by omega), f.2.2 _ (by omega), f.2.2 _ (by omega), sr_ne (by omega), sr_ne (by omega), sr_ne (by omega), wr_off (p := 3) (by omega), wr_off (p := 3) (by omega), wr_off (p := 3) (by omega)]; exact h8 k hk
  · rw [wr_ne (by decide), f.2.1 25 (by omega), sr_ne (by omega), wr_ne (by omega)]; exact h9
  · rw [wr_off (q := 75) (by decide), f.1 75 (by decide) (by decide), sr_ne (by omega), wr_off (p := 3) (by omega)]; exact h10 i hi
  · rw [wr_off (q := 63) (by decide), f.1 63 (by decide) (by decide), sr_ne (by omega), wr_ne (by omega)]; exact h11
  · rw [wr_off (q := 63) (by decide), f.1 63 (by decide) (by decide), sr_ne (by omega), wr_ne (by omega)]; exact h12
theorem AM.res {σ M M' : MT} {b : BV} (h : AM σ M) (g1 : ∀ q, q ≠ 62 → M' q = M q) (g2 : ∀ i, M' 62 i = if i < 61 then b i else M 62 i) : AM (sr (wr σ 3 3 0) 5 b) (wr M' 61 1 0) := by
  obtain ⟨⟨h1, h2⟩, ⟨h3, h3'⟩, ⟨h4, h5⟩, ⟨h6, h7⟩, h8, ⟨h9, h10⟩, h11, h12⟩ := h
  refine ⟨⟨fun i hi => ?_, fun i hi => ?_⟩, ⟨?_, ?_⟩, ⟨?_, fun i hi => ?_⟩, ⟨?_, fun i k hi hk => ?_⟩, fun k hk => ?_, ⟨?_, fun i hi => ?_⟩, ?_, ?_⟩
  · rw [wr_off (by decide), wr_off (by decide), g1 64 (by decide), g1 65 (by decide), sr_ne (by omega), sr_ne (by omega), wr_off (p := 3) (by omega), wr_off (p := 3) (by omega)]; exact h1 i hi
  · rw [wr_off (by decide), g1 66 (by decide), sr_ne (by omega), wr_off (p := 3) (by omega)]; exact h2 i hi
  · rw [wr_ne (by decide), g1 61 (by decide), sr_ne (by omega), wr_ne (by omega)]; exact h3
  · rw [wr_ne (by decide), g1 61 (by decide), sr_ne (by omega), wr_ne (by omega)]; exact h3'
  · rw [wr_ne (by decide), g1 61 (by decide), sr_ne (by omega), wr_ne (by omega)]; exact h4
  · rw [wr_off (by decide), g1 68 (by decide), sr_ne (by omega), wr_off (p := 3) (by omega)]; exact h5 i hi
  · rw [wr_at, sr_ne (by omega), wr_at]
  · rw [nA_res] at hi; omega
  · rw [wr_off (by decide), g2, g2, g2, if_pos hk, if_neg (by omega), if_neg (by omega), sr_at, sr_ne (by omega), sr_ne (by omega), wr_off (p := 3) (by omega), wr_off (p := 3) (by omega)]
    exact ⟨rfl, (h8 k hk).2⟩
  · rw [wr_ne (by decide), g1 61 (by decide), sr_ne (by omega), wr_ne (by omega)]; exact h9
  · rw [wr_off (by decide), g1 75 (by decide), sr_ne (by omega), wr_off (p := 3) (by omega)]; exact h10 i hi
  · rw [wr_off (by decide), g1 63 (by decide), sr_ne (by omega), wr_ne (by omega)]; exact h11
  · rw [wr_off (by decide), g1 63 (by decide), sr_ne (by omega), wr_ne (by omega)]; exact h12
