theorem AC.draft {σ M M' : MT} (h : AC σ M) (f : Fm M M' 15 21) : AC σ M' := by
  obtain ⟨⟨h1, h2⟩, h3, ⟨h4, h5⟩, h6, ⟨h7, h8, h9⟩, h10, h11⟩ := h
  refine ⟨⟨fun i hi => ?_, fun i hi => ?_⟩, ?_, ⟨?_, fun i hi => ?_⟩, h6.fr (f 23 (by decide)) (f 22 (by decide)), ⟨h7.fr f (by decide), h8.fr f (by decide), h9.fr f (by decide)⟩, ?_, fun i hi => ?_⟩
  · rw [f 2 (by decide), f 3 (by decide)]; exact h1 i hi
  · rw [f 4 (by decide)]; exact h2 i hi
  · rw [f 0 (by decide)]; exact h3
  · rw [f 6 (by decide)]; exact h4
  · rw [f 7 (by decide)]; exact h5 i hi
  · rw [f 44 (by decide)]; exact h10
  · rw [f 45 (by decide)]; exact h11 i hi
theorem AC.rd {σ M M1 : MT} (h : AC σ M) (f : Fdr M M1) : AC (sr (wr σ 3 2 0) 4 (σ 4)) (wr M1 6 1 0) := by
  have hA := h.tape (M' := fun q => if q = 6 then wr M1 6 1 0 6 else M q) (v := 0) (g := σ 4) (fun q hq => if_neg (by omega)) (by show (if 6 = 6 then wr M1 6 1 0 6 else M 6) 1 = 0; rw [if_pos rfl, wr_at]) (fun i hi => by show (if 7 = 6 then wr M1 6 1 0 6 else M 7) i = _; rw [if_neg (by decide)]; exact h.2.2.1.2 i hi)
  refine hA.draft (fun q hq => ?_)
  by_cases z : q = 6
  · subst z; rfl
  · show wr M1 6 1 0 q = if q = 6 then _ else M q
    rw [if_neg z, wr_off z]; exact f q z (by omega)
theorem nA_lf {σ : MT} {v : Int32} : nA (wr σ 3 1 v) = nA σ := by unfold nA; rw [wr_ne (by decide)]
theorem AC.lf {σ M : MT} {v : Int32} (h : AC σ M) : AC (wr σ 3 1 v) (wr M 0 9 v) := by
  obtain ⟨⟨h1, h2⟩, ⟨h3, h3'⟩, ⟨h4, h5⟩, ⟨h6, o, h6a, h6b, h6c⟩, ⟨h7, h8, h9⟩, h10, h11⟩ := h
  have f : Fm M (wr M 0 9 v) 0 0 := Fm.wr Fm.rf (by decide) (by decide)
  refine ⟨⟨fun i hi => ?_, fun i hi => ?_⟩, ⟨?_, ?_⟩, ⟨?_, fun i hi => ?_⟩, ⟨?_, o, h6a, ?_, fun i hi => ?_⟩, ⟨?_, ?_, ?_⟩, ?_, fun i hi => ?_⟩
  · rw [f 2 (by decide), f 3 (by decide), wr_off (p := 3) (by decide), wr_off (p := 3) (by decide)]; exact h1 i hi
  · rw [f 4 (by decide), wr_off (p := 3) (by decide)]; exact h2 i hi
  · rw [wr_ne (by decide), wr_ne (by decide)]; exact h3
  · rw [wr_at, wr_at]
  · rw [f 6 (by decide), wr_ne (by decide)]; exact h4
  · rw [f 7 (by decide), wr_off (p := 3) (by decide)]; exact h5 i hi
  · rw [f 22 (by decide), wr_ne (by decide)]; exact h6
  · rw [f 22 (by decide)]; exact h6b
  · rw [nA_lf] at hi
    rw [wr_off (p := 3) (by omega)]
    exact (h6c i hi).fr (f 23 (by decide))
  · rw [wr_off (p := 3) (by decide)]; exact h7.fr f (by decide)
  · rw [wr_off (p := 3) (by decide)]; exact h8.fr f (by decide)
  · rw [wr_off (p := 3) (by decide)]; exact h9.fr f (by decide)
  · rw [f 44 (by decide), wr_ne (by decide)]; exact h10
  · rw [f 45 (by decide), wr_off (p := 3) (by decide)]; exact h11 i hi
theorem AM.lf {σ M : MT} {v : Int32} (h : AM σ M) : AM (wr σ 3 1 v) (wr M 61 10 v) := by
  obtain ⟨⟨h1, h2⟩, ⟨h3, h3'⟩, ⟨h4, h5⟩, ⟨h6, h7⟩, h8, ⟨h9, h10⟩, h11, h12⟩ := h
  have f : Fm M (wr M 61 10 v) 61 61 := Fm.wr Fm.rf (by decide) (by decide)
  refine ⟨⟨fun i hi => ?_, fun i hi => ?_⟩, ⟨?_, ?_⟩, ⟨?_, fun i hi => ?_⟩, ⟨?_, fun i k hi hk => ?_⟩, fun k hk => ?_, ⟨?_, fun i hi => ?_⟩, ?_, ?_⟩
  · rw [f 64 (by decide), f 65 (by decide), wr_off (p := 3) (by decide), wr_off (p := 3) (by decide)]; exact h1 i hi
  · rw [f 66 (by decide), wr_off (p := 3) (by decide)]; exact h2 i hi
  · rw [wr_ne (by decide), wr_ne (by decide)]; exact h3
  · rw [wr_at, wr_at]
  · rw [wr_ne (by decide), wr_ne (by decide)]; exact h4
  · rw [f 68 (by decide), wr_off (p := 3) (by decide)]; exact h5 i hi
  · rw [wr_ne (by decide), wr_ne (by decide)]; exact h6
  · rw [nA_lf] at hi
    rw [f 62 (by decide), wr_off (p := 3) (by omega)]; exact h7 i k hi hk
  · rw [f 62 (by decide), wr_off (p := 3) (by decide), wr_off (p := 3) (by decide), wr_off (p := 3) (by decide)]; exact h8 k hk
  · rw [wr_ne (by decide), wr_ne (by decide)]; exact h9
  · rw [f 75 (by decide), wr_off (p := 3) (by decide)]; exact h10 i hi
  · rw [f 63 (by decide), wr_ne (by decide)]; exact h11
  · rw [f 63 (by decide), wr_ne (by decide)]; exact h12
theorem WF.lf {σ : MT} {v : Int32} (h : WF σ) : WF (wr σ 3 1 v) := by
  obtain ⟨h1, h2, ⟨h3, h3'⟩, h4, h5, h6, h7⟩ := h
  refine ⟨fun i hi => ?_, ?_, ?_, ?_, ?_, fun k hk => ?_, fun i hi => ?_⟩
  · rw [wr_off (p := 3) (by decide), wr_off (p := 3) (by decide)]; exact h1 i hi
  · rw [wr_ne (by decide)]; exact h2
  · rw [nA_lf, wr_ne (by decide)]; exact ⟨h3, h3'⟩
  · rw [wr_ne (by decide)]; exact h4
  · rw [nA_lf, wr_off (p := 3) (by decide)]; exact h5
  · rw [wr_ne (by omega), wr_off (p := 3) (by omega)]; exact h6 k hk
  · rw [nA_lf] at hi
    rw [wr_off (p := 3) (by omega), wr_off (p := 3) (by decide)]; exact h7 i hi
theorem Bd.eight {r : Nat} {b : BV} {M : MT} {v : Int32} (hb : Bd r b M) : Bd r (setB b 8 v) M := by
  obtain ⟨⟨a0, a1, a2, a3, a4, a5, a6, a7⟩, b1, b2, b3⟩ := hb
  refine ⟨⟨?_, ?_, ?_, ?_, ?_, ?_, ?_, ?_⟩, fun i hi => ?_, fun i hi => ?_, fun i hi => ?_⟩
  · rw [setB_ne (by omega)]; exact a0
  · rw [setB_ne (by omega)]; exact a1
  · rw [setB_ne (by omega)]; exact a2
  · rw [setB_ne (by omega)]; exact a3
  · rw [setB_ne (by omega)]; exact a4
  · rw [setB_ne (by omega)]; exact a5
  · rw [setB_ne (by omega)]; exact a6
  · rw [setB_ne (by omega)]; exact a7
  · rw [nP_setB (by omega)] at hi
    rw [setB_ne (by omega), setB_ne (by omega), setB_ne (by omega)]; exact b1 i hi
  · rw [setB_ne (by omega)]; exact b2 i hi
  · rw [nB_setB (by omega)] at hi
    rw [setB_ne (by omega)]; exact b3 i hi
theorem cl_band {C : CC} (hC : Clo C) {d : Nat} (hd : 8 ≤ d) {σ M : MT} {K : KT} (hA : AC σ M) (hW : WF σ) (hK : ∀ M1, AC (bandR σ).2 M1 → Fm M M1 0 60 → K (some (.int (bandR σ).1)) M1) : C d 83 [.ref 0] M K := by
  obtain ⟨t, ht, et⟩ := hW.2.1
  unfold bandR at hK
  rw [et, tN_nI (by omega)] at hK
  refine g_X7_band hC (fun X hX => ?_)
  refine b_X7_band_0 hX ?_
  conv => whnf
  refine ⟨by omega, c_readInto (g := σ 4) (T := t) hC (by omega) ⟨by rw [hA.2.2.1.1, et], ht, hA.2.2.1.2⟩ (fun M1 b e hb p5 b12 f => ?_) (fun M1 v p e h f => ?_)⟩
  · rw [e] at hK
    have hA1 := hA.rd f
    have f1 : Fm M (wr M1 6 1 0) 0 60 := fun q hq => by rw [wr_off (by omega)]; exact f q (by omega) (by omega)
    conv => whnf
    refine ⟨fun _ => ?_, fun z => absurd z (by decide)⟩
    refine b_X7_band_46 hX ?_
    conv => whnf
    refine ⟨by omega, c_become_8_15 hC (by omega) (hb.fr (Fm.wr (lo := 6) (hi := 6) Fm.rf (by decide) (by decide)) (by decide)) p5 b12 (fun M2 g1 g2 => ?_)⟩
    conv => whnf
    refine ⟨by omega, c_forgetA hC ?_⟩
    conv => whnf
    rw [wr_off (by decide), g1.1.1]
    exact hK _ (hA1.res g2 g1.eight) (Fm.wr (f1.tr (g2.mono (by decide) (by decide))) (by decide) (by decide))
  · rw [e] at hK
    have hA1 := hA.rd f
    have f1 : Fm M (wr M1 6 1 0) 0 60 := fun q hq => by rw [wr_off (by omega)]; exact f q (by omega) (by omega)
    conv => whnf
    refine ⟨fun z => absurd rfl z, fun _ => ?_⟩
    conv => whnf
    rw [wr_off (q := 6) (p := 0) (by decide), wr_ne (by decide), wr_ne (by decide), h.1, h.2]
    exact hK _ hA1.lf (Fm.wr f1 (by decide) (by decide))
