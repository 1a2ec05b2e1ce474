/-! what is done, in the class -/
theorem playS_stat {st : Int32} {b : BV} {k : Nat} (h5 : nP b ≤ 5) (h : stat k) : playS st b k = b k := by
  rcases h with ⟨h1, h2, h3, h4⟩ | ⟨h1, h2⟩
  · exact playS_lo h1 h3 h4
  · exact playS_hi h5 h1
theorem WB.play {b : BV} (h : WB b) {g : Nat} (hg : b 7 = nI g) (hg2 : g < 999) : WB (playS (-1) b) := by
  obtain ⟨hz, h8, -, hk, hw⟩ := h
  have h5 := hz.2.2.1
  refine ⟨hz.play, ?_, ⟨g + 1, by omega, ?_⟩, fun i hi => ?_, fun i j hi hj => ?_⟩
  · rw [playS_lo (by omega) (by omega) (by omega)]; exact h8
  · rw [playS_7, hg, nI_1]
  · refine ⟨?_, okP.play i hi⟩
    rw [nP_playS] at hi
    rw [playS_lo (by omega) (by omega) (by omega)]
    exact (hk i hi).1
  · rw [nP_playS, playS_hi h5 (by omega)]
    exact hw i j hi hj
theorem WB.pace {b : BV} (h : WB b) {p : Nat} {v : Int32} (hp : p < 5) (hv : ∃ k, 300 ≤ k ∧ k ≤ 2500 ∧ v = nI k) : WB (setB b (26 + p) v) := by
  obtain ⟨hz, h8, h7, hk, hw⟩ := h
  refine ⟨hz.setB (by omega), by rw [setB_ne (by omega)]; exact h8, by rw [setB_ne (by omega)]; exact h7, fun i hi => ?_, fun i j hi hj => ?_⟩
  · rw [nP_setB (by omega)] at hi
    rw [setB_ne (i := 21 + i) (by have := hz.2.2.1; omega)]
    refine ⟨(hk i hi).1, ?_⟩
    by_cases e : i = p
    · subst e; rw [setB_at]; exact hv
    · rw [setB_ne (by omega)]; exact (hk i hi).2
  · rw [nP_setB (by omega), setB_ne (by omega)]; exact hw i j hi hj
theorem WB.ear {b : BV} (h : WB b) {x y : Nat} {v : Int32} (hx : x < nP b) (hy : y < nP b) (hv : ∃ k, k ≤ 9 ∧ v = nI k) : WB (setB b (36 + (5 * x + y)) v) := by
  obtain ⟨hz, h8, h7, hk, hw⟩ := h
  have h5 := hz.2.2.1
  refine ⟨hz.setB (by omega), by rw [setB_ne (by omega)]; exact h8, by rw [setB_ne (by omega)]; exact h7, fun i hi => ?_, fun i j hi hj => ?_⟩
  · rw [nP_setB (by omega)] at hi
    rw [setB_ne (by omega), setB_ne (by omega)]; exact hk i hi
  · rw [nP_setB (by omega)]
    by_cases e : 5 * i + j = 5 * x + y
    · rw [e, setB_at]
      exact ⟨hv, fun z => absurd ⟨by omega, by omega⟩ z⟩
    · rw [setB_ne (by omega)]; exact hw i j hi hj
theorem WB.click {b : BV} (h : WB b) {v : Int32} : WB (setB b 3 v) := by
  obtain ⟨hz, h8, h7, hk, hw⟩ := h
  have hz' : SZb (setB b 3 v) := by
    unfold SZb
    rw [nP_setB (by omega), nB_setB (by omega), nX_setB (by omega), setB_ne (by omega), setB_ne (by omega), setB_ne (by omega)]
    exact hz
  refine ⟨hz', by rw [setB_ne (by omega)]; exact h8, by rw [setB_ne (by omega)]; exact h7, fun i hi => ?_, fun i j hi hj => ?_⟩
  · rw [nP_setB (by omega)] at hi
    rw [setB_ne (by omega), setB_ne (by omega)]; exact hk i hi
  · rw [nP_setB (by omega), setB_ne (by omega)]; exact hw i j hi hj
theorem WB.quick {b : BV} (h : WB b) {c : Int32} : WB (quickS b c) := by
  obtain ⟨hz, h8, h7, hk, hw⟩ := h
  have h5 := hz.2.2.1
  refine ⟨hz.quick, by rw [quickS_lo (by omega) h5]; exact h8, by rw [quickS_lo (by omega) h5]; exact h7, fun i hi => ?_, fun i j hi hj => ?_⟩
  · rw [nP_quickS h5] at hi
    rw [quickS_lo (by omega) h5, quickS_pace hi]
    exact ⟨(hk i hi).1, boundS_ok _⟩
  · rw [nP_quickS h5, quickS_lo (by omega) h5]; exact hw i j hi hj
/-- an act: what is, is kept; then the band is another one -/
def actA (σ : MT) (b : BV) : MT := sr (pushA σ) 5 b
theorem WF.act {σ : MT} {b : BV} (h : WF σ) (hw : WB (σ 5)) (hb : WB b) (hs : ∀ k, stat k → b k = σ 5 k) : WF (actA σ b) := (h.push hw).now hb (fun k hk => by rw [pushA_lo (by omega) (by omega)]; exact hs k hk)
def barsA : Nat → MT → MT
  | 0, σ => σ
  | n + 1, σ => barsA n (actA σ (playS (-1) (σ 5)))
theorem actA_5 {σ : MT} {b : BV} : actA σ b 5 = b := sr_at
theorem WF.bars : ∀ (n : Nat) {σ : MT}, WF σ → WB (σ 5) → (∃ g, σ 5 7 = nI g ∧ g + n ≤ 999) → WF (barsA n σ) ∧ WB (barsA n σ 5) := by
  intro n
  induction n with
  | zero => intro σ h1 h2 _; exact ⟨h1, h2⟩
  | succ n ih =>
    intro σ h1 h2 ⟨g, h3, h4⟩
    have hw := h2.play h3 (by omega)
    refine ih (h1.act h2 hw (fun k hk => playS_stat h2.1.2.2.1 hk)) (by rw [actA_5]; exact hw) ⟨g + 1, ?_, by omega⟩
    rw [actA_5, playS_7, h3, nI_1]
noncomputable def barsR (σ : MT) (n : Int32) : Int32 × MT := pit (nP (σ 5) = 0) (-1000002, σ) (pit (1 ≤ n ∧ n ≤ 24) (pit (σ 5 7 + n ≤ 999) (meanS (barsA (tN n) σ 5), barsA (tN n) σ) (-1000003, σ)) (-1000001, σ))
theorem add_le {g k : Nat} (hg : g ≤ 999) (hk : k ≤ 24) : nI g + nI k ≤ 999 ↔ g + k ≤ 999 := by
  rw [nI_add]
  exact le_nI (b := 999) (by omega) (by omega)
theorem cl_bars {C : CC} (hC : Clo C) {d : Nat} (hd : 8 ≤ d) {σ M : MT} {K : KT} {n : Int32} (hA : AC σ M) (hW : WF σ) (hK : ∀ M1, AC (barsR σ n).2 M1 → Fm M M1 0 60 → K (some (.int (barsR σ n).1)) M1) : C d 86 [.ref 0, .int n] M K := by
  obtain ⟨pe, p5, pw, p0⟩ := hW.pl
  have hb := hA.2.2.2.2.1.1
  have hp := hb.1.1.trans pe
  unfold barsR at hK
  refine g_X7_bars hC (fun X hX => ?_)
  refine b_X7_bars_0 hX ?_
  conv => whnf
  refine ⟨by omega, c_stands_8 hC hp p5 (fun hP => ?_) (fun hP => ?_)⟩
  rotate_left
  · rw [pit_pos hP] at hK
    conv => whnf
    refine ⟨fun z => absurd rfl z, fun _ => ?_⟩
    conv => whnf
    exact hK M hA Fm.rf
  have hw := pw hP
  rw [pit_neg (by omega)] at hK
  conv => whnf
  refine ⟨fun _ => ?_, fun z => absurd z (by decide)⟩
  refine b_X7_bars_13 hX ?_
  conv => whnf
  refine ⟨by omega, c_within hC (fun a0 b0 => ?_) (fun q => ?_)⟩
  rotate_left
  · rw [pit_neg q] at hK
    conv => whnf
    refine ⟨fun z => absurd rfl z, fun _ => ?_⟩
    conv => whnf
    exact hK M hA Fm.rf
  rw [pit_pos ⟨a0, b0⟩] at hK
  obtain ⟨k, -, hk, rfl⟩ := rngL (lo := 1) (hi := 24) (by omega) a0 b0 (by omega)
  rw [tN_nI (by omega)] at hK
  obtain ⟨g, hg, eg⟩ := hw.2.2.1
  conv => whnf
  refine ⟨fun _ => ?_, fun z => absurd z (by decide)⟩
  refine b_X7_bars_26 hX ?_
  conv => whnf
  rw [show M 8 3 = σ 5 7 from hb.1.2.2.2.1]
  refine ⟨fun q => ?_, fun q => ?_⟩
  rotate_left
  · rw [pit_neg q] at hK
    conv => whnf
    exact hK M hA Fm.rf
  rw [pit_pos q] at hK
  rw [eg, add_le hg hk] at q
  have loop : ∀ (m j : Nat) (σ' M' : MT), j + m = k → barsA k σ = barsA m σ' → AC σ' M' → WF σ' → WB (σ' 5) → (∃ g, σ' 5 7 = nI g ∧ g + m ≤ 999) → Fm M M' 0 60 → X 46 [some (.ref 0), some (.int (nI k)), some (.int (nI j))] [] M' := by
    intro m
    induction m with
    | zero =>
      intro j σ' M' hj e h1 h2 h3 h4 h5
      rw [Nat.add_zero] at hj
      subst hj
      rw [show barsA 0 σ' = σ' from rfl] at e
      rw [e] at hK
      refine b_X7_bars_46 hX ?_
      conv => whnf
      refine ⟨fun q => ?_, fun q => absurd (nI_le (by omega) (by omega)) q⟩
      refine b_X7_bars_75 hX ?_
      conv => whnf
      refine ⟨by omega, c_together_8 hC h1.2.2.2.2.1.1 h3.1.1 h3.1.2.2.1 ?_⟩
      conv => whnf
      exact hK M' h1 h5
    | succ m ih =>
      intro j σ' M' hj e h1 h2 h3 ⟨g, h4, h4'⟩ h5
      refine b_X7_bars_46 hX ?_
      conv => whnf
      refine ⟨fun q => absurd q (nI_ge (by omega) (by omega)), fun q => ?_⟩
      conv => whnf
      refine ⟨by omega, c_keep hC (by omega) h1 h2 h3 (fun M1 g1 g2 => ?_)⟩
      have e5 : pushA σ' 5 = σ' 5 := pushA_lo (by omega) (by omega)
      have g3 := g1.2.2.2.2.1.1
      rw [e5] at g3
      conv => whnf
      refine ⟨by omega, c_play_8 hC (by omega) g3 h3.1 (fun M2 g4 g5 => ?_)⟩
      conv => whnf
      rw [nI_1]
      have hw2 := h3.play h4 (by omega)
      refine ih (j + 1) (actA σ' (playS (-1) (σ' 5))) M2 (by omega) e (g1.now g5 g4) (h2.act h3 hw2 (fun k hk => playS_stat h3.1.2.2.1 hk)) (by rw [actA_5]; exact hw2) ⟨g + 1, ?_, by omega⟩ (h5.tr ((g2.mono (by decide) (by decide)).tr (g5.mono (by decide) (by decide))))
      rw [actA_5, playS_7, h4, nI_1]
  refine b_X7_bars_44 hX ?_
  conv => whnf
  exact loop k 0 σ M (by omega) rfl hA hW hw ⟨g, eg, by omega⟩ Fm.rf
noncomputable def paceR (σ : MT) (p v : Int32) : Int32 × MT := pit (isPl (nP (σ 5)) p ∧ (300 ≤ v ∧ v ≤ 2500)) (σ 5 (26 + tN p), actA σ (setB (σ 5) (26 + tN p) v)) (-1000001, σ)
theorem cl_pace {C : CC} (hC : Clo C) {d : Nat} (hd : 8 ≤ d) {σ M : MT} {K : KT} {p v : Int32} (hA : AC σ M) (hW : WF σ) (hK : ∀ M1, AC (paceR σ p v).2 M1 → Fm M M1 0 60 → K (some (.int (paceR σ p v).1)) M1) : C d 87 [.ref 0, .int p, .int v] M K := by
  obtain ⟨pe, p5, pw, p0⟩ := hW.pl
  have hb := hA.2.2.2.2.1.1
  have hp := hb.1.1.trans pe
  unfold paceR at hK
  refine g_X7_pace hC (fun X hX => ?_)
  have bB : ¬ (isPl (nP (σ 5)) p ∧ (300 ≤ v ∧ v ≤ 2500)) → X 24 [some (.ref 0), some (.int p), some (.int v), none] [] M := fun q => by
    rw [pit_neg q] at hK
    refine b_X7_pace_24 hX ?_
    conv => whnf
    exact hK M hA Fm.rf
  refine b_X7_pace_0 hX ?_
  conv => whnf
  refine ⟨by omega, c_has_8 hC hp p5 (fun i hi ei => ?_) (fun q => ?_)⟩
  rotate_left
  · conv => whnf
    exact ⟨fun _ => bB (fun z => q z.1), fun z => absurd rfl z⟩
  conv => whnf
  refine ⟨fun q => absurd q (by decide), fun _ => ?_⟩
  conv => whnf
  refine ⟨by omega, c_within hC (fun a0 b0 => ?_) (fun q => ?_)⟩
  rotate_left
  · conv => whnf
    exact ⟨fun z => absurd rfl z, fun _ => bB (fun z => q z.2)⟩
  rw [pit_pos ⟨⟨i, hi, ei⟩, a0, b0⟩] at hK
  subst ei
  rw [tN_nI (by omega)] at hK
  have hw := pw (by omega)
  conv => whnf
  refine ⟨fun _ => ?_, fun z => absurd z (by decide)⟩
  refine b_X7_pace_27 hX ?_
  conv => whnf
  refine ⟨by omega, c_keep hC (by omega) hA hW hw (fun M1 g1 g2 => ?_)⟩
  have g3 := g1.2.2.2.2.1.1
  rw [pushA_lo (by omega) (by omega)] at g3
  conv => whnf
  refine ⟨i, rfl, by omega, ?_⟩
  conv => whnf
  refine ⟨i, rfl, by omega, ?_⟩
  conv => whnf
  rw [show M1 11 i = σ 5 (26 + i) from (g3.2.1 i hi).2.2]
  exact hK _ (g1.now (Fm.wr Fm.rf (by decide) (by decide)) (g3.pace hi hw.1.2.2.1 hw.1.2.2.2.2.1)) ((g2.mono (by decide) (by decide)).tr (Fm.wr Fm.rf (by decide) (by decide)))
noncomputable def hearsR (σ : MT) (i j w : Int32) : Int32 × MT := pit (canH (nP (σ 5)) i j ∧ (0 ≤ w ∧ w ≤ 9)) (σ 5 (36 + (5 * tN i + tN j)), actA σ (setB (σ 5) (36 + (5 * tN i + tN j)) w)) (-1000001, σ)
theorem cl_hears {C : CC} (hC : Clo C) {d : Nat} (hd : 8 ≤ d) {σ M : MT} {K : KT} {i j w : Int32} (hA : AC σ M) (hW : WF σ) (hK : ∀ M1, AC (hearsR σ i j w).2 M1 → Fm M M1 0 60 → K (some (.int (hearsR σ i j w).1)) M1) : C d 88 [.ref 0, .int i, .int j, .int w] M K := by
  obtain ⟨pe, p5, pw, p0⟩ := hW.pl
  have hb := hA.2.2.2.2.1.1
  have hp := hb.1.1.trans pe
  unfold hearsR at hK
  refine g_X7_hears hC (fun X hX => ?_)
  have bB : ¬ (canH (nP (σ 5)) i j ∧ (0 ≤ w ∧ w ≤ 9)) → X 22 [some (.ref 0), some (.int i), some (.int j), some (.int w), none] [] M := fun q => by
    rw [pit_neg q] at hK
    refine b_X7_hears_22 hX ?_
    conv => whnf
    exact hK M hA Fm.rf
  refine b_X7_hears_0 hX ?_
  conv => whnf
  refine ⟨by omega, c_canHear_8 hC (by omega) hp p5 (fun x y hx hy hxy ex ey => ?_) (fun q => ?_)⟩
  rotate_left
  · conv => whnf
    exact ⟨fun _ => bB (fun z => q z.1), fun z => absurd rfl z⟩
  conv => whnf
  refine ⟨fun q => absurd q (by decide), fun _ => ?_⟩
  conv => whnf
  refine ⟨by omega, c_within hC (fun a0 b0 => ?_) (fun q => ?_)⟩
  rotate_left
  · conv => whnf
    exact ⟨fun z => absurd rfl z, fun _ => bB (fun z => q z.2)⟩
  rw [pit_pos ⟨⟨⟨x, hx, ex⟩, ⟨y, hy, ey⟩, fun z => hxy ((eq_nI (by omega) (by omega)).mp (by rw [← ex, ← ey]; exact z))⟩, a0, b0⟩] at hK
  subst ex; subst ey
  rw [tN_nI (by omega), tN_nI (by omega)] at hK
  have hw := pw (by omega)
  conv => whnf
  refine ⟨fun _ => ?_, fun z => absurd z (by decide)⟩
  refine b_X7_hears_25 hX ?_
  conv => whnf
  refine ⟨by omega, c_keep hC (by omega) hA hW hw (fun M1 g1 g2 => ?_)⟩
  have g3 := g1.2.2.2.2.1.1
  rw [pushA_lo (by omega) (by omega)] at g3
  conv => whnf
  refine ⟨by omega, c_weight_8 hC (by omega) (by omega) ?_⟩
  conv => whnf
  refine ⟨by omega, c_weigh_8 hC (by omega) (by omega) ?_⟩
  conv => whnf
  rw [show M1 13 (5 * x + y) = σ 5 (36 + (5 * x + y)) from g3.2.2.1 _ (by omega)]
  exact hK _ (g1.now (Fm.wr Fm.rf (by decide) (by decide)) (g3.ear (by omega) hw.1.2.2.1 hw.1.2.2.2.2.1)) ((g2.mono (by decide) (by decide)).tr (Fm.wr Fm.rf (by decide) (by decide)))
theorem Bd.click {r : Nat} {b : BV} {M : MT} {v : Int32} (hb : Bd r b M) : Bd r (setB b 3 v) (wr M r 7 v) := by
  obtain ⟨⟨g0, g1, g2, g3, g4, g5, g6, g7⟩, h2, h3, h4⟩ := hb
  refine ⟨⟨?_, ?_, ?_, ?_, ?_, ?_, ?_, ?_⟩, fun i hi => ?_, fun i hi => ?_, fun i hi => ?_⟩
  · rw [wr_ne (by omega), setB_ne (by omega)]; exact g0
  · rw [wr_ne (by omega), setB_ne (by omega)]; exact g1
  · rw [wr_ne (by omega), setB_ne (by omega)]; exact g2
  · rw [wr_ne (by omega), setB_ne (by omega)]; exact g3
  · rw [wr_ne (by omega), setB_ne (by omega)]; exact g4
  · rw [wr_ne (by omega), setB_ne (by omega)]; exact g5
  · rw [wr_ne (by omega), setB_ne (by omega)]; exact g6
  · rw [wr_at, setB_at]
  · rw [nP_setB (by omega)] at hi
    rw [wr_off (by omega), wr_off (by omega), wr_off (by omega), setB_ne (by omega), setB_ne (by omega), setB_ne (by omega)]; exact h2 i hi
  · rw [wr_off (by omega), setB_ne (by omega)]; exact h3 i hi
  · rw [nB_setB (by omega)] at hi
    rw [wr_off (by omega), setB_ne (by omega)]; exact h4 i hi
noncomputable def clickR (σ : MT) (v : Int32) : Int32 × MT := pit (nP (σ 5) = 0) (-1000002, σ) (pit (40 ≤ v ∧ v ≤ 99) (σ 5 3, actA σ (setB (σ 5) 3 v)) (-1000001, σ))
theorem cl_click {C : CC} (hC : Clo C) {d : Nat} (hd : 8 ≤ d) {σ M : MT} {K : KT} {v : Int32} (hA : AC σ M) (hW : WF σ) (hK : ∀ M1, AC (clickR σ v).2 M1 → Fm M M1 0 60 → K (some (.int (clickR σ v).1)) M1) : C d 89 [.ref 0, .int v] M K := by
  obtain ⟨pe, p5, pw, p0⟩ := hW.pl
  have hb := hA.2.2.2.2.1.1
  have hp := hb.1.1.trans pe
  unfold clickR at hK
  refine g_X7_click hC (fun X hX => ?_)
  refine b_X7_click_0 hX ?_
  conv => whnf
  refine ⟨by omega, c_stands_8 hC hp p5 (fun hP => ?_) (fun hP => ?_)⟩
  rotate_left
  · rw [pit_pos hP] at hK
    conv => whnf
    refine ⟨fun z => absurd rfl z, fun _ => ?_⟩
    conv => whnf
    exact hK M hA Fm.rf
  have hw := pw hP
  rw [pit_neg (by omega)] at hK
  conv => whnf
  refine ⟨fun _ => ?_, fun z => absurd z (by decide)⟩
  refine b_X7_click_13 hX ?_
  conv => whnf
  refine ⟨by omega, c_within hC (fun a0 b0 => ?_) (fun q => ?_)⟩
  rotate_left
  · rw [pit_neg q] at hK
    conv => whnf
    refine ⟨fun z => absurd rfl z, fun _ => ?_⟩
    conv => whnf
    exact hK M hA Fm.rf
  rw [pit_pos ⟨a0, b0⟩] at hK
  conv => whnf
  refine ⟨fun _ => ?_, fun z => absurd z (by decide)⟩
  refine b_X7_click_27 hX ?_
  conv => whnf
  refine ⟨by omega, c_keep hC (by omega) hA hW hw (fun M1 g1 g2 => ?_)⟩
  have g3 := g1.2.2.2.2.1.1
  rw [pushA_lo (by omega) (by omega)] at g3
  conv => whnf
  rw [show M1 8 7 = σ 5 3 from g3.1.2.2.2.2.2.2.2]
  exact hK _ (g1.now (Fm.wr Fm.rf (by decide) (by decide)) g3.click) ((g2.mono (by decide) (by decide)).tr (Fm.wr Fm.rf (by decide) (by decide)))
noncomputable def clapsR (σ : MT) (c : Int32) : Int32 × MT := pit (nP (σ 5) = 0) (-1000002, σ) (pit (1 ≤ c ∧ c ≤ 99) (meanS (quickS (σ 5) c), actA σ (quickS (σ 5) c)) (-1000001, σ))
theorem cl_claps {C : CC} (hC : Clo C) {d : Nat} (hd : 8 ≤ d) {σ M : MT} {K : KT} {c : Int32} (hA : AC σ M) (hW : WF σ) (hK : ∀ M1, AC (clapsR σ c).2 M1 → Fm M M1 0 60 → K (some (.int (clapsR σ c).1)) M1) : C d 90 [.ref 0, .int c] M K := by
  obtain ⟨pe, p5, pw, p0⟩ := hW.pl
  have hb := hA.2.2.2.2.1.1
  have hp := hb.1.1.trans pe
  unfold clapsR at hK
  refine g_X7_claps hC (fun X hX => ?_)
  refine b_X7_claps_0 hX ?_
  conv => whnf
  refine ⟨by omega, c_stands_8 hC hp p5 (fun hP => ?_) (fun hP => ?_)⟩
  rotate_left
  · rw [pit_pos hP] at hK
    conv => whnf
    refine ⟨fun z => absurd rfl z, fun _ => ?_⟩
    conv => whnf
    exact hK M hA Fm.rf
  have hw := pw hP
  rw [pit_neg (by omega)] at hK
  conv => whnf
  refine ⟨fun _ => ?_, fun z => absurd z (by decide)⟩
  refine b_X7_claps_13 hX ?_
  conv => whnf
  refine ⟨by omega, c_within hC (fun a0 b0 => ?_) (fun q => ?_)⟩
  rotate_left
  · rw [pit_neg q] at hK
    conv => whnf
    refine ⟨fun z => absurd rfl z, fun _ => ?_⟩
    conv => whnf
    exact hK M hA Fm.rf
  rw [pit_pos ⟨a0, b0⟩] at hK
  conv => whnf
  refine ⟨fun _ => ?_, fun z => absurd z (by decide)⟩
  refine b_X7_claps_26 hX ?_
  conv => whnf
  refine ⟨by omega, c_keep hC (by omega) hA hW hw (fun M1 g1 g2 => ?_)⟩
  have g3 := g1.2.2.2.2.1.1
  rw [pushA_lo (by omega) (by omega)] at g3
  conv => whnf
  refine ⟨by omega, c_quicken_8 hC (by omega) g3 hw.1 (fun M2 g4 g5 => ?_)⟩
  have hz1 : SZb (quickS (σ 5) c) := hw.1.quick
  conv => whnf
  refine ⟨by omega, c_together_8 hC g4 hz1.1 hz1.2.2.1 ?_⟩
  conv => whnf
  exact hK M2 (g1.now g5 g4) ((g2.mono (by decide) (by decide)).tr (g5.mono (by decide) (by decide)))
noncomputable def playerR (σ : MT) (p what : Int32) : Int32 := pit (isPl (nP (σ 5)) p) (pit (what = 0) (σ 5 (26 + tN p)) (pit (what = 1) (σ 5 (31 + tN p)) (pit (what = 2) (leanS (σ 5) (σ 5 (21 + tN p)) (barS (σ 5))) (pit (what = 3) (cntS (fun j => σ 5 (36 + (5 * tN p + j))) (nP (σ 5))) (-1000001))))) (-1000001)
theorem cntS_congr {f g : Nat → Int32} : ∀ {n : Nat}, (∀ k, k < n → f k = g k) → cntS f n = cntS g n := by
  intro n
  induction n with
  | zero => intro _; rfl
  | succ n ih =>
    intro h
    show (if f n = 0 then _ else _) = if g n = 0 then _ else _
    rw [h n (by omega), ih (fun k hk => h k (by omega))]
theorem cl_player {C : CC} (hC : Clo C) {d : Nat} (hd : 8 ≤ d) {σ M : MT} {K : KT} {p what : Int32} (hA : AC σ M) (hW : WF σ) (hK : K (some (.int (playerR σ p what))) M) : C d 91 [.ref 0, .int p, .int what] M K := by
  obtain ⟨pe, p5, pw, p0⟩ := hW.pl
  have hb := hA.2.2.2.2.1.1
  have hp := hb.1.1.trans pe
  unfold playerR at hK
  refine g_X7_player hC (fun X hX => ?_)
  refine b_X7_player_0 hX ?_
  conv => whnf
  refine ⟨by omega, c_has_8 hC hp p5 (fun i hi ei => ?_) (fun q => ?_)⟩
  rotate_left
  · rw [pit_neg q] at hK
    conv => whnf
    refine ⟨fun z => absurd rfl z, fun _ => ?_⟩
    conv => whnf
    exact hK
  rw [pit_pos ⟨i, hi, ei⟩] at hK
  subst ei
  rw [tN_nI (by omega)] at hK
  have hw := pw (by omega)
  conv => whnf
  refine ⟨fun _ => ?_, fun z => absurd z (by decide)⟩
  refine b_X7_player_14 hX ?_
  conv => whnf
  have t0 : (0 : Int32).toInt = 0 := by decide
  have t1 : (1 : Int32).toInt = 1 := by decide
  have t2 : (2 : Int32).toInt = 2 := by decide
  have t3 : (3 : Int32).toInt = 3 := by decide
  refine ⟨fun h => ?_, fun h => ?_, fun h => ?_, fun h => ?_, fun h => ?_, trivial⟩
  · rw [pit_neg (fun z => by rw [z, t0] at h; omega), pit_neg (fun z => by rw [z, t1] at h; omega), pit_neg (fun z => by rw [z, t2] at h; omega), pit_neg (fun z => by rw [z, t3] at h; omega)] at hK
    refine b_X7_player_96 hX ?_
    conv => whnf
    exact hK
  · have e : what = 0 := Int32.toInt_inj.mp (by rw [h, t0])
    subst e
    rw [pit_pos rfl] at hK
    refine b_X7_player_44 hX ?_
    conv => whnf
    refine ⟨i, rfl, by omega, ?_⟩
    conv => whnf
    rw [(hb.2.1 i hi).2.2]
    exact hK
  · have e : what = 1 := Int32.toInt_inj.mp (by rw [h, t1]; rfl)
    subst e
    rw [pit_neg (by decide), pit_pos rfl] at hK
    refine b_X7_player_54 hX ?_
    conv => whnf
    refine ⟨i, rfl, by omega, ?_⟩
    conv => whnf
    rw [(hb.2.1 i hi).2.1]
    exact hK
  · have e : what = 2 := Int32.toInt_inj.mp (by rw [h, t2]; rfl)
    subst e
    rw [pit_neg (by decide), pit_neg (by decide), pit_pos rfl] at hK
    refine b_X7_player_64 hX ?_
    conv => whnf
    rw [show M 8 2 = nI (nX (σ 5)) from hb.1.2.2.1.trans hw.1.2.2.2.2.2.1]
    refine ⟨by omega, c_barAt_8 hC (hb.1.2.1.trans hw.1.2.2.2.1) hw.1.2.2.2.2.1 hw.1.2.2.2.2.2.2 ?_⟩
    conv => whnf
    rw [show M 14 (nX (σ 5)) = barS (σ 5) from hb.2.2.2 _ hw.1.2.2.2.2.2.2]
    refine ⟨by omega, c_leanAt_8 hC hb p5 hi ?_⟩
    conv => whnf
    exact hK
  · have e : what = 3 := Int32.toInt_inj.mp (by rw [h, t3]; rfl)
    subst e
    rw [pit_neg (by decide), pit_neg (by decide), pit_neg (by decide), pit_pos rfl] at hK
    refine b_X7_player_87 hX ?_
    conv => whnf
    refine ⟨by omega, c_heardBy hC (by omega) hp p5 (by omega) ?_⟩
    conv => whnf
    rw [cntS_congr (g := fun j => σ 5 (36 + (5 * i + j))) (fun k hk => hb.2.2.1 (5 * i + k) (by omega))]
    exact hK
noncomputable def countR (σ : MT) (what : Int32) : Int32 := pit (what = 0) (manyS (σ 0) 8) (pit (what = 1) (σ 5 5) (pit (what = 2) (σ 5 4) (pit (what = 3) (σ 5 6) (pit (what = 4) (σ 5 7) (pit (what = 5) (meanS (σ 5)) (pit (what = 6) (σ 5 3) (pit (what = 7) (σ 3 3) (pit (what = 8) (σ 3 2) (-1000001)))))))))
theorem manyS_congr {f g : Nat → Int32} : ∀ {n : Nat}, (∀ k, k < n → f k = g k) → manyS f n = manyS g n := by
  intro n
  induction n with
  | zero => intro _; rfl
  | succ n ih =>
    intro h
    show (if f n = -1 then _ else _) = if g n = -1 then _ else _
    rw [h n (by omega), ih (fun k hk => h k (by omega))]
theorem cl_count {C : CC} (hC : Clo C) {d : Nat} (hd : 8 ≤ d) {σ M : MT} {K : KT} {what : Int32} (hA : AC σ M) (hW : WF σ) (hK : K (some (.int (countR σ what))) M) : C d 114 [.ref 0, .int what] M K := by
  obtain ⟨pe, p5, pw, p0⟩ := hW.pl
  have hb := hA.2.2.2.2.1.1
  unfold countR at hK
  refine g_X7_count hC (fun X hX => ?_)
  refine b_X7_count_0 hX ?_
  conv => whnf
  have t0 : (0 : Int32).toInt = 0 := by decide
  have t1 : (1 : Int32).toInt = 1 := by decide
  have t2 : (2 : Int32).toInt = 2 := by decide
  have t3 : (3 : Int32).toInt = 3 := by decide
  have t4 : (4 : Int32).toInt = 4 := by decide
  have t5 : (5 : Int32).toInt = 5 := by decide
  have t6 : (6 : Int32).toInt = 6 := by decide
  have t7 : (7 : Int32).toInt = 7 := by decide
  have t8 : (8 : Int32).toInt = 8 := by decide
  refine ⟨fun h => ?_, fun h => ?_, fun h => ?_, fun h => ?_, fun h => ?_, fun h => ?_, fun h => ?_, fun h => ?_, fun h => ?_, fun h => ?_, trivial⟩
  · rw [pit_neg (fun z => by rw [z, t0] at h; omega), pit_neg (fun z => by rw [z, t1] at h; omega), pit_neg (fun z => by rw [z, t2] at h; omega), pit_neg (fun z => by rw [z, t3] at h; omega), pit_neg (fun z => by rw [z, t4] at h; omega), pit_neg (fun z => by rw [z, t5] at h; omega), pit_neg (fun z => by rw [z, t6] at h; omega), pit_neg (fun z => by rw [z, t7] at h; omega), pit_neg (fun z => by rw [z, t8] at h; omega)] at hK
    refine b_X7_count_124 hX ?_
    conv => whnf
    exact hK
  · have e : what = 0 := Int32.toInt_inj.mp (by rw [h, t0])
    subst e
    rw [pit_pos rfl] at hK
    refine b_X7_count_52 hX ?_
    conv => whnf
    refine ⟨by omega, c_howMany hC (by omega) ?_⟩
    conv => whnf
    rw [manyS_congr (g := σ 0) (fun k hk => (hA.1.1 k hk).1)]
    exact hK
  · have e : what = 1 := Int32.toInt_inj.mp (by rw [h, t1]; rfl)
    subst e
    rw [pit_neg (by decide), pit_pos rfl] at hK
    refine b_X7_count_60 hX ?_
    conv => whnf
    rw [hb.1.1]
    exact hK
  · have e : what = 2 := Int32.toInt_inj.mp (by rw [h, t2]; rfl)
    subst e
    rw [pit_neg (by decide), pit_neg (by decide), pit_pos rfl] at hK
    refine b_X7_count_68 hX ?_
    conv => whnf
    rw [hb.1.2.1]
    exact hK
  · have e : what = 3 := Int32.toInt_inj.mp (by rw [h, t3]; rfl)
    subst e
    rw [pit_neg (by decide), pit_neg (by decide), pit_neg (by decide), pit_pos rfl] at hK
    refine b_X7_count_76 hX ?_
    conv => whnf
    rw [hb.1.2.2.1]
    exact hK
  · have e : what = 4 := Int32.toInt_inj.mp (by rw [h, t4]; rfl)
    subst e
    rw [pit_neg (by decide), pit_neg (by decide), pit_neg (by decide), pit_neg (by decide), pit_pos rfl] at hK
    refine b_X7_count_84 hX ?_
    conv => whnf
    rw [hb.1.2.2.2.1]
    exact hK
  · have e : what = 5 := Int32.toInt_inj.mp (by rw [h, t5]; rfl)
    subst e
    rw [pit_neg (by decide), pit_neg (by decide), pit_neg (by decide), pit_neg (by decide), pit_neg (by decide), pit_pos rfl] at hK
    refine b_X7_count_92 hX ?_
    conv => whnf
    refine ⟨by omega, c_together_8 hC hb pe p5 ?_⟩
    conv => whnf
    exact hK
  · have e : what = 6 := Int32.toInt_inj.mp (by rw [h, t6]; rfl)
    subst e
    rw [pit_neg (by decide), pit_neg (by decide), pit_neg (by decide), pit_neg (by decide), pit_neg (by decide), pit_neg (by decide), pit_pos rfl] at hK
    refine b_X7_count_100 hX ?_
    conv => whnf
    rw [hb.1.2.2.2.2.2.2.2]
    exact hK
  · have e : what = 7 := Int32.toInt_inj.mp (by rw [h, t7]; rfl)
    subst e
    rw [pit_neg (by decide), pit_neg (by decide), pit_neg (by decide), pit_neg (by decide), pit_neg (by decide), pit_neg (by decide), pit_neg (by decide), pit_pos rfl] at hK
    refine b_X7_count_108 hX ?_
    conv => whnf
    rw [hA.2.2.2.1.1]
    exact hK
  · have e : what = 8 := Int32.toInt_inj.mp (by rw [h, t8]; rfl)
    subst e
    rw [pit_neg (by decide), pit_neg (by decide), pit_neg (by decide), pit_neg (by decide), pit_neg (by decide), pit_neg (by decide), pit_neg (by decide), pit_neg (by decide), pit_pos rfl] at hK
    refine b_X7_count_116 hX ?_
    conv => whnf
    rw [hA.2.2.1.1]
    exact hK
noncomputable def imageR (σ : MT) (k : Int32) : Int32 × MT := pit (0 ≤ k ∧ k ≤ 1) (pit (nP (σ 5) = 0) (-1000002, σ) (1, sr (wr σ 3 (5 + tN k) 1) (6 + tN k) (σ 5))) (-1000001, σ)
noncomputable def restoreR (σ : MT) (k : Int32) : Int32 × MT := pit (0 ≤ k ∧ k ≤ 1) (pit (σ 3 (5 + tN k) = 1) (1, sr (wr σ 3 3 0) 5 (σ (6 + tN k))) (-1000002, σ)) (-1000001, σ)
theorem nA_img {σ : MT} {k : Nat} {b : BV} (hk : k < 2) : nA (sr (wr σ 3 (5 + k) 1) (6 + k) b) = nA σ := by unfold nA; rw [sr_ne (by omega), wr_ne (by omega)]
theorem AC.img {σ M M' : MT} {k : Nat} {b : BV} (hk : k < 2) (h : AC σ M) (f : Fm M M' (47 + 7 * k) (53 + 7 * k)) (hb : Bd (47 + 7 * k) b M') : AC (sr (wr σ 3 (5 + k) 1) (6 + k) b) M' := by
  obtain ⟨⟨h1, h2⟩, ⟨h3, h3'⟩, ⟨h4, h5⟩, ⟨h6, o, h6a, h6b, h6c⟩, ⟨h7, h8, h9⟩, h10, h11⟩ := h
  refine ⟨⟨fun i hi => ?_, fun i hi => ?_⟩, ⟨?_, ?_⟩, ⟨?_, fun i hi => ?_⟩, ⟨?_, o, h6a, ?_, fun i hi => ?_⟩, ⟨?_, ?_, ?_⟩, ?_, fun i hi => ?_⟩
  · rw [f 2 (by omega), f 3 (by omega), sr_ne (by omega), sr_ne (by omega), wr_off (p := 3) (by omega), wr_off (p := 3) (by omega)]; exact h1 i hi
  · rw [f 4 (by omega), sr_ne (by omega), wr_off (p := 3) (by omega)]; exact h2 i hi
  · rw [f 0 (by omega), sr_ne (by omega), wr_ne (by omega)]; exact h3
  · rw [f 0 (by omega), sr_ne (by omega), wr_ne (by omega)]; exact h3'
  · rw [f 6 (by omega), sr_ne (by omega), wr_ne (by omega)]; exact h4
  · rw [f 7 (by omega), sr_ne (by omega), wr_off (p := 3) (by omega)]; exact h5 i hi
  · rw [f 22 (by omega), sr_ne (by omega), wr_ne (by omega)]; exact h6
  · rw [f 22 (by omega)]; exact h6b
  · rw [nA_img hk] at hi
    rw [sr_ne (by omega), wr_off (p := 3) (by omega)]
    exact (h6c i hi).fr (f 23 (by omega))
  · rw [sr_ne (by omega), wr_off (p := 3) (by omega)]; exact h7.fr f (by omega)
  · by_cases e : k = 0
    · subst e; rw [sr_at]; exact hb
    · rw [sr_ne (by omega), wr_off (p := 3) (by omega)]; exact h8.fr f (by omega)
  · by_cases e : k = 1
    · subst e; rw [sr_at]; exact hb
    · rw [sr_ne (by omega), wr_off (p := 3) (by omega)]; exact h9.fr f (by omega)
  · rw [f 44 (by omega), sr_ne (by omega), wr_ne (by omega)]; exact h10
  · rw [f 45 (by omega), sr_ne (by omega), wr_off (p := 3) (by omega)]; exact h11 i hi
theorem WF.img {σ : MT} {k : Nat} (hk : k < 2) (h : WF σ) (hb : WB (σ 5)) : WF (sr (wr σ 3 (5 + k) 1) (6 + k) (σ 5)) := by
  obtain ⟨h1, h2, ⟨h3, h3'⟩, h4, h5, h6, h7⟩ := h
  unfold WF
  rw [nA_img hk, sr_ne (q := 0) (by omega), sr_ne (q := 1) (by omega), sr_ne (q := 3) (by omega), sr_ne (q := 5) (by omega), wr_off (q := 0) (p := 3) (by omega), wr_off (q := 1) (p := 3) (by omega), wr_off (q := 5) (p := 3) (by omega), wr_ne (by omega), wr_ne (by omega), wr_ne (by omega)]
  refine ⟨h1, h2, ⟨h3, h3'⟩, h4, Or.inr hb, fun j hj => ?_, fun i hi => ?_⟩
  · by_cases e : j = k
    · subst e; rw [wr_at, sr_at]; exact Or.inr ⟨rfl, hb⟩
    · rw [wr_ne (by omega), sr_ne (by omega), wr_off (p := 3) (by omega)]; exact h6 j hj
  · rw [sr_ne (by omega), wr_off (p := 3) (by omega)]; exact h7 i hi
theorem cl_image {C : CC} (hC : Clo C) {d : Nat} (hd : 8 ≤ d) {σ M : MT} {K : KT} {k : Int32} (hA : AC σ M) (hW : WF σ) (hK : ∀ M1, AC (imageR σ k).2 M1 → Fm M M1 0 60 → K (some (.int (imageR σ k).1)) M1) : C d 108 [.ref 0, .int k] M K := by
  obtain ⟨pe, p5, pw, p0⟩ := hW.pl
  have hb := hA.2.2.2.2.1.1
  have hp := hb.1.1.trans pe
  unfold imageR at hK
  refine g_X7_image hC (fun X hX => ?_)
  refine b_X7_image_0 hX ?_
  conv => whnf
  refine ⟨by omega, c_within hC (fun a0 b0 => ?_) (fun q => ?_)⟩
  rotate_left
  · rw [pit_neg q] at hK
    conv => whnf
    refine ⟨fun z => absurd rfl z, fun _ => ?_⟩
    conv => whnf
    exact hK M hA Fm.rf
  rw [pit_pos ⟨a0, b0⟩] at hK
  obtain ⟨j, -, hj, rfl⟩ := rngL (lo := 0) (hi := 1) (by omega) a0 b0 (by omega)
  rw [tN_nI (by omega)] at hK
  conv => whnf
  refine ⟨fun _ => ?_, fun z => absurd z (by decide)⟩
  refine b_X7_image_12 hX ?_
  conv => whnf
  refine ⟨by omega, c_stands_8 hC hp p5 (fun hP => ?_) (fun hP => ?_)⟩
  rotate_left
  · rw [pit_pos hP] at hK
    conv => whnf
    refine ⟨fun z => absurd rfl z, fun _ => ?_⟩
    conv => whnf
    exact hK M hA Fm.rf
  have hw := pw hP
  rw [pit_neg (by omega)] at hK
  conv => whnf
  refine ⟨fun _ => ?_, fun z => absurd z (by decide)⟩
  refine b_X7_image_25 hX ?_
  conv => whnf
  have hj2 : j = 0 ∨ j = 1 := by omega
  rcases hj2 with rfl | rfl
  · refine ⟨0, 47, rfl, rfl, ?_⟩
    conv => whnf
    refine ⟨by omega, c_become_47_8 hC (by omega) hb p5 hw.1.2.2.2.2.1 (fun M1 g1 g2 => ?_)⟩
    conv => whnf
    exact hK M1 (hA.img (k := 0) (by omega) g2 g1) (g2.mono (by decide) (by decide))
  · refine ⟨1, 54, rfl, rfl, ?_⟩
    conv => whnf
    refine ⟨by omega, c_become_54_8 hC (by omega) hb p5 hw.1.2.2.2.2.1 (fun M1 g1 g2 => ?_)⟩
    conv => whnf
    exact hK M1 (hA.img (k := 1) (by omega) g2 g1) (g2.mono (by decide) (by decide))
theorem nA_res {σ : MT} {b : BV} : nA (sr (wr σ 3 3 0) 5 b) = 0 := by unfold nA; rw [sr_ne (by omega), wr_at]; rfl
/-- another band, no act -/
theorem AC.res {σ M M' : MT} {b : BV} (h : AC σ M) (f : Fm M M' 8 14) (hb : Bd 8 b M') : AC (sr (wr σ 3 3 0) 5 b) (wr M' 22 2 0) := by
  obtain ⟨⟨h1, h2⟩, ⟨h3, h3'⟩, ⟨h4, h5⟩, ⟨h6, o, h6a, h6b, h6c⟩, ⟨h7, h8, h9⟩, h10, h11⟩ := h
  have f2 : Fm M' (wr M' 22 2 0) 22 22 := Fm.wr Fm.rf (by decide) (by decide)
  refine ⟨⟨fun i hi => ?_, fun i hi => ?_⟩, ⟨?_, ?_⟩, ⟨?_, fun i hi => ?_⟩, ⟨?_, o, h6a, ?_, fun i hi => ?_⟩, ⟨?_, ?_, ?_⟩, ?_, fun i hi => ?_⟩
  · rw [f2 2 (by omega), f2 3 (by omega), f 2 (by omega), f 3 (by omega), sr_ne (by omega), sr_ne (by omega), wr_off (p := 3) (by omega), wr_off (p := 3) (by omega)]; exact h1 i hi
  · rw [f2 4 (by omega), f 4 (by omega), sr_ne (by omega), wr_off (p := 3) (by omega)]; exact h2 i hi
  · rw [f2 0 (by omega), f 0 (by omega), sr_ne (by omega), wr_ne (by omega)]; exact h3
  · rw [f2 0 (by omega), f 0 (by omega), sr_ne (by omega), wr_ne (by omega)]; exact h3'
  · rw [f2 6 (by omega), f 6 (by omega), sr_ne (by omega), wr_ne (by omega)]; exact h4
  · rw [f2 7 (by omega), f 7 (by omega), sr_ne (by omega), wr_off (p := 3) (by omega)]; exact h5 i hi
  · rw [wr_at, sr_ne (by omega), wr_at]
  · rw [wr_ne (by omega), f 22 (by omega)]; exact h6b
  · rw [nA_res] at hi; omega
  · rw [sr_at]; exact hb.fr f2 (by omega)
  · rw [sr_ne (by omega), wr_off (p := 3) (by omega)]; exact (h8.fr f (by omega)).fr f2 (by omega)
  · rw [sr_ne (by omega), wr_off (p := 3) (by omega)]; exact (h9.fr f (by omega)).fr f2 (by omega)
  · rw [f2 44 (by omega), f 44 (by omega), sr_ne (by omega), wr_ne (by omega)]; exact h10
  · rw [f2 45 (by omega), f 45 (by omega), sr_ne (by omega), wr_off (p := 3) (by omega)]; exact h11 i hi
theorem WF.res {σ : MT} {b : BV} (h : WF σ) (hb : WB b) : WF (sr (wr σ 3 3 0) 5 b) := by
  obtain ⟨h1, h2, ⟨h3, h3'⟩, h4, h5, h6, h7⟩ := h
  unfold WF
  rw [nA_res, sr_ne (q := 0) (by omega), sr_ne (q := 1) (by omega), sr_ne (q := 3) (by omega), sr_at, wr_off (q := 0) (p := 3) (by omega), wr_off (q := 1) (p := 3) (by omega), wr_at, wr_ne (by omega), wr_ne (by omega)]
  refine ⟨h1, h2, ⟨rfl, by omega⟩, h4, Or.inr hb, fun j hj => ?_, fun i hi => absurd hi (by omega)⟩
  rw [wr_ne (by omega), sr_ne (by omega), wr_off (p := 3) (by omega)]; exact h6 j hj
theorem c_forgetA {C : CC} (hC : Clo C) {d : Nat} {M : MT} {K : KT} (hK : K none (wr M 22 2 0)) : C d 2 [.ref 22] M K := by
  refine g_X0_forget hC (fun X hX => ?_)
  refine b_X0_forget_0 hX ?_
  conv => whnf
  exact hK
theorem cl_restore {C : CC} (hC : Clo C) {d : Nat} (hd : 8 ≤ d) {σ M : MT} {K : KT} {k : Int32} (hA : AC σ M) (hW : WF σ) (hK : ∀ M1, AC (restoreR σ k).2 M1 → Fm M M1 0 60 → K (some (.int (restoreR σ k).1)) M1) : C d 109 [.ref 0, .int k] M K := by
  unfold restoreR at hK
  refine g_X7_restore hC (fun X hX => ?_)
  refine b_X7_restore_0 hX ?_
  conv => whnf
  refine ⟨by omega, c_within hC (fun a0 b0 => ?_) (fun q => ?_)⟩
  rotate_left
  · rw [pit_neg q] at hK
    conv => whnf
    refine ⟨fun z => absurd rfl z, fun _ => ?_⟩
    conv => whnf
    exact hK M hA Fm.rf
  rw [pit_pos ⟨a0, b0⟩] at hK
  obtain ⟨j, -, hj, rfl⟩ := rngL (lo := 0) (hi := 1) (by omega) a0 b0 (by omega)
  rw [tN_nI (by omega)] at hK
  have hi := hW.2.2.2.2.2.1 j (by omega)
  have z0 : (∀ i, i < 61 → σ (6 + j) i = 0) → nP (σ (6 + j)) = 0 := fun h => by unfold nP; rw [h 5 (by omega)]; rfl
  conv => whnf
  refine ⟨fun _ => ?_, fun z => absurd z (by decide)⟩
  refine b_X7_restore_12 hX ?_
  conv => whnf
  have hj2 : j = 0 ∨ j = 1 := by omega
  have fin : ∀ (r : Nat), (σ 3 (5 + j) = 1 → WB (σ (6 + j)) → X 27 [some (.ref 0), some (.int (nI j))] [] M) → (0 < nP (σ (6 + j)) → X 27 [some (.ref 0), some (.int (nI j))] [] M) := by
    intro r h hpos
    rcases hi with ⟨-, h0⟩ | ⟨h1, hw⟩
    · have := z0 h0; omega
    · exact h h1 hw
  have st : nP (σ (6 + j)) = 0 → K (some (.int (-1000002))) M := fun h => by
    rcases hi with ⟨h1, -⟩ | ⟨-, hw⟩
    · rw [pit_neg (by rw [h1]; decide)] at hK
      exact hK M hA Fm.rf
    · have := hw.1.2.1; omega
  have pe : σ (6 + j) 5 = nI (nP (σ (6 + j))) ∧ nP (σ (6 + j)) ≤ 5 := by
    rcases hi with ⟨-, h0⟩ | ⟨-, hw⟩
    · rw [z0 h0, h0 5 (by omega)]; exact ⟨rfl, by omega⟩
    · exact ⟨hw.1.1, hw.1.2.2.1⟩
  rcases hj2 with rfl | rfl
  · refine ⟨0, 47, rfl, rfl, ?_⟩
    have hb := hA.2.2.2.2.1.2.1
    conv => whnf
    refine ⟨by omega, c_stands_47 hC (hb.1.1.trans pe.1) pe.2 (fun hP => ?_) (fun hP => ?_)⟩
    · conv => whnf
      refine ⟨fun _ => fin 0 (fun h1 hw => ?_) hP, fun z => absurd z (by decide)⟩
      rw [pit_pos h1] at hK
      refine b_X7_restore_27 hX ?_
      conv => whnf
      refine ⟨0, 47, rfl, rfl, ?_⟩
      conv => whnf
      refine ⟨by omega, c_become_8_47 hC (by omega) hb hw.1.2.2.1 hw.1.2.2.2.2.1 (fun M1 g1 g2 => ?_)⟩
      conv => whnf
      refine ⟨by omega, c_forgetA hC ?_⟩
      conv => whnf
      exact hK _ (hA.res g2 g1) ((g2.mono (by decide) (by decide)).tr (Fm.wr Fm.rf (by decide) (by decide)))
    · conv => whnf
      refine ⟨fun z => absurd rfl z, fun _ => ?_⟩
      conv => whnf
      exact st hP
  · refine ⟨1, 54, rfl, rfl, ?_⟩
    have hb := hA.2.2.2.2.1.2.2
    conv => whnf
    refine ⟨by omega, c_stands_54 hC (hb.1.1.trans pe.1) pe.2 (fun hP => ?_) (fun hP => ?_)⟩
    · conv => whnf
      refine ⟨fun _ => fin 0 (fun h1 hw => ?_) hP, fun z => absurd z (by decide)⟩
      rw [pit_pos h1] at hK
      refine b_X7_restore_27 hX ?_
      conv => whnf
      refine ⟨1, 54, rfl, rfl, ?_⟩
      conv => whnf
      refine ⟨by omega, c_become_8_54 hC (by omega) hb hw.1.2.2.1 hw.1.2.2.2.2.1 (fun M1 g1 g2 => ?_)⟩
      conv => whnf
      refine ⟨by omega, c_forgetA hC ?_⟩
      conv => whnf
      exact hK _ (hA.res g2 g1) ((g2.mono (by decide) (by decide)).tr (Fm.wr Fm.rf (by decide) (by decide)))
    · conv => whnf
      refine ⟨fun z => absurd rfl z, fun _ => ?_⟩
      conv => whnf
      exact st hP
