theorem rngL {x : Int32} {lo hi : Nat} (hh : hi < 2147483648) (h0 : nI lo ≤ x) (h1 : x ≤ nI hi) (hl : lo < 2147483648) : ∃ k, lo ≤ k ∧ k ≤ hi ∧ x = nI k := by
  have hn : ¬ x < 0 := fun h => by
    have := Int32.lt_of_le_of_lt h0 h
    exact nI_pos hl this
  obtain ⟨j, hj, rfl⟩ := nI_of2 (M := nI hi) (n := hi) (nI_toInt hh) hn h1
  exact ⟨j, (le_nI hl (by omega)).mp h0, hj, rfl⟩
theorem WF.pl {σ : MT} (h : WF σ) : σ 5 5 = nI (nP (σ 5)) ∧ nP (σ 5) ≤ 5 ∧ (0 < nP (σ 5) → WB (σ 5)) ∧ (nP (σ 5) = 0 → ∀ k, k < 61 → σ 5 k = 0) := by
  rcases h.2.2.2.2.1 with ⟨-, h0⟩ | hw
  · have e : nP (σ 5) = 0 := by unfold nP; rw [h0 5 (by omega)]; rfl
    refine ⟨by rw [e, h0 5 (by omega)]; rfl, by omega, fun z => by omega, fun _ => h0⟩
  · have := hw.1.2.1
    exact ⟨hw.1.1, hw.1.2.2.1, fun _ => hw, fun z => by omega⟩
theorem WB.ok {b : BV} (h : WB b) : okP b := fun i hi => (h.2.2.2.1 i hi).2
noncomputable def driftR (σ : MT) : Int32 := pit (nP (σ 5) = 0) (-1000002) (driftS (-1) (σ 5))
theorem cl_drift {C : CC} (hC : Clo C) {d : Nat} (hd : 8 ≤ d) {σ M : MT} {K : KT} (hA : AC σ M) (hW : WF σ) (hK : ∀ M1, AC σ M1 → Fm M M1 0 60 → K (some (.int (driftR σ))) M1) : C d 95 [.ref 0] M K := by
  obtain ⟨pe, p5, pw, p0⟩ := hW.pl
  have hb := hA.2.2.2.2.1.1
  have hp := hb.1.1.trans pe
  refine g_X7_drift hC (fun X hX => ?_)
  refine b_X7_drift_0 hX ?_
  conv => whnf
  refine ⟨by omega, c_stands_8 hC hp p5 (fun hP => ?_) (fun hP => ?_)⟩
  · rw [show driftR σ = _ from pit_neg (by omega)] at hK
    conv => whnf
    refine ⟨fun q => absurd q (by decide), fun _ => ?_⟩
    conv => whnf
    refine ⟨by omega, c_driftOf_8 hC (by omega) hb (pw hP).1 (fun M1 f => ?_)⟩
    conv => whnf
    exact hK M1 (hA.seer (f.mono (by decide) (by decide))) (f.mono (by decide) (by decide))
  · rw [show driftR σ = -1000002 from pit_pos hP] at hK
    conv => whnf
    refine ⟨fun _ => ?_, fun z => absurd rfl z⟩
    refine b_X7_drift_24 hX ?_
    conv => whnf
    refine b_X7_drift_26 hX ?_
    conv => whnf
    exact hK M hA Fm.rf
noncomputable def noticedR (σ : MT) (n dd : Int32) : Int32 := pit (nP (σ 5) = 0) (-1000002) (pit ((1 ≤ n ∧ n ≤ 200) ∧ (0 ≤ dd ∧ dd ≤ 99)) (notS (σ 5) (tN n) dd) (-1000001))
theorem cl_noticed {C : CC} (hC : Clo C) {d : Nat} (hd : 8 ≤ d) {σ M : MT} {K : KT} {n dd : Int32} (hA : AC σ M) (hW : WF σ) (hK : ∀ M1, AC σ M1 → Fm M M1 0 60 → K (some (.int (noticedR σ n dd))) M1) : C d 97 [.ref 0, .int n, .int dd] M K := by
  obtain ⟨pe, p5, pw, p0⟩ := hW.pl
  have hb := hA.2.2.2.2.1.1
  have hp := hb.1.1.trans pe
  unfold noticedR at hK
  refine g_X7_noticed hC (fun X hX => ?_)
  refine b_X7_noticed_0 hX ?_
  conv => whnf
  refine ⟨by omega, c_stands_8 hC hp p5 (fun hP => ?_) (fun hP => ?_)⟩
  rotate_left
  · rw [pit_pos hP] at hK
    conv => whnf
    refine ⟨fun z => absurd rfl z, fun _ => ?_⟩
    conv => whnf
    exact hK M hA Fm.rf
  have hw := pw hP
  have hP0 : ¬ nP (σ 5) = 0 := by omega
  rw [pit_neg hP0] at hK
  conv => whnf
  refine ⟨fun _ => ?_, fun z => absurd z (by decide)⟩
  have bB : ¬ ((1 ≤ n ∧ n ≤ 200) ∧ (0 ≤ dd ∧ dd ≤ 99)) → X 34 [some (.ref 0), some (.int n), some (.int dd)] [] M := fun q => by
    rw [pit_neg q] at hK
    refine b_X7_noticed_34 hX ?_
    conv => whnf
    exact hK M hA Fm.rf
  refine b_X7_noticed_13 hX ?_
  conv => whnf
  refine ⟨by omega, c_within hC (fun a0 b0 => ?_) (fun q => ?_)⟩
  rotate_left
  · conv => whnf
    exact ⟨fun _ => bB (fun z => q z.1), fun z => absurd rfl z⟩
  conv => whnf
  refine ⟨fun q => absurd q (by decide), fun _ => ?_⟩
  conv => whnf
  refine ⟨by omega, c_within hC (fun a1 b1 => ?_) (fun q => ?_)⟩
  rotate_left
  · conv => whnf
    exact ⟨fun z => absurd rfl z, fun _ => bB (fun z => q z.2)⟩
  conv => whnf
  refine ⟨fun _ => ?_, fun z => absurd z (by decide)⟩
  have ok : (1 ≤ n ∧ n ≤ 200) ∧ (0 ≤ dd ∧ dd ≤ 99) := ⟨⟨a0, b0⟩, ⟨a1, b1⟩⟩
  rw [pit_pos ok] at hK
  refine b_X7_noticed_37 hX ?_
  conv => whnf
  obtain ⟨k, -, hk, rfl⟩ := rngL (lo := 1) (hi := 200) (by omega) a0 b0 (by omega)
  rw [tN_nI (by omega)] at hK
  refine ⟨by omega, c_firstNoticed hC (by omega) hb hw.1 hk (fun M1 f => ?_)⟩
  conv => whnf
  exact hK M1 (hA.seer f) (f.mono (by decide) (by decide))
noncomputable def countInR (σ : MT) (n pace : Int32) : Int32 := pit (nP (σ 5) = 0) (-1000002) (pit ((0 ≤ n ∧ n ≤ 200) ∧ (300 ≤ pace ∧ pace ≤ 2500)) (cntIn (σ 5) (tN n) pace) (-1000001))
theorem cl_countIn {C : CC} (hC : Clo C) {d : Nat} (hd : 8 ≤ d) {σ M : MT} {K : KT} {n pace : Int32} (hA : AC σ M) (hW : WF σ) (hK : ∀ M1, AC σ M1 → Fm M M1 0 60 → K (some (.int (countInR σ n pace))) M1) : C d 99 [.ref 0, .int n, .int pace] M K := by
  obtain ⟨pe, p5, pw, p0⟩ := hW.pl
  have hb := hA.2.2.2.2.1.1
  have hp := hb.1.1.trans pe
  unfold countInR at hK
  refine g_X7_countIn hC (fun X hX => ?_)
  refine b_X7_countIn_0 hX ?_
  conv => whnf
  refine ⟨by omega, c_stands_8 hC hp p5 (fun hP => ?_) (fun hP => ?_)⟩
  rotate_left
  · rw [pit_pos hP] at hK
    conv => whnf
    refine ⟨fun z => absurd rfl z, fun _ => ?_⟩
    conv => whnf
    exact hK M hA Fm.rf
  have hw := pw hP
  have hP0 : ¬ nP (σ 5) = 0 := by omega
  rw [pit_neg hP0] at hK
  conv => whnf
  refine ⟨fun _ => ?_, fun z => absurd z (by decide)⟩
  have bB : ¬ ((0 ≤ n ∧ n ≤ 200) ∧ (300 ≤ pace ∧ pace ≤ 2500)) → X 37 [some (.ref 0), some (.int n), some (.int pace)] [] M := fun q => by
    rw [pit_neg q] at hK
    refine b_X7_countIn_37 hX ?_
    conv => whnf
    exact hK M hA Fm.rf
  refine b_X7_countIn_13 hX ?_
  conv => whnf
  refine ⟨by omega, c_within hC (fun a0 b0 => ?_) (fun q => ?_)⟩
  rotate_left
  · conv => whnf
    exact ⟨fun _ => bB (fun z => q z.1), fun z => absurd rfl z⟩
  conv => whnf
  refine ⟨fun q => absurd q (by decide), fun _ => ?_⟩
  conv => whnf
  refine ⟨by omega, c_within hC (fun a1 b1 => ?_) (fun q => ?_)⟩
  rotate_left
  · conv => whnf
    exact ⟨fun z => absurd rfl z, fun _ => bB (fun z => q z.2)⟩
  conv => whnf
  refine ⟨fun _ => ?_, fun z => absurd z (by decide)⟩
  have ok : (0 ≤ n ∧ n ≤ 200) ∧ (300 ≤ pace ∧ pace ≤ 2500) := ⟨⟨a0, b0⟩, ⟨a1, b1⟩⟩
  rw [pit_pos ok] at hK
  refine b_X7_countIn_40 hX ?_
  conv => whnf
  obtain ⟨k, -, hk, rfl⟩ := rngL (lo := 0) (hi := 200) (by omega) a0 b0 (by omega)
  rw [tN_nI (by omega)] at hK
  refine ⟨by omega, c_bestCountIn hC (by omega) hb hw.1 hk a1 b1 (fun M1 f => ?_)⟩
  conv => whnf
  exact hK M1 (hA.seer f) (f.mono (by decide) (by decide))
noncomputable def clappedR (σ : MT) (c n : Int32) : Int32 := pit (nP (σ 5) = 0) (-1000002) (pit ((1 ≤ c ∧ c ≤ 99) ∧ (0 ≤ n ∧ n ≤ 200)) (clapS (σ 5) c (tN n)) (-1000001))
theorem cl_clapped {C : CC} (hC : Clo C) {d : Nat} (hd : 8 ≤ d) {σ M : MT} {K : KT} {c n : Int32} (hA : AC σ M) (hW : WF σ) (hK : ∀ M1, AC σ M1 → Fm M M1 0 60 → K (some (.int (clappedR σ c n))) M1) : C d 105 [.ref 0, .int c, .int n] M K := by
  obtain ⟨pe, p5, pw, p0⟩ := hW.pl
  have hb := hA.2.2.2.2.1.1
  have hp := hb.1.1.trans pe
  unfold clappedR at hK
  refine g_X7_clapped hC (fun X hX => ?_)
  refine b_X7_clapped_0 hX ?_
  conv => whnf
  refine ⟨by omega, c_stands_8 hC hp p5 (fun hP => ?_) (fun hP => ?_)⟩
  rotate_left
  · rw [pit_pos hP] at hK
    conv => whnf
    refine ⟨fun z => absurd rfl z, fun _ => ?_⟩
    conv => whnf
    exact hK M hA Fm.rf
  have hw := pw hP
  have hP0 : ¬ nP (σ 5) = 0 := by omega
  rw [pit_neg hP0] at hK
  conv => whnf
  refine ⟨fun _ => ?_, fun z => absurd z (by decide)⟩
  have bB : ¬ ((1 ≤ c ∧ c ≤ 99) ∧ (0 ≤ n ∧ n ≤ 200)) → X 34 [some (.ref 0), some (.int c), some (.int n)] [] M := fun q => by
    rw [pit_neg q] at hK
    refine b_X7_clapped_34 hX ?_
    conv => whnf
    exact hK M hA Fm.rf
  refine b_X7_clapped_13 hX ?_
  conv => whnf
  refine ⟨by omega, c_within hC (fun a0 b0 => ?_) (fun q => ?_)⟩
  rotate_left
  · conv => whnf
    exact ⟨fun _ => bB (fun z => q z.1), fun z => absurd rfl z⟩
  conv => whnf
  refine ⟨fun q => absurd q (by decide), fun _ => ?_⟩
  conv => whnf
  refine ⟨by omega, c_within hC (fun a1 b1 => ?_) (fun q => ?_)⟩
  rotate_left
  · conv => whnf
    exact ⟨fun z => absurd rfl z, fun _ => bB (fun z => q z.2)⟩
  conv => whnf
  refine ⟨fun _ => ?_, fun z => absurd z (by decide)⟩
  have ok : (1 ≤ c ∧ c ≤ 99) ∧ (0 ≤ n ∧ n ≤ 200) := ⟨⟨a0, b0⟩, ⟨a1, b1⟩⟩
  rw [pit_pos ok] at hK
  refine b_X7_clapped_37 hX ?_
  conv => whnf
  obtain ⟨k, -, hk, rfl⟩ := rngL (lo := 0) (hi := 200) (by omega) a1 b1 (by omega)
  rw [tN_nI (by omega)] at hK
  refine ⟨by omega, c_gainOfClaps hC (by omega) hb hw.1 hk (fun M1 f => ?_)⟩
  conv => whnf
  exact hK M1 (hA.seer f) (f.mono (by decide) (by decide))
noncomputable def nightR (σ : MT) (n seed what : Int32) : Int32 := pit (nP (σ 5) = 0) (-1000002) (pit ((0 ≤ n ∧ n ≤ 100) ∧ (1 ≤ seed ∧ seed ≤ 999999) ∧ (0 ≤ what ∧ what ≤ 1)) (pit (what = 0) (meanS (nightS (σ 5) seed (tN n)).2.1) (nightS (σ 5) seed (tN n)).2.2) (-1000001))
theorem cl_night {C : CC} (hC : Clo C) {d : Nat} (hd : 8 ≤ d) {σ M : MT} {K : KT} {n seed what : Int32} (hA : AC σ M) (hW : WF σ) (hK : ∀ M1, AC σ M1 → Fm M M1 0 60 → K (some (.int (nightR σ n seed what))) M1) : C d 107 [.ref 0, .int n, .int seed, .int what] M K := by
  obtain ⟨pe, p5, pw, p0⟩ := hW.pl
  have hb := hA.2.2.2.2.1.1
  have hp := hb.1.1.trans pe
  unfold nightR at hK
  refine g_X7_night hC (fun X hX => ?_)
  refine b_X7_night_0 hX ?_
  conv => whnf
  refine ⟨by omega, c_stands_8 hC hp p5 (fun hP => ?_) (fun hP => ?_)⟩
  rotate_left
  · rw [pit_pos hP] at hK
    conv => whnf
    refine ⟨fun z => absurd rfl z, fun _ => ?_⟩
    conv => whnf
    exact hK M hA Fm.rf
  have hw := pw hP
  have hP0 : ¬ nP (σ 5) = 0 := by omega
  rw [pit_neg hP0] at hK
  conv => whnf
  refine ⟨fun _ => ?_, fun z => absurd z (by decide)⟩
  have bB : ¬ ((0 ≤ n ∧ n ≤ 100) ∧ (1 ≤ seed ∧ seed ≤ 999999) ∧ (0 ≤ what ∧ what ≤ 1)) → X 43 [some (.ref 0), some (.int n), some (.int seed), some (.int what)] [] M := fun q => by
    rw [pit_neg q] at hK
    refine b_X7_night_43 hX ?_
    conv => whnf
    exact hK M hA Fm.rf
  refine b_X7_night_13 hX ?_
  conv => whnf
  refine ⟨by omega, c_within hC (fun a0 b0 => ?_) (fun q => ?_)⟩
  rotate_left
  · conv => whnf
    exact ⟨fun _ => bB (fun z => q z.1), fun z => absurd rfl z⟩
  conv => whnf
  refine ⟨fun q => absurd q (by decide), fun _ => ?_⟩
  conv => whnf
  refine ⟨by omega, c_within hC (fun a1 b1 => ?_) (fun q => ?_)⟩
  rotate_left
  · conv => whnf
    exact ⟨fun _ => bB (fun z => q z.2.1), fun z => absurd rfl z⟩
  conv => whnf
  refine ⟨fun q => absurd q (by decide), fun _ => ?_⟩
  conv => whnf
  refine ⟨by omega, c_within hC (fun a2 b2 => ?_) (fun q => ?_)⟩
  rotate_left
  · conv => whnf
    exact ⟨fun z => absurd rfl z, fun _ => bB (fun z => q z.2.2)⟩
  conv => whnf
  refine ⟨fun _ => ?_, fun z => absurd z (by decide)⟩
  have ok : (0 ≤ n ∧ n ≤ 100) ∧ (1 ≤ seed ∧ seed ≤ 999999) ∧ (0 ≤ what ∧ what ≤ 1) := ⟨⟨a0, b0⟩, ⟨a1, b1⟩, ⟨a2, b2⟩⟩
  rw [pit_pos ok] at hK
  refine b_X7_night_46 hX ?_
  conv => whnf
  obtain ⟨k, -, hk, rfl⟩ := rngL (lo := 0) (hi := 100) (by omega) a0 b0 (by omega)
  rw [tN_nI (by omega)] at hK
  refine ⟨by omega, c_findNight hC (by omega) hb hw.1 hk (fun M1 g1 g2 g3 => ?_)⟩
  conv => whnf
  refine ⟨fun w0 => ?_, fun w0 => ?_⟩
  · rw [pit_neg w0] at hK
    refine b_X7_night_73 hX ?_
    conv => whnf
    refine b_X7_night_80 hX ?_
    conv => whnf
    rw [g2]
    exact hK M1 (hA.seer g3) (g3.mono (by decide) (by decide))
  · rw [pit_pos w0] at hK
    conv => whnf
    rw [g1]
    exact hK M1 (hA.seer g3) (g3.mono (by decide) (by decide))
noncomputable def deafR (σ : MT) (what : Int32) : Int32 := pit (nP (σ 5) = 0) (-1000002) (pit (0 ≤ what ∧ what ≤ 1) (pit (what = 0) (deafS (σ 5) 25).1 (deafS (σ 5) 25).2) (-1000001))
theorem cl_deaf {C : CC} (hC : Clo C) {d : Nat} (hd : 8 ≤ d) {σ M : MT} {K : KT} {what : Int32} (hA : AC σ M) (hW : WF σ) (hK : ∀ M1, AC σ M1 → Fm M M1 0 60 → K (some (.int (deafR σ what))) M1) : C d 100 [.ref 0, .int what] M K := by
  obtain ⟨pe, p5, pw, p0⟩ := hW.pl
  have hb := hA.2.2.2.2.1.1
  have hp := hb.1.1.trans pe
  unfold deafR at hK
  refine g_X7_deaf hC (fun X hX => ?_)
  refine b_X7_deaf_0 hX ?_
  conv => whnf
  refine ⟨by omega, c_stands_8 hC hp p5 (fun hP => ?_) (fun hP => ?_)⟩
  rotate_left
  · rw [pit_pos hP] at hK
    conv => whnf
    refine ⟨fun z => absurd rfl z, fun _ => ?_⟩
    conv => whnf
    exact hK M hA Fm.rf
  have hw := pw hP
  have hP0 : ¬ nP (σ 5) = 0 := by omega
  rw [pit_neg hP0] at hK
  conv => whnf
  refine ⟨fun _ => ?_, fun z => absurd z (by decide)⟩
  refine b_X7_deaf_13 hX ?_
  conv => whnf
  refine ⟨by omega, c_within hC (fun a0 b0 => ?_) (fun q => ?_)⟩
  rotate_left
  · rw [pit_neg q] at hK
    conv => whnf
    refine ⟨fun z => absurd rfl z, fun _ => ?_⟩
    conv => whnf
    exact hK M hA Fm.rf
  conv => whnf
  refine ⟨fun _ => ?_, fun z => absurd z (by decide)⟩
  have ok : (0 ≤ what ∧ what ≤ 1) := ⟨a0, b0⟩
  rw [pit_pos ok] at hK
  refine b_X7_deaf_25 hX ?_
  conv => whnf
  refine ⟨by omega, c_findDeaf hC (by omega) hb hw (fun M1 g1 g2 g3 => ?_)⟩
  conv => whnf
  refine ⟨fun w0 => ?_, fun w0 => ?_⟩
  · rw [pit_neg w0] at hK
    refine b_X7_deaf_50 hX ?_
    conv => whnf
    refine b_X7_deaf_57 hX ?_
    conv => whnf
    rw [g2]
    exact hK M1 (hA.seer g3) (g3.mono (by decide) (by decide))
  · rw [pit_pos w0] at hK
    conv => whnf
    rw [g1]
    exact hK M1 (hA.seer g3) (g3.mono (by decide) (by decide))
noncomputable def inEarR (σ : MT) (what : Int32) : Int32 := pit (nP (σ 5) = 0) (-1000002) (pit (0 ≤ what ∧ what ≤ 1) (pit (what = 0) (inEarS (σ 5) (nP (σ 5))).1 (inEarS (σ 5) (nP (σ 5))).2) (-1000001))
theorem cl_inEar {C : CC} (hC : Clo C) {d : Nat} (hd : 8 ≤ d) {σ M : MT} {K : KT} {what : Int32} (hA : AC σ M) (hW : WF σ) (hK : ∀ M1, AC σ M1 → Fm M M1 0 60 → K (some (.int (inEarR σ what))) M1) : C d 101 [.ref 0, .int what] M K := by
  obtain ⟨pe, p5, pw, p0⟩ := hW.pl
  have hb := hA.2.2.2.2.1.1
  have hp := hb.1.1.trans pe
  unfold inEarR at hK
  refine g_X7_inEar hC (fun X hX => ?_)
  refine b_X7_inEar_0 hX ?_
  conv => whnf
  refine ⟨by omega, c_stands_8 hC hp p5 (fun hP => ?_) (fun hP => ?_)⟩
  rotate_left
  · rw [pit_pos hP] at hK
    conv => whnf
    refine ⟨fun z => absurd rfl z, fun _ => ?_⟩
    conv => whnf
    exact hK M hA Fm.rf
  have hw := pw hP
  have hP0 : ¬ nP (σ 5) = 0 := by omega
  rw [pit_neg hP0] at hK
  conv => whnf
  refine ⟨fun _ => ?_, fun z => absurd z (by decide)⟩
  refine b_X7_inEar_13 hX ?_
  conv => whnf
  refine ⟨by omega, c_within hC (fun a0 b0 => ?_) (fun q => ?_)⟩
  rotate_left
  · rw [pit_neg q] at hK
    conv => whnf
    refine ⟨fun z => absurd rfl z, fun _ => ?_⟩
    conv => whnf
    exact hK M hA Fm.rf
  conv => whnf
  refine ⟨fun _ => ?_, fun z => absurd z (by decide)⟩
  have ok : (0 ≤ what ∧ what ≤ 1) := ⟨a0, b0⟩
  rw [pit_pos ok] at hK
  refine b_X7_inEar_25 hX ?_
  conv => whnf
  refine ⟨by omega, c_findInEar hC (by omega) hb hw.1 (fun M1 g1 g2 g3 => ?_)⟩
  conv => whnf
  refine ⟨fun w0 => ?_, fun w0 => ?_⟩
  · rw [pit_neg w0] at hK
    refine b_X7_inEar_50 hX ?_
    conv => whnf
    refine b_X7_inEar_57 hX ?_
    conv => whnf
    rw [g2]
    exact hK M1 (hA.seer g3) (g3.mono (by decide) (by decide))
  · rw [pit_pos w0] at hK
    conv => whnf
    rw [g1]
    exact hK M1 (hA.seer g3) (g3.mono (by decide) (by decide))
noncomputable def rndR (b : BV) (what : Int32) : Int32 := match rndS b 200 1 with
  | none => -1000000
  | some (t, u) => pit (what = 0) (nI t) (nI u)
noncomputable def roundR (σ : MT) (what : Int32) : Int32 := pit (nP (σ 5) = 0) (-1000002) (pit (0 ≤ what ∧ what ≤ 1) (rndR (σ 5) what) (-1000001))
theorem cl_round {C : CC} (hC : Clo C) {d : Nat} (hd : 8 ≤ d) {σ M : MT} {K : KT} {what : Int32} (hA : AC σ M) (hW : WF σ) (hK : ∀ M1, AC σ M1 → Fm M M1 0 60 → K (some (.int (roundR σ what))) M1) : C d 96 [.ref 0, .int what] M K := by
  obtain ⟨pe, p5, pw, p0⟩ := hW.pl
  have hb := hA.2.2.2.2.1.1
  have hp := hb.1.1.trans pe
  unfold roundR at hK
  refine g_X7_round hC (fun X hX => ?_)
  refine b_X7_round_0 hX ?_
  conv => whnf
  refine ⟨by omega, c_stands_8 hC hp p5 (fun hP => ?_) (fun hP => ?_)⟩
  rotate_left
  · rw [pit_pos hP] at hK
    conv => whnf
    refine ⟨fun z => absurd rfl z, fun _ => ?_⟩
    conv => whnf
    exact hK M hA Fm.rf
  have hw := pw hP
  have hP0 : ¬ nP (σ 5) = 0 := by omega
  rw [pit_neg hP0] at hK
  conv => whnf
  refine ⟨fun _ => ?_, fun z => absurd z (by decide)⟩
  refine b_X7_round_13 hX ?_
  conv => whnf
  refine ⟨by omega, c_within hC (fun a0 b0 => ?_) (fun q => ?_)⟩
  rotate_left
  · rw [pit_neg q] at hK
    conv => whnf
    refine ⟨fun z => absurd rfl z, fun _ => ?_⟩
    conv => whnf
    exact hK M hA Fm.rf
  conv => whnf
  refine ⟨fun _ => ?_, fun z => absurd z (by decide)⟩
  have ok : (0 ≤ what ∧ what ≤ 1) := ⟨a0, b0⟩
  rw [pit_pos ok] at hK
  refine b_X7_round_25 hX ?_
  conv => whnf
  unfold rndR at hK
  refine ⟨by omega, c_findRound hC (by omega) hb hw.1 (fun t u M1 hr g1 g2 g3 => ?_) (fun M1 hr g3 => ?_)⟩
  · rw [hr] at hK
    conv => whnf
    refine ⟨fun _ => ?_, fun z => absurd z (by decide)⟩
    refine b_X7_round_42 hX ?_
    conv => whnf
    refine ⟨fun w0 => ?_, fun w0 => ?_⟩
    · have hK : ∀ M1, AC σ M1 → Fm M M1 0 60 → K (some (.int (pit (what = 0) (nI t) (nI u)))) M1 := hK
      rw [pit_neg w0] at hK
      refine b_X7_round_56 hX ?_
      conv => whnf
      refine b_X7_round_63 hX ?_
      conv => whnf
      rw [g2]
      exact hK M1 (hA.seer g3) (g3.mono (by decide) (by decide))
    · have hK : ∀ M1, AC σ M1 → Fm M M1 0 60 → K (some (.int (pit (what = 0) (nI t) (nI u)))) M1 := hK
      rw [pit_pos w0] at hK
      conv => whnf
      rw [g1]
      exact hK M1 (hA.seer g3) (g3.mono (by decide) (by decide))
  · rw [hr] at hK
    conv => whnf
    refine ⟨fun z => absurd rfl z, fun _ => ?_⟩
    conv => whnf
    exact hK M1 (hA.seer g3) (g3.mono (by decide) (by decide))
noncomputable def backQ (σ : MT) (p dd n pace : Int32) : Int32 := pit (isPl (nP (σ 5)) p ∧ (1 ≤ dd ∧ dd ≤ 99) ∧ (1 ≤ n ∧ n ≤ 40) ∧ (300 ≤ pace ∧ pace ≤ 2500)) (pit (isOfS (σ 5 (21 + tN p)) 4) (backR (σ 5) (tN p) dd (tN n) pace) (-1000002)) (-1000001)
theorem cl_back {C : CC} (hC : Clo C) {d : Nat} (hd : 8 ≤ d) {σ M : MT} {K : KT} {p dd n pace : Int32} (hA : AC σ M) (hW : WF σ) (hK : ∀ M1, AC σ M1 → Fm M M1 0 60 → K (some (.int (backQ σ p dd n pace))) M1) : C d 103 [.ref 0, .int p, .int dd, .int n, .int pace] M K := by
  obtain ⟨pe, p5, pw, p0⟩ := hW.pl
  have hb := hA.2.2.2.2.1.1
  have hp := hb.1.1.trans pe
  unfold backQ at hK
  refine g_X7_back hC (fun X hX => ?_)
  have bB : ¬ (isPl (nP (σ 5)) p ∧ (1 ≤ dd ∧ dd ≤ 99) ∧ (1 ≤ n ∧ n ≤ 40) ∧ (300 ≤ pace ∧ pace ≤ 2500)) → X 45 [some (.ref 0), some (.int p), some (.int dd), some (.int n), some (.int pace)] [] M := fun q => by
    rw [pit_neg q] at hK
    refine b_X7_back_45 hX ?_
    conv => whnf
    exact hK M hA Fm.rf
  refine b_X7_back_0 hX ?_
  conv => whnf
  refine ⟨by omega, c_has_8 hC hp p5 (fun i0 h0 e0 => ?_) (fun q => ?_)⟩
  rotate_left
  · conv => whnf
    exact ⟨fun _ => bB (fun z => q z.1), fun z => absurd rfl z⟩
  conv => whnf
  refine ⟨fun q => absurd q (by decide), fun _ => ?_⟩
  conv => whnf
  refine ⟨by omega, c_within hC (fun a1 b1 => ?_) (fun q => ?_)⟩
  rotate_left
  · conv => whnf
    exact ⟨fun _ => bB (fun z => q z.2.1), fun z => absurd rfl z⟩
  conv => whnf
  refine ⟨fun q => absurd q (by decide), fun _ => ?_⟩
  conv => whnf
  refine ⟨by omega, c_within hC (fun a2 b2 => ?_) (fun q => ?_)⟩
  rotate_left
  · conv => whnf
    exact ⟨fun _ => bB (fun z => q z.2.2.1), fun z => absurd rfl z⟩
  conv => whnf
  refine ⟨fun q => absurd q (by decide), fun _ => ?_⟩
  conv => whnf
  refine ⟨by omega, c_within hC (fun a3 b3 => ?_) (fun q => ?_)⟩
  rotate_left
  · conv => whnf
    exact ⟨fun z => absurd rfl z, fun _ => bB (fun z => q z.2.2.2)⟩
  conv => whnf
  refine ⟨fun _ => ?_, fun z => absurd z (by decide)⟩
  have ok : isPl (nP (σ 5)) p ∧ (1 ≤ dd ∧ dd ≤ 99) ∧ (1 ≤ n ∧ n ≤ 40) ∧ (300 ≤ pace ∧ pace ≤ 2500) := ⟨⟨i0, h0, e0⟩, ⟨a1, b1⟩, ⟨a2, b2⟩, ⟨a3, b3⟩⟩
  rw [pit_pos ok] at hK
  refine b_X7_back_48 hX ?_
  conv => whnf
  subst e0
  have hw := pw (by omega)
  obtain ⟨k, -, hk, rfl⟩ := rngL (lo := 1) (hi := 40) (by omega) a2 b2 (by omega)
  rw [tN_nI (by omega), tN_nI (by omega)] at hK
  refine ⟨i0, rfl, by omega, ?_⟩
  conv => whnf
  rw [show M 9 i0 = σ 5 (21 + i0) from (hb.2.1 i0 h0).1]
  refine ⟨by omega, c_isOf hC (fun q => ?_) (fun q => ?_)⟩
  · rw [pit_pos q] at hK
    conv => whnf
    refine ⟨fun _ => ?_, fun z => absurd z (by decide)⟩
    refine b_X7_back_67 hX ?_
    conv => whnf
    refine ⟨by omega, c_bestBack hC (by omega) hb hw.1 hw.ok h0 hk a3 b3 (fun M1 f => ?_)⟩
    conv => whnf
    exact hK M1 (hA.seer f) (f.mono (by decide) (by decide))
  · rw [pit_neg q] at hK
    conv => whnf
    refine ⟨fun z => absurd rfl z, fun _ => ?_⟩
    conv => whnf
    exact hK M hA Fm.rf
noncomputable def blameR (σ : MT) (p : Int32) : Int32 := pit (isPl (nP (σ 5)) p) (blameS (σ 5) (tN p)) (-1000001)
theorem cl_blame {C : CC} (hC : Clo C) {d : Nat} (hd : 8 ≤ d) {σ M : MT} {K : KT} {p : Int32} (hA : AC σ M) (hW : WF σ) (hK : ∀ M1, AC σ M1 → Fm M M1 0 60 → K (some (.int (blameR σ p))) M1) : C d 102 [.ref 0, .int p] M K := by
  obtain ⟨pe, p5, pw, p0⟩ := hW.pl
  have hb := hA.2.2.2.2.1.1
  have hp := hb.1.1.trans pe
  unfold blameR at hK
  refine g_X7_blame hC (fun X hX => ?_)
  have bB : ¬ (isPl (nP (σ 5)) p) → X 26 [some (.ref 0), some (.int p)] [] M := fun q => by
    rw [pit_neg q] at hK
    refine b_X7_blame_26 hX ?_
    conv => whnf
    refine b_X7_blame_28 hX ?_
    conv => whnf
    exact hK M hA Fm.rf
  refine b_X7_blame_0 hX ?_
  conv => whnf
  refine ⟨by omega, c_has_8 hC hp p5 (fun i0 h0 e0 => ?_) (fun q => ?_)⟩
  rotate_left
  · conv => whnf
    exact ⟨fun _ => bB (fun z => q z), fun z => absurd rfl z⟩
  conv => whnf
  refine ⟨fun q => absurd q (by decide), fun _ => ?_⟩
  have ok : isPl (nP (σ 5)) p := ⟨i0, h0, e0⟩
  rw [pit_pos ok] at hK
  conv => whnf
  subst e0
  have hw := pw (by omega)
  rw [tN_nI (by omega)] at hK
  refine ⟨by omega, c_blameOf hC (by omega) hb hw h0 (fun M1 f => ?_)⟩
  conv => whnf
  exact hK M1 (hA.seer f) (f.mono (by decide) (by decide))
noncomputable def kindR (σ : MT) (p : Int32) : Int32 := pit (isPl (nP (σ 5)) p) (σ 5 (21 + tN p)) (-1000001)
theorem cl_kind {C : CC} (hC : Clo C) {d : Nat} (hd : 8 ≤ d) {σ M : MT} {K : KT} {p : Int32} (hA : AC σ M) (hW : WF σ) (hK : ∀ M1, AC σ M1 → Fm M M1 0 60 → K (some (.int (kindR σ p))) M1) : C d 110 [.ref 0, .int p] M K := by
  obtain ⟨pe, p5, pw, p0⟩ := hW.pl
  have hb := hA.2.2.2.2.1.1
  have hp := hb.1.1.trans pe
  unfold kindR at hK
  refine g_X7_kind hC (fun X hX => ?_)
  have bB : ¬ (isPl (nP (σ 5)) p) → X 23 [some (.ref 0), some (.int p)] [] M := fun q => by
    rw [pit_neg q] at hK
    refine b_X7_kind_23 hX ?_
    conv => whnf
    refine b_X7_kind_25 hX ?_
    conv => whnf
    exact hK M hA Fm.rf
  refine b_X7_kind_0 hX ?_
  conv => whnf
  refine ⟨by omega, c_has_8 hC hp p5 (fun i0 h0 e0 => ?_) (fun q => ?_)⟩
  rotate_left
  · conv => whnf
    exact ⟨fun _ => bB (fun z => q z), fun z => absurd rfl z⟩
  conv => whnf
  refine ⟨fun q => absurd q (by decide), fun _ => ?_⟩
  have ok : isPl (nP (σ 5)) p := ⟨i0, h0, e0⟩
  rw [pit_pos ok] at hK
  conv => whnf
  subst e0
  rw [tN_nI (by omega)] at hK
  refine ⟨i0, rfl, by omega, ?_⟩
  conv => whnf
  rw [show M 9 i0 = σ 5 (21 + i0) from (hb.2.1 i0 h0).1]
  exact hK M hA Fm.rf
noncomputable def asR (σ : MT) (p k : Int32) : Int32 × MT := pit (isPl (nP (σ 5)) p ∧ (0 ≤ k ∧ k ≤ 5)) (pit (isOfS (σ 5 (21 + tN p)) k) (wel σ p) (fnd σ 3)) (-1000001, σ)
theorem cl_as {C : CC} (hC : Clo C) {d : Nat} (hd : 8 ≤ d) {σ M : MT} {K : KT} {p k : Int32} (hA : AC σ M) (hW : WF σ) (hK : ∀ M1, AC (asR σ p k).2 M1 → Fm M M1 0 60 → K (some (.int (asR σ p k).1)) M1) : C d 111 [.ref 0, .int p, .int k] M K := by
  obtain ⟨pe, p5, pw, p0⟩ := hW.pl
  have hb := hA.2.2.2.2.1.1
  have hp := hb.1.1.trans pe
  unfold asR at hK
  refine g_X7_as hC (fun X hX => ?_)
  have bB : ¬ (isPl (nP (σ 5)) p ∧ (0 ≤ k ∧ k ≤ 5)) → X 20 [some (.ref 0), some (.int p), some (.int k)] [] M := fun q => by
    rw [pit_neg q] at hK
    refine b_X7_as_20 hX ?_
    conv => whnf
    exact hK M hA Fm.rf
  refine b_X7_as_0 hX ?_
  conv => whnf
  refine ⟨by omega, c_has_8 hC hp p5 (fun i0 h0 e0 => ?_) (fun q => ?_)⟩
  rotate_left
  · conv => whnf
    exact ⟨fun _ => bB (fun z => q z.1), fun z => absurd rfl z⟩
  conv => whnf
  refine ⟨fun q => absurd q (by decide), fun _ => ?_⟩
  conv => whnf
  refine ⟨by omega, c_within hC (fun a1 b1 => ?_) (fun q => ?_)⟩
  rotate_left
  · conv => whnf
    exact ⟨fun z => absurd rfl z, fun _ => bB (fun z => q z.2)⟩
  conv => whnf
  refine ⟨fun _ => ?_, fun z => absurd z (by decide)⟩
  have ok : isPl (nP (σ 5)) p ∧ (0 ≤ k ∧ k ≤ 5) := ⟨⟨i0, h0, e0⟩, ⟨a1, b1⟩⟩
  rw [pit_pos ok] at hK
  refine b_X7_as_23 hX ?_
  conv => whnf
  subst e0
  rw [tN_nI (by omega)] at hK
  refine ⟨i0, rfl, by omega, ?_⟩
  conv => whnf
  rw [show M 9 i0 = σ 5 (21 + i0) from (hb.2.1 i0 h0).1]
  refine ⟨by omega, c_isOf hC (fun q => ?_) (fun q => ?_)⟩
  · rw [pit_pos q] at hK
    conv => whnf
    refine ⟨fun _ => ?_, fun z => absurd z (by decide)⟩
    refine b_X7_as_45 hX ?_
    conv => whnf
    refine ⟨by omega, c_withoutFinding hC ?_⟩
    conv => whnf
    exact hK _ hA.st (Fm.wr Fm.rf (by decide) (by decide))
  · rw [pit_neg q] at hK
    conv => whnf
    refine ⟨fun z => absurd rfl z, fun _ => ?_⟩
    conv => whnf
    refine ⟨by omega, c_found hC ?_⟩
    conv => whnf
    exact hK _ hA.st (Fm.wr Fm.rf (by decide) (by decide))
noncomputable def aheadR (σ : MT) (p n : Int32) : Int32 := pit (nP (σ 5) = 0) (-1000002) (pit ((p = -1 ∨ isPl (nP (σ 5)) p) ∧ (0 ≤ n ∧ n ≤ 200)) (pit (p = -1) (meanS (playsS (-1) (tN n) (σ 5))) (playsS (-1) (tN n) (σ 5) (26 + tN p))) (-1000001))
theorem cl_ahead {C : CC} (hC : Clo C) {d : Nat} (hd : 8 ≤ d) {σ M : MT} {K : KT} {p n : Int32} (hA : AC σ M) (hW : WF σ) (hK : ∀ M1, AC σ M1 → Fm M M1 0 60 → K (some (.int (aheadR σ p n))) M1) : C d 94 [.ref 0, .int p, .int n] M K := by
  obtain ⟨pe, p5, pw, p0⟩ := hW.pl
  have hb := hA.2.2.2.2.1.1
  have hp := hb.1.1.trans pe
  refine g_X7_ahead hC (fun X hX => ?_)
  refine b_X7_ahead_0 hX ?_
  conv => whnf
  refine ⟨by omega, c_stands_8 hC hp p5 (fun hP => ?_) (fun hP => ?_)⟩
  rotate_left
  · rw [show aheadR σ p n = -1000002 from pit_pos hP] at hK
    conv => whnf
    refine ⟨fun z => absurd rfl z, fun _ => ?_⟩
    conv => whnf
    exact hK M hA Fm.rf
  have hw := pw hP
  rw [show aheadR σ p n = _ from pit_neg (show ¬ nP (σ 5) = 0 by omega)] at hK
  conv => whnf
  refine ⟨fun _ => ?_, fun z => absurd z (by decide)⟩
  have b40 : ¬ ((p = -1 ∨ isPl (nP (σ 5)) p) ∧ (0 ≤ n ∧ n ≤ 200)) → X 40 [some (.ref 0), some (.int p), some (.int n), none] [] M := fun q => by
    rw [pit_neg q] at hK
    refine b_X7_ahead_40 hX ?_
    conv => whnf
    exact hK M hA Fm.rf
  have b29 : (p = -1 ∨ isPl (nP (σ 5)) p) → X 29 [some (.ref 0), some (.int p), some (.int n), none] [] M := fun hp1 => by
    refine b_X7_ahead_29 hX ?_
    conv => whnf
    refine ⟨by omega, c_within hC (fun a0 b0 => ?_) (fun q => ?_)⟩
    rotate_left
    · conv => whnf
      exact ⟨fun z => absurd rfl z, fun _ => b40 (fun z => q z.2)⟩
    conv => whnf
    refine ⟨fun _ => ?_, fun z => absurd z (by decide)⟩
    rw [pit_pos ⟨hp1, a0, b0⟩] at hK
    obtain ⟨k, -, hk, rfl⟩ := rngL (lo := 0) (hi := 200) (by omega) a0 b0 (by omega)
    rw [tN_nI (by omega)] at hK
    refine b_X7_ahead_43 hX ?_
    conv => whnf
    refine ⟨by omega, c_behind_8 hC (by omega) hb hw.1 hk (fun M1 g1 g2 => ?_)⟩
    have hz1 : SZb (playsS (-1) k (σ 5)) := hw.1.plays
    conv => whnf
    refine ⟨fun q => ?_, fun q => ?_⟩
    · rw [pit_neg q] at hK
      obtain ⟨i, hi, rfl⟩ := hp1.resolve_left q
      rw [tN_nI (by omega)] at hK
      refine b_X7_ahead_68 hX ?_
      conv => whnf
      refine ⟨i, rfl, by omega, ?_⟩
      conv => whnf
      refine b_X7_ahead_74 hX ?_
      conv => whnf
      rw [show M1 28 i = playsS (-1) k (σ 5) (26 + i) from (g1.2.1 i (by rw [nP_plays]; exact hi)).2.2]
      exact hK M1 (hA.seer (g2.mono (by decide) (by decide))) (g2.mono (by decide) (by decide))
    · rw [pit_pos q] at hK
      conv => whnf
      refine ⟨by omega, c_together_25 hC g1 hz1.1 hz1.2.2.1 ?_⟩
      conv => whnf
      exact hK M1 (hA.seer (g2.mono (by decide) (by decide))) (g2.mono (by decide) (by decide))
  refine b_X7_ahead_13 hX ?_
  conv => whnf
  refine ⟨fun q => b29 (Or.inl q), fun q => ?_⟩
  conv => whnf
  refine ⟨by omega, c_has_8 hC hp p5 (fun i hi ei => ?_) (fun q2 => ?_)⟩
  · conv => whnf
    refine ⟨fun q => absurd q (by decide), fun _ => ?_⟩
    exact b29 (Or.inr ⟨i, hi, ei⟩)
  · conv => whnf
    exact ⟨fun _ => b40 (fun z => z.1.elim q q2), fun z => absurd rfl z⟩
noncomputable def faultR (σ : MT) : Int32 := σ 3 1
theorem cl_fault {C : CC} (hC : Clo C) {d : Nat} {σ M : MT} {K : KT} (hA : AC σ M) (hK : K (some (.int (faultR σ))) M) : C d 84 [.ref 0] M K := by
  refine g_X7_fault hC (fun X hX => ?_)
  refine b_X7_fault_0 hX ?_
  conv => whnf
  rw [hA.2.1.2]
  exact hK
noncomputable def statusR (σ : MT) : Int32 := σ 3 0
theorem cl_status {C : CC} (hC : Clo C) {d : Nat} {σ M : MT} {K : KT} (hA : AC σ M) (hK : K (some (.int (statusR σ))) M) : C d 115 [.ref 0] M K := by
  refine g_X7_status hC (fun X hX => ?_)
  refine b_X7_status_0 hX ?_
  conv => whnf
  rw [hA.2.1.1]
  exact hK
theorem isPl_iff {t : Nat} {x : Int32} (ht : t < 1000000) : (0 ≤ x ∧ x ≤ nI t - 1) ↔ isPl t x := by
  have e : (nI t - 1).toInt = (t : Int) - 1 := sub_toInt (c := 1) (by omega) (by omega)
  constructor
  · rintro ⟨h1, h2⟩
    obtain ⟨j, hj, rfl⟩ := nI_of (Int32.not_lt.mpr h1)
    refine ⟨j, ?_, rfl⟩
    rw [Int32.le_iff_toInt_le, e, nI_toInt hj] at h2
    omega
  · rintro ⟨i, hi, rfl⟩
    refine ⟨nI_pos' (by omega), ?_⟩
    rw [Int32.le_iff_toInt_le, e, nI_toInt (by omega)]
    omega
noncomputable def traceR (σ : MT) (i : Int32) : Int32 := pit (isPl (tN (σ 3 4)) i) (σ 8 (tN i)) (-1000000)
theorem cl_trace {C : CC} (hC : Clo C) {d : Nat} (hd : 8 ≤ d) {σ M : MT} {K : KT} {i : Int32} (hA : AC σ M) (hW : WF σ) (hK : K (some (.int (traceR σ i))) M) : C d 113 [.ref 0, .int i] M K := by
  obtain ⟨t, ht, et⟩ := hW.2.2.2.1
  obtain ⟨a1, a2⟩ := hA.2.2.2.2.2
  unfold traceR at hK
  rw [et, tN_nI (by omega)] at hK
  refine g_X7_trace hC (fun X hX => ?_)
  refine b_X7_trace_0 hX ?_
  conv => whnf
  rw [a1, et]
  refine ⟨by omega, c_within hC (fun h1 h2 => ?_) (fun q => ?_)⟩
  · obtain ⟨k, hk, rfl⟩ := (isPl_iff (by omega)).mp ⟨h1, h2⟩
    rw [pit_pos ⟨k, hk, rfl⟩, tN_nI (by omega)] at hK
    conv => whnf
    refine ⟨fun q => absurd q (by decide), fun _ => ?_⟩
    conv => whnf
    refine ⟨k, rfl, by omega, ?_⟩
    conv => whnf
    rw [a2 k (by omega)]
    exact hK
  · rw [pit_neg (fun z => q ((isPl_iff (by omega)).mpr z))] at hK
    conv => whnf
    refine ⟨fun _ => ?_, fun z => absurd rfl z⟩
    refine b_X7_trace_29 hX ?_
    conv => whnf
    refine b_X7_trace_31 hX ?_
    conv => whnf
    exact hK
noncomputable def barR (σ : MT) (k : Int32) : Int32 := pit (isPl (nB (σ 5)) k) (σ 5 (9 + tN k)) (-1000001)
theorem WF.bl {σ : MT} (h : WF σ) : σ 5 4 = nI (nB (σ 5)) ∧ nB (σ 5) ≤ 12 := by
  rcases h.2.2.2.2.1 with ⟨-, h0⟩ | hw
  · have e : nB (σ 5) = 0 := by unfold nB; rw [h0 4 (by omega)]; rfl
    exact ⟨by rw [e, h0 4 (by omega)]; rfl, by omega⟩
  · exact ⟨hw.1.2.2.2.1, hw.1.2.2.2.2.1⟩
theorem cl_bar {C : CC} (hC : Clo C) {d : Nat} (hd : 8 ≤ d) {σ M : MT} {K : KT} {k : Int32} (hA : AC σ M) (hW : WF σ) (hK : K (some (.int (barR σ k))) M) : C d 93 [.ref 0, .int k] M K := by
  have hb := hA.2.2.2.2.1.1
  obtain ⟨be, b12⟩ := hW.bl
  have e1 : M 8 1 = nI (nB (σ 5)) := hb.1.2.1.trans be
  unfold barR at hK
  refine g_X7_bar hC (fun X hX => ?_)
  refine b_X7_bar_0 hX ?_
  conv => whnf
  rw [e1]
  refine ⟨by omega, c_within hC (fun h1 h2 => ?_) (fun q => ?_)⟩
  · obtain ⟨j, hj, rfl⟩ := (isPl_iff (by omega)).mp ⟨h1, h2⟩
    rw [pit_pos ⟨j, hj, rfl⟩, tN_nI (by omega)] at hK
    conv => whnf
    refine ⟨fun q => absurd q (by decide), fun _ => ?_⟩
    conv => whnf
    refine ⟨by omega, c_barAt_8 hC e1 b12 hj ?_⟩
    conv => whnf
    rw [hb.2.2.2 j hj]
    exact hK
  · rw [pit_neg (fun z => q ((isPl_iff (by omega)).mpr z))] at hK
    conv => whnf
    refine ⟨fun _ => ?_, fun z => absurd rfl z⟩
    refine b_X7_bar_28 hX ?_
    conv => whnf
    refine b_X7_bar_30 hX ?_
    conv => whnf
    exact hK
noncomputable def earR (σ : MT) (i j : Int32) : Int32 := pit (canH (nP (σ 5)) i j) (σ 5 (36 + (5 * tN i + tN j))) (-1000001)
theorem cl_ear {C : CC} (hC : Clo C) {d : Nat} (hd : 8 ≤ d) {σ M : MT} {K : KT} {i j : Int32} (hA : AC σ M) (hW : WF σ) (hK : K (some (.int (earR σ i j))) M) : C d 92 [.ref 0, .int i, .int j] M K := by
  obtain ⟨pe, p5, pw, p0⟩ := hW.pl
  have hb := hA.2.2.2.2.1.1
  have hp := hb.1.1.trans pe
  unfold earR at hK
  refine g_X7_ear hC (fun X hX => ?_)
  refine b_X7_ear_0 hX ?_
  conv => whnf
  refine ⟨by omega, c_canHear_8 hC (by omega) hp p5 (fun x y hx hy hxy ex ey => ?_) (fun q => ?_)⟩
  · rw [pit_pos ⟨⟨x, hx, ex⟩, ⟨y, hy, ey⟩, fun z => hxy ((eq_nI (by omega) (by omega)).mp (by rw [← ex, ← ey]; exact z))⟩, ex, ey, tN_nI (by omega), tN_nI (by omega)] at hK
    subst ex; subst ey
    conv => whnf
    refine ⟨fun q => absurd q (by decide), fun _ => ?_⟩
    conv => whnf
    refine ⟨by omega, c_weight_8 hC (by omega) (by omega) ?_⟩
    conv => whnf
    rw [hb.2.2.1 (5 * x + y) (by omega)]
    exact hK
  · rw [pit_neg q] at hK
    conv => whnf
    refine ⟨fun _ => ?_, fun z => absurd rfl z⟩
    refine b_X7_ear_24 hX ?_
    conv => whnf
    refine b_X7_ear_26 hX ?_
    conv => whnf
    exact hK
