/-! THE REFERENCE: questions -/
theorem Wk.fr {b : BV} {st : Int32} {M M' : MT} (h : Wk b st M) (e1 : M' 61 = M 61) (e2 : M' 62 = M 62) (e : ∀ q, 69 ≤ q → q ≤ 73 → q ≠ 70 → M' q = M q) : Wk b st M' := by
  obtain ⟨w1, w2, w3, w4, w5, w6⟩ := h
  refine ⟨fun k hk => ?_, fun i hi => ?_, ?_, ?_, fun p hp => ?_, fun i hi => ?_⟩
  · rw [e2]; exact w1 k hk
  · rw [e2]; exact w2 i hi
  · rw [e1]; exact w3
  · rw [e1]; exact w4
  · rw [e 71 (by decide) (by decide) (by decide), e 72 (by decide) (by decide) (by decide), e 69 (by decide) (by decide) (by decide)]; exact w5 p hp
  · rw [e 73 (by decide) (by decide) (by decide)]; exact w6 i hi
theorem Wk.sort {b : BV} {st : Int32} {M : MT} {p : Nat} {v : Int32} (h : Wk b st M) (hp : p < 5) : Wk (setB b (21 + p) v) st (wr M 71 p v) := by
  obtain ⟨w1, w2, w3, w4, w5, w6⟩ := h
  refine ⟨fun k hk => ?_, fun i hi => ?_, ?_, ?_, fun i hi => ?_, fun i hi => ?_⟩
  · rw [wr_off (by decide), setB_ne (by omega)]; exact w1 k hk
  · rw [wr_off (by decide), setB_ne (by omega)]; exact w2 i hi
  · rw [wr_off (by decide), setB_ne (by omega)]; exact w3
  · rw [wr_off (by decide)]; exact w4
  · exact ⟨(Decidable.byCases (fun (z : i = p) => by subst z; rw [wr_at, setB_at]) (fun (z : ¬ i = p) => by rw [wr_ne z, setB_ne (by omega)]; exact (w5 i hi).1)), (by rw [wr_off (by decide), setB_ne (by omega)]; exact (w5 i hi).2.1), (by rw [wr_off (by decide), setB_ne (by omega)]; exact (w5 i hi).2.2)⟩
  · rw [wr_off (by decide), setB_ne (by omega)]; exact w6 i hi
theorem Wk.haste {b : BV} {st : Int32} {M : MT} {p : Nat} {v : Int32} (h : Wk b st M) (hp : p < 5) : Wk (setB b (31 + p) v) st (wr M 72 p v) := by
  obtain ⟨w1, w2, w3, w4, w5, w6⟩ := h
  refine ⟨fun k hk => ?_, fun i hi => ?_, ?_, ?_, fun i hi => ?_, fun i hi => ?_⟩
  · rw [wr_off (by decide), setB_ne (by omega)]; exact w1 k hk
  · rw [wr_off (by decide), setB_ne (by omega)]; exact w2 i hi
  · rw [wr_off (by decide), setB_ne (by omega)]; exact w3
  · rw [wr_off (by decide)]; exact w4
  · exact ⟨(by rw [wr_off (by decide), setB_ne (by omega)]; exact (w5 i hi).1), (Decidable.byCases (fun (z : i = p) => by subst z; rw [wr_at, setB_at]) (fun (z : ¬ i = p) => by rw [wr_ne z, setB_ne (by omega)]; exact (w5 i hi).2.1)), (by rw [wr_off (by decide), setB_ne (by omega)]; exact (w5 i hi).2.2)⟩
  · rw [wr_off (by decide), setB_ne (by omega)]; exact w6 i hi
theorem Wk.pace {b : BV} {st : Int32} {M : MT} {p : Nat} {v : Int32} (h : Wk b st M) (hp : p < 5) : Wk (setB b (26 + p) v) st (wr M 69 p v) := by
  obtain ⟨w1, w2, w3, w4, w5, w6⟩ := h
  refine ⟨fun k hk => ?_, fun i hi => ?_, ?_, ?_, fun i hi => ?_, fun i hi => ?_⟩
  · rw [wr_off (by decide), setB_ne (by omega)]; exact w1 k hk
  · rw [wr_off (by decide), setB_ne (by omega)]; exact w2 i hi
  · rw [wr_off (by decide), setB_ne (by omega)]; exact w3
  · rw [wr_off (by decide)]; exact w4
  · exact ⟨(by rw [wr_off (by decide), setB_ne (by omega)]; exact (w5 i hi).1), (by rw [wr_off (by decide), setB_ne (by omega)]; exact (w5 i hi).2.1), (Decidable.byCases (fun (z : i = p) => by subst z; rw [wr_at, setB_at]) (fun (z : ¬ i = p) => by rw [wr_ne z, setB_ne (by omega)]; exact (w5 i hi).2.2))⟩
  · rw [wr_off (by decide), setB_ne (by omega)]; exact w6 i hi
theorem Wk.ear {b : BV} {st : Int32} {M : MT} {p : Nat} {v : Int32} (h : Wk b st M) (hp : p < 25) : Wk (setB b (36 + p) v) st (wr M 73 p v) := by
  obtain ⟨w1, w2, w3, w4, w5, w6⟩ := h
  refine ⟨fun k hk => ?_, fun i hi => ?_, ?_, ?_, fun i hi => ?_, fun i hi => ?_⟩
  · rw [wr_off (by decide), setB_ne (by omega)]; exact w1 k hk
  · rw [wr_off (by decide), setB_ne (by omega)]; exact w2 i hi
  · rw [wr_off (by decide), setB_ne (by omega)]; exact w3
  · rw [wr_off (by decide)]; exact w4
  · exact ⟨(by rw [wr_off (by decide), setB_ne (by omega)]; exact (w5 i hi).1), (by rw [wr_off (by decide), setB_ne (by omega)]; exact (w5 i hi).2.1), (by rw [wr_off (by decide), setB_ne (by omega)]; exact (w5 i hi).2.2)⟩
  · by_cases z : i = p
    · subst z; rw [wr_at, setB_at]
    · rw [wr_ne z, setB_ne (by omega)]; exact w6 i hi
theorem Wk.str {b : BV} {st v : Int32} {M : MT} (h : Wk b st M) : Wk b v (wr M 61 22 v) := by
  obtain ⟨w1, w2, w3, w4, w5, w6⟩ := h
  refine ⟨fun k hk => ?_, fun i hi => ?_, ?_, wr_at, fun p hp => ?_, fun i hi => ?_⟩
  · rw [wr_off (by decide)]; exact w1 k hk
  · rw [wr_off (by decide)]; exact w2 i hi
  · rw [wr_ne (by decide)]; exact w3
  · rw [wr_off (by decide), wr_off (by decide), wr_off (by decide)]; exact w5 p hp
  · rw [wr_off (by decide)]; exact w6 i hi
theorem kindsOK.set {b : BV} {k : Nat} {v : Int32} (h : kindsOK b) (h5 : nP b ≤ 5) (hk : 26 ≤ k) : kindsOK (setB b k v) := fun i hi => by
  rw [nP_setB (by omega)] at hi
  rw [setB_ne (by omega)]
  exact h i hi
theorem kindsOK.sort {b : BV} {p : Nat} (h : kindsOK b) : kindsOK (setB b (21 + p) 4) := fun i hi => by
  rw [nP_setB (by omega)] at hi
  by_cases z : i = p
  · subst z; exact ⟨4, by omega, by omega, by rw [setB_at]; rfl⟩
  · rw [setB_ne (by omega)]; exact h i hi
/-- other paces, the rest alike -/
theorem Wk.paces {b b' : BV} {st : Int32} {M : MT} {M' : MT} (h : Wk b st M) (e1 : ∀ q, q ≠ 69 → M' q = M q) (e2 : ∀ p, p < 5 → M' 69 p = b' (26 + p)) (e3 : ∀ k, (k < 26 ∨ 31 ≤ k) → b' k = b k) : Wk b' st M' := by
  obtain ⟨w1, w2, w3, w4, w5, w6⟩ := h
  refine ⟨fun k hk => ?_, fun i hi => ?_, ?_, ?_, fun p hp => ?_, fun i hi => ?_⟩
  · rw [e1 62 (by decide), e3 k (by omega)]; exact w1 k hk
  · rw [e1 62 (by decide), e3 _ (by omega)]; exact w2 i hi
  · rw [e1 61 (by decide), e3 _ (by omega)]; exact w3
  · rw [e1 61 (by decide)]; exact w4
  · rw [e1 71 (by decide), e1 72 (by decide), e3 _ (by omega), e3 _ (by omega)]; exact ⟨(w5 p hp).1, (w5 p hp).2.1, e2 p hp⟩
  · rw [e1 73 (by decide), e3 _ (by omega)]; exact w6 i hi
theorem mo_ahead {C : CC} (hC : Clo C) {d : Nat} (hd : 8 ≤ d) {σ M : MT} {K : KT} {p n : Int32} (hA : AM σ M) (hW : WF σ) (hK : ∀ M1, AM σ M1 → Fm M M1 61 75 → K (some (.int (aheadR σ p n))) M1) : C d 168 [.ref 61, .int p, .int n] M K := by
  obtain ⟨pe, p5, pw, p0⟩ := hW.pl
  have hb : ∀ k, k < 61 → M 62 k = σ 5 k := fun k hk => (hA.2.2.2.2.1 k hk).1
  have e5 : M 62 5 = nI (nP (σ 5)) := (hb 5 (by omega)).trans pe
  replace hK : ∀ M1, Fs M M1 → K (some (.int (aheadR σ p n))) M1 := fun M1 f => hK M1 (hA.scr f) f.fm
  unfold aheadR at hK
  refine g_X8_ahead hC (fun X hX => ?_)
  refine b_X8_ahead_0 hX ?_
  conv => whnf
  refine ⟨by omega, m_none hC hA hW (fun hP => ?_) (fun hP => ?_)⟩
  · rw [pit_pos hP] at hK
    conv => whnf
    refine ⟨fun q => absurd q (by decide), fun _ => ?_⟩
    conv => whnf
    exact hK M Fs.rf
  have hw := pw hP
  have hz := hw.1
  have hP0 : ¬ nP (σ 5) = 0 := by omega
  rw [pit_neg hP0] at hK
  conv => whnf
  refine ⟨fun _ => ?_, fun z => absurd rfl z⟩
  have b35 : ¬ ((p = -1 ∨ isPl (nP (σ 5)) p) ∧ (0 ≤ n ∧ n ≤ 200)) → X 35 [some (.ref 61), some (.int p), some (.int n)] [] M := fun q => by
    rw [pit_neg q] at hK
    refine b_X8_ahead_35 hX ?_
    conv => whnf
    exact hK M Fs.rf
  have b23 : (p = -1 ∨ isPl (nP (σ 5)) p) → X 23 [some (.ref 61), some (.int p), some (.int n)] [] M := fun hp1 => by
    refine b_X8_ahead_23 hX ?_
    conv => whnf
    refine ⟨by omega, m_in hC (fun a0 b0 => ?_) (fun q => ?_)⟩
    rotate_left
    · conv => whnf
      exact ⟨fun z => absurd rfl z, fun _ => b35 (fun z => q z.2)⟩
    rw [pit_pos ⟨hp1, a0, b0⟩] at hK
    obtain ⟨k, -, hk, rfl⟩ := rngL (lo := 0) (hi := 200) (by omega) a0 b0 (by omega)
    rw [tN_nI (by omega)] at hK
    conv => whnf
    refine ⟨fun _ => ?_, fun z => absurd z (by decide)⟩
    refine b_X8_ahead_38 hX ?_
    conv => whnf
    refine ⟨by omega, m_layNow hC hb (fun M1 g1 f1 => ?_)⟩
    conv => whnf
    refine ⟨by omega, m_playsMany hC (by omega) hk g1 hz hw.kinds (fun M2 g2 f2 => ?_)⟩
    conv => whnf
    rcases hp1 with rfl | ⟨i, hi, rfl⟩
    · rw [pit_pos rfl] at hK
      refine ⟨fun q => absurd q (by decide), fun _ => ?_⟩
      conv => whnf
      refine ⟨by omega, m_mean hC g2 hz.plays ?_⟩
      conv => whnf
      exact hK M2 (f1.tr f2)
    · have e : ¬ nI i = -1 := fun z => absurd (show (0 : Int32) ≤ nI i from nI_pos' (by omega)) (by rw [z]; decide)
      rw [pit_neg e, tN_nI (by omega)] at hK
      refine ⟨fun _ => ?_, fun q => absurd (nI_pos' (by omega)) q⟩
      refine b_X8_ahead_58 hX ?_
      conv => whnf
      refine ⟨i, rfl, by omega, ?_⟩
      conv => whnf
      refine b_X8_ahead_64 hX ?_
      conv => whnf
      rw [(g2.2.2.2.2.1 i (by omega)).2.2]
      exact hK M2 (f1.tr f2)
  refine b_X8_ahead_10 hX ?_
  conv => whnf
  refine ⟨by omega, m_isPlayer hC (by omega) e5 p5 (fun i hi ei => ?_) (fun q => ?_)⟩
  · conv => whnf
    refine ⟨fun _ => b23 (Or.inr ⟨i, hi, ei⟩), fun z => absurd z (by decide)⟩
  · conv => whnf
    refine ⟨fun z => absurd rfl z, fun _ => ?_⟩
    conv => whnf
    exact ⟨fun q2 => b35 (fun z => z.1.elim q2 q), fun q2 => b23 (Or.inl q2)⟩
theorem mo_drift {C : CC} (hC : Clo C) {d : Nat} (hd : 8 ≤ d) {σ M : MT} {K : KT} (hA : AM σ M) (hW : WF σ) (hK : ∀ M1, AM σ M1 → Fm M M1 61 75 → K (some (.int (driftR σ))) M1) : C d 169 [.ref 61] M K := by
  obtain ⟨pe, p5, pw, p0⟩ := hW.pl
  have hb : ∀ k, k < 61 → M 62 k = σ 5 k := fun k hk => (hA.2.2.2.2.1 k hk).1
  have e5 : M 62 5 = nI (nP (σ 5)) := (hb 5 (by omega)).trans pe
  replace hK : ∀ M1, Fs M M1 → K (some (.int (driftR σ))) M1 := fun M1 f => hK M1 (hA.scr f) f.fm
  unfold driftR at hK
  refine g_X8_drift hC (fun X hX => ?_)
  refine b_X8_drift_0 hX ?_
  conv => whnf
  refine ⟨by omega, m_none hC hA hW (fun hP => ?_) (fun hP => ?_)⟩
  · rw [pit_pos hP] at hK
    conv => whnf
    refine ⟨fun q => absurd q (by decide), fun _ => ?_⟩
    conv => whnf
    exact hK M Fs.rf
  have hw := pw hP
  rw [pit_neg (by omega)] at hK
  conv => whnf
  refine ⟨fun _ => ?_, fun z => absurd rfl z⟩
  refine b_X8_drift_10 hX ?_
  conv => whnf
  refine ⟨by omega, m_layNow hC hb (fun M1 g1 f1 => ?_)⟩
  conv => whnf
  refine ⟨by omega, m_driftBy hC (by omega) g1 hw.1 hw.kinds (fun M2 f2 => ?_)⟩
  conv => whnf
  exact hK M2 (f1.tr f2)
theorem mo_blame {C : CC} (hC : Clo C) {d : Nat} (hd : 8 ≤ d) {σ M : MT} {K : KT} {p : Int32} (hA : AM σ M) (hW : WF σ) (hK : ∀ M1, AM σ M1 → Fm M M1 61 75 → K (some (.int (blameR σ p))) M1) : C d 177 [.ref 61, .int p] M K := by
  obtain ⟨pe, p5, pw, p0⟩ := hW.pl
  have hb : ∀ k, k < 61 → M 62 k = σ 5 k := fun k hk => (hA.2.2.2.2.1 k hk).1
  have e5 : M 62 5 = nI (nP (σ 5)) := (hb 5 (by omega)).trans pe
  replace hK : ∀ M1, Fs M M1 → K (some (.int (blameR σ p))) M1 := fun M1 f => hK M1 (hA.scr f) f.fm
  unfold blameR at hK
  refine g_X8_blame hC (fun X hX => ?_)
  refine b_X8_blame_0 hX ?_
  conv => whnf
  refine ⟨by omega, m_isPlayer hC (by omega) e5 p5 (fun i hi ei => ?_) (fun q => ?_)⟩
  rotate_left
  · rw [pit_neg q] at hK
    conv => whnf
    refine ⟨fun z => absurd rfl z, fun _ => ?_⟩
    conv => whnf
    exact hK M Fs.rf
  rw [pit_pos ⟨i, hi, ei⟩] at hK
  subst ei
  rw [tN_nI (by omega)] at hK
  have hw := pw (by omega)
  conv => whnf
  refine ⟨fun _ => ?_, fun z => absurd z (by decide)⟩
  refine b_X8_blame_11 hX ?_
  conv => whnf
  refine ⟨by omega, m_layNow hC hb (fun M1 g1 f1 => ?_)⟩
  conv => whnf
  refine ⟨by omega, m_driftBy hC (by omega) g1 hw.1 hw.kinds (fun M2 f2 => ?_)⟩
  conv => whnf
  refine ⟨by omega, m_layNow (b := σ 5) hC (fun k hk => by rw [(f1.tr f2).1 62 (by decide) (by decide)]; exact hb k hk) (fun M3 g3 f3 => ?_)⟩
  conv => whnf
  refine ⟨i, rfl, by omega, ?_⟩
  conv => whnf
  refine ⟨by omega, m_driftBy hC (by omega) (g3.haste (by omega)).str (hw.1.setB (by omega)) (hw.kinds.set p5 (by omega)) (fun M4 f4 => ?_)⟩
  conv => whnf
  exact hK M4 (((f1.tr f2).tr (Fs.w1 (Fs.sw f3 (by decide) (by decide)) (Or.inr rfl))).tr f4)
noncomputable def scanI (f : Nat → Prop) (n k : Nat) : Int32 := match scanS f n k with
  | some k => nI k
  | none => -1000000
theorem scanI_hit {f : Nat → Prop} {n k : Nat} (h : f k) : scanI f (n + 1) k = nI k := by unfold scanI; rw [scanS_hit h]
theorem scanI_miss {f : Nat → Prop} {n k : Nat} (h : ¬ f k) : scanI f (n + 1) k = scanI f n (k + 1) := by unfold scanI; rw [scanS_miss h]
theorem mo_noticed {C : CC} (hC : Clo C) {d : Nat} (hd : 8 ≤ d) {σ M : MT} {K : KT} {n dd : Int32} (hA : AM σ M) (hW : WF σ) (hK : ∀ M1, AM σ M1 → Fm M M1 61 75 → K (some (.int (noticedR σ n dd))) M1) : C d 172 [.ref 61, .int n, .int dd] M K := by
  obtain ⟨pe, p5, pw, p0⟩ := hW.pl
  have hb : ∀ k, k < 61 → M 62 k = σ 5 k := fun k hk => (hA.2.2.2.2.1 k hk).1
  have e5 : M 62 5 = nI (nP (σ 5)) := (hb 5 (by omega)).trans pe
  replace hK : ∀ M1, Fs M M1 → K (some (.int (noticedR σ n dd))) M1 := fun M1 f => hK M1 (hA.scr f) f.fm
  unfold noticedR at hK
  refine g_X8_noticed hC (fun X hX => ?_)
  refine b_X8_noticed_0 hX ?_
  conv => whnf
  refine ⟨by omega, m_none hC hA hW (fun hP => ?_) (fun hP => ?_)⟩
  · rw [pit_pos hP] at hK
    conv => whnf
    refine ⟨fun q => absurd q (by decide), fun _ => ?_⟩
    conv => whnf
    exact hK M Fs.rf
  have hw := pw hP
  have hz := hw.1
  have hP0 : ¬ nP (σ 5) = 0 := by omega
  rw [pit_neg hP0] at hK
  conv => whnf
  refine ⟨fun _ => ?_, fun z => absurd rfl z⟩
  have bB : ¬ ((1 ≤ n ∧ n ≤ 200) ∧ (0 ≤ dd ∧ dd ≤ 99)) → X 34 [some (.ref 61), some (.int n), some (.int dd), none, none] [] M := fun q => by
    rw [pit_neg q] at hK
    refine b_X8_noticed_34 hX ?_
    conv => whnf
    exact hK M Fs.rf
  refine b_X8_noticed_10 hX ?_
  conv => whnf
  refine ⟨by omega, m_in hC (fun a0 b0 => ?_) (fun q => ?_)⟩
  rotate_left
  · conv => whnf
    exact ⟨fun _ => bB (fun z => q z.1), fun z => absurd rfl z⟩
  conv => whnf
  refine ⟨fun q => absurd q (by decide), fun _ => ?_⟩
  conv => whnf
  refine ⟨by omega, m_in hC (fun a1 b1 => ?_) (fun q => ?_)⟩
  rotate_left
  · conv => whnf
    exact ⟨fun z => absurd rfl z, fun _ => bB (fun z => q z.2)⟩
  conv => whnf
  refine ⟨fun _ => ?_, fun z => absurd z (by decide)⟩
  have ok : (1 ≤ n ∧ n ≤ 200) ∧ (0 ≤ dd ∧ dd ≤ 99) := ⟨⟨a0, b0⟩, ⟨a1, b1⟩⟩
  rw [pit_pos ok] at hK
  refine b_X8_noticed_37 hX ?_
  conv => whnf
  obtain ⟨n, -, hn, rfl⟩ := rngL (lo := 1) (hi := 200) (by omega) a0 b0 (by omega)
  rw [tN_nI (by omega)] at hK
  have loop : ∀ (m k : Nat) (o : Option Value) (M' : MT), k + m = n → Wk (playsS (-1) k (σ 5)) (-1) M' → Fs M M' → (∀ M1, Fs M M1 → K (some (.int (scanI (fun k => dd < abs32 (meanS (playsS (-1) (k + 1) (σ 5)) - meanS (playsS (-1) k (σ 5)))) m k))) M1) → X 43 [some (.ref 61), some (.int (nI n)), some (.int dd), some (.int (nI k)), o] [] M' := by
    intro m
    induction m with
    | zero =>
      intro k o M' hk g f hS
      rw [Nat.add_zero] at hk
      subst hk
      refine b_X8_noticed_43 hX ?_
      conv => whnf
      refine ⟨fun q => ?_, fun q => absurd (nI_le (by omega) (by omega)) q⟩
      refine b_X8_noticed_80 hX ?_
      conv => whnf
      exact hS M' f
    | succ m ih =>
      intro k o M' hk g f hS
      refine b_X8_noticed_43 hX ?_
      conv => whnf
      refine ⟨fun q => absurd q (nI_ge (by omega) (by omega)), fun q => ?_⟩
      conv => whnf
      refine ⟨by omega, m_mean hC g hz.plays ?_⟩
      conv => whnf
      refine ⟨by omega, m_plays hC (by omega) g hz.plays (hw.kinds.plays hz) (fun M1 g1 f1 => ?_)⟩
      rw [← playsS_succ] at g1
      conv => whnf
      refine ⟨by omega, m_mean hC g1 hz.plays ?_⟩
      conv => whnf
      refine ⟨by omega, m_plain hC ?_⟩
      conv => whnf
      refine ⟨fun q => ?_, fun q => ?_⟩
      · rw [scanI_miss (Int32.not_lt.mpr q)] at hS
        refine b_X8_noticed_74 hX ?_
        conv => whnf
        rw [nI_1]
        exact ih (k + 1) _ M1 (by omega) g1 (f.tr f1) hS
      · rw [scanI_hit (Int32.not_le.mp q)] at hS
        conv => whnf
        exact hS M1 (f.tr f1)
  refine ⟨by omega, m_layNow hC hb (fun M1 g1 f1 => ?_)⟩
  conv => whnf
  exact loop n 0 none M1 (by omega) g1 f1 hK
theorem mo_deaf {C : CC} (hC : Clo C) {d : Nat} (hd : 8 ≤ d) {σ M : MT} {K : KT} {what : Int32} (hA : AM σ M) (hW : WF σ) (hK : ∀ M1, AM σ M1 → Fm M M1 61 75 → K (some (.int (deafR σ what))) M1) : C d 175 [.ref 61, .int what] M K := by
  obtain ⟨pe, p5, pw, p0⟩ := hW.pl
  have hb : ∀ k, k < 61 → M 62 k = σ 5 k := fun k hk => (hA.2.2.2.2.1 k hk).1
  have e5 : M 62 5 = nI (nP (σ 5)) := (hb 5 (by omega)).trans pe
  replace hK : ∀ M1, Fs M M1 → K (some (.int (deafR σ what))) M1 := fun M1 f => hK M1 (hA.scr f) f.fm
  unfold deafR at hK
  refine g_X8_deaf hC (fun X hX => ?_)
  refine b_X8_deaf_0 hX ?_
  conv => whnf
  refine ⟨by omega, m_none hC hA hW (fun hP => ?_) (fun hP => ?_)⟩
  · rw [pit_pos hP] at hK
    conv => whnf
    refine ⟨fun q => absurd q (by decide), fun _ => ?_⟩
    conv => whnf
    exact hK M Fs.rf
  have hw := pw hP
  have hz := hw.1
  have hP0 : ¬ nP (σ 5) = 0 := by omega
  rw [pit_neg hP0] at hK
  conv => whnf
  refine ⟨fun _ => ?_, fun z => absurd rfl z⟩
  refine b_X8_deaf_10 hX ?_
  conv => whnf
  refine ⟨by omega, m_in hC (fun a0 b0 => ?_) (fun q => ?_)⟩
  rotate_left
  · rw [pit_neg q] at hK
    conv => whnf
    refine ⟨fun z => absurd rfl z, fun _ => ?_⟩
    conv => whnf
    exact hK M Fs.rf
  conv => whnf
  refine ⟨fun _ => ?_, fun z => absurd z (by decide)⟩
  have ok : (0 ≤ what ∧ what ≤ 1) := ⟨a0, b0⟩
  rw [pit_pos ok] at hK
  refine b_X8_deaf_23 hX ?_
  conv => whnf
  have b93 : ∀ (k : Nat) (q : Int32 × Int32) (v : Int32) (o : Option Value) (M' : MT), (∀ o1 o2, X 32 [some (.ref 61), some (.int what), some (.int (nearR q (nI k) v).1), some (.int (nearR q (nI k) v).2), some (.int (nI (k + 1))), o1, o2] [] M') → X 93 [some (.ref 61), some (.int what), some (.int q.1), some (.int q.2), some (.int (nI k)), some (.int v), o] [.int (if q.1 = -1000000 ∨ abs32 v < abs32 q.2 then 1 else 0)] M' := by
    intro k q v o M' hh
    unfold nearR at hh
    by_cases z : q.1 = -1000000 ∨ abs32 v < abs32 q.2
    · rw [if_pos z] at hh ⊢
      refine b_X8_deaf_93 hX ?_
      conv => whnf
      refine ⟨fun q => absurd q (by decide), fun _ => ?_⟩
      conv => whnf
      refine b_X8_deaf_106 hX ?_
      conv => whnf
      refine ⟨fun q => absurd q (by decide), fun _ => ?_⟩
      conv => whnf
      refine b_X8_deaf_119 hX ?_
      conv => whnf
      rw [nI_1]
      exact hh _ _
    · rw [if_neg z] at hh ⊢
      refine b_X8_deaf_93 hX ?_
      conv => whnf
      refine ⟨fun _ => ?_, fun z => absurd rfl z⟩
      refine b_X8_deaf_105 hX ?_
      conv => whnf
      refine b_X8_deaf_106 hX ?_
      conv => whnf
      refine ⟨fun _ => ?_, fun z => absurd rfl z⟩
      refine b_X8_deaf_117 hX ?_
      conv => whnf
      refine b_X8_deaf_118 hX ?_
      conv => whnf
      refine b_X8_deaf_119 hX ?_
      conv => whnf
      rw [nI_1]
      exact hh _ _
  have bv : ∀ (k : Nat) (q : Int32 × Int32) (v : Int32) (o : Option Value) (M' : MT), (∀ o1 o2, X 32 [some (.ref 61), some (.int what), some (.int (nearR q (nI k) v).1), some (.int (nearR q (nI k) v).2), some (.int (nI (k + 1))), o1, o2] [] M') → (q.1 = -1000000 → X 88 [some (.ref 61), some (.int what), some (.int q.1), some (.int q.2), some (.int (nI k)), some (.int v), o] [] M') ∧ (¬ q.1 = -1000000 → abs32 v < abs32 q.2 → X 88 [some (.ref 61), some (.int what), some (.int q.1), some (.int q.2), some (.int (nI k)), some (.int v), o] [] M') ∧ (¬ q.1 = -1000000 → ¬ abs32 v < abs32 q.2 → X 92 [some (.ref 61), some (.int what), some (.int q.1), some (.int q.2), some (.int (nI k)), some (.int v), o] [] M') := by
    intro k q v o M' hh
    have hh := b93 k q v o M' hh
    refine ⟨fun z => ?_, fun z1 z2 => ?_, fun z1 z2 => ?_⟩
    · rw [if_pos (Or.inl z)] at hh
      refine b_X8_deaf_88 hX ?_
      conv => whnf
      exact hh
    · rw [if_pos (Or.inr z2)] at hh
      refine b_X8_deaf_88 hX ?_
      conv => whnf
      exact hh
    · rw [if_neg (fun z => z.elim z1 z2)] at hh
      refine b_X8_deaf_92 hX ?_
      conv => whnf
      exact hh
  have loop : ∀ (m k : Nat) (o1 o2 : Option Value) (M' : MT), k + m = 25 → Fs M M' → X 32 [some (.ref 61), some (.int what), some (.int (deafS (σ 5) k).1), some (.int (deafS (σ 5) k).2), some (.int (nI k)), o1, o2] [] M' := by
    intro m
    induction m with
    | zero =>
      intro k o1 o2 M' hk f
      have hk : k = 25 := by omega
      subst hk
      refine b_X8_deaf_32 hX ?_
      conv => whnf
      refine ⟨fun q => ?_, fun q => absurd (by decide) q⟩
      refine b_X8_deaf_125 hX ?_
      conv => whnf
      refine ⟨fun w0 => ?_, fun w0 => ?_⟩
      · rw [pit_neg w0] at hK
        refine b_X8_deaf_133 hX ?_
        conv => whnf
        refine b_X8_deaf_134 hX ?_
        conv => whnf
        exact hK M' f
      · rw [pit_pos w0] at hK
        conv => whnf
        exact hK M' f
    | succ m ih =>
      intro k o1 o2 M' hk f
      have e62 := f.1 62 (by decide) (by decide)
      obtain ⟨⟨w, hw9, ew⟩, -⟩ := hw.2.2.2.2 (k / 5) (k % 5) (by omega) (by omega)
      rw [show 5 * (k / 5) + k % 5 = k by omega] at ew
      refine b_X8_deaf_32 hX ?_
      conv => whnf
      refine ⟨fun q => absurd ((le_nI (a := 25) (by omega) (by omega)).mp q) (by omega), fun q => ?_⟩
      conv => whnf
      refine ⟨36 + k, (by simp only [lit_nI, nI_add, nI_mul]), by omega, ?_⟩
      conv => whnf
      rw [e62, hb _ (by omega), ew]
      refine ⟨fun q => ?_, fun q => ?_⟩
      · have w0 : w = 0 := by
          rcases Nat.eq_zero_or_pos w with z | z
          · exact z
          · exact absurd q (nI_nle z (by omega))
        refine b_X8_deaf_119 hX ?_
        conv => whnf
        rw [nI_1]
        have := ih (k + 1) o1 o2 M' (by omega) f
        rw [show deafS (σ 5) (k + 1) = deafS (σ 5) k from if_pos (by rw [ew, w0]; rfl)] at this
        exact this
      have hne : ¬ σ 5 (36 + k) = 0 := fun z => q (by rw [← ew, z]; decide)
      conv => whnf
      have bb := fun M2 (f2 : Fs M M2) o => bv k (deafS (σ 5) k) (driftS (-1) (setB (σ 5) (36 + k) 0)) o M2 (fun o1 o2 => by
        have := ih (k + 1) o1 o2 M2 (by omega) f2
        rw [show deafS (σ 5) (k + 1) = _ from if_neg hne] at this
        exact this)
      refine ⟨by omega, m_layNow (b := σ 5) hC (fun k hk => by rw [e62]; exact hb k hk) (fun M1 g1 f1 => ?_)⟩
      conv => whnf
      refine ⟨k, rfl, by omega, ?_⟩
      conv => whnf
      refine ⟨by omega, m_driftBy hC (by omega) (g1.ear (by omega)) (hz.setB (by omega)) (hw.kinds.set p5 (by omega)) (fun M2 f2 => ?_)⟩
      have bb := bb M2 ((f.tr (Fs.sw f1 (by decide) (by decide))).tr f2)
      conv => whnf
      refine ⟨fun q => (bb _).1 q, fun q => ?_⟩
      conv => whnf
      refine ⟨by omega, m_plain hC ?_⟩
      conv => whnf
      refine ⟨by omega, m_plain hC ?_⟩
      conv => whnf
      exact ⟨fun q2 => (bb _).2.2 q (Int32.not_lt.mpr q2), fun q2 => (bb _).2.1 q (Int32.not_le.mp q2)⟩
  exact loop (25) 0 none none M (by omega) Fs.rf
theorem mo_inEar {C : CC} (hC : Clo C) {d : Nat} (hd : 8 ≤ d) {σ M : MT} {K : KT} {what : Int32} (hA : AM σ M) (hW : WF σ) (hK : ∀ M1, AM σ M1 → Fm M M1 61 75 → K (some (.int (inEarR σ what))) M1) : C d 176 [.ref 61, .int what] M K := by
  obtain ⟨pe, p5, pw, p0⟩ := hW.pl
  have hb : ∀ k, k < 61 → M 62 k = σ 5 k := fun k hk => (hA.2.2.2.2.1 k hk).1
  have e5 : M 62 5 = nI (nP (σ 5)) := (hb 5 (by omega)).trans pe
  replace hK : ∀ M1, Fs M M1 → K (some (.int (inEarR σ what))) M1 := fun M1 f => hK M1 (hA.scr f) f.fm
  unfold inEarR at hK
  refine g_X8_inEar hC (fun X hX => ?_)
  refine b_X8_inEar_0 hX ?_
  conv => whnf
  refine ⟨by omega, m_none hC hA hW (fun hP => ?_) (fun hP => ?_)⟩
  · rw [pit_pos hP] at hK
    conv => whnf
    refine ⟨fun q => absurd q (by decide), fun _ => ?_⟩
    conv => whnf
    exact hK M Fs.rf
  have hw := pw hP
  have hz := hw.1
  have hP0 : ¬ nP (σ 5) = 0 := by omega
  rw [pit_neg hP0] at hK
  conv => whnf
  refine ⟨fun _ => ?_, fun z => absurd rfl z⟩
  refine b_X8_inEar_10 hX ?_
  conv => whnf
  refine ⟨by omega, m_in hC (fun a0 b0 => ?_) (fun q => ?_)⟩
  rotate_left
  · rw [pit_neg q] at hK
    conv => whnf
    refine ⟨fun z => absurd rfl z, fun _ => ?_⟩
    conv => whnf
    exact hK M Fs.rf
  conv => whnf
  refine ⟨fun _ => ?_, fun z => absurd z (by decide)⟩
  have ok : (0 ≤ what ∧ what ≤ 1) := ⟨a0, b0⟩
  rw [pit_pos ok] at hK
  refine b_X8_inEar_23 hX ?_
  conv => whnf
  have b84 : ∀ (k : Nat) (q : Int32 × Int32) (v : Int32) (o : Option Value) (M' : MT), (∀ o1 o2, X 32 [some (.ref 61), some (.int what), some (.int (nearR q (nI k) v).1), some (.int (nearR q (nI k) v).2), some (.int (nI (k + 1))), o1, o2] [] M') → X 84 [some (.ref 61), some (.int what), some (.int q.1), some (.int q.2), some (.int (nI k)), some (.int v), o] [.int (if q.1 = -1000000 ∨ abs32 v < abs32 q.2 then 1 else 0)] M' := by
    intro k q v o M' hh
    unfold nearR at hh
    by_cases z : q.1 = -1000000 ∨ abs32 v < abs32 q.2
    · rw [if_pos z] at hh ⊢
      refine b_X8_inEar_84 hX ?_
      conv => whnf
      refine ⟨fun q => absurd q (by decide), fun _ => ?_⟩
      conv => whnf
      refine b_X8_inEar_97 hX ?_
      conv => whnf
      refine ⟨fun q => absurd q (by decide), fun _ => ?_⟩
      conv => whnf
      rw [nI_1]
      exact hh _ _
    · rw [if_neg z] at hh ⊢
      refine b_X8_inEar_84 hX ?_
      conv => whnf
      refine ⟨fun _ => ?_, fun z => absurd rfl z⟩
      refine b_X8_inEar_96 hX ?_
      conv => whnf
      refine b_X8_inEar_97 hX ?_
      conv => whnf
      refine ⟨fun _ => ?_, fun z => absurd rfl z⟩
      refine b_X8_inEar_108 hX ?_
      conv => whnf
      refine b_X8_inEar_109 hX ?_
      conv => whnf
      rw [nI_1]
      exact hh _ _
  have bv : ∀ (k : Nat) (q : Int32 × Int32) (v : Int32) (o : Option Value) (M' : MT), (∀ o1 o2, X 32 [some (.ref 61), some (.int what), some (.int (nearR q (nI k) v).1), some (.int (nearR q (nI k) v).2), some (.int (nI (k + 1))), o1, o2] [] M') → (q.1 = -1000000 → X 79 [some (.ref 61), some (.int what), some (.int q.1), some (.int q.2), some (.int (nI k)), some (.int v), o] [] M') ∧ (¬ q.1 = -1000000 → abs32 v < abs32 q.2 → X 79 [some (.ref 61), some (.int what), some (.int q.1), some (.int q.2), some (.int (nI k)), some (.int v), o] [] M') ∧ (¬ q.1 = -1000000 → ¬ abs32 v < abs32 q.2 → X 83 [some (.ref 61), some (.int what), some (.int q.1), some (.int q.2), some (.int (nI k)), some (.int v), o] [] M') := by
    intro k q v o M' hh
    have hh := b84 k q v o M' hh
    refine ⟨fun z => ?_, fun z1 z2 => ?_, fun z1 z2 => ?_⟩
    · rw [if_pos (Or.inl z)] at hh
      refine b_X8_inEar_79 hX ?_
      conv => whnf
      exact hh
    · rw [if_pos (Or.inr z2)] at hh
      refine b_X8_inEar_79 hX ?_
      conv => whnf
      exact hh
    · rw [if_neg (fun z => z.elim z1 z2)] at hh
      refine b_X8_inEar_83 hX ?_
      conv => whnf
      exact hh
  have loop : ∀ (m k : Nat) (o1 o2 : Option Value) (M' : MT), k + m = nP (σ 5) → Fs M M' → X 32 [some (.ref 61), some (.int what), some (.int (inEarS (σ 5) k).1), some (.int (inEarS (σ 5) k).2), some (.int (nI k)), o1, o2] [] M' := by
    intro m
    induction m with
    | zero =>
      intro k o1 o2 M' hk f
      rw [Nat.add_zero] at hk
      subst hk
      refine b_X8_inEar_32 hX ?_
      conv => whnf
      refine ⟨5, rfl, by decide, ?_⟩
      conv => whnf
      rw [f.1 62 (by decide) (by decide), e5]
      refine ⟨fun q => ?_, fun q => absurd (nI_le (by omega) (by omega)) q⟩
      refine b_X8_inEar_116 hX ?_
      conv => whnf
      refine ⟨fun w0 => ?_, fun w0 => ?_⟩
      · rw [pit_neg w0] at hK
        refine b_X8_inEar_124 hX ?_
        conv => whnf
        refine b_X8_inEar_125 hX ?_
        conv => whnf
        exact hK M' f
      · rw [pit_pos w0] at hK
        conv => whnf
        exact hK M' f
    | succ m ih =>
      intro k o1 o2 M' hk f
      have e62 := f.1 62 (by decide) (by decide)
      refine b_X8_inEar_32 hX ?_
      conv => whnf
      refine ⟨5, rfl, by decide, ?_⟩
      conv => whnf
      rw [e62, e5]
      refine ⟨fun q => absurd q (nI_ge (by omega) (by omega)), fun q => ?_⟩
      conv => whnf
      have bb := fun M2 (f2 : Fs M M2) o => bv k (inEarS (σ 5) k) (driftS (-1) (setB (σ 5) (21 + k) 4)) o M2 (fun o1 o2 => by
        have := ih (k + 1) o1 o2 M2 (by omega) f2
        rw [show inEarS (σ 5) (k + 1) = _ from rfl] at this
        exact this)
      refine ⟨by omega, m_layNow (b := σ 5) hC (fun k hk => by rw [e62]; exact hb k hk) (fun M1 g1 f1 => ?_)⟩
      conv => whnf
      refine ⟨k, rfl, by omega, ?_⟩
      conv => whnf
      refine ⟨by omega, m_driftBy hC (by omega) (g1.sort (by omega)) (SZb.setB hz (by omega)) (hw.kinds.sort) (fun M2 f2 => ?_)⟩
      have bb := bb M2 ((f.tr (Fs.sw f1 (by decide) (by decide))).tr f2)
      conv => whnf
      refine ⟨fun q => (bb _).1 q, fun q => ?_⟩
      conv => whnf
      refine ⟨by omega, m_plain hC ?_⟩
      conv => whnf
      refine ⟨by omega, m_plain hC ?_⟩
      conv => whnf
      exact ⟨fun q2 => (bb _).2.2 q (Int32.not_lt.mpr q2), fun q2 => (bb _).2.1 q (Int32.not_le.mp q2)⟩
  exact loop (nP (σ 5)) 0 none none M (by omega) Fs.rf
theorem mo_clapped {C : CC} (hC : Clo C) {d : Nat} (hd : 8 ≤ d) {σ M : MT} {K : KT} {c n : Int32} (hA : AM σ M) (hW : WF σ) (hK : ∀ M1, AM σ M1 → Fm M M1 61 75 → K (some (.int (clappedR σ c n))) M1) : C d 182 [.ref 61, .int c, .int n] M K := by
  obtain ⟨pe, p5, pw, p0⟩ := hW.pl
  have hb : ∀ k, k < 61 → M 62 k = σ 5 k := fun k hk => (hA.2.2.2.2.1 k hk).1
  have e5 : M 62 5 = nI (nP (σ 5)) := (hb 5 (by omega)).trans pe
  replace hK : ∀ M1, Fs M M1 → K (some (.int (clappedR σ c n))) M1 := fun M1 f => hK M1 (hA.scr f) f.fm
  unfold clappedR at hK
  refine g_X8_clapped hC (fun X hX => ?_)
  refine b_X8_clapped_0 hX ?_
  conv => whnf
  refine ⟨by omega, m_none hC hA hW (fun hP => ?_) (fun hP => ?_)⟩
  · rw [pit_pos hP] at hK
    conv => whnf
    refine ⟨fun q => absurd q (by decide), fun _ => ?_⟩
    conv => whnf
    exact hK M Fs.rf
  have hw := pw hP
  have hz := hw.1
  have hP0 : ¬ nP (σ 5) = 0 := by omega
  rw [pit_neg hP0] at hK
  conv => whnf
  refine ⟨fun _ => ?_, fun z => absurd rfl z⟩
  have bB : ¬ ((1 ≤ c ∧ c ≤ 99) ∧ (0 ≤ n ∧ n ≤ 200)) → X 34 [some (.ref 61), some (.int c), some (.int n), none, none] [] M := fun q => by
    rw [pit_neg q] at hK
    refine b_X8_clapped_34 hX ?_
    conv => whnf
    exact hK M Fs.rf
  refine b_X8_clapped_10 hX ?_
  conv => whnf
  refine ⟨by omega, m_in hC (fun a0 b0 => ?_) (fun q => ?_)⟩
  rotate_left
  · conv => whnf
    exact ⟨fun _ => bB (fun z => q z.1), fun z => absurd rfl z⟩
  conv => whnf
  refine ⟨fun q => absurd q (by decide), fun _ => ?_⟩
  conv => whnf
  refine ⟨by omega, m_in hC (fun a1 b1 => ?_) (fun q => ?_)⟩
  rotate_left
  · conv => whnf
    exact ⟨fun z => absurd rfl z, fun _ => bB (fun z => q z.2)⟩
  conv => whnf
  refine ⟨fun _ => ?_, fun z => absurd z (by decide)⟩
  have ok : (1 ≤ c ∧ c ≤ 99) ∧ (0 ≤ n ∧ n ≤ 200) := ⟨⟨a0, b0⟩, ⟨a1, b1⟩⟩
  rw [pit_pos ok] at hK
  refine b_X8_clapped_37 hX ?_
  conv => whnf
  obtain ⟨n, -, hn, rfl⟩ := rngL (lo := 0) (hi := 200) (by omega) a1 b1 (by omega)
  rw [tN_nI (by omega)] at hK
  unfold clapS at hK
  refine ⟨by omega, m_layNow hC hb (fun M1 g1 f1 => ?_)⟩
  conv => whnf
  refine ⟨by omega, m_playsMany hC (by omega) hn g1 hz hw.kinds (fun M2 g2 f2 => ?_)⟩
  conv => whnf
  refine ⟨by omega, m_mean hC g2 hz.plays ?_⟩
  conv => whnf
  have f12 := f1.tr f2
  refine ⟨by omega, m_layNow (b := σ 5) hC (fun k hk => by rw [f12.1 62 (by decide) (by decide)]; exact hb k hk) (fun M3 g3 f3 => ?_)⟩
  conv => whnf
  have hzq : SZb (quickS (σ 5) c) := hz.quick
  have hkq : kindsOK (quickS (σ 5) c) := fun i hi => by
    rw [nP_quickS p5] at hi
    rw [quickS_lo (by omega) p5]
    exact hw.kinds i hi
  have loop : ∀ (m p : Nat) (M' : MT), p + m = nP (σ 5) → (∀ q, q ≠ 69 → M' q = M3 q) → (∀ i, i < 5 → M' 69 i = if i < p then quickS (σ 5) c (26 + i) else σ 5 (26 + i)) → X 58 [some (.ref 61), some (.int c), some (.int (nI n)), some (.int (meanS (playsS (-1) n (σ 5)))), some (.int (nI p))] [] M' := by
    intro m
    induction m with
    | zero =>
      intro p M' hp h1 h2
      rw [Nat.add_zero] at hp
      subst hp
      have g4 : Wk (quickS (σ 5) c) (-1) M' := g3.paces h1 (fun i hi => by
        rw [h2 i hi]
        by_cases z : i < nP (σ 5)
        · rw [if_pos z]
        · rw [if_neg z]
          unfold quickS
          rw [if_neg (by omega)]) (fun k hk => quickS_lo hk p5)
      have f4 : Fs M3 M' := ⟨fun q a b => h1 q (by omega), fun k _ _ => by rw [h1 61 (by decide)]⟩
      refine b_X8_clapped_58 hX ?_
      conv => whnf
      refine ⟨5, rfl, by decide, ?_⟩
      conv => whnf
      rw [h1 62 (by decide), ((f1.tr f2).tr f3).1 62 (by decide) (by decide), e5]
      refine ⟨fun q => ?_, fun q => absurd (nI_le (by omega) (by omega)) q⟩
      refine b_X8_clapped_94 hX ?_
      conv => whnf
      refine ⟨by omega, m_playsMany hC (by omega) hn g4 hzq hkq (fun M5 g5 f5 => ?_)⟩
      conv => whnf
      refine ⟨by omega, m_mean hC g5 hzq.plays ?_⟩
      conv => whnf
      exact hK M5 (((f12.tr f3).tr f4).tr f5)
    | succ m ih =>
      intro p M' hp h1 h2
      refine b_X8_clapped_58 hX ?_
      conv => whnf
      refine ⟨5, rfl, by decide, ?_⟩
      conv => whnf
      rw [h1 62 (by decide), ((f1.tr f2).tr f3).1 62 (by decide) (by decide), e5]
      refine ⟨fun q => absurd q (nI_ge (by omega) (by omega)), fun q => ?_⟩
      conv => whnf
      refine ⟨p, rfl, by omega, ?_⟩
      conv => whnf
      refine ⟨by omega, m_bound hC ?_⟩
      conv => whnf
      refine ⟨p, rfl, by omega, ?_⟩
      conv => whnf
      rw [nI_1, h2 p (by omega), if_neg (by omega), ← quickS_pace (by omega)]
      refine ih (p + 1) _ (by omega) (fun q a => by rw [wr_off a]; exact h1 q a) (fun i hi => ?_)
      by_cases z : i = p
      · subst z; rw [wr_at, if_pos (by omega)]
      · rw [wr_ne z, h2 i hi]
        by_cases z2 : i < p
        · rw [if_pos z2, if_pos (by omega)]
        · rw [if_neg z2, if_neg (by omega)]
  exact loop (nP (σ 5)) 0 M3 (by omega) (fun _ _ => rfl) (fun i hi => by rw [if_neg (by omega)]; exact (g3.2.2.2.2.1 i hi).2.2)
