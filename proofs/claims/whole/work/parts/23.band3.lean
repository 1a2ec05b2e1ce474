theorem playS_lo {st : Int32} {b : BV} {k : Nat} (h : k < 26) (h6 : k ≠ 6) (h7 : k ≠ 7) : playS st b k = b k := by
  unfold playS
  rw [if_neg (by omega), if_neg h6, if_neg h7]
theorem playS_hi {st : Int32} {b : BV} {k : Nat} (h5 : nP b ≤ 5) (h : 31 ≤ k) : playS st b k = b k := by
  unfold playS
  rw [if_neg (by omega), if_neg (by omega), if_neg (by omega)]
theorem playS_pace {st : Int32} {b : BV} {p : Nat} (h : p < nP b) : playS st b (26 + p) = paceS b st p (barS b) := by
  unfold playS
  rw [if_pos (by omega)]
  congr 1
  omega
theorem playS_6 {st : Int32} {b : BV} : playS st b 6 = if nX b + 1 < nB b then nI (nX b + 1) else 0 := rfl
theorem playS_7 {st : Int32} {b : BV} : playS st b 7 = b 7 + 1 := rfl
theorem nP_playS {st : Int32} {b : BV} : nP (playS st b) = nP b := by unfold nP; rw [playS_lo (by omega) (by omega) (by omega)]
theorem nB_playS {st : Int32} {b : BV} : nB (playS st b) = nB b := by unfold nB; rw [playS_lo (by omega) (by omega) (by omega)]
theorem nX_playS {st : Int32} {b : BV} (h : nB b ≤ 12) : nX (playS st b) = if nX b + 1 < nB b then nX b + 1 else 0 := by
  unfold nX
  rw [playS_6]
  change (if nX b + 1 < nB b then nI (nX b + 1) else 0).toNatClampNeg = if nX b + 1 < nB b then nX b + 1 else 0
  by_cases h1 : nX b + 1 < nB b
  · rw [if_pos h1, if_pos h1]
    exact nI_clamp (by omega)
  · rw [if_neg h1, if_neg h1]
    rfl
theorem SZb.play {st : Int32} {b : BV} (h : SZb b) : SZb (playS st b) := by
  obtain ⟨z1, z2, z3, z4, z5, z6, z7⟩ := h
  refine ⟨?_, by rw [nP_playS]; exact z2, by rw [nP_playS]; exact z3, ?_, by rw [nB_playS]; exact z5, ?_, ?_⟩
  · rw [nP_playS, playS_lo (by omega) (by omega) (by omega)]; exact z1
  · rw [nB_playS, playS_lo (by omega) (by omega) (by omega)]; exact z4
  · rw [nX_playS z5, playS_6]
    by_cases h1 : nX b + 1 < nB b
    · rw [if_pos h1, if_pos h1]
    · rw [if_neg h1, if_neg h1]; rfl
  · rw [nX_playS z5, nB_playS]
    by_cases h1 : nX b + 1 < nB b
    · rw [if_pos h1]; exact h1
    · rw [if_neg h1]; omega
theorem SZb.plays {st : Int32} : ∀ {n : Nat} {b : BV}, SZb b → SZb (playsS st n b) := by
  intro n
  induction n with
  | zero => intro b h; exact h
  | succ n ih => intro b h; exact ih h.play
theorem playsS_succ {st : Int32} : ∀ {n : Nat} {b : BV}, playsS st (n + 1) b = playS st (playsS st n b) := by
  intro n
  induction n with
  | zero => intro b; rfl
  | succ n ih => intro b; show playsS st (n + 1) (playS st b) = _; rw [ih]; rfl
theorem c_play_8 {C : CC} (hC : Clo C) {d : Nat} (hd : 2 ≤ d) {M : MT} {K : KT} {b : BV} (hb : Bd 8 b M) (hz : SZb b) (hK : ∀ M', Bd 8 (playS (-1) b) M' → Fm M M' 8 14 → K none M') : C d 22 [.ref 8] M K := by
  obtain ⟨z1, z2, z3, z4, z5, z6, z7⟩ := hz
  have p0 : M 8 0 = nI (nP b) := hb.1.1.trans z1
  have p1 : M 8 1 = nI (nB b) := hb.1.2.1.trans z4
  have p2 : M 8 2 = nI (nX b) := hb.1.2.2.1.trans z6
  refine g_X2_play hC (fun X hX => ?_)
  have fin : ∀ M' : MT, (∀ q, q ≠ 12 → M' q = M q) → (∀ i, i < nP b → M' 12 i = paceS b (-1) i (barS b)) → ∀ v, v = playS (-1) b 6 → K none (wr (wr (cp M' 12 11 0 0 (nP b)) 8 2 v) 8 3 (M 8 3 + 1)) := by
    intro M' h1 h2 v hv
    have f0 := h1 8 (by decide)
    have f1 := h1 9 (by decide)
    have f2 := h1 10 (by decide)
    have f3 := h1 11 (by decide)
    have f5 := h1 13 (by decide)
    have f6 := h1 14 (by decide)
    obtain ⟨⟨g0, g1, g2, g3, g4, g5, g6, g7⟩, b2, b3, b4⟩ := hb
    refine hK _ ⟨⟨?_, ?_, ?_, ?_, ?_, ?_, ?_, ?_⟩, fun i hi => ?_, fun i hi => ?_, fun i hi => ?_⟩ (fun q hq => ?_)
    · rw [playS_lo (by omega) (by omega) (by omega), ← g0, ← f0]; simp [wr, cp]
    · rw [playS_lo (by omega) (by omega) (by omega), ← g1, ← f0]; simp [wr, cp]
    · rw [← hv]; simp [wr, cp]
    · rw [playS_7, ← g3]; simp [wr]
    · rw [playS_lo (by omega) (by omega) (by omega), ← g4, ← f0]; simp [wr, cp]
    · rw [playS_lo (by omega) (by omega) (by omega), ← g5, ← f0]; simp [wr, cp]
    · rw [playS_lo (by omega) (by omega) (by omega), ← g6, ← f0]; simp [wr, cp]
    · rw [playS_lo (by omega) (by omega) (by omega), ← g7, ← f0]; simp [wr, cp]
    · rw [nP_playS] at hi
      obtain ⟨c1, c2, c3⟩ := b2 i hi
      refine ⟨?_, ?_, ?_⟩
      · rw [playS_lo (by omega) (by omega) (by omega), ← c1, ← f1]; simp [wr, cp]
      · rw [playS_hi z3 (by omega), ← c2, ← f2]; simp [wr, cp]
      · rw [playS_pace hi, ← h2 i hi]; simp [wr, cp, va_cpy, hi]
    · rw [playS_hi z3 (by omega), ← b3 i hi, ← f5]; simp [wr, cp]
    · rw [nB_playS] at hi
      rw [playS_lo (by omega) (by omega) (by omega), ← b4 i hi, ← f6]; simp [wr, cp]
    · rw [wr_off (by omega), wr_off (by omega), cp_off (by omega), h1 q (by omega)]
  have loop : ∀ (n j : Nat) (M' : MT), j + n = nP b → (∀ q, q ≠ 12 → M' q = M q) → (∀ i, i < j → M' 12 i = paceS b (-1) i (barS b)) → X 11 [some (.ref 8), some (.int (barS b)), some (.int (nI j))] [] M' := by
    intro n
    induction n with
    | zero =>
      intro j M' hj h1 h2
      rw [Nat.add_zero] at hj
      subst hj
      have f0 := h1 8 (by decide)
      refine b_X2_play_11 hX ?_
      conv => whnf
      rw [f0]
      refine ⟨fun q => ?_, fun q => absurd ?_ q⟩
      · refine b_X2_play_37 hX ?_
        conv => whnf
        rw [f0]
        refine ⟨by omega, 0, 0, nP b, rfl, rfl, p0, by omega, by omega, ?_⟩
        conv => whnf
        have e1 : cp M' 12 11 0 0 (nP b) 8 = M 8 := by rw [cp_off (by decide), f0]
        rw [e1]
        refine ⟨fun q => ?_, fun q => ?_⟩
        · refine b_X2_play_77 hX ?_
          conv => whnf
          rw [wr_ne (by decide), e1]
          refine fin M' h1 h2 0 ?_
          rw [playS_6, if_neg]
          rw [p1, p2, nI_1, le_nI (by omega) (by omega)] at q
          omega
        · conv => whnf
          rw [wr_ne (by decide), e1]
          refine fin M' h1 h2 _ ?_
          rw [playS_6, if_pos]
          · rw [p2, nI_1]
          · rw [p1, p2, nI_1, le_nI (by omega) (by omega)] at q
            omega
      · rw [p0]; exact nI_le (by omega) (by omega)
    | succ n ih =>
      intro j M' hj h1 h2
      have f0 := h1 8 (by decide)
      have hb' : Bd 8 b M' := by
        obtain ⟨b1, b2, b3, b4⟩ := hb
        refine ⟨by rw [f0]; exact b1, fun i hi => ?_, fun i hi => ?_, fun i hi => ?_⟩
        · rw [h1 (8 + 1) (by decide), h1 (8 + 2) (by decide), h1 (8 + 3) (by decide)]; exact b2 i hi
        · rw [h1 (8 + 5) (by decide)]; exact b3 i hi
        · rw [h1 (8 + 6) (by decide)]; exact b4 i hi
      refine b_X2_play_11 hX ?_
      conv => whnf
      refine ⟨fun q => absurd q (by rw [f0, p0]; exact nI_ge (by omega) (by omega)), fun q => ?_⟩
      conv => whnf
      refine ⟨by omega, c_paceBehind_8 hC (by omega) hb' ⟨z1, z2, z3, z4, z5, z6, z7⟩ (by omega) ?_⟩
      conv => whnf
      refine ⟨j, rfl, by omega, ?_⟩
      conv => whnf
      rw [nI_1]
      refine ih (j + 1) _ (by omega) (fun q hq => by rw [wr_off hq]; exact h1 q hq) (fun i hi => ?_)
      by_cases e : i = j
      · subst e; exact wr_at
      · rw [wr_ne e]; exact h2 i (by omega)
  refine b_X2_play_0 hX ?_
  conv => whnf
  rw [p2]
  refine ⟨by omega, c_barAt_8 hC p1 z5 z7 ?_⟩
  conv => whnf
  rw [show M 14 (nX b) = barS b from hb.2.2.2 _ z7]
  exact loop (nP b) 0 M (by omega) (fun _ _ => rfl) (fun i hi => absurd hi (by omega))
theorem c_play_25 {C : CC} (hC : Clo C) {d : Nat} (hd : 2 ≤ d) {M : MT} {K : KT} {b : BV} (hb : Bd 25 b M) (hz : SZb b) (hK : ∀ M', Bd 25 (playS (-1) b) M' → Fm M M' 25 31 → K none M') : C d 22 [.ref 25] M K := by
  obtain ⟨z1, z2, z3, z4, z5, z6, z7⟩ := hz
  have p0 : M 25 0 = nI (nP b) := hb.1.1.trans z1
  have p1 : M 25 1 = nI (nB b) := hb.1.2.1.trans z4
  have p2 : M 25 2 = nI (nX b) := hb.1.2.2.1.trans z6
  refine g_X2_play hC (fun X hX => ?_)
  have fin : ∀ M' : MT, (∀ q, q ≠ 29 → M' q = M q) → (∀ i, i < nP b → M' 29 i = paceS b (-1) i (barS b)) → ∀ v, v = playS (-1) b 6 → K none (wr (wr (cp M' 29 28 0 0 (nP b)) 25 2 v) 25 3 (M 25 3 + 1)) := by
    intro M' h1 h2 v hv
    have f0 := h1 25 (by decide)
    have f1 := h1 26 (by decide)
    have f2 := h1 27 (by decide)
    have f3 := h1 28 (by decide)
    have f5 := h1 30 (by decide)
    have f6 := h1 31 (by decide)
    obtain ⟨⟨g0, g1, g2, g3, g4, g5, g6, g7⟩, b2, b3, b4⟩ := hb
    refine hK _ ⟨⟨?_, ?_, ?_, ?_, ?_, ?_, ?_, ?_⟩, fun i hi => ?_, fun i hi => ?_, fun i hi => ?_⟩ (fun q hq => ?_)
    · rw [playS_lo (by omega) (by omega) (by omega), ← g0, ← f0]; simp [wr, cp]
    · rw [playS_lo (by omega) (by omega) (by omega), ← g1, ← f0]; simp [wr, cp]
    · rw [← hv]; simp [wr, cp]
    · rw [playS_7, ← g3]; simp [wr]
    · rw [playS_lo (by omega) (by omega) (by omega), ← g4, ← f0]; simp [wr, cp]
    · rw [playS_lo (by omega) (by omega) (by omega), ← g5, ← f0]; simp [wr, cp]
    · rw [playS_lo (by omega) (by omega) (by omega), ← g6, ← f0]; simp [wr, cp]
    · rw [playS_lo (by omega) (by omega) (by omega), ← g7, ← f0]; simp [wr, cp]
    · rw [nP_playS] at hi
      obtain ⟨c1, c2, c3⟩ := b2 i hi
      refine ⟨?_, ?_, ?_⟩
      · rw [playS_lo (by omega) (by omega) (by omega), ← c1, ← f1]; simp [wr, cp]
      · rw [playS_hi z3 (by omega), ← c2, ← f2]; simp [wr, cp]
      · rw [playS_pace hi, ← h2 i hi]; simp [wr, cp, va_cpy, hi]
    · rw [playS_hi z3 (by omega), ← b3 i hi, ← f5]; simp [wr, cp]
    · rw [nB_playS] at hi
      rw [playS_lo (by omega) (by omega) (by omega), ← b4 i hi, ← f6]; simp [wr, cp]
    · rw [wr_off (by omega), wr_off (by omega), cp_off (by omega), h1 q (by omega)]
  have loop : ∀ (n j : Nat) (M' : MT), j + n = nP b → (∀ q, q ≠ 29 → M' q = M q) → (∀ i, i < j → M' 29 i = paceS b (-1) i (barS b)) → X 11 [some (.ref 25), some (.int (barS b)), some (.int (nI j))] [] M' := by
    intro n
    induction n with
    | zero =>
      intro j M' hj h1 h2
      rw [Nat.add_zero] at hj
      subst hj
      have f0 := h1 25 (by decide)
      refine b_X2_play_11 hX ?_
      conv => whnf
      rw [f0]
      refine ⟨fun q => ?_, fun q => absurd ?_ q⟩
      · refine b_X2_play_37 hX ?_
        conv => whnf
        rw [f0]
        refine ⟨by omega, 0, 0, nP b, rfl, rfl, p0, by omega, by omega, ?_⟩
        conv => whnf
        have e1 : cp M' 29 28 0 0 (nP b) 25 = M 25 := by rw [cp_off (by decide), f0]
        rw [e1]
        refine ⟨fun q => ?_, fun q => ?_⟩
        · refine b_X2_play_77 hX ?_
          conv => whnf
          rw [wr_ne (by decide), e1]
          refine fin M' h1 h2 0 ?_
          rw [playS_6, if_neg]
          rw [p1, p2, nI_1, le_nI (by omega) (by omega)] at q
          omega
        · conv => whnf
          rw [wr_ne (by decide), e1]
          refine fin M' h1 h2 _ ?_
          rw [playS_6, if_pos]
          · rw [p2, nI_1]
          · rw [p1, p2, nI_1, le_nI (by omega) (by omega)] at q
            omega
      · rw [p0]; exact nI_le (by omega) (by omega)
    | succ n ih =>
      intro j M' hj h1 h2
      have f0 := h1 25 (by decide)
      have hb' : Bd 25 b M' := by
        obtain ⟨b1, b2, b3, b4⟩ := hb
        refine ⟨by rw [f0]; exact b1, fun i hi => ?_, fun i hi => ?_, fun i hi => ?_⟩
        · rw [h1 (25 + 1) (by decide), h1 (25 + 2) (by decide), h1 (25 + 3) (by decide)]; exact b2 i hi
        · rw [h1 (25 + 5) (by decide)]; exact b3 i hi
        · rw [h1 (25 + 6) (by decide)]; exact b4 i hi
      refine b_X2_play_11 hX ?_
      conv => whnf
      refine ⟨fun q => absurd q (by rw [f0, p0]; exact nI_ge (by omega) (by omega)), fun q => ?_⟩
      conv => whnf
      refine ⟨by omega, c_paceBehind_25 hC (by omega) hb' ⟨z1, z2, z3, z4, z5, z6, z7⟩ (by omega) ?_⟩
      conv => whnf
      refine ⟨j, rfl, by omega, ?_⟩
      conv => whnf
      rw [nI_1]
      refine ih (j + 1) _ (by omega) (fun q hq => by rw [wr_off hq]; exact h1 q hq) (fun i hi => ?_)
      by_cases e : i = j
      · subst e; exact wr_at
      · rw [wr_ne e]; exact h2 i (by omega)
  refine b_X2_play_0 hX ?_
  conv => whnf
  rw [p2]
  refine ⟨by omega, c_barAt_25 hC p1 z5 z7 ?_⟩
  conv => whnf
  rw [show M 31 (nX b) = barS b from hb.2.2.2 _ z7]
  exact loop (nP b) 0 M (by omega) (fun _ _ => rfl) (fun i hi => absurd hi (by omega))
theorem c_become_8_15 {C : CC} (hC : Clo C) {d : Nat} (hd : 1 ≤ d) {M : MT} {K : KT} {b : BV} (hb : Bd 15 b M) (h5 : nP b ≤ 5) (h12 : nB b ≤ 12) (hK : ∀ M', Bd 8 b M' → Fm M M' 8 14 → K none M') : C d 9 [.ref 8, .ref 15] M K := by
  refine g_X2_become hC (fun X hX => ?_)
  refine b_X2_become_0 hX ?_
  conv => whnf
  refine ⟨by omega, 0, 0, 5, rfl, rfl, rfl, by decide, by decide, ?_⟩
  conv => whnf
  refine ⟨by omega, 0, 0, 5, rfl, rfl, rfl, by decide, by decide, ?_⟩
  conv => whnf
  refine ⟨by omega, 0, 0, 5, rfl, rfl, rfl, by decide, by decide, ?_⟩
  conv => whnf
  refine ⟨by omega, 0, 0, 25, rfl, rfl, rfl, by decide, by decide, ?_⟩
  conv => whnf
  refine ⟨by omega, 0, 0, 12, rfl, rfl, rfl, by decide, by decide, ?_⟩
  conv => whnf
  obtain ⟨⟨g0, g1, g2, g3, g4, g5, g6, g7⟩, b2, b3, b4⟩ := hb
  refine hK _ ⟨⟨?_, ?_, ?_, ?_, ?_, ?_, ?_, ?_⟩, fun i hi => ?_, fun i hi => ?_, fun i hi => ?_⟩ ?_
  · rw [← g0]; simp [wr, cp]
  · rw [← g1]; simp [wr, cp]
  · rw [← g2]; simp [wr, cp]
  · rw [← g3]; simp [wr, cp]
  · rw [← g4]; simp [wr, cp]
  · rw [← g5]; simp [wr, cp]
  · rw [← g6]; simp [wr, cp]
  · rw [← g7]; simp [wr, cp]
  · obtain ⟨c1, c2, c3⟩ := b2 i hi
    have hi5 : i < 5 := by omega
    rw [← c1, ← c2, ← c3]
    refine ⟨?_, ?_, ?_⟩ <;> simp [wr, cp, va_cpy, hi5]
  · rw [← b3 i hi]; simp [wr, cp, va_cpy, hi]
  · have hi12 : i < 12 := by omega
    rw [← b4 i hi]; simp [wr, cp, va_cpy, hi12]
  · refine Fm.cp (Fm.cp (Fm.cp (Fm.cp (Fm.cp (Fm.wr (Fm.wr (Fm.wr (Fm.wr (Fm.wr (Fm.wr (Fm.wr (Fm.wr Fm.rf ?_ ?_) ?_ ?_) ?_ ?_) ?_ ?_) ?_ ?_) ?_ ?_) ?_ ?_) ?_ ?_) ?_ ?_) ?_ ?_) ?_ ?_) ?_ ?_) ?_ ?_ <;> decide
theorem c_become_47_8 {C : CC} (hC : Clo C) {d : Nat} (hd : 1 ≤ d) {M : MT} {K : KT} {b : BV} (hb : Bd 8 b M) (h5 : nP b ≤ 5) (h12 : nB b ≤ 12) (hK : ∀ M', Bd 47 b M' → Fm M M' 47 53 → K none M') : C d 9 [.ref 47, .ref 8] M K := by
  refine g_X2_become hC (fun X hX => ?_)
  refine b_X2_become_0 hX ?_
  conv => whnf
  refine ⟨by omega, 0, 0, 5, rfl, rfl, rfl, by decide, by decide, ?_⟩
  conv => whnf
  refine ⟨by omega, 0, 0, 5, rfl, rfl, rfl, by decide, by decide, ?_⟩
  conv => whnf
  refine ⟨by omega, 0, 0, 5, rfl, rfl, rfl, by decide, by decide, ?_⟩
  conv => whnf
  refine ⟨by omega, 0, 0, 25, rfl, rfl, rfl, by decide, by decide, ?_⟩
  conv => whnf
  refine ⟨by omega, 0, 0, 12, rfl, rfl, rfl, by decide, by decide, ?_⟩
  conv => whnf
  obtain ⟨⟨g0, g1, g2, g3, g4, g5, g6, g7⟩, b2, b3, b4⟩ := hb
  refine hK _ ⟨⟨?_, ?_, ?_, ?_, ?_, ?_, ?_, ?_⟩, fun i hi => ?_, fun i hi => ?_, fun i hi => ?_⟩ ?_
  · rw [← g0]; simp [wr, cp]
  · rw [← g1]; simp [wr, cp]
  · rw [← g2]; simp [wr, cp]
  · rw [← g3]; simp [wr, cp]
  · rw [← g4]; simp [wr, cp]
  · rw [← g5]; simp [wr, cp]
  · rw [← g6]; simp [wr, cp]
  · rw [← g7]; simp [wr, cp]
  · obtain ⟨c1, c2, c3⟩ := b2 i hi
    have hi5 : i < 5 := by omega
    rw [← c1, ← c2, ← c3]
    refine ⟨?_, ?_, ?_⟩ <;> simp [wr, cp, va_cpy, hi5]
  · rw [← b3 i hi]; simp [wr, cp, va_cpy, hi]
  · have hi12 : i < 12 := by omega
    rw [← b4 i hi]; simp [wr, cp, va_cpy, hi12]
  · refine Fm.cp (Fm.cp (Fm.cp (Fm.cp (Fm.cp (Fm.wr (Fm.wr (Fm.wr (Fm.wr (Fm.wr (Fm.wr (Fm.wr (Fm.wr Fm.rf ?_ ?_) ?_ ?_) ?_ ?_) ?_ ?_) ?_ ?_) ?_ ?_) ?_ ?_) ?_ ?_) ?_ ?_) ?_ ?_) ?_ ?_) ?_ ?_) ?_ ?_ <;> decide
theorem c_become_54_8 {C : CC} (hC : Clo C) {d : Nat} (hd : 1 ≤ d) {M : MT} {K : KT} {b : BV} (hb : Bd 8 b M) (h5 : nP b ≤ 5) (h12 : nB b ≤ 12) (hK : ∀ M', Bd 54 b M' → Fm M M' 54 60 → K none M') : C d 9 [.ref 54, .ref 8] M K := by
  refine g_X2_become hC (fun X hX => ?_)
  refine b_X2_become_0 hX ?_
  conv => whnf
  refine ⟨by omega, 0, 0, 5, rfl, rfl, rfl, by decide, by decide, ?_⟩
  conv => whnf
  refine ⟨by omega, 0, 0, 5, rfl, rfl, rfl, by decide, by decide, ?_⟩
  conv => whnf
  refine ⟨by omega, 0, 0, 5, rfl, rfl, rfl, by decide, by decide, ?_⟩
  conv => whnf
  refine ⟨by omega, 0, 0, 25, rfl, rfl, rfl, by decide, by decide, ?_⟩
  conv => whnf
  refine ⟨by omega, 0, 0, 12, rfl, rfl, rfl, by decide, by decide, ?_⟩
  conv => whnf
  obtain ⟨⟨g0, g1, g2, g3, g4, g5, g6, g7⟩, b2, b3, b4⟩ := hb
  refine hK _ ⟨⟨?_, ?_, ?_, ?_, ?_, ?_, ?_, ?_⟩, fun i hi => ?_, fun i hi => ?_, fun i hi => ?_⟩ ?_
  · rw [← g0]; simp [wr, cp]
  · rw [← g1]; simp [wr, cp]
  · rw [← g2]; simp [wr, cp]
  · rw [← g3]; simp [wr, cp]
  · rw [← g4]; simp [wr, cp]
  · rw [← g5]; simp [wr, cp]
  · rw [← g6]; simp [wr, cp]
  · rw [← g7]; simp [wr, cp]
  · obtain ⟨c1, c2, c3⟩ := b2 i hi
    have hi5 : i < 5 := by omega
    rw [← c1, ← c2, ← c3]
    refine ⟨?_, ?_, ?_⟩ <;> simp [wr, cp, va_cpy, hi5]
  · rw [← b3 i hi]; simp [wr, cp, va_cpy, hi]
  · have hi12 : i < 12 := by omega
    rw [← b4 i hi]; simp [wr, cp, va_cpy, hi12]
  · refine Fm.cp (Fm.cp (Fm.cp (Fm.cp (Fm.cp (Fm.wr (Fm.wr (Fm.wr (Fm.wr (Fm.wr (Fm.wr (Fm.wr (Fm.wr Fm.rf ?_ ?_) ?_ ?_) ?_ ?_) ?_ ?_) ?_ ?_) ?_ ?_) ?_ ?_) ?_ ?_) ?_ ?_) ?_ ?_) ?_ ?_) ?_ ?_) ?_ ?_ <;> decide
theorem c_become_8_47 {C : CC} (hC : Clo C) {d : Nat} (hd : 1 ≤ d) {M : MT} {K : KT} {b : BV} (hb : Bd 47 b M) (h5 : nP b ≤ 5) (h12 : nB b ≤ 12) (hK : ∀ M', Bd 8 b M' → Fm M M' 8 14 → K none M') : C d 9 [.ref 8, .ref 47] M K := by
  refine g_X2_become hC (fun X hX => ?_)
  refine b_X2_become_0 hX ?_
  conv => whnf
  refine ⟨by omega, 0, 0, 5, rfl, rfl, rfl, by decide, by decide, ?_⟩
  conv => whnf
  refine ⟨by omega, 0, 0, 5, rfl, rfl, rfl, by decide, by decide, ?_⟩
  conv => whnf
  refine ⟨by omega, 0, 0, 5, rfl, rfl, rfl, by decide, by decide, ?_⟩
  conv => whnf
  refine ⟨by omega, 0, 0, 25, rfl, rfl, rfl, by decide, by decide, ?_⟩
  conv => whnf
  refine ⟨by omega, 0, 0, 12, rfl, rfl, rfl, by decide, by decide, ?_⟩
  conv => whnf
  obtain ⟨⟨g0, g1, g2, g3, g4, g5, g6, g7⟩, b2, b3, b4⟩ := hb
  refine hK _ ⟨⟨?_, ?_, ?_, ?_, ?_, ?_, ?_, ?_⟩, fun i hi => ?_, fun i hi => ?_, fun i hi => ?_⟩ ?_
  · rw [← g0]; simp [wr, cp]
  · rw [← g1]; simp [wr, cp]
  · rw [← g2]; simp [wr, cp]
  · rw [← g3]; simp [wr, cp]
  · rw [← g4]; simp [wr, cp]
  · rw [← g5]; simp [wr, cp]
  · rw [← g6]; simp [wr, cp]
  · rw [← g7]; simp [wr, cp]
  · obtain ⟨c1, c2, c3⟩ := b2 i hi
    have hi5 : i < 5 := by omega
    rw [← c1, ← c2, ← c3]
    refine ⟨?_, ?_, ?_⟩ <;> simp [wr, cp, va_cpy, hi5]
  · rw [← b3 i hi]; simp [wr, cp, va_cpy, hi]
  · have hi12 : i < 12 := by omega
    rw [← b4 i hi]; simp [wr, cp, va_cpy, hi12]
  · refine Fm.cp (Fm.cp (Fm.cp (Fm.cp (Fm.cp (Fm.wr (Fm.wr (Fm.wr (Fm.wr (Fm.wr (Fm.wr (Fm.wr (Fm.wr Fm.rf ?_ ?_) ?_ ?_) ?_ ?_) ?_ ?_) ?_ ?_) ?_ ?_) ?_ ?_) ?_ ?_) ?_ ?_) ?_ ?_) ?_ ?_) ?_ ?_) ?_ ?_ <;> decide
theorem c_become_8_54 {C : CC} (hC : Clo C) {d : Nat} (hd : 1 ≤ d) {M : MT} {K : KT} {b : BV} (hb : Bd 54 b M) (h5 : nP b ≤ 5) (h12 : nB b ≤ 12) (hK : ∀ M', Bd 8 b M' → Fm M M' 8 14 → K none M') : C d 9 [.ref 8, .ref 54] M K := by
  refine g_X2_become hC (fun X hX => ?_)
  refine b_X2_become_0 hX ?_
  conv => whnf
  refine ⟨by omega, 0, 0, 5, rfl, rfl, rfl, by decide, by decide, ?_⟩
  conv => whnf
  refine ⟨by omega, 0, 0, 5, rfl, rfl, rfl, by decide, by decide, ?_⟩
  conv => whnf
  refine ⟨by omega, 0, 0, 5, rfl, rfl, rfl, by decide, by decide, ?_⟩
  conv => whnf
  refine ⟨by omega, 0, 0, 25, rfl, rfl, rfl, by decide, by decide, ?_⟩
  conv => whnf
  refine ⟨by omega, 0, 0, 12, rfl, rfl, rfl, by decide, by decide, ?_⟩
  conv => whnf
  obtain ⟨⟨g0, g1, g2, g3, g4, g5, g6, g7⟩, b2, b3, b4⟩ := hb
  refine hK _ ⟨⟨?_, ?_, ?_, ?_, ?_, ?_, ?_, ?_⟩, fun i hi => ?_, fun i hi => ?_, fun i hi => ?_⟩ ?_
  · rw [← g0]; simp [wr, cp]
  · rw [← g1]; simp [wr, cp]
  · rw [← g2]; simp [wr, cp]
  · rw [← g3]; simp [wr, cp]
  · rw [← g4]; simp [wr, cp]
  · rw [← g5]; simp [wr, cp]
  · rw [← g6]; simp [wr, cp]
  · rw [← g7]; simp [wr, cp]
  · obtain ⟨c1, c2, c3⟩ := b2 i hi
    have hi5 : i < 5 := by omega
    rw [← c1, ← c2, ← c3]
    refine ⟨?_, ?_, ?_⟩ <;> simp [wr, cp, va_cpy, hi5]
  · rw [← b3 i hi]; simp [wr, cp, va_cpy, hi]
  · have hi12 : i < 12 := by omega
    rw [← b4 i hi]; simp [wr, cp, va_cpy, hi12]
  · refine Fm.cp (Fm.cp (Fm.cp (Fm.cp (Fm.cp (Fm.wr (Fm.wr (Fm.wr (Fm.wr (Fm.wr (Fm.wr (Fm.wr (Fm.wr Fm.rf ?_ ?_) ?_ ?_) ?_ ?_) ?_ ?_) ?_ ?_) ?_ ?_) ?_ ?_) ?_ ?_) ?_ ?_) ?_ ?_) ?_ ?_) ?_ ?_) ?_ ?_ <;> decide
theorem c_become_25_8 {C : CC} (hC : Clo C) {d : Nat} (hd : 1 ≤ d) {M : MT} {K : KT} {b : BV} (hb : Bd 8 b M) (h5 : nP b ≤ 5) (h12 : nB b ≤ 12) (hK : ∀ M', Bd 25 b M' → Fm M M' 25 31 → K none M') : C d 9 [.ref 25, .ref 8] M K := by
  refine g_X2_become hC (fun X hX => ?_)
  refine b_X2_become_0 hX ?_
  conv => whnf
  refine ⟨by omega, 0, 0, 5, rfl, rfl, rfl, by decide, by decide, ?_⟩
  conv => whnf
  refine ⟨by omega, 0, 0, 5, rfl, rfl, rfl, by decide, by decide, ?_⟩
  conv => whnf
  refine ⟨by omega, 0, 0, 5, rfl, rfl, rfl, by decide, by decide, ?_⟩
  conv => whnf
  refine ⟨by omega, 0, 0, 25, rfl, rfl, rfl, by decide, by decide, ?_⟩
  conv => whnf
  refine ⟨by omega, 0, 0, 12, rfl, rfl, rfl, by decide, by decide, ?_⟩
  conv => whnf
  obtain ⟨⟨g0, g1, g2, g3, g4, g5, g6, g7⟩, b2, b3, b4⟩ := hb
  refine hK _ ⟨⟨?_, ?_, ?_, ?_, ?_, ?_, ?_, ?_⟩, fun i hi => ?_, fun i hi => ?_, fun i hi => ?_⟩ ?_
  · rw [← g0]; simp [wr, cp]
  · rw [← g1]; simp [wr, cp]
  · rw [← g2]; simp [wr, cp]
  · rw [← g3]; simp [wr, cp]
  · rw [← g4]; simp [wr, cp]
  · rw [← g5]; simp [wr, cp]
  · rw [← g6]; simp [wr, cp]
  · rw [← g7]; simp [wr, cp]
  · obtain ⟨c1, c2, c3⟩ := b2 i hi
    have hi5 : i < 5 := by omega
    rw [← c1, ← c2, ← c3]
    refine ⟨?_, ?_, ?_⟩ <;> simp [wr, cp, va_cpy, hi5]
  · rw [← b3 i hi]; simp [wr, cp, va_cpy, hi]
  · have hi12 : i < 12 := by omega
    rw [← b4 i hi]; simp [wr, cp, va_cpy, hi12]
  · refine Fm.cp (Fm.cp (Fm.cp (Fm.cp (Fm.cp (Fm.wr (Fm.wr (Fm.wr (Fm.wr (Fm.wr (Fm.wr (Fm.wr (Fm.wr Fm.rf ?_ ?_) ?_ ?_) ?_ ?_) ?_ ?_) ?_ ?_) ?_ ?_) ?_ ?_) ?_ ?_) ?_ ?_) ?_ ?_) ?_ ?_) ?_ ?_) ?_ ?_ <;> decide
theorem c_become_32_8 {C : CC} (hC : Clo C) {d : Nat} (hd : 1 ≤ d) {M : MT} {K : KT} {b : BV} (hb : Bd 8 b M) (h5 : nP b ≤ 5) (h12 : nB b ≤ 12) (hK : ∀ M', Bd 32 b M' → Fm M M' 32 38 → K none M') : C d 9 [.ref 32, .ref 8] M K := by
  refine g_X2_become hC (fun X hX => ?_)
  refine b_X2_become_0 hX ?_
  conv => whnf
  refine ⟨by omega, 0, 0, 5, rfl, rfl, rfl, by decide, by decide, ?_⟩
  conv => whnf
  refine ⟨by omega, 0, 0, 5, rfl, rfl, rfl, by decide, by decide, ?_⟩
  conv => whnf
  refine ⟨by omega, 0, 0, 5, rfl, rfl, rfl, by decide, by decide, ?_⟩
  conv => whnf
  refine ⟨by omega, 0, 0, 25, rfl, rfl, rfl, by decide, by decide, ?_⟩
  conv => whnf
  refine ⟨by omega, 0, 0, 12, rfl, rfl, rfl, by decide, by decide, ?_⟩
  conv => whnf
  obtain ⟨⟨g0, g1, g2, g3, g4, g5, g6, g7⟩, b2, b3, b4⟩ := hb
  refine hK _ ⟨⟨?_, ?_, ?_, ?_, ?_, ?_, ?_, ?_⟩, fun i hi => ?_, fun i hi => ?_, fun i hi => ?_⟩ ?_
  · rw [← g0]; simp [wr, cp]
  · rw [← g1]; simp [wr, cp]
  · rw [← g2]; simp [wr, cp]
  · rw [← g3]; simp [wr, cp]
  · rw [← g4]; simp [wr, cp]
  · rw [← g5]; simp [wr, cp]
  · rw [← g6]; simp [wr, cp]
  · rw [← g7]; simp [wr, cp]
  · obtain ⟨c1, c2, c3⟩ := b2 i hi
    have hi5 : i < 5 := by omega
    rw [← c1, ← c2, ← c3]
    refine ⟨?_, ?_, ?_⟩ <;> simp [wr, cp, va_cpy, hi5]
  · rw [← b3 i hi]; simp [wr, cp, va_cpy, hi]
  · have hi12 : i < 12 := by omega
    rw [← b4 i hi]; simp [wr, cp, va_cpy, hi12]
  · refine Fm.cp (Fm.cp (Fm.cp (Fm.cp (Fm.cp (Fm.wr (Fm.wr (Fm.wr (Fm.wr (Fm.wr (Fm.wr (Fm.wr (Fm.wr Fm.rf ?_ ?_) ?_ ?_) ?_ ?_) ?_ ?_) ?_ ?_) ?_ ?_) ?_ ?_) ?_ ?_) ?_ ?_) ?_ ?_) ?_ ?_) ?_ ?_) ?_ ?_ <;> decide
theorem c_become_25_32 {C : CC} (hC : Clo C) {d : Nat} (hd : 1 ≤ d) {M : MT} {K : KT} {b : BV} (hb : Bd 32 b M) (h5 : nP b ≤ 5) (h12 : nB b ≤ 12) (hK : ∀ M', Bd 25 b M' → Fm M M' 25 31 → K none M') : C d 9 [.ref 25, .ref 32] M K := by
  refine g_X2_become hC (fun X hX => ?_)
  refine b_X2_become_0 hX ?_
  conv => whnf
  refine ⟨by omega, 0, 0, 5, rfl, rfl, rfl, by decide, by decide, ?_⟩
  conv => whnf
  refine ⟨by omega, 0, 0, 5, rfl, rfl, rfl, by decide, by decide, ?_⟩
  conv => whnf
  refine ⟨by omega, 0, 0, 5, rfl, rfl, rfl, by decide, by decide, ?_⟩
  conv => whnf
  refine ⟨by omega, 0, 0, 25, rfl, rfl, rfl, by decide, by decide, ?_⟩
  conv => whnf
  refine ⟨by omega, 0, 0, 12, rfl, rfl, rfl, by decide, by decide, ?_⟩
  conv => whnf
  obtain ⟨⟨g0, g1, g2, g3, g4, g5, g6, g7⟩, b2, b3, b4⟩ := hb
  refine hK _ ⟨⟨?_, ?_, ?_, ?_, ?_, ?_, ?_, ?_⟩, fun i hi => ?_, fun i hi => ?_, fun i hi => ?_⟩ ?_
  · rw [← g0]; simp [wr, cp]
  · rw [← g1]; simp [wr, cp]
  · rw [← g2]; simp [wr, cp]
  · rw [← g3]; simp [wr, cp]
  · rw [← g4]; simp [wr, cp]
  · rw [← g5]; simp [wr, cp]
  · rw [← g6]; simp [wr, cp]
  · rw [← g7]; simp [wr, cp]
  · obtain ⟨c1, c2, c3⟩ := b2 i hi
    have hi5 : i < 5 := by omega
    rw [← c1, ← c2, ← c3]
    refine ⟨?_, ?_, ?_⟩ <;> simp [wr, cp, va_cpy, hi5]
  · rw [← b3 i hi]; simp [wr, cp, va_cpy, hi]
  · have hi12 : i < 12 := by omega
    rw [← b4 i hi]; simp [wr, cp, va_cpy, hi12]
  · refine Fm.cp (Fm.cp (Fm.cp (Fm.cp (Fm.cp (Fm.wr (Fm.wr (Fm.wr (Fm.wr (Fm.wr (Fm.wr (Fm.wr (Fm.wr Fm.rf ?_ ?_) ?_ ?_) ?_ ?_) ?_ ?_) ?_ ?_) ?_ ?_) ?_ ?_) ?_ ?_) ?_ ?_) ?_ ?_) ?_ ?_) ?_ ?_) ?_ ?_ <;> decide
