def setB (b : BV) (k : Nat) (v : Int32) : BV := fun i => if i = k then v else b i
theorem setB_at {b : BV} {k : Nat} {v : Int32} : setB b k v k = v := by simp [setB]
theorem setB_ne {b : BV} {k i : Nat} {v : Int32} (h : i ≠ k) : setB b k v i = b i := by simp [setB, h]
theorem nP_setB {b : BV} {k : Nat} {v : Int32} (h : k ≠ 5) : nP (setB b k v) = nP b := by unfold nP; rw [setB_ne (Ne.symm h)]
theorem nB_setB {b : BV} {k : Nat} {v : Int32} (h : k ≠ 4) : nB (setB b k v) = nB b := by unfold nB; rw [setB_ne (Ne.symm h)]
theorem nX_setB {b : BV} {k : Nat} {v : Int32} (h : k ≠ 6) : nX (setB b k v) = nX b := by unfold nX; rw [setB_ne (Ne.symm h)]
theorem SZb.setB {b : BV} {k : Nat} {v : Int32} (h : SZb b) (hk : 9 ≤ k) : SZb (setB b k v) := by
  unfold SZb
  rw [nP_setB (by omega), nB_setB (by omega), nX_setB (by omega), setB_ne (by omega), setB_ne (by omega), setB_ne (by omega)]
  exact h
def WB (b : BV) : Prop := SZb b ∧ b 8 = 1 ∧ (∃ g, g ≤ 999 ∧ b 7 = nI g) ∧ (∀ i, i < nP b → (∃ k, 1 ≤ k ∧ k ≤ 5 ∧ b (21 + i) = nI k) ∧ (∃ k, 300 ≤ k ∧ k ≤ 2500 ∧ b (26 + i) = nI k)) ∧ (∀ i j, i < 5 → j < 5 → (∃ w, w ≤ 9 ∧ b (36 + (5 * i + j)) = nI w) ∧ (¬ (i < nP b ∧ j < nP b) → b (36 + (5 * i + j)) = 0))
def driftS (st : Int32) (b : BV) : Int32 := meanS (playsS st (nB b) b) - meanS b
def nearR (q : Int32 × Int32) (which v : Int32) : Int32 × Int32 := if q.1 = -1000000 ∨ abs32 v < abs32 q.2 then (which, v) else q
def inEarS (b : BV) : Nat → Int32 × Int32
  | 0 => (-1000000, -1000000)
  | n + 1 => nearR (inEarS b n) (nI n) (driftS (-1) (setB b (21 + n) 4))
def deafS (b : BV) : Nat → Int32 × Int32
  | 0 => (-1000000, -1000000)
  | e + 1 => if b (36 + e) = 0 then deafS b e else nearR (deafS b e) (nI e) (driftS (-1) (setB b (36 + e) 0))
theorem c_behind_8 {C : CC} (hC : Clo C) {d : Nat} (hd : 3 ≤ d) {M : MT} {K : KT} {b : BV} {n : Nat} (hb : Bd 8 b M) (hz : SZb b) (hn : n ≤ 200) (hK : ∀ M', Bd 25 (playsS (-1) n b) M' → Fm M M' 25 31 → K (some (.ref 25)) M') : C d 40 [.ref 24, .ref 8, .int (nI n)] M K := by
  refine g_X5_behind hC (fun X hX => ?_)
  have loop : ∀ (m k : Nat) (M' : MT), k + m = n → Bd 25 (playsS (-1) k b) M' → Fm M M' 25 31 → X 10 [some (.ref 24), some (.ref 8), some (.int (nI n)), some (.int (nI k))] [] M' := by
    intro m
    induction m with
    | zero =>
      intro k M' hk h1 h2
      rw [Nat.add_zero] at hk
      subst hk
      refine b_X5_behind_10 hX ?_
      conv => whnf
      refine ⟨fun q => ?_, fun q => absurd (nI_le (by omega) (by omega)) q⟩
      refine b_X5_behind_28 hX ?_
      conv => whnf
      exact hK M' h1 h2
    | succ m ih =>
      intro k M' hk h1 h2
      refine b_X5_behind_10 hX ?_
      conv => whnf
      refine ⟨fun q => absurd q (nI_ge (by omega) (by omega)), fun q => ?_⟩
      conv => whnf
      refine ⟨by omega, c_play_25 hC (by omega) h1 hz.plays (fun M1 h3 h4 => ?_)⟩
      conv => whnf
      rw [nI_1]
      rw [← playsS_succ] at h3
      exact ih (k + 1) M1 (by omega) h3 (h2.tr h4)
  refine b_X5_behind_0 hX ?_
  conv => whnf
  refine ⟨by omega, c_become_25_8 hC (by omega) hb hz.2.2.1 hz.2.2.2.2.1 (fun M1 h3 h4 => ?_)⟩
  conv => whnf
  exact loop n 0 M1 (by omega) h3 h4
theorem c_driftOf_8 {C : CC} (hC : Clo C) {d : Nat} (hd : 4 ≤ d) {M : MT} {K : KT} {b : BV} (hb : Bd 8 b M) (hz : SZb b) (hK : ∀ M', Fm M M' 25 31 → K (some (.int (driftS (-1) b))) M') : C d 41 [.ref 24, .ref 8] M K := by
  have z12 := hz.2.2.2.2.1
  refine g_X5_driftOf hC (fun X hX => ?_)
  refine b_X5_driftOf_0 hX ?_
  conv => whnf
  rw [show M 8 1 = nI (nB b) from hb.1.2.1.trans hz.2.2.2.1]
  refine ⟨by omega, c_behind_8 hC (by omega) hb hz (by omega) (fun M1 h1 h2 => ?_)⟩
  conv => whnf
  have hz1 : SZb (playsS (-1) (nB b) b) := hz.plays
  refine ⟨by omega, c_together_25 hC h1 hz1.1 hz1.2.2.1 ?_⟩
  conv => whnf
  refine ⟨by omega, c_together_8 hC (hb.fr h2 (by decide)) hz.1 hz.2.2.1 ?_⟩
  conv => whnf
  exact hK M1 h2
theorem c_behind_32 {C : CC} (hC : Clo C) {d : Nat} (hd : 3 ≤ d) {M : MT} {K : KT} {b : BV} {n : Nat} (hb : Bd 32 b M) (hz : SZb b) (hn : n ≤ 200) (hK : ∀ M', Bd 25 (playsS (-1) n b) M' → Fm M M' 25 31 → K (some (.ref 25)) M') : C d 40 [.ref 24, .ref 32, .int (nI n)] M K := by
  refine g_X5_behind hC (fun X hX => ?_)
  have loop : ∀ (m k : Nat) (M' : MT), k + m = n → Bd 25 (playsS (-1) k b) M' → Fm M M' 25 31 → X 10 [some (.ref 24), some (.ref 32), some (.int (nI n)), some (.int (nI k))] [] M' := by
    intro m
    induction m with
    | zero =>
      intro k M' hk h1 h2
      rw [Nat.add_zero] at hk
      subst hk
      refine b_X5_behind_10 hX ?_
      conv => whnf
      refine ⟨fun q => ?_, fun q => absurd (nI_le (by omega) (by omega)) q⟩
      refine b_X5_behind_28 hX ?_
      conv => whnf
      exact hK M' h1 h2
    | succ m ih =>
      intro k M' hk h1 h2
      refine b_X5_behind_10 hX ?_
      conv => whnf
      refine ⟨fun q => absurd q (nI_ge (by omega) (by omega)), fun q => ?_⟩
      conv => whnf
      refine ⟨by omega, c_play_25 hC (by omega) h1 hz.plays (fun M1 h3 h4 => ?_)⟩
      conv => whnf
      rw [nI_1]
      rw [← playsS_succ] at h3
      exact ih (k + 1) M1 (by omega) h3 (h2.tr h4)
  refine b_X5_behind_0 hX ?_
  conv => whnf
  refine ⟨by omega, c_become_25_32 hC (by omega) hb hz.2.2.1 hz.2.2.2.2.1 (fun M1 h3 h4 => ?_)⟩
  conv => whnf
  exact loop n 0 M1 (by omega) h3 h4
theorem c_driftOf_32 {C : CC} (hC : Clo C) {d : Nat} (hd : 4 ≤ d) {M : MT} {K : KT} {b : BV} (hb : Bd 32 b M) (hz : SZb b) (hK : ∀ M', Fm M M' 25 31 → K (some (.int (driftS (-1) b))) M') : C d 41 [.ref 24, .ref 32] M K := by
  have z12 := hz.2.2.2.2.1
  refine g_X5_driftOf hC (fun X hX => ?_)
  refine b_X5_driftOf_0 hX ?_
  conv => whnf
  rw [show M 32 1 = nI (nB b) from hb.1.2.1.trans hz.2.2.2.1]
  refine ⟨by omega, c_behind_32 hC (by omega) hb hz (by omega) (fun M1 h1 h2 => ?_)⟩
  conv => whnf
  have hz1 : SZb (playsS (-1) (nB b) b) := hz.plays
  refine ⟨by omega, c_together_25 hC h1 hz1.1 hz1.2.2.1 ?_⟩
  conv => whnf
  refine ⟨by omega, c_together_32 hC (hb.fr h2 (by decide)) hz.1 hz.2.2.1 ?_⟩
  conv => whnf
  exact hK M1 h2
theorem c_keepNearest {C : CC} (hC : Clo C) {d : Nat} (hd : 1 ≤ d) {M : MT} {K : KT} {w v : Int32} {q : Int32 × Int32} (h1 : M 24 4 = q.1) (h2 : M 24 5 = q.2) (hK : ∀ M', M' 24 4 = (nearR q w v).1 → M' 24 5 = (nearR q w v).2 → Fm M M' 24 24 → K none M') : C d 51 [.ref 24, .int w, .int v] M K := by
  unfold nearR at hK
  rw [← h1, ← h2] at hK
  refine g_X5_keepNearest hC (fun X hX => ?_)
  have b23 : (M 24 4 = -1000000 ∨ abs32 v < abs32 (M 24 5)) → X 23 [some (.ref 24), some (.int w), some (.int v)] [] M := fun h => by
    rw [if_pos h] at hK
    refine b_X5_keepNearest_23 hX ?_
    conv => whnf
    refine hK _ ?_ ?_ (Fm.wr (Fm.wr Fm.rf (by decide) (by decide)) (by decide) (by decide)) <;> simp [wr]
  refine b_X5_keepNearest_0 hX ?_
  conv => whnf
  refine ⟨fun h => b23 (Or.inl h), fun n1 => ?_⟩
  conv => whnf
  refine ⟨by omega, ?_⟩
  conv => whnf
  refine ⟨by omega, ?_⟩
  conv => whnf
  refine ⟨fun h => ?_, fun h => ?_⟩
  · refine b_X5_keepNearest_33 hX ?_
    conv => whnf
    rw [if_neg (by rintro (z | z); exact n1 z; exact Int32.not_lt.mpr h z)] at hK
    exact hK M h1 h2 Fm.rf
  · conv => whnf
    rw [if_pos (Or.inr (Int32.not_le.mp h))] at hK
    refine hK _ ?_ ?_ (Fm.wr (Fm.wr Fm.rf (by decide) (by decide)) (by decide) (by decide)) <;> simp [wr]
theorem Bd.kind {r : Nat} {b : BV} {M : MT} {p : Nat} {v : Int32} (hb : Bd r b M) (hp : p < nP b) (h5 : nP b ≤ 5) (h12 : nB b ≤ 12) : Bd r (setB b (21 + p) v) (wr M (r + 1) p v) := by
  obtain ⟨h1, h2, h3, h4⟩ := hb
  refine ⟨?_, fun i hi => ?_, fun i hi => ?_, fun i hi => ?_⟩
  · rw [wr_off (by omega), setB_ne (by omega), setB_ne (by omega), setB_ne (by omega), setB_ne (by omega), setB_ne (by omega), setB_ne (by omega), setB_ne (by omega), setB_ne (by omega)]
    exact h1
  · rw [nP_setB (by omega)] at hi
    obtain ⟨c1, c2, c3⟩ := h2 i hi
    refine ⟨?_, ?_, ?_⟩
    · by_cases e : i = p
      · subst e; rw [wr_at, setB_at]
      · rw [wr_ne e, setB_ne (by omega)]; exact c1
    · rw [wr_off (by omega), setB_ne (by omega)]; exact c2
    · rw [wr_off (by omega), setB_ne (by omega)]; exact c3
  · rw [wr_off (by omega), setB_ne (by omega)]; exact h3 i hi
  · rw [nB_setB (by omega)] at hi
    rw [wr_off (by omega), setB_ne (by omega)]; exact h4 i hi
theorem Bd.haste {r : Nat} {b : BV} {M : MT} {p : Nat} {v : Int32} (hb : Bd r b M) (hp : p < nP b) (h5 : nP b ≤ 5) (h12 : nB b ≤ 12) : Bd r (setB b (31 + p) v) (wr M (r + 2) p v) := by
  obtain ⟨h1, h2, h3, h4⟩ := hb
  refine ⟨?_, fun i hi => ?_, fun i hi => ?_, fun i hi => ?_⟩
  · rw [wr_off (by omega), setB_ne (by omega), setB_ne (by omega), setB_ne (by omega), setB_ne (by omega), setB_ne (by omega), setB_ne (by omega), setB_ne (by omega), setB_ne (by omega)]
    exact h1
  · rw [nP_setB (by omega)] at hi
    obtain ⟨c1, c2, c3⟩ := h2 i hi
    refine ⟨?_, ?_, ?_⟩
    · rw [wr_off (by omega), setB_ne (by omega)]; exact c1
    · by_cases e : i = p
      · subst e; rw [wr_at, setB_at]
      · rw [wr_ne e, setB_ne (by omega)]; exact c2
    · rw [wr_off (by omega), setB_ne (by omega)]; exact c3
  · rw [wr_off (by omega), setB_ne (by omega)]; exact h3 i hi
  · rw [nB_setB (by omega)] at hi
    rw [wr_off (by omega), setB_ne (by omega)]; exact h4 i hi
theorem Bd.pace {r : Nat} {b : BV} {M : MT} {p : Nat} {v : Int32} (hb : Bd r b M) (hp : p < nP b) (h5 : nP b ≤ 5) (h12 : nB b ≤ 12) : Bd r (setB b (26 + p) v) (wr M (r + 3) p v) := by
  obtain ⟨h1, h2, h3, h4⟩ := hb
  refine ⟨?_, fun i hi => ?_, fun i hi => ?_, fun i hi => ?_⟩
  · rw [wr_off (by omega), setB_ne (by omega), setB_ne (by omega), setB_ne (by omega), setB_ne (by omega), setB_ne (by omega), setB_ne (by omega), setB_ne (by omega), setB_ne (by omega)]
    exact h1
  · rw [nP_setB (by omega)] at hi
    obtain ⟨c1, c2, c3⟩ := h2 i hi
    refine ⟨?_, ?_, ?_⟩
    · rw [wr_off (by omega), setB_ne (by omega)]; exact c1
    · rw [wr_off (by omega), setB_ne (by omega)]; exact c2
    · by_cases e : i = p
      · subst e; rw [wr_at, setB_at]
      · rw [wr_ne e, setB_ne (by omega)]; exact c3
  · rw [wr_off (by omega), setB_ne (by omega)]; exact h3 i hi
  · rw [nB_setB (by omega)] at hi
    rw [wr_off (by omega), setB_ne (by omega)]; exact h4 i hi
theorem Bd.ear {r : Nat} {b : BV} {M : MT} {p : Nat} {v : Int32} (hb : Bd r b M) (hp : p < 25) (h5 : nP b ≤ 5) (h12 : nB b ≤ 12) : Bd r (setB b (36 + p) v) (wr M (r + 5) p v) := by
  obtain ⟨h1, h2, h3, h4⟩ := hb
  refine ⟨?_, fun i hi => ?_, fun i hi => ?_, fun i hi => ?_⟩
  · rw [wr_off (by omega), setB_ne (by omega), setB_ne (by omega), setB_ne (by omega), setB_ne (by omega), setB_ne (by omega), setB_ne (by omega), setB_ne (by omega), setB_ne (by omega)]
    exact h1
  · rw [nP_setB (by omega)] at hi
    obtain ⟨c1, c2, c3⟩ := h2 i hi
    refine ⟨?_, ?_, ?_⟩
    · rw [wr_off (by omega), setB_ne (by omega)]; exact c1
    · rw [wr_off (by omega), setB_ne (by omega)]; exact c2
    · rw [wr_off (by omega), setB_ne (by omega)]; exact c3
  · by_cases e : i = p
    · subst e; rw [wr_at, setB_at]
    · rw [wr_ne e, setB_ne (by omega)]; exact h3 i hi
  · rw [nB_setB (by omega)] at hi
    rw [wr_off (by omega), setB_ne (by omega)]; exact h4 i hi
theorem c_findInEar {C : CC} (hC : Clo C) {d : Nat} (hd : 5 ≤ d) {M : MT} {K : KT} {b : BV} (hb : Bd 8 b M) (hz : SZb b) (hK : ∀ M', M' 24 4 = (inEarS b (nP b)).1 → M' 24 5 = (inEarS b (nP b)).2 → Fm M M' 24 40 → K none M') : C d 50 [.ref 24, .ref 8] M K := by
  have z3 := hz.2.2.1
  have z12 := hz.2.2.2.2.1
  have p0 : M 8 0 = nI (nP b) := hb.1.1.trans hz.1
  refine g_X5_findInEar hC (fun X hX => ?_)
  have loop : ∀ (n j : Nat) (M' : MT), j + n = nP b → M' 24 4 = (inEarS b j).1 → M' 24 5 = (inEarS b j).2 → Fm M M' 24 40 → X 14 [some (.ref 24), some (.ref 8), some (.int (nI j))] [] M' := by
    intro n
    induction n with
    | zero =>
      intro j M' hj h1 h2 h3
      rw [Nat.add_zero] at hj
      subst hj
      refine b_X5_findInEar_14 hX ?_
      conv => whnf
      rw [h3 8 (by decide)]
      refine ⟨fun q => ?_, fun q => absurd (by rw [p0]; exact nI_le (by omega) (by omega)) q⟩
      refine b_X5_findInEar_59 hX ?_
      conv => whnf
      exact hK M' h1 h2 h3
    | succ n ih =>
      intro j M' hj h1 h2 h3
      refine b_X5_findInEar_14 hX ?_
      conv => whnf
      rw [h3 8 (by decide)]
      refine ⟨fun q => absurd q (by rw [p0]; exact nI_ge (by omega) (by omega)), fun q => ?_⟩
      conv => whnf
      refine ⟨by omega, c_become_32_8 hC (by omega) (hb.fr h3 (by decide)) z3 z12 (fun M1 g1 g2 => ?_)⟩
      conv => whnf
      refine ⟨j, rfl, by omega, ?_⟩
      conv => whnf
      have g3 := g1.kind (p := j) (v := 4) (by omega) z3 z12
      refine ⟨by omega, c_driftOf_32 hC (by omega) g3 (hz.setB (by omega)) (fun M2 g4 => ?_)⟩
      conv => whnf
      have e4 : M2 24 = M' 24 := by rw [g4 24 (by decide), wr_off (by decide), g2 24 (by decide)]
      refine ⟨by omega, c_keepNearest hC (by omega) (q := inEarS b j) (by rw [e4]; exact h1) (by rw [e4]; exact h2) (fun M3 k1 k2 k3 => ?_)⟩
      conv => whnf
      rw [nI_1]
      exact ih (j + 1) M3 (by omega) k1 k2 (h3.tr ((g2.mono (by decide) (by decide)).tr ((Fm.wr Fm.rf (by decide) (by decide)).tr ((g4.mono (by decide) (by decide)).tr (k3.mono (by decide) (by decide))))))
  refine b_X5_findInEar_0 hX ?_
  conv => whnf
  refine loop (nP b) 0 _ (by omega) ?_ ?_ (Fm.wr (Fm.wr Fm.rf (by decide) (by decide)) (by decide) (by decide)) <;> simp [wr, inEarS]
theorem deafS_skip {b : BV} : ∀ (n e : Nat), (∀ k, e ≤ k → k < e + n → b (36 + k) = 0) → deafS b (e + n) = deafS b e := by
  intro n
  induction n with
  | zero => intro e _; rfl
  | succ n ih =>
    intro e h
    rw [← Nat.add_assoc]
    show (if b (36 + (e + n)) = 0 then deafS b (e + n) else _) = _
    rw [if_pos (h (e + n) (by omega) (by omega))]
    exact ih e (fun k h1 h2 => h k h1 (by omega))
theorem c_findDeaf {C : CC} (hC : Clo C) {d : Nat} (hd : 5 ≤ d) {M : MT} {K : KT} {b : BV} (hb : Bd 8 b M) (hw : WB b) (hK : ∀ M', M' 24 4 = (deafS b 25).1 → M' 24 5 = (deafS b 25).2 → Fm M M' 24 40 → K none M') : C d 49 [.ref 24, .ref 8] M K := by
  have hz := hw.1
  have hwe := hw.2.2.2.2
  have z3 := hz.2.2.1
  have z12 := hz.2.2.2.2.1
  have p0 : M 8 0 = nI (nP b) := hb.1.1.trans hz.1
  refine g_X5_findDeaf hC (fun X hX => ?_)
  have loop2 : ∀ (i : Nat), i < nP b → (∀ M', M' 24 4 = (deafS b (5 * (i + 1))).1 → M' 24 5 = (deafS b (5 * (i + 1))).2 → Fm M M' 24 40 → X 14 [some (.ref 24), some (.ref 8), some (.int (nI (i + 1))), some (.int (nI (nP b)))] [] M') → ∀ (n j : Nat) (M' : MT), j + n = nP b → M' 24 4 = (deafS b (5 * i + j)).1 → M' 24 5 = (deafS b (5 * i + j)).2 → Fm M M' 24 40 → X 24 [some (.ref 24), some (.ref 8), some (.int (nI i)), some (.int (nI j))] [] M' := by
    intro i hi cont n
    induction n with
    | zero =>
      intro j M' hj h1 h2 h3
      rw [Nat.add_zero] at hj
      subst hj
      refine b_X5_findDeaf_24 hX ?_
      conv => whnf
      rw [h3 8 (by decide)]
      refine ⟨fun q => ?_, fun q => absurd (by rw [p0]; exact nI_le (by omega) (by omega)) q⟩
      refine b_X5_findDeaf_82 hX ?_
      conv => whnf
      rw [nI_1]
      have e : deafS b (5 * i + nP b + (5 - nP b)) = deafS b (5 * i + nP b) := deafS_skip _ _ (fun k k1 k2 => by
        have := (hwe i (k - 5 * i) (by omega) (by omega)).2 (by omega)
        rwa [show 5 * i + (k - 5 * i) = k by omega] at this)
      rw [show 5 * i + nP b + (5 - nP b) = 5 * (i + 1) by omega] at e
      rw [← e] at h1 h2
      exact cont M' h1 h2 h3
    | succ n ih =>
      intro j M' hj h1 h2 h3
      have hb' := hb.fr h3 (by decide)
      have ew : M' 13 (5 * i + j) = b (36 + (5 * i + j)) := hb'.2.2.1 _ (by omega)
      refine b_X5_findDeaf_24 hX ?_
      conv => whnf
      rw [h3 8 (by decide)]
      refine ⟨fun q => absurd q (by rw [p0]; exact nI_ge (by omega) (by omega)), fun q => ?_⟩
      conv => whnf
      refine ⟨by omega, c_weight_8 hC (by omega) (by omega) ?_⟩
      conv => whnf
      rw [ew]
      refine ⟨fun q0 => ?_, fun q0 => ?_⟩
      · refine b_X5_findDeaf_76 hX ?_
        conv => whnf
        rw [nI_1]
        have e : deafS b (5 * i + (j + 1)) = deafS b (5 * i + j) := if_pos q0
        rw [← e] at h1 h2
        exact ih (j + 1) M' (by omega) h1 h2 h3
      · conv => whnf
        refine ⟨by omega, c_become_32_8 hC (by omega) hb' z3 z12 (fun M1 g1 g2 => ?_)⟩
        conv => whnf
        refine ⟨by omega, c_weigh_32 hC (by omega) (by omega) ?_⟩
        conv => whnf
        have g3 := g1.ear (p := 5 * i + j) (v := 0) (by omega) z3 z12
        refine ⟨by omega, c_driftOf_32 hC (by omega) g3 (hz.setB (by omega)) (fun M2 g4 => ?_)⟩
        conv => whnf
        have e4 : M2 24 = M' 24 := by rw [g4 24 (by decide), wr_off (by decide), g2 24 (by decide)]
        rw [show (5 : Int32) * nI i + nI j = nI (5 * i + j) from (by simp only [lit_nI, nI_add, nI_mul])]
        refine ⟨by omega, c_keepNearest hC (by omega) (q := deafS b (5 * i + j)) (by rw [e4]; exact h1) (by rw [e4]; exact h2) (fun M3 k1 k2 k3 => ?_)⟩
        conv => whnf
        rw [nI_1]
        have e : deafS b (5 * i + (j + 1)) = nearR (deafS b (5 * i + j)) (nI (5 * i + j)) (driftS (-1) (setB b (36 + (5 * i + j)) 0)) := if_neg q0
        rw [← e] at k1 k2
        exact ih (j + 1) M3 (by omega) k1 k2 (h3.tr ((g2.mono (by decide) (by decide)).tr ((Fm.wr Fm.rf (by decide) (by decide)).tr ((g4.mono (by decide) (by decide)).tr (k3.mono (by decide) (by decide))))))
  have loop1 : ∀ (n i : Nat) (o : Option Value) (M' : MT), i + n = nP b → M' 24 4 = (deafS b (5 * i)).1 → M' 24 5 = (deafS b (5 * i)).2 → Fm M M' 24 40 → X 14 [some (.ref 24), some (.ref 8), some (.int (nI i)), o] [] M' := by
    intro n
    induction n with
    | zero =>
      intro i o M' hi h1 h2 h3
      rw [Nat.add_zero] at hi
      subst hi
      refine b_X5_findDeaf_14 hX ?_
      conv => whnf
      rw [h3 8 (by decide)]
      refine ⟨fun q => ?_, fun q => absurd (by rw [p0]; exact nI_le (by omega) (by omega)) q⟩
      refine b_X5_findDeaf_88 hX ?_
      conv => whnf
      have e : deafS b (5 * nP b + (25 - 5 * nP b)) = deafS b (5 * nP b) := deafS_skip _ _ (fun k k1 k2 => by
        have := (hwe (k / 5) (k % 5) (by omega) (by omega)).2 (by omega)
        rwa [show 5 * (k / 5) + k % 5 = k by omega] at this)
      rw [show 5 * nP b + (25 - 5 * nP b) = 25 by omega] at e
      rw [← e] at h1 h2
      exact hK M' h1 h2 h3
    | succ n ih =>
      intro i o M' hi h1 h2 h3
      refine b_X5_findDeaf_14 hX ?_
      conv => whnf
      rw [h3 8 (by decide)]
      refine ⟨fun q => absurd q (by rw [p0]; exact nI_ge (by omega) (by omega)), fun q => ?_⟩
      conv => whnf
      exact loop2 i (by omega) (fun M1 g1 g2 g3 => ih (i + 1) _ M1 (by omega) g1 g2 g3) (nP b) 0 M' (by omega) h1 h2 h3
  refine b_X5_findDeaf_0 hX ?_
  conv => whnf
  refine loop1 (nP b) 0 none _ (by omega) ?_ ?_ (Fm.wr (Fm.wr Fm.rf (by decide) (by decide)) (by decide) (by decide)) <;> simp [wr, deafS]
