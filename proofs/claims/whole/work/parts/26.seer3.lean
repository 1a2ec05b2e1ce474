/-! who falls out -/
def fallS (g : Nat → Int32) (pace : Int32) : Nat → Int32
  | 0 => 0
  | w + 1 => if pace < g (2 * w) ∨ g (2 * w + 1) < pace then fallS g pace w ||| ((1 : Int32) <<< (nI w &&& 31)) else fallS g pace w
def dancS (b : BV) (g : Nat → Int32) (m : Nat) : Nat → Int32 × Int32
  | 0 => (0, -1000000)
  | k + 1 => if fallS g (meanS (playsS (-1) k b)) m &&& ((dancS b g m k).1 ^^^ -1) = 0 then dancS b g m k else ((dancS b g m k).1 ||| fallS g (meanS (playsS (-1) k b)) m, nI k)
theorem c_fallenAt {C : CC} (hC : Clo C) {d : Nat} {M : MT} {K : KT} {g : Nat → Int32} {pace : Int32} {m : Nat} (hm : m ≤ 10) (hg : ∀ i, i < 2 * m → M 5 i = g i) (hK : K (some (.int (fallS g pace m))) M) : C d 47 [.int pace, .ref 5, .int (nI m)] M K := by
  refine g_X5_fallenAt hC (fun X hX => ?_)
  have loop : ∀ (n w : Nat), w + n = m → X 5 [some (.int pace), some (.ref 5), some (.int (nI m)), some (.int (fallS g pace w)), some (.int (nI w))] [] M := by
    intro n
    induction n with
    | zero =>
      intro w hw
      rw [Nat.add_zero] at hw
      subst hw
      refine b_X5_fallenAt_5 hX ?_
      conv => whnf
      refine ⟨fun q => ?_, fun q => absurd (nI_le (by omega) (by omega)) q⟩
      refine b_X5_fallenAt_46 hX ?_
      conv => whnf
      exact hK
    | succ n ih =>
      intro w hw
      have e0 := hg (2 * w) (by omega)
      have e1 := hg (2 * w + 1) (by omega)
      have b33 : (pace < g (2 * w) ∨ g (2 * w + 1) < pace) → X 33 [some (.int pace), some (.ref 5), some (.int (nI m)), some (.int (fallS g pace w)), some (.int (nI w))] [] M := fun q => by
        refine b_X5_fallenAt_33 hX ?_
        conv => whnf
        have e : fallS g pace (w + 1) = fallS g pace w ||| ((1 : Int32) <<< (nI w &&& 31)) := if_pos q
        rw [nI_1, ← e]
        exact ih (w + 1) (by omega)
      refine b_X5_fallenAt_5 hX ?_
      conv => whnf
      refine ⟨fun q => absurd q (nI_ge (by omega) (by omega)), fun q => ?_⟩
      conv => whnf
      refine ⟨2 * w, (by simp only [lit_nI, nI_add, nI_mul]), by omega, ?_⟩
      conv => whnf
      rw [e0]
      refine ⟨fun q => b33 (Or.inl q), fun q0 => ?_⟩
      conv => whnf
      refine ⟨2 * w + 1, (by simp only [lit_nI, nI_add, nI_mul]), by omega, ?_⟩
      conv => whnf
      rw [e1]
      refine ⟨fun q1 => ?_, fun q1 => ?_⟩
      · refine b_X5_fallenAt_40 hX ?_
        conv => whnf
        have e : fallS g pace (w + 1) = fallS g pace w := if_neg (by rintro (z | z); exact q0 z; exact Int32.not_lt.mpr q1 z)
        rw [nI_1, ← e]
        exact ih (w + 1) (by omega)
      · conv => whnf
        have e : fallS g pace (w + 1) = fallS g pace w ||| ((1 : Int32) <<< (nI w &&& 31)) := if_pos (Or.inr (Int32.not_le.mp q1))
        rw [nI_1, ← e]
        exact ih (w + 1) (by omega)
  refine b_X5_fallenAt_0 hX ?_
  conv => whnf
  exact loop m 0 (by omega)
theorem c_findFallen {C : CC} (hC : Clo C) {d : Nat} (hd : 3 ≤ d) {M : MT} {K : KT} {b : BV} {g : Nat → Int32} {m n : Nat} (hb : Bd 8 b M) (hz : SZb b) (hm : m ≤ 10) (hn : n ≤ 200) (hg : ∀ i, i < 2 * m → M 5 i = g i) (hK : ∀ M', M' 24 4 = (dancS b g m (n + 1)).1 → M' 24 5 = (dancS b g m (n + 1)).2 → Fm M M' 24 40 → K none M') : C d 46 [.ref 24, .ref 8, .ref 5, .int (nI m), .int (nI n)] M K := by
  refine g_X5_findFallen hC (fun X hX => ?_)
  have b41 : ∀ (k : Nat) (o : Option Value) (M' : MT), k ≤ n → (∀ (o : Option Value) (M' : MT), Bd 25 (playsS (-1) k b) M' → M' 24 4 = (dancS b g m (k + 1)).1 → M' 24 5 = (dancS b g m (k + 1)).2 → Fm M M' 24 40 → X 22 [some (.ref 24), some (.ref 8), some (.ref 5), some (.int (nI m)), some (.int (nI n)), some (.int (nI (k + 1))), o] [] M') → Bd 25 (playsS (-1) k b) M' → M' 24 4 = (dancS b g m k).1 → M' 24 5 = (dancS b g m k).2 → Fm M M' 24 40 → X 41 [some (.ref 24), some (.ref 8), some (.ref 5), some (.int (nI m)), some (.int (nI n)), some (.int (nI k)), o] [] M' := by
    intro k o M' hk cont h1 h2 h3 h4
    have hz1 : SZb (playsS (-1) k b) := hz.plays
    refine b_X5_findFallen_41 hX ?_
    conv => whnf
    refine ⟨by omega, c_together_25 hC h1 hz1.1 hz1.2.2.1 ?_⟩
    conv => whnf
    refine ⟨by omega, c_fallenAt (g := g) hC hm (fun i hi => by rw [h4 5 (by decide)]; exact hg i hi) ?_⟩
    conv => whnf
    rw [h2]
    refine ⟨fun q => ?_, fun q => ?_⟩
    · refine b_X5_findFallen_84 hX ?_
      conv => whnf
      rw [nI_1]
      have e : dancS b g m (k + 1) = dancS b g m k := if_pos q
      rw [e] at cont
      exact cont _ M' h1 h2 h3 h4
    · conv => whnf
      rw [nI_1]
      have e : dancS b g m (k + 1) = ((dancS b g m k).1 ||| fallS g (meanS (playsS (-1) k b)) m, nI k) := if_neg q
      rw [e] at cont
      have f : Fm M' (wr (wr M' 24 4 (M' 24 4 ||| fallS g (meanS (playsS (-1) k b)) m)) 24 5 (nI k)) 24 24 := Fm.wr (Fm.wr Fm.rf (by decide) (by decide)) (by decide) (by decide)
      refine cont _ _ (h1.fr f (by decide)) ?_ ?_ (h4.tr (f.mono (by decide) (by decide)))
      · simp [wr, h2]
      · simp [wr]
  have loop : ∀ (j k : Nat) (o : Option Value) (M' : MT), k + j = n + 1 → Bd 25 (playsS (-1) (k - 1) b) M' → M' 24 4 = (dancS b g m k).1 → M' 24 5 = (dancS b g m k).2 → Fm M M' 24 40 → X 22 [some (.ref 24), some (.ref 8), some (.ref 5), some (.int (nI m)), some (.int (nI n)), some (.int (nI k)), o] [] M' := by
    intro j
    induction j with
    | zero =>
      intro k o M' hk h1 h2 h3 h4
      have hk : k = n + 1 := by omega
      subst hk
      refine b_X5_findFallen_22 hX ?_
      conv => whnf
      refine ⟨fun q => ?_, fun q => absurd (nI_lt (by omega) (by omega)) q⟩
      refine b_X5_findFallen_90 hX ?_
      conv => whnf
      exact hK M' h2 h3 h4
    | succ j ih =>
      intro k o M' hk h1 h2 h3 h4
      refine b_X5_findFallen_22 hX ?_
      conv => whnf
      refine ⟨fun q => absurd q (nI_nlt (by omega) (by omega)), fun q => ?_⟩
      conv => whnf
      refine ⟨fun q0 => ?_, fun q0 => ?_⟩
      · have hk0 : k = 0 := by
          rcases Nat.eq_zero_or_pos k with z | z
          · exact z
          · exact absurd q0 (nI_nle z (by omega))
        subst hk0
        exact b41 0 o M' (by omega) (fun o M1 a1 a2 a3 a4 => ih 1 o M1 (by omega) a1 a2 a3 a4) h1 h2 h3 h4
      · have hk0 : 0 < k := by
          rcases Nat.eq_zero_or_pos k with z | z
          · rw [z] at q0; exact absurd (by decide) q0
          · exact z
        conv => whnf
        refine ⟨by omega, c_play_25 hC (by omega) h1 hz.plays (fun M1 g1 g2 => ?_)⟩
        rw [← playsS_succ, show k - 1 + 1 = k by omega] at g1
        conv => whnf
        exact b41 k o M1 (by omega) (fun o M1 a1 a2 a3 a4 => ih (k + 1) o M1 (by omega) a1 a2 a3 a4) g1 (by rw [g2 24 (by decide)]; exact h2) (by rw [g2 24 (by decide)]; exact h3) (h4.tr (g2.mono (by decide) (by decide)))
  refine b_X5_findFallen_0 hX ?_
  conv => whnf
  have f : Fm M (wr (wr M 24 4 0) 24 5 (-1000000)) 24 24 := Fm.wr (Fm.wr Fm.rf (by decide) (by decide)) (by decide) (by decide)
  refine ⟨by omega, c_become_25_8 hC (by omega) (hb.fr f (by decide)) hz.2.2.1 hz.2.2.2.2.1 (fun M1 g1 g2 => ?_)⟩
  conv => whnf
  refine loop (n + 1) 0 none M1 (by omega) g1 ?_ ?_ ((f.mono (by decide) (by decide)).tr (g2.mono (by decide) (by decide)))
  · rw [g2 24 (by decide)]; simp [wr, dancS]
  · rw [g2 24 (by decide)]; simp [wr, dancS]
/-! claps -/
def quickS (b : BV) (c : Int32) : BV := fun k => if 26 ≤ k ∧ k < 26 + nP b then boundS (b k + c) else b k
theorem quickS_lo {b : BV} {c : Int32} {k : Nat} (h : k < 26 ∨ 31 ≤ k) (h5 : nP b ≤ 5) : quickS b c k = b k := if_neg (by omega)
theorem quickS_pace {b : BV} {c : Int32} {p : Nat} (h : p < nP b) : quickS b c (26 + p) = boundS (b (26 + p) + c) := if_pos (by omega)
theorem nP_quickS {b : BV} {c : Int32} (h5 : nP b ≤ 5) : nP (quickS b c) = nP b := by unfold nP; rw [quickS_lo (by omega) h5]
theorem nB_quickS {b : BV} {c : Int32} (h5 : nP b ≤ 5) : nB (quickS b c) = nB b := by unfold nB; rw [quickS_lo (by omega) h5]
theorem nX_quickS {b : BV} {c : Int32} (h5 : nP b ≤ 5) : nX (quickS b c) = nX b := by unfold nX; rw [quickS_lo (by omega) h5]
theorem SZb.quick {b : BV} {c : Int32} (h : SZb b) : SZb (quickS b c) := by
  have h5 := h.2.2.1
  unfold SZb
  rw [nP_quickS h5, nB_quickS h5, nX_quickS h5, quickS_lo (by omega) h5, quickS_lo (by omega) h5, quickS_lo (by omega) h5]
  exact h
/-- a band whose paces alone are others -/
theorem Bd.paces {r : Nat} {b b' : BV} {M M' : MT} (hb : Bd r b M) (h5 : nP b ≤ 5) (h12 : nB b ≤ 12) (hM : ∀ q, q ≠ r + 3 → M' q = M q) (he : ∀ k, k < 26 ∨ 31 ≤ k → b' k = b k) (hp : ∀ i, i < nP b → M' (r + 3) i = b' (26 + i)) : Bd r b' M' := by
  obtain ⟨h1, h2, h3, h4⟩ := hb
  have e1 : nP b' = nP b := by unfold nP; rw [he 5 (by omega)]
  have e2 : nB b' = nB b := by unfold nB; rw [he 4 (by omega)]
  refine ⟨?_, fun i hi => ?_, fun i hi => ?_, fun i hi => ?_⟩
  · rw [hM r (by omega), he 5 (by omega), he 4 (by omega), he 6 (by omega), he 7 (by omega), he 0 (by omega), he 1 (by omega), he 2 (by omega), he 3 (by omega)]; exact h1
  · rw [e1] at hi
    rw [hM (r + 1) (by omega), hM (r + 2) (by omega), he (21 + i) (by omega), he (31 + i) (by omega)]
    exact ⟨(h2 i hi).1, (h2 i hi).2.1, hp i hi⟩
  · rw [hM (r + 5) (by omega), he (36 + i) (by omega)]; exact h3 i hi
  · rw [e2] at hi
    rw [hM (r + 6) (by omega), he (9 + i) (by omega)]; exact h4 i hi
theorem c_quicken_8 {C : CC} (hC : Clo C) {d : Nat} (hd : 1 ≤ d) {M : MT} {K : KT} {b : BV} {c : Int32} (hb : Bd 8 b M) (hz : SZb b) (hK : ∀ M', Bd 8 (quickS b c) M' → Fm M M' 8 14 → K none M') : C d 20 [.ref 8, .int c] M K := by
  have z3 := hz.2.2.1
  have z12 := hz.2.2.2.2.1
  have p0 : M 8 0 = nI (nP b) := hb.1.1.trans hz.1
  refine g_X2_quicken hC (fun X hX => ?_)
  have loop : ∀ (n j : Nat) (M' : MT), j + n = nP b → (∀ q, q ≠ 11 → M' q = M q) → (∀ i, i < nP b → M' 11 i = if i < j then boundS (b (26 + i) + c) else b (26 + i)) → X 2 [some (.ref 8), some (.int c), some (.int (nI j))] [] M' := by
    intro n
    induction n with
    | zero =>
      intro j M' hj h1 h2
      rw [Nat.add_zero] at hj
      subst hj
      refine b_X2_quicken_2 hX ?_
      conv => whnf
      rw [h1 8 (by decide)]
      refine ⟨fun q => ?_, fun q => absurd (by rw [p0]; exact nI_le (by omega) (by omega)) q⟩
      refine b_X2_quicken_33 hX ?_
      conv => whnf
      refine hK M' (hb.paces z3 z12 h1 (fun k hk => quickS_lo hk z3) (fun i hi => ?_)) (fun q hq => h1 q (by omega))
      rw [quickS_pace hi, h2 i hi, if_pos hi]
    | succ n ih =>
      intro j M' hj h1 h2
      refine b_X2_quicken_2 hX ?_
      conv => whnf
      rw [h1 8 (by decide)]
      refine ⟨fun q => absurd q (by rw [p0]; exact nI_ge (by omega) (by omega)), fun q => ?_⟩
      conv => whnf
      refine ⟨j, rfl, by omega, ?_⟩
      conv => whnf
      refine ⟨by omega, c_bounded hC ?_⟩
      conv => whnf
      refine ⟨j, rfl, by omega, ?_⟩
      conv => whnf
      rw [nI_1]
      refine ih (j + 1) _ (by omega) (fun q hq => by rw [wr_off hq]; exact h1 q hq) (fun i hi => ?_)
      by_cases e : i = j
      · subst e; rw [wr_at, h2 i hi, if_neg (by omega), if_pos (by omega)]
      · rw [wr_ne e, h2 i hi]
        by_cases e2 : i < j
        · rw [if_pos e2, if_pos (by omega)]
        · rw [if_neg e2, if_neg (by omega)]
  refine b_X2_quicken_0 hX ?_
  conv => whnf
  refine loop (nP b) 0 M (by omega) (fun _ _ => rfl) (fun i hi => ?_)
  rw [if_neg (by omega)]
  exact (hb.2.1 i hi).2.2
theorem c_quicken_32 {C : CC} (hC : Clo C) {d : Nat} (hd : 1 ≤ d) {M : MT} {K : KT} {b : BV} {c : Int32} (hb : Bd 32 b M) (hz : SZb b) (hK : ∀ M', Bd 32 (quickS b c) M' → Fm M M' 32 38 → K none M') : C d 20 [.ref 32, .int c] M K := by
  have z3 := hz.2.2.1
  have z12 := hz.2.2.2.2.1
  have p0 : M 32 0 = nI (nP b) := hb.1.1.trans hz.1
  refine g_X2_quicken hC (fun X hX => ?_)
  have loop : ∀ (n j : Nat) (M' : MT), j + n = nP b → (∀ q, q ≠ 35 → M' q = M q) → (∀ i, i < nP b → M' 35 i = if i < j then boundS (b (26 + i) + c) else b (26 + i)) → X 2 [some (.ref 32), some (.int c), some (.int (nI j))] [] M' := by
    intro n
    induction n with
    | zero =>
      intro j M' hj h1 h2
      rw [Nat.add_zero] at hj
      subst hj
      refine b_X2_quicken_2 hX ?_
      conv => whnf
      rw [h1 32 (by decide)]
      refine ⟨fun q => ?_, fun q => absurd (by rw [p0]; exact nI_le (by omega) (by omega)) q⟩
      refine b_X2_quicken_33 hX ?_
      conv => whnf
      refine hK M' (hb.paces z3 z12 h1 (fun k hk => quickS_lo hk z3) (fun i hi => ?_)) (fun q hq => h1 q (by omega))
      rw [quickS_pace hi, h2 i hi, if_pos hi]
    | succ n ih =>
      intro j M' hj h1 h2
      refine b_X2_quicken_2 hX ?_
      conv => whnf
      rw [h1 32 (by decide)]
      refine ⟨fun q => absurd q (by rw [p0]; exact nI_ge (by omega) (by omega)), fun q => ?_⟩
      conv => whnf
      refine ⟨j, rfl, by omega, ?_⟩
      conv => whnf
      refine ⟨by omega, c_bounded hC ?_⟩
      conv => whnf
      refine ⟨j, rfl, by omega, ?_⟩
      conv => whnf
      rw [nI_1]
      refine ih (j + 1) _ (by omega) (fun q hq => by rw [wr_off hq]; exact h1 q hq) (fun i hi => ?_)
      by_cases e : i = j
      · subst e; rw [wr_at, h2 i hi, if_neg (by omega), if_pos (by omega)]
      · rw [wr_ne e, h2 i hi]
        by_cases e2 : i < j
        · rw [if_pos e2, if_pos (by omega)]
        · rw [if_neg e2, if_neg (by omega)]
  refine b_X2_quicken_0 hX ?_
  conv => whnf
  refine loop (nP b) 0 M (by omega) (fun _ _ => rfl) (fun i hi => ?_)
  rw [if_neg (by omega)]
  exact (hb.2.1 i hi).2.2
def clapS (b : BV) (c : Int32) (n : Nat) : Int32 := meanS (playsS (-1) n (quickS b c)) - meanS (playsS (-1) n b)
theorem c_gainOfClaps {C : CC} (hC : Clo C) {d : Nat} (hd : 4 ≤ d) {M : MT} {K : KT} {b : BV} {c : Int32} {n : Nat} (hb : Bd 8 b M) (hz : SZb b) (hn : n ≤ 200) (hK : ∀ M', Fm M M' 24 40 → K (some (.int (clapS b c n))) M') : C d 55 [.ref 24, .ref 8, .int c, .int (nI n)] M K := by
  refine g_X5_gainOfClaps hC (fun X hX => ?_)
  refine b_X5_gainOfClaps_0 hX ?_
  conv => whnf
  refine ⟨by omega, c_become_32_8 hC (by omega) hb hz.2.2.1 hz.2.2.2.2.1 (fun M1 g1 g2 => ?_)⟩
  conv => whnf
  refine ⟨by omega, c_quicken_32 hC (by omega) g1 hz (fun M2 g3 g4 => ?_)⟩
  conv => whnf
  refine ⟨by omega, c_behind_32 hC (by omega) g3 hz.quick hn (fun M3 g5 g6 => ?_)⟩
  conv => whnf
  have hz1 : SZb (playsS (-1) n (quickS b c)) := hz.quick.plays
  refine ⟨by omega, c_together_25 hC g5 hz1.1 hz1.2.2.1 ?_⟩
  conv => whnf
  refine ⟨by omega, c_behind_8 hC (by omega) (((hb.fr g2 (by decide)).fr g4 (by decide)).fr g6 (by decide)) hz hn (fun M4 g7 g8 => ?_)⟩
  conv => whnf
  have hz2 : SZb (playsS (-1) n b) := hz.plays
  refine ⟨by omega, c_together_25 hC g7 hz2.1 hz2.2.2.1 ?_⟩
  conv => whnf
  exact hK M4 ((g2.mono (by decide) (by decide)).tr ((g4.mono (by decide) (by decide)).tr ((g6.mono (by decide) (by decide)).tr (g8.mono (by decide) (by decide)))))
/-! who pushed -/
def pushP (b : BV) (g : Nat → Int32) (p m : Nat) : Prop := ∀ q, q < nP b → playS (-1) (setB b (31 + p) (b (31 + p) + nI m)) (26 + q) = g q
noncomputable def whoS (b : BV) (g : Nat → Int32) : Nat → Int32 × Int32
  | 0 => (0, -1000000)
  | p + 1 => match scanS (pushP b g p) 20 1 with
    | none => whoS b g p
    | some m => ((whoS b g p).1 ||| ((1 : Int32) <<< (nI p &&& 31)), if (whoS b g p).2 = -1000000 then nI m else (whoS b g p).2)
theorem c_hasPaces {C : CC} (hC : Clo C) {d : Nat} {M : MT} {K : KT} {P : Nat} (hp : M 25 0 = nI P) (hP : P ≤ 5) (h1 : (∀ q, q < P → M 28 q = M 5 q) → K (some (.int 1)) M) (h0 : ¬ (∀ q, q < P → M 28 q = M 5 q) → K (some (.int 0)) M) : C d 58 [.ref 24, .ref 5] M K := by
  refine g_X5_hasPaces hC (fun X hX => ?_)
  have loop : ∀ (n j : Nat), j + n = P → (∀ q, q < j → M 28 q = M 5 q) → X 2 [some (.ref 24), some (.ref 5), some (.int (nI j))] [] M := by
    intro n
    induction n with
    | zero =>
      intro j hj h
      rw [Nat.add_zero] at hj
      subst hj
      refine b_X5_hasPaces_2 hX ?_
      conv => whnf
      refine ⟨fun q => ?_, fun q => absurd (by rw [hp]; exact nI_le (by omega) (by omega)) q⟩
      refine b_X5_hasPaces_36 hX ?_
      conv => whnf
      exact ⟨Or.inr rfl, h1 h⟩
    | succ n ih =>
      intro j hj h
      refine b_X5_hasPaces_2 hX ?_
      conv => whnf
      refine ⟨fun q => absurd q (by rw [hp]; exact nI_ge (by omega) (by omega)), fun q => ?_⟩
      conv => whnf
      refine ⟨j, rfl, by omega, ?_⟩
      conv => whnf
      refine ⟨j, rfl, by omega, ?_⟩
      conv => whnf
      refine ⟨fun e => ?_, fun e => ?_⟩
      · refine b_X5_hasPaces_30 hX ?_
        conv => whnf
        rw [nI_1]
        refine ih (j + 1) (by omega) (fun p hp => ?_)
        by_cases z : p = j
        · subst z; exact e
        · exact h p (by omega)
      · conv => whnf
        exact ⟨Or.inl rfl, h0 (fun z => e (z j (by omega)))⟩
  refine b_X5_hasPaces_0 hX ?_
  conv => whnf
  exact loop P 0 (by omega) (fun q hq => absurd hq (by omega))
theorem c_leastPush {C : CC} (hC : Clo C) {d : Nat} (hd : 3 ≤ d) {M : MT} {K : KT} {b : BV} {g : Nat → Int32} {p : Nat} (hb : Bd 8 b M) (hz : SZb b) (hp : p < nP b) (hg : ∀ i, i < nP b → M 5 i = g i) (hK1 : ∀ m M', scanS (pushP b g p) 20 1 = some m → Fm M M' 25 31 → 1 ≤ m → m ≤ 20 → K (some (.int (nI m))) M') (hK0 : ∀ M', scanS (pushP b g p) 20 1 = none → Fm M M' 25 31 → K (some (.int (-1000000))) M') : C d 57 [.ref 24, .ref 8, .int (nI p), .ref 5] M K := by
  have z3 := hz.2.2.1
  have z12 := hz.2.2.2.2.1
  refine g_X5_leastPush hC (fun X hX => ?_)
  have loop : ∀ (n m : Nat) (M' : MT), m + n = 21 → 1 ≤ m → scanS (pushP b g p) 20 1 = scanS (pushP b g p) n m → Fm M M' 25 31 → X 3 [some (.ref 24), some (.ref 8), some (.int (nI p)), some (.ref 5), some (.int (nI m))] [] M' := by
    intro n
    induction n with
    | zero =>
      intro m M' hm h1 hs h3
      have hm : m = 21 := by omega
      subst hm
      refine b_X5_leastPush_3 hX ?_
      conv => whnf
      refine ⟨fun q => ?_, fun q => absurd (by decide) q⟩
      refine b_X5_leastPush_56 hX ?_
      conv => whnf
      exact hK0 M' hs h3
    | succ n ih =>
      intro m M' hm h1 hs h3
      refine b_X5_leastPush_3 hX ?_
      conv => whnf
      refine ⟨fun q => absurd ((lt_nI (a := 20) (by omega) (by omega)).mp q) (by omega), fun q => ?_⟩
      conv => whnf
      refine ⟨by omega, c_become_25_8 hC (by omega) (hb.fr h3 (by decide)) z3 z12 (fun M1 g1 g2 => ?_)⟩
      conv => whnf
      refine ⟨p, rfl, by omega, ?_⟩
      conv => whnf
      refine ⟨p, rfl, by omega, ?_⟩
      conv => whnf
      have g3 := g1.haste (p := p) (v := M1 27 p + nI m) hp z3 z12
      rw [show M1 27 p = b (31 + p) from (g1.2.1 p hp).2.1] at g3 ⊢
      have hz1 : SZb (setB b (31 + p) (b (31 + p) + nI m)) := hz.setB (by omega)
      refine ⟨by omega, c_play_25 hC (by omega) g3 hz1 (fun M2 g4 g5 => ?_)⟩
      conv => whnf
      have f : Fm M M2 25 31 := h3.tr (g2.tr ((Fm.wr Fm.rf (by decide) (by decide)).tr g5))
      have nP1 : nP (playS (-1) (setB b (31 + p) (b (31 + p) + nI m))) = nP b := by rw [nP_playS, nP_setB (by omega)]
      have eqv : (∀ q, q < nP b → M2 28 q = M2 5 q) ↔ pushP b g p m := by
        have a : ∀ q, q < nP b → M2 28 q = playS (-1) (setB b (31 + p) (b (31 + p) + nI m)) (26 + q) := fun q hq => (g4.2.1 q (by rw [nP1]; exact hq)).2.2
        have c : ∀ q, q < nP b → M2 5 q = g q := fun q hq => by rw [f 5 (by decide)]; exact hg q hq
        constructor
        · intro h q hq; rw [← a q hq, ← c q hq]; exact h q hq
        · intro h q hq; rw [a q hq, c q hq]; exact h q hq
      refine ⟨by omega, c_hasPaces hC (P := nP b) (by rw [g4.1.1, hz1.play.1, nP1]) z3 (fun q1 => ?_) (fun q0 => ?_)⟩
      · conv => whnf
        refine ⟨fun q => absurd q (by decide), fun _ => ?_⟩
        conv => whnf
        rw [scanS_hit (eqv.mp q1)] at hs
        exact hK1 m M2 hs f h1 (by omega)
      · conv => whnf
        refine ⟨fun _ => ?_, fun z => absurd rfl z⟩
        refine b_X5_leastPush_50 hX ?_
        conv => whnf
        rw [nI_1]
        rw [scanS_miss (fun z => q0 (eqv.mpr z))] at hs
        exact ih (m + 1) M2 (by omega) (by omega) hs f
  refine b_X5_leastPush_0 hX ?_
  conv => whnf
  exact loop 20 1 M (by omega) (by omega) rfl Fm.rf
theorem c_findPushers {C : CC} (hC : Clo C) {d : Nat} (hd : 4 ≤ d) {M : MT} {K : KT} {b : BV} {g : Nat → Int32} (hb : Bd 8 b M) (hz : SZb b) (hg : ∀ i, i < nP b → M 5 i = g i) (hK : ∀ M', M' 24 4 = (whoS b g (nP b)).1 → M' 24 5 = (whoS b g (nP b)).2 → Fm M M' 24 40 → K none M') : C d 56 [.ref 24, .ref 8, .ref 5] M K := by
  have z3 := hz.2.2.1
  have z12 := hz.2.2.2.2.1
  have p0 : M 8 0 = nI (nP b) := hb.1.1.trans hz.1
  refine g_X5_findPushers hC (fun X hX => ?_)
  have loop : ∀ (n p : Nat) (o : Option Value) (M' : MT), p + n = nP b → M' 24 4 = (whoS b g p).1 → M' 24 5 = (whoS b g p).2 → Fm M M' 24 40 → X 13 [some (.ref 24), some (.ref 8), some (.ref 5), some (.int (nI p)), o] [] M' := by
    intro n
    induction n with
    | zero =>
      intro p o M' hp h1 h2 h3
      rw [Nat.add_zero] at hp
      subst hp
      refine b_X5_findPushers_13 hX ?_
      conv => whnf
      rw [h3 8 (by decide)]
      refine ⟨fun q => ?_, fun q => absurd (by rw [p0]; exact nI_le (by omega) (by omega)) q⟩
      refine b_X5_findPushers_70 hX ?_
      conv => whnf
      exact hK M' h1 h2 h3
    | succ n ih =>
      intro p o M' hp h1 h2 h3
      have b64 : ∀ (o : Option Value) (M' : MT), M' 24 4 = (whoS b g (p + 1)).1 → M' 24 5 = (whoS b g (p + 1)).2 → Fm M M' 24 40 → X 64 [some (.ref 24), some (.ref 8), some (.ref 5), some (.int (nI p)), o] [] M' := fun o M' a1 a2 a3 => by
        refine b_X5_findPushers_64 hX ?_
        conv => whnf
        rw [nI_1]
        exact ih (p + 1) o M' (by omega) a1 a2 a3
      refine b_X5_findPushers_13 hX ?_
      conv => whnf
      rw [h3 8 (by decide)]
      refine ⟨fun q => absurd q (by rw [p0]; exact nI_ge (by omega) (by omega)), fun q => ?_⟩
      conv => whnf
      refine ⟨by omega, c_leastPush (g := g) hC (by omega) (hb.fr h3 (by decide)) hz (by omega) (fun i hi => by rw [h3 5 (by decide)]; exact hg i hi) (fun m M1 hs g1 hm1 hm2 => ?_) (fun M1 hs g1 => ?_)⟩
      · have ew : whoS b g (p + 1) = ((whoS b g p).1 ||| ((1 : Int32) <<< (nI p &&& 31)), if (whoS b g p).2 = -1000000 then nI m else (whoS b g p).2) := by
          show (match scanS (pushP b g p) 20 1 with | none => _ | some m => _) = _
          rw [hs]
        have e4 : M1 24 = M' 24 := g1 24 (by decide)
        conv => whnf
        refine ⟨fun q => absurd q (fun z => nI_pos (n := m) (by omega) (by rw [z]; decide)), fun q => ?_⟩
        conv => whnf
        rw [show wr M1 24 4 (M1 24 4 ||| 1 <<< (nI p &&& 31)) 24 5 = M1 24 5 from wr_ne (by decide)]
        refine ⟨fun q1 => ?_, fun q1 => ?_⟩
        · refine b64 _ _ ?_ ?_ (h3.tr ((g1.mono (by decide) (by decide)).tr (Fm.wr Fm.rf (by decide) (by decide))))
          · rw [ew, wr_at, e4, h1]
          · rw [e4, h2] at q1
            rw [ew, wr_ne (by decide), e4, h2, if_neg q1]
        · conv => whnf
          rw [nI_1]
          refine ih (p + 1) _ _ (by omega) ?_ ?_ (h3.tr ((g1.mono (by decide) (by decide)).tr (Fm.wr (Fm.wr Fm.rf (by decide) (by decide)) (by decide) (by decide))))
          · rw [ew, wr_ne (by decide), wr_at, e4, h1]
          · rw [e4, h2] at q1
            rw [ew, wr_at, if_pos q1]
      · have ew : whoS b g (p + 1) = whoS b g p := by
          show (match scanS (pushP b g p) 20 1 with | none => _ | some m => _) = _
          rw [hs]
        conv => whnf
        refine ⟨fun _ => ?_, fun z => absurd rfl z⟩
        refine b64 _ M1 ?_ ?_ (h3.tr (g1.mono (by decide) (by decide)))
        · rw [ew, g1 24 (by decide)]; exact h1
        · rw [ew, g1 24 (by decide)]; exact h2
  refine b_X5_findPushers_0 hX ?_
  conv => whnf
  refine loop (nP b) 0 none _ (by omega) ?_ ?_ (Fm.wr (Fm.wr Fm.rf (by decide) (by decide)) (by decide) (by decide)) <;> simp [wr, whoS]
