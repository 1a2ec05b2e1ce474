/-! bounds -/
def okP (b : BV) : Prop := ∀ i, i < nP b → ∃ k, 300 ≤ k ∧ k ≤ 2500 ∧ b (26 + i) = nI k
theorem rng {x : Int32} (h1 : 300 ≤ x) (h2 : x ≤ 2500) : ∃ k, 300 ≤ k ∧ k ≤ 2500 ∧ x = nI k := by
  have h0 : ¬ x < 0 := fun h => by
    have := Int32.lt_of_le_of_lt h1 h
    exact absurd this (by decide)
  obtain ⟨j, hj, rfl⟩ := nI_of2 (M := 2500) (n := 2500) (by decide) h0 h2
  exact ⟨j, (le_nI (a := 300) (by omega) (by omega)).mp h1, hj, rfl⟩
theorem rng_of {k : Nat} (h1 : 300 ≤ k) (h2 : k ≤ 2500) : (300 : Int32) ≤ nI k ∧ nI k ≤ 2500 := ⟨(le_nI (a := 300) (by omega) (by omega)).mpr h1, (le_nI (b := 2500) (by omega) (by omega)).mpr h2⟩
theorem boundS_ok (v : Int32) : ∃ k, 300 ≤ k ∧ k ≤ 2500 ∧ boundS v = nI k := by
  unfold boundS
  by_cases h : v < 300
  · rw [if_pos h]; exact ⟨300, by omega, by omega, rfl⟩
  · rw [if_neg h]
    by_cases h2 : 2500 < v
    · rw [if_pos h2]; exact ⟨2500, by omega, by omega, rfl⟩
    · rw [if_neg h2]; exact rng (Int32.not_lt.mp h) (Int32.not_lt.mp h2)
theorem okP.play {st : Int32} {b : BV} : okP (playS st b) := fun i hi => by
  rw [nP_playS] at hi
  rw [playS_pace hi]
  exact boundS_ok _
theorem okP.plays {st : Int32} : ∀ {n : Nat} {b : BV}, okP b → okP (playsS st n b) := by
  intro n
  induction n with
  | zero => intro b h; exact h
  | succ n ih => intro b h; exact ih okP.play
theorem okP.setB {b : BV} {p : Nat} {v : Int32} (h : okP b) (hv : ∃ k, 300 ≤ k ∧ k ≤ 2500 ∧ v = nI k) : okP (setB b (26 + p) v) := fun i hi => by
  rw [nP_setB (by omega)] at hi
  by_cases e : i = p
  · subst e; rw [setB_at]; exact hv
  · rw [setB_ne (by omega)]; exact h i hi
theorem sum_ok {b : BV} (h : okP b) : ∀ n, n ≤ nP b → ∃ s, 300 * n ≤ s ∧ s ≤ 2500 * n ∧ sumS b n = nI s := by
  intro n
  induction n with
  | zero => intro _; exact ⟨0, by omega, by omega, rfl⟩
  | succ n ih =>
    intro hn
    obtain ⟨s, h1, h2, h3⟩ := ih (by omega)
    obtain ⟨k, k1, k2, k3⟩ := h n (by omega)
    exact ⟨s + k, by omega, by omega, by show sumS b n + b (26 + n) = _; rw [h3, k3, nI_add]⟩
theorem mean_ok {b : BV} (hz : SZb b) (h : okP b) : ∃ k, 300 ≤ k ∧ k ≤ 2500 ∧ meanS b = nI k := by
  obtain ⟨z1, z2, z3, -⟩ := hz
  obtain ⟨s, h1, h2, h3⟩ := sum_ok h (nP b) (Nat.le_refl _)
  unfold meanS
  rw [if_neg (by omega), h3, z1, pk_div (by omega) z2 (by omega)]
  refine ⟨s / nP b, (Nat.le_div_iff_mul_le z2).mpr h1, ?_, rfl⟩
  exact Nat.div_le_of_le_mul (by rw [Nat.mul_comm]; exact h2)
theorem abs_ok {a b : Nat} (ha : a ≤ 2500) (hb : b ≤ 2500) : ∃ c, c ≤ 2500 ∧ abs32 (nI a - nI b) = nI c := by
  unfold abs32
  rcases Nat.lt_or_ge a b with h | h
  · have h1 : ¬ (0 : Int32) ≤ nI a - nI b := by
      rw [Int32.le_iff_toInt_le, pk_sub_toInt (by omega) (by omega)]
      have : (0 : Int32).toInt = 0 := by decide
      omega
    rw [if_neg h1, Int32.zero_sub, Int32.neg_sub, pk_sub (by omega)]
    exact ⟨b - a, by omega, rfl⟩
  · rw [pk_sub h, if_pos (nI_pos' (by omega))]
    exact ⟨a - b, by omega, rfl⟩
theorem off_ok {b : BV} (hz : SZb b) (h : okP b) {pace : Int32} (h1 : 300 ≤ pace) (h2 : pace ≤ 2500) : abs32 (meanS b - pace) < 1000000000 := by
  obtain ⟨k, k1, k2, k3⟩ := mean_ok hz h
  obtain ⟨p, p1, p2, p3⟩ := rng h1 h2
  obtain ⟨c, c1, c2⟩ := abs_ok (a := k) (b := p) (by omega) (by omega)
  rw [k3, p3, c2]
  exact (lt_nI (b := 1000000000) (by omega) (by omega)).mpr (by omega)
/-! the best of several -/
def bestS (off lab : Nat → Int32) : Nat → Int32 × Int32
  | 0 => (-1000000, 1000000000)
  | k + 1 => if off k < (bestS off lab k).2 then (lab k, off k) else bestS off lab k
def cIv (q : Int32 × Int32) (c1 c2 : Int32) : Prop := (q = (-1000000, 1000000000) ∧ c1 = -1000000 ∧ c2 = 2147483647) ∨ (q = (c1, c2) ∧ c2 < 1000000000)
theorem cIv.fst {q : Int32 × Int32} {c1 c2 : Int32} (h : cIv q c1 c2) : q.1 = c1 := by
  rcases h with ⟨rfl, rfl, -⟩ | ⟨rfl, -⟩ <;> rfl
theorem cIv.hit {off lab : Nat → Int32} {k : Nat} {c1 c2 : Int32} (h : cIv (bestS off lab k) c1 c2) (hf : off k < 1000000000) (hl : off k < c2) : cIv (bestS off lab (k + 1)) (lab k) (off k) := by
  refine Or.inr ⟨?_, hf⟩
  show (if off k < (bestS off lab k).2 then _ else _) = _
  rw [if_pos]
  rcases h with ⟨h, -, -⟩ | ⟨h, -⟩
  · rw [h]; exact hf
  · rw [h]; exact hl
theorem cIv.miss {off lab : Nat → Int32} {k : Nat} {c1 c2 : Int32} (h : cIv (bestS off lab k) c1 c2) (hf : off k < 1000000000) (hl : ¬ off k < c2) : cIv (bestS off lab (k + 1)) c1 c2 := by
  have e : bestS off lab (k + 1) = bestS off lab k := by
    show (if off k < (bestS off lab k).2 then _ else _) = _
    rw [if_neg]
    rcases h with ⟨h, h1, h2⟩ | ⟨h, -⟩
    · exact absurd (by rw [h2]; exact Int32.lt_trans hf (by decide)) hl
    · rw [h]; exact hl
  rw [e]
  exact h
theorem bestS_le {off lab : Nat → Int32} : ∀ k, (bestS off lab k).2 ≤ 1000000000 := by
  intro k
  induction k with
  | zero => exact Int32.le_refl _
  | succ k ih =>
    show (if off k < (bestS off lab k).2 then (lab k, off k) else bestS off lab k).2 ≤ _
    by_cases h : off k < (bestS off lab k).2
    · rw [if_pos h]; exact Int32.le_trans (Int32.le_of_lt h) ih
    · rw [if_neg h]; exact ih
theorem cIv.skip {off lab : Nat → Int32} {k : Nat} {c1 c2 : Int32} (h : cIv (bestS off lab k) c1 c2) (hf : off k = 1000000000) : cIv (bestS off lab (k + 1)) c1 c2 := by
  have e : bestS off lab (k + 1) = bestS off lab k := by
    show (if off k < (bestS off lab k).2 then _ else _) = _
    rw [if_neg]
    rw [hf]
    exact Int32.not_lt.mpr (bestS_le k)
  rw [e]
  exact h
/-! how quick to count it in -/
def allP (b : BV) (v : Int32) : BV := fun k => if 26 ≤ k ∧ k < 26 + nP b then v else b k
theorem allP_lo {b : BV} {c : Int32} {k : Nat} (h : k < 26 ∨ 31 ≤ k) (h5 : nP b ≤ 5) : allP b c k = b k := if_neg (by omega)
theorem allP_pace {b : BV} {c : Int32} {p : Nat} (h : p < nP b) : allP b c (26 + p) = c := if_pos (by omega)
theorem nP_allP {b : BV} {c : Int32} (h5 : nP b ≤ 5) : nP (allP b c) = nP b := by unfold nP; rw [allP_lo (by omega) h5]
theorem SZb.all {b : BV} {c : Int32} (h : SZb b) : SZb (allP b c) := by
  have h5 := h.2.2.1
  have e1 : nB (allP b c) = nB b := by unfold nB; rw [allP_lo (by omega) h5]
  have e2 : nX (allP b c) = nX b := by unfold nX; rw [allP_lo (by omega) h5]
  unfold SZb
  rw [nP_allP h5, e1, e2, allP_lo (by omega) h5, allP_lo (by omega) h5, allP_lo (by omega) h5]
  exact h
theorem okP.all {b : BV} (h5 : nP b ≤ 5) {v : Int32} (hv : ∃ k, 300 ≤ k ∧ k ≤ 2500 ∧ v = nI k) : okP (allP b v) := fun i hi => by
  rw [nP_allP h5] at hi
  rw [allP_pace hi]
  exact hv
def offC (b : BV) (n : Nat) (pace : Int32) (k : Nat) : Int32 := abs32 (meanS (playsS (-1) n (allP b (10 * nI (40 + k)))) - pace)
def cntIn (b : BV) (n : Nat) (pace : Int32) : Int32 := (bestS (offC b n pace) (fun k => 10 * nI (40 + k)) 60).1
theorem ten_ok {k : Nat} (hk : k < 60) : ∃ j, 300 ≤ j ∧ j ≤ 2500 ∧ (10 : Int32) * nI (40 + k) = nI j := ⟨10 * (40 + k), by omega, by omega, (by simp only [lit_nI, nI_add, nI_mul])⟩
theorem c_bestCountIn {C : CC} (hC : Clo C) {d : Nat} (hd : 4 ≤ d) {M : MT} {K : KT} {b : BV} {n : Nat} {pace : Int32} (hb : Bd 8 b M) (hz : SZb b) (hn : n ≤ 200) (h1 : 300 ≤ pace) (h2 : pace ≤ 2500) (hK : ∀ M', Fm M M' 24 40 → K (some (.int (cntIn b n pace))) M') : C d 48 [.ref 24, .ref 8, .int (nI n), .int pace] M K := by
  have z3 := hz.2.2.1
  have z12 := hz.2.2.2.2.1
  refine g_X5_bestCountIn hC (fun X hX => ?_)
  have inner : ∀ (k : Nat) (c1 c2 : Int32), k < 60 → (∀ M', Bd 32 (allP b (10 * nI (40 + k))) M' → Fm M M' 24 40 → X 63 [some (.ref 24), some (.ref 8), some (.int (nI n)), some (.int pace), some (.int c1), some (.int c2), some (.int (nI (40 + k))), some (.int (nI (nP b)))] [] M') → ∀ (m j : Nat) (M0 M' : MT), j + m = nP b → Bd 32 b M0 → Fm M M0 24 40 → (∀ q, q ≠ 35 → M' q = M0 q) → (∀ i, i < j → M' 35 i = 10 * nI (40 + k)) → X 30 [some (.ref 24), some (.ref 8), some (.int (nI n)), some (.int pace), some (.int c1), some (.int c2), some (.int (nI (40 + k))), some (.int (nI j))] [] M' := by
    intro k c1 c2 hk cont m
    induction m with
    | zero =>
      intro j M0 M' hj a1 a2 a3 a4
      rw [Nat.add_zero] at hj
      subst hj
      refine b_X5_bestCountIn_30 hX ?_
      conv => whnf
      rw [a3 32 (by decide)]
      refine ⟨fun q => ?_, fun q => absurd (by rw [a1.1.1, hz.1]; exact nI_le (by omega) (by omega)) q⟩
      refine cont M' (a1.paces z3 z12 a3 (fun k hk => allP_lo hk z3) (fun i hi => ?_)) (a2.tr (fun q hq => a3 q (by omega)))
      rw [allP_pace hi]
      exact a4 i hi
    | succ m ih =>
      intro j M0 M' hj a1 a2 a3 a4
      refine b_X5_bestCountIn_30 hX ?_
      conv => whnf
      rw [a3 32 (by decide)]
      refine ⟨fun q => absurd q (by rw [a1.1.1, hz.1]; exact nI_ge (by omega) (by omega)), fun q => ?_⟩
      conv => whnf
      refine ⟨j, rfl, by omega, ?_⟩
      conv => whnf
      rw [nI_1]
      refine ih (j + 1) M0 _ (by omega) a1 a2 (fun q hq => by rw [wr_off hq]; exact a3 q hq) (fun i hi => ?_)
      by_cases e : i = j
      · subst e; exact wr_at
      · rw [wr_ne e]; exact a4 i (by omega)
  have loop : ∀ (m k : Nat) (c1 c2 : Int32) (o : Option Value) (M' : MT), k + m = 60 → cIv (bestS (offC b n pace) (fun k => 10 * nI (40 + k)) k) c1 c2 → Fm M M' 24 40 → X 12 [some (.ref 24), some (.ref 8), some (.int (nI n)), some (.int pace), some (.int c1), some (.int c2), some (.int (nI (40 + k))), o] [] M' := by
    intro m
    induction m with
    | zero =>
      intro k c1 c2 o M' hk hv h3
      have hk : k = 60 := by omega
      subst hk
      refine b_X5_bestCountIn_12 hX ?_
      conv => whnf
      refine ⟨fun q => ?_, fun q => absurd (by decide) q⟩
      refine b_X5_bestCountIn_106 hX ?_
      conv => whnf
      rw [← hv.fst]
      exact hK M' h3
    | succ m ih =>
      intro k c1 c2 o M' hk hv h3
      refine b_X5_bestCountIn_12 hX ?_
      conv => whnf
      refine ⟨fun q => absurd ((lt_nI (a := 99) (by omega) (by omega)).mp q) (by omega), fun q => ?_⟩
      conv => whnf
      refine ⟨by omega, c_become_32_8 hC (by omega) (hb.fr h3 (by decide)) z3 z12 (fun M1 g1 g2 => ?_)⟩
      conv => whnf
      refine inner k c1 c2 (by omega) (fun M2 a1 a2 => ?_) (nP b) 0 M1 M1 (by omega) g1 (h3.tr (g2.mono (by decide) (by decide))) (fun _ _ => rfl) (fun i hi => absurd hi (by omega))
      refine b_X5_bestCountIn_63 hX ?_
      conv => whnf
      refine ⟨by omega, c_behind_32 hC (by omega) a1 hz.all hn (fun M3 a3 a4 => ?_)⟩
      conv => whnf
      have hz1 : SZb (playsS (-1) n (allP b (10 * nI (40 + k)))) := hz.all.plays
      refine ⟨by omega, c_together_25 hC a3 hz1.1 hz1.2.2.1 ?_⟩
      conv => whnf
      refine ⟨by omega, ?_⟩
      have hf : offC b n pace k < 1000000000 := off_ok hz1 (okP.plays (okP.all z3 (ten_ok (by omega)))) h1 h2
      have a5 : Fm M M3 24 40 := a2.tr (a4.mono (by decide) (by decide))
      conv => whnf
      refine ⟨fun q1 => ?_, fun q1 => ?_⟩
      · refine b_X5_bestCountIn_100 hX ?_
        conv => whnf
        rw [nI_1]
        exact ih (k + 1) c1 c2 _ M3 (by omega) (hv.miss hf (Int32.not_lt.mpr q1)) a5
      · conv => whnf
        rw [nI_1]
        exact ih (k + 1) _ _ _ M3 (by omega) (hv.hit hf (Int32.not_le.mp q1)) a5
  refine b_X5_bestCountIn_0 hX ?_
  conv => whnf
  exact loop 60 0 _ _ none M (by omega) (Or.inl ⟨rfl, rfl, rfl⟩) Fm.rf
/-! where to take it back -/
def backB (b : BV) (p : Nat) (dd : Int32) (w : Nat) : Nat → BV
  | 0 => b
  | k + 1 => playS (-1) (if k = w then setB (backB b p dd w k) (26 + p) (boundS (backB b p dd w k (26 + p) - dd)) else backB b p dd w k)
def passP (b : BV) (p : Nat) (dd : Int32) (w n : Nat) : Prop := ∀ k, k < n → abs32 (meanS (backB b p dd w (k + 1)) - meanS (backB b p dd w k)) ≤ 9
theorem SZb.back {b : BV} {p : Nat} {dd : Int32} {w : Nat} (h : SZb b) : ∀ k, SZb (backB b p dd w k) := by
  intro k
  induction k with
  | zero => exact h
  | succ k ih =>
    show SZb (playS (-1) (if k = w then _ else _))
    by_cases e : k = w
    · rw [if_pos e]; exact (ih.setB (by omega)).play
    · rw [if_neg e]; exact ih.play
theorem nP_back {b : BV} {p : Nat} {dd : Int32} {w : Nat} : ∀ k, nP (backB b p dd w k) = nP b := by
  intro k
  induction k with
  | zero => rfl
  | succ k ih =>
    show nP (playS (-1) (if k = w then _ else _)) = _
    rw [nP_playS]
    by_cases e : k = w
    · rw [if_pos e, nP_setB (by omega)]; exact ih
    · rw [if_neg e]; exact ih
noncomputable def offB (b : BV) (p : Nat) (dd : Int32) (n : Nat) (pace : Int32) (w : Nat) : Int32 := @ite _ (passP b p dd w n) (Classical.propDecidable _) (abs32 (meanS (backB b p dd w n) - pace)) 1000000000
noncomputable def backR (b : BV) (p : Nat) (dd : Int32) (n : Nat) (pace : Int32) : Int32 := (bestS (offB b p dd n pace) (fun k => nI k) n).1
theorem c_passes {C : CC} (hC : Clo C) {d : Nat} (hd : 3 ≤ d) {M : MT} {K : KT} {b : BV} {p n w : Nat} {dd : Int32} (hb : Bd 8 b M) (hz : SZb b) (hp : p < nP b) (hn : n ≤ 40) (hw : w ≤ 40) (hK1 : ∀ M', passP b p dd w n → Bd 25 (backB b p dd w n) M' → Fm M M' 24 40 → K (some (.int 1)) M') (hK0 : ∀ M', ¬ passP b p dd w n → Fm M M' 24 40 → K (some (.int 0)) M') : C d 54 [.ref 24, .ref 8, .int (nI p), .int dd, .int (nI n), .int (nI w)] M K := by
  have z3 := hz.2.2.1
  have z12 := hz.2.2.2.2.1
  refine g_X5_passesUnnoticed hC (fun X hX => ?_)
  have loop : ∀ (m k : Nat) (o : Option Value) (M' : MT), k + m = n → (∀ j, j < k → abs32 (meanS (backB b p dd w (j + 1)) - meanS (backB b p dd w j)) ≤ 9) → Bd 25 (backB b p dd w k) M' → Fm M M' 24 40 → X 11 [some (.ref 24), some (.ref 8), some (.int (nI p)), some (.int dd), some (.int (nI n)), some (.int (nI w)), some (.int (nI k)), o] [] M' := by
    intro m
    induction m with
    | zero =>
      intro k o M' hk hs h1 h2
      rw [Nat.add_zero] at hk
      subst hk
      refine b_X5_passesUnnoticed_11 hX ?_
      conv => whnf
      refine ⟨fun q => ?_, fun q => absurd (nI_le (by omega) (by omega)) q⟩
      refine b_X5_passesUnnoticed_90 hX ?_
      conv => whnf
      exact ⟨Or.inr rfl, hK1 M' hs h1 h2⟩
    | succ m ih =>
      intro k o M' hk hs h1 h2
      have hz1 : SZb (backB b p dd w k) := hz.back k
      have hz2 : SZb (backB b p dd w (k + 1)) := hz.back (k + 1)
      have nk : nP (backB b p dd w k) = nP b := nP_back k
      have b57 : ∀ M1, Bd 25 (if k = w then setB (backB b p dd w k) (26 + p) (boundS (backB b p dd w k (26 + p) - dd)) else backB b p dd w k) M1 → Fm M M1 24 40 → X 57 [some (.ref 24), some (.ref 8), some (.int (nI p)), some (.int dd), some (.int (nI n)), some (.int (nI w)), some (.int (nI k)), some (.int (meanS (backB b p dd w k)))] [] M1 := fun M1 a1 a2 => by
        refine b_X5_passesUnnoticed_57 hX ?_
        conv => whnf
        have hz3 : SZb (if k = w then setB (backB b p dd w k) (26 + p) (boundS (backB b p dd w k (26 + p) - dd)) else backB b p dd w k) := by
          by_cases e : k = w
          · rw [if_pos e]; exact hz1.setB (by omega)
          · rw [if_neg e]; exact hz1
        refine ⟨by omega, c_play_25 hC (by omega) a1 hz3 (fun M2 g1 g2 => ?_)⟩
        have g1 : Bd 25 (backB b p dd w (k + 1)) M2 := g1
        conv => whnf
        refine ⟨by omega, c_together_25 hC g1 hz2.1 hz2.2.2.1 ?_⟩
        conv => whnf
        refine ⟨by omega, ?_⟩
        conv => whnf
        refine ⟨fun q1 => ?_, fun q1 => ?_⟩
        · refine b_X5_passesUnnoticed_84 hX ?_
          conv => whnf
          rw [nI_1]
          refine ih (k + 1) _ M2 (by omega) (fun j hj => ?_) g1 (a2.tr (g2.mono (by decide) (by decide)))
          by_cases e : j = k
          · subst e; exact q1
          · exact hs j (by omega)
        · conv => whnf
          exact ⟨Or.inl rfl, hK0 M2 (fun z => q1 (z k (by omega))) (a2.tr (g2.mono (by decide) (by decide)))⟩
      refine b_X5_passesUnnoticed_11 hX ?_
      conv => whnf
      refine ⟨fun q => absurd q (nI_ge (by omega) (by omega)), fun q => ?_⟩
      conv => whnf
      refine ⟨by omega, c_together_25 hC h1 hz1.1 hz1.2.2.1 ?_⟩
      conv => whnf
      refine ⟨fun q0 => ?_, fun q0 => ?_⟩
      · refine b57 M' ?_ h2
        rw [if_neg (fun z => q0 (by rw [z]))]
        exact h1
      · have q0 : k = w := (eq_nI (by omega) (by omega)).mp q0
        conv => whnf
        refine ⟨p, rfl, by omega, ?_⟩
        conv => whnf
        refine ⟨by omega, c_bounded hC ?_⟩
        conv => whnf
        refine ⟨p, rfl, by omega, ?_⟩
        conv => whnf
        refine b57 (wr M' 28 p (boundS (M' 28 p - dd))) ?_ (h2.tr (Fm.wr Fm.rf (by decide) (by decide)))
        rw [if_pos q0, show M' 28 p = backB b p dd w k (26 + p) from (h1.2.1 p (by omega)).2.2]
        exact h1.pace (by omega) hz1.2.2.1 hz1.2.2.2.2.1
  refine b_X5_passesUnnoticed_0 hX ?_
  conv => whnf
  refine ⟨by omega, c_become_25_8 hC (by omega) hb z3 z12 (fun M1 g1 g2 => ?_)⟩
  conv => whnf
  exact loop n 0 none M1 (by omega) (fun j hj => absurd hj (by omega)) g1 (g2.mono (by decide) (by decide))
theorem okP.back {b : BV} {p : Nat} {dd : Int32} {w : Nat} (h : okP b) : ∀ k, okP (backB b p dd w k) := by
  intro k
  cases k with
  | zero => exact h
  | succ k => exact okP.play
theorem c_bestBack {C : CC} (hC : Clo C) {d : Nat} (hd : 4 ≤ d) {M : MT} {K : KT} {b : BV} {p n : Nat} {dd pace : Int32} (hb : Bd 8 b M) (hz : SZb b) (hok : okP b) (hp : p < nP b) (hn : n ≤ 40) (h1 : 300 ≤ pace) (h2 : pace ≤ 2500) (hK : ∀ M', Fm M M' 24 40 → K (some (.int (backR b p dd n pace))) M') : C d 53 [.ref 24, .ref 8, .int (nI p), .int dd, .int (nI n), .int pace] M K := by
  refine g_X5_bestBack hC (fun X hX => ?_)
  have loop : ∀ (m k : Nat) (c1 c2 : Int32) (o : Option Value) (M' : MT), k + m = n → cIv (bestS (offB b p dd n pace) (fun k => nI k) k) c1 c2 → Fm M M' 24 40 → X 11 [some (.ref 24), some (.ref 8), some (.int (nI p)), some (.int dd), some (.int (nI n)), some (.int pace), some (.int c1), some (.int c2), some (.int (nI k)), o] [] M' := by
    intro m
    induction m with
    | zero =>
      intro k c1 c2 o M' hk hv h3
      rw [Nat.add_zero] at hk
      subst hk
      refine b_X5_bestBack_11 hX ?_
      conv => whnf
      refine ⟨fun q => ?_, fun q => absurd (nI_le (by omega) (by omega)) q⟩
      refine b_X5_bestBack_68 hX ?_
      conv => whnf
      rw [← hv.fst]
      exact hK M' h3
    | succ m ih =>
      intro k c1 c2 o M' hk hv h3
      refine b_X5_bestBack_11 hX ?_
      conv => whnf
      refine ⟨fun q => absurd q (nI_ge (by omega) (by omega)), fun q => ?_⟩
      conv => whnf
      refine ⟨by omega, c_passes hC (by omega) (hb.fr h3 (by decide)) hz hp hn (by omega) (fun M1 a1 a2 a3 => ?_) (fun M1 a1 a3 => ?_)⟩
      · have hz1 : SZb (backB b p dd k n) := hz.back n
        have ho : offB b p dd n pace k = abs32 (meanS (backB b p dd k n) - pace) := if_pos a1
        have hf : offB b p dd n pace k < 1000000000 := by rw [ho]; exact off_ok hz1 (hok.back n) h1 h2
        conv => whnf
        refine ⟨fun q => absurd q (by decide), fun _ => ?_⟩
        conv => whnf
        refine ⟨by omega, c_together_25 hC a2 hz1.1 hz1.2.2.1 ?_⟩
        conv => whnf
        refine ⟨by omega, ?_⟩
        conv => whnf
        rw [← ho]
        refine ⟨fun q1 => ?_, fun q1 => ?_⟩
        · refine b_X5_bestBack_62 hX ?_
          conv => whnf
          rw [nI_1]
          exact ih (k + 1) c1 c2 _ M1 (by omega) (hv.miss hf (Int32.not_lt.mpr q1)) (h3.tr a3)
        · conv => whnf
          rw [nI_1]
          exact ih (k + 1) _ _ _ M1 (by omega) (hv.hit hf (Int32.not_le.mp q1)) (h3.tr a3)
      · conv => whnf
        refine ⟨fun _ => ?_, fun z => absurd rfl z⟩
        refine b_X5_bestBack_62 hX ?_
        conv => whnf
        rw [nI_1]
        exact ih (k + 1) c1 c2 _ M1 (by omega) (hv.skip (if_neg a1)) (h3.tr a3)
  refine b_X5_bestBack_0 hX ?_
  conv => whnf
  exact loop n 0 _ _ none M (by omega) (Or.inl ⟨rfl, rfl, rfl⟩) Fm.rf
/-! kinds -/
def isOfS (k o : Int32) : Prop := o = 0 ∨ o = k ∨ (o = 1 ∧ (k = 2 ∨ k = 3)) ∨ (o = 4 ∧ k = 5)
theorem c_isOf {C : CC} (hC : Clo C) {d : Nat} {M : MT} {K : KT} {k o : Int32} (h1 : isOfS k o → K (some (.int 1)) M) (h0 : ¬ isOfS k o → K (some (.int 0)) M) : C d 120 [.int k, .int o] M K := by
  refine g_X7_isOf hC (fun X hX => ?_)
  have b9 : isOfS k o → X 9 [some (.int k), some (.int o)] [] M := fun q => by
    refine b_X7_isOf_9 hX ?_
    conv => whnf
    exact ⟨Or.inr rfl, h1 q⟩
  refine b_X7_isOf_0 hX ?_
  conv => whnf
  refine ⟨fun q => b9 (Or.inl q), fun n0 => ?_⟩
  conv => whnf
  refine ⟨fun n1 => ?_, fun q => ?_⟩
  · refine b_X7_isOf_11 hX ?_
    conv => whnf
    refine ⟨fun n2 => ?_, fun q2 => ?_⟩
    · have b46 : ¬ isOfS k o → X 46 [some (.int k), some (.int o)] [] M := fun q => by
        refine b_X7_isOf_46 hX ?_
        conv => whnf
        exact ⟨Or.inl rfl, h0 q⟩
      refine b_X7_isOf_32 hX ?_
      conv => whnf
      refine ⟨fun n3 => b46 ?_, fun q3 => ?_⟩
      · rintro (z | z | ⟨z, -⟩ | ⟨z, -⟩)
        · exact n0 z
        · exact n1 z
        · exact n2 z
        · exact n3 z
      · conv => whnf
        refine ⟨fun n4 => b46 ?_, fun q4 => ?_⟩
        · rintro (z | z | ⟨z, -⟩ | ⟨-, z⟩)
          · exact n0 z
          · exact n1 z
          · exact n2 z
          · exact n4 z
        · conv => whnf
          exact ⟨Or.inr rfl, h1 (Or.inr (Or.inr (Or.inr ⟨q3, q4⟩)))⟩
    · have b26 : isOfS k o → X 26 [some (.int k), some (.int o)] [] M := fun q => by
        refine b_X7_isOf_26 hX ?_
        conv => whnf
        exact ⟨Or.inr rfl, h1 q⟩
      conv => whnf
      refine ⟨fun q3 => b26 (Or.inr (Or.inr (Or.inl ⟨q2, Or.inl q3⟩))), fun n3 => ?_⟩
      conv => whnf
      refine ⟨fun n4 => ?_, fun q4 => ?_⟩
      · refine b_X7_isOf_30 hX ?_
        conv => whnf
        refine ⟨Or.inl rfl, h0 ?_⟩
        rintro (z | z | ⟨-, z | z⟩ | ⟨z, -⟩)
        · exact n0 z
        · exact n1 z
        · exact n3 z
        · exact n4 z
        · rw [q2] at z; exact absurd z (by decide)
      · conv => whnf
        exact ⟨Or.inr rfl, h1 (Or.inr (Or.inr (Or.inl ⟨q2, Or.inr q4⟩)))⟩
  · conv => whnf
    exact ⟨Or.inr rfl, h1 (Or.inr (Or.inl q))⟩
/-! the night -/
def drawS (s : Int64 × BV) : Nat → Int64 × BV
  | 0 => s
  | n + 1 => (rem64 ((drawS s n).1 * (16807 : Int32).toInt64) (2147483647 : Int32).toInt64, setB (drawS s n).2 (26 + n) (boundS ((drawS s n).2 (26 + n) + (rem64 (rem64 ((drawS s n).1 * (16807 : Int32).toInt64) (2147483647 : Int32).toInt64) (5 : Int32).toInt64).toInt32 - 2)))
def nightS (b : BV) (seed : Int32) : Nat → Int64 × BV × Int32
  | 0 => (seed.toInt64, b, 0)
  | k + 1 => ((drawS ((nightS b seed k).1, (nightS b seed k).2.1) (nP b)).1, playS (-1) (drawS ((nightS b seed k).1, (nightS b seed k).2.1) (nP b)).2, if 9 < abs32 (meanS (playS (-1) (drawS ((nightS b seed k).1, (nightS b seed k).2.1) (nP b)).2) - meanS (nightS b seed k).2.1) then (nightS b seed k).2.2 + 1 else (nightS b seed k).2.2)
theorem draw_P {s : Int64 × BV} : ∀ n, nP (drawS s n).2 = nP s.2 := by
  intro n
  induction n with
  | zero => rfl
  | succ n ih => show nP (setB _ _ _) = _; rw [nP_setB (by omega)]; exact ih
theorem draw_Z {s : Int64 × BV} (h : SZb s.2) : ∀ n, SZb (drawS s n).2 := by
  intro n
  induction n with
  | zero => exact h
  | succ n ih => exact ih.setB (by omega)
theorem night_P {b : BV} {seed : Int32} : ∀ k, nP (nightS b seed k).2.1 = nP b := by
  intro k
  induction k with
  | zero => rfl
  | succ k ih => show nP (playS _ _) = _; rw [nP_playS, draw_P]; exact ih
theorem night_Z {b : BV} {seed : Int32} (h : SZb b) : ∀ k, SZb (nightS b seed k).2.1 := by
  intro k
  induction k with
  | zero => exact h
  | succ k ih => exact (draw_Z (s := ((nightS b seed k).1, (nightS b seed k).2.1)) ih _).play
theorem night_band {b : BV} {seed : Int32} {k : Nat} : (nightS b seed (k + 1)).2.1 = playS (-1) (drawS ((nightS b seed k).1, (nightS b seed k).2.1) (nP b)).2 := by simp only [nightS]
theorem night_x {b : BV} {seed : Int32} {k : Nat} : (nightS b seed (k + 1)).1 = (drawS ((nightS b seed k).1, (nightS b seed k).2.1) (nP b)).1 := by simp only [nightS]
theorem night_far {b : BV} {seed : Int32} {k : Nat} : (nightS b seed (k + 1)).2.2 = if 9 < abs32 (meanS (nightS b seed (k + 1)).2.1 - meanS (nightS b seed k).2.1) then (nightS b seed k).2.2 + 1 else (nightS b seed k).2.2 := by
  rw [night_band]
  simp only [nightS]
theorem c_findNight {C : CC} (hC : Clo C) {d : Nat} (hd : 3 ≤ d) {M : MT} {K : KT} {b : BV} {n : Nat} {seed : Int32} (hb : Bd 8 b M) (hz : SZb b) (hn : n ≤ 100) (hK : ∀ M', M' 24 4 = meanS (nightS b seed n).2.1 → M' 24 5 = (nightS b seed n).2.2 → Fm M M' 24 40 → K none M') : C d 59 [.ref 24, .ref 8, .int (nI n), .int seed] M K := by
  have z3 := hz.2.2.1
  have z12 := hz.2.2.2.2.1
  refine g_X5_findNight hC (fun X hX => ?_)
  have inner : ∀ (k : Nat) (was : Int32), k < n → ∀ (s : Int64 × BV), nP s.2 = nP b → SZb s.2 → (∀ M', Bd 25 (drawS s (nP b)).2 M' → M' 24 5 = (nightS b seed k).2.2 → Fm M M' 24 40 → X 101 [some (.ref 24), some (.ref 8), some (.int (nI n)), some (.int seed), some (.long (drawS s (nP b)).1), none, some (.int (nI k)), some (.int was), some (.int (nI (nP b)))] [] M') → ∀ (m j : Nat) (M' : MT), j + m = nP b → Bd 25 (drawS s j).2 M' → M' 24 5 = (nightS b seed k).2.2 → Fm M M' 24 40 → X 38 [some (.ref 24), some (.ref 8), some (.int (nI n)), some (.int seed), some (.long (drawS s j).1), none, some (.int (nI k)), some (.int was), some (.int (nI j))] [] M' := by
    intro k was hk s hsP hsZ cont m
    induction m with
    | zero =>
      intro j M' hj h1 h2 h3
      rw [Nat.add_zero] at hj
      subst hj
      have hz1 := draw_Z hsZ (nP b)
      refine b_X5_findNight_38 hX ?_
      conv => whnf
      refine ⟨fun q => ?_, fun q => absurd (by rw [h1.1.1, hz1.1, draw_P, hsP]; exact nI_le (by omega) (by omega)) q⟩
      exact cont M' h1 h2 h3
    | succ m ih =>
      intro j M' hj h1 h2 h3
      have hz1 := draw_Z hsZ j
      have hP1 : nP (drawS s j).2 = nP b := (draw_P j).trans hsP
      refine b_X5_findNight_38 hX ?_
      conv => whnf
      refine ⟨fun q => absurd q (by rw [h1.1.1, hz1.1, hP1]; exact nI_ge (by omega) (by omega)), fun q => ?_⟩
      conv => whnf
      refine ⟨by decide, ?_⟩
      conv => whnf
      refine ⟨j, rfl, by omega, ?_⟩
      conv => whnf
      refine ⟨by decide, ?_⟩
      conv => whnf
      refine ⟨by omega, c_bounded hC ?_⟩
      conv => whnf
      refine ⟨j, rfl, by omega, ?_⟩
      conv => whnf
      rw [nI_1, show M' 28 j = (drawS s j).2 (26 + j) from (h1.2.1 j (by omega)).2.2]
      refine ih (j + 1) _ (by omega) (h1.pace (by omega) hz1.2.2.1 hz1.2.2.2.2.1) ?_ (h3.tr (Fm.wr Fm.rf (by decide) (by decide)))
      rw [wr_off (by decide)]; exact h2
  have loop : ∀ (m k : Nat) (o1 o2 : Option Value) (M' : MT), k + m = n → Bd 25 (nightS b seed k).2.1 M' → M' 24 5 = (nightS b seed k).2.2 → Fm M M' 24 40 → X 20 [some (.ref 24), some (.ref 8), some (.int (nI n)), some (.int seed), some (.long (nightS b seed k).1), none, some (.int (nI k)), o1, o2] [] M' := by
    intro m
    induction m with
    | zero =>
      intro k o1 o2 M' hk h1 h2 h3
      rw [Nat.add_zero] at hk
      subst hk
      have hz1 := night_Z (seed := seed) hz k
      refine b_X5_findNight_20 hX ?_
      conv => whnf
      refine ⟨fun q => ?_, fun q => absurd (nI_le (by omega) (by omega)) q⟩
      refine b_X5_findNight_142 hX ?_
      conv => whnf
      refine ⟨by omega, c_together_25 hC h1 hz1.1 hz1.2.2.1 ?_⟩
      conv => whnf
      refine hK _ wr_at ?_ (h3.tr (Fm.wr Fm.rf (by decide) (by decide)))
      rw [wr_ne (by decide)]; exact h2
    | succ m ih =>
      intro k o1 o2 M' hk h1 h2 h3
      have hz1 := night_Z (seed := seed) hz k
      have hP1 := night_P (b := b) (seed := seed) k
      refine b_X5_findNight_20 hX ?_
      conv => whnf
      refine ⟨fun q => absurd q (nI_ge (by omega) (by omega)), fun q => ?_⟩
      conv => whnf
      refine ⟨by omega, c_together_25 hC h1 hz1.1 hz1.2.2.1 ?_⟩
      conv => whnf
      refine inner k _ (by omega) ((nightS b seed k).1, (nightS b seed k).2.1) hP1 hz1 (fun M1 a1 a2 a3 => ?_) (nP b) 0 M' (by omega) h1 h2 h3
      refine b_X5_findNight_101 hX ?_
      have hz2 : SZb (drawS ((nightS b seed k).1, (nightS b seed k).2.1) (nP b)).2 := draw_Z (s := ((nightS b seed k).1, (nightS b seed k).2.1)) hz1 _
      conv => whnf
      refine ⟨by omega, c_play_25 hC (by omega) a1 hz2 (fun M2 g1 g2 => ?_)⟩
      have hz3 : SZb (nightS b seed (k + 1)).2.1 := night_Z hz (k + 1)
      rw [← night_band] at g1
      have e5 : M2 24 5 = (nightS b seed k).2.2 := by rw [g2 24 (by decide)]; exact a2
      have a4 : Fm M M2 24 40 := a3.tr (g2.mono (by decide) (by decide))
      conv => whnf
      refine ⟨by omega, c_together_25 hC g1 hz3.1 hz3.2.2.1 ?_⟩
      conv => whnf
      refine ⟨by omega, ?_⟩
      conv => whnf
      rw [← night_x]
      refine ⟨fun q1 => ?_, fun q1 => ?_⟩
      · refine b_X5_findNight_136 hX ?_
        conv => whnf
        rw [nI_1]
        refine ih (k + 1) _ _ M2 (by omega) g1 ?_ a4
        rw [night_far, if_neg (Int32.not_lt.mpr q1)]
        exact e5
      · conv => whnf
        rw [nI_1]
        have f : Fm M2 (wr M2 24 5 (M2 24 5 + 1)) 24 24 := Fm.wr Fm.rf (by decide) (by decide)
        refine ih (k + 1) _ _ _ (by omega) (g1.fr f (by decide)) ?_ (a4.tr (f.mono (by decide) (by decide)))
        rw [wr_at, e5, night_far, if_pos (Int32.not_le.mp q1)]
  refine b_X5_findNight_0 hX ?_
  conv => whnf
  refine ⟨by omega, c_become_25_8 hC (by omega) hb z3 z12 (fun M1 g1 g2 => ?_)⟩
  conv => whnf
  have f : Fm M1 (wr M1 24 5 0) 24 24 := Fm.wr Fm.rf (by decide) (by decide)
  exact loop n 0 none none _ (by omega) (g1.fr f (by decide)) wr_at ((g2.mono (by decide) (by decide)).tr (f.mono (by decide) (by decide)))
/-! blame -/
def strE (p : Nat) (b' b : BV) : Prop := (∀ k, k ≠ 21 + p → b' k = b k) ∧ ((b' (21 + p) = 0 ∧ (b (21 + p) = 1 ∨ b (21 + p) = 2 ∨ b (21 + p) = 3)) ∨ (b' (21 + p) = b (21 + p) ∧ (b (21 + p) = 4 ∨ b (21 + p) = 5)))
theorem strE.P {p : Nat} {b' b : BV} (h : strE p b' b) : nP b' = nP b := by unfold nP; rw [h.1 5 (by omega)]
theorem strE.B {p : Nat} {b' b : BV} (h : strE p b' b) : nB b' = nB b := by unfold nB; rw [h.1 4 (by omega)]
theorem strE.X {p : Nat} {b' b : BV} (h : strE p b' b) : nX b' = nX b := by unfold nX; rw [h.1 6 (by omega)]
theorem strE.pull {p : Nat} {b' b : BV} (h : strE p b' b) (hp : p < 5) (q : Nat) : ∀ n, pullS b' q n = pullS b q n := by
  intro n
  induction n with
  | zero => rfl
  | succ n ih =>
    show pullS b' q n + _ = pullS b q n + _
    rw [ih, h.1 (36 + (5 * q + n)) (by omega), h.1 (26 + n) (by omega), h.1 (26 + q) (by omega)]
theorem strE.sum {p : Nat} {b' b : BV} (h : strE p b' b) (hp : p < 5) : ∀ n, sumS b' n = sumS b n := by
  intro n
  induction n with
  | zero => rfl
  | succ n ih =>
    show sumS b' n + _ = sumS b n + _
    rw [ih, h.1 (26 + n) (by omega)]
theorem strE.mean {p : Nat} {b' b : BV} (h : strE p b' b) (hp : p < 5) : meanS b' = meanS b := by
  unfold meanS
  rw [h.P, h.sum hp, h.1 5 (by omega)]
theorem leanS_no {b : BV} {k bar : Int32} (h : ¬ (k = 1 ∨ k = 2 ∨ k = 3)) : leanS b k bar = 0 := if_neg h
theorem strE.pace {p : Nat} {b' b : BV} (h : strE p b' b) (hp : p < 5) (q : Nat) (hq : q < 5) (bar : Int32) : paceS b' (-1) q bar = paceS b (nI p) q bar := by
  have ne : ¬ nI q = -1 := fun z => nI_pos (n := q) (by omega) (by rw [z]; decide)
  have er : rawS b' (-1) q bar = rawS b (nI p) q bar := by
    unfold rawS
    rw [h.pull hp, h.P, h.1 (26 + q) (by omega), h.1 (31 + q) (by omega), if_neg ne]
    congr 1
    by_cases e : q = p
    · subst e
      rw [if_pos rfl]
      refine leanS_no ?_
      rcases h.2 with ⟨h1, -⟩ | ⟨h1, h2⟩
      · rw [h1]; decide
      · rw [h1]
        rcases h2 with h2 | h2 <;> (rw [h2]; decide)
    · rw [if_neg (fun z => e ((eq_nI (by omega) (by omega)).mp z)), h.1 (21 + q) (by omega)]
      unfold leanS
      rw [h.1 0 (by omega), h.1 1 (by omega), h.1 2 (by omega)]
  unfold paceS
  rw [er]
  congr 2
  unfold nearS
  rw [h.1 3 (by omega)]
  by_cases e : q = p
  · subst e
    rcases h.2 with ⟨h1, h2⟩ | ⟨h1, h2⟩
    · rw [h1, if_neg (by decide), if_neg (by decide)]
      rcases h2 with h2 | h2 | h2 <;> rw [h2, if_neg (by decide), if_neg (by decide)]
    · rw [h1]
  · rw [h.1 (21 + q) (by omega)]
theorem strE.play {p : Nat} {b' b : BV} (h : strE p b' b) (hp : p < 5) (h5 : nP b ≤ 5) (h12 : nX b < 12) : strE p (playS (-1) b') (playS (nI p) b) := by
  refine ⟨fun k hk => ?_, ?_⟩
  · unfold playS
    rw [h.P, h.X, h.B, h.1 7 (by omega), h.1 k hk]
    by_cases e : 26 ≤ k ∧ k < 26 + nP b
    · rw [if_pos e, if_pos e, h.pace hp (k - 26) (by omega)]
      unfold barS
      rw [h.X]
      rw [h.1 _ (by omega)]
    · rw [if_neg e, if_neg e]
  · rw [playS_lo (by omega) (by omega) (by omega), playS_lo (by omega) (by omega) (by omega)]
    exact h.2
theorem strE.plays {p : Nat} (hp : p < 5) : ∀ (n : Nat) {b' b : BV}, strE p b' b → SZb b → strE p (playsS (-1) n b') (playsS (nI p) n b) := by
  intro n
  induction n with
  | zero => intro b' b h _; exact h
  | succ n ih =>
    intro b' b h hz
    exact ih (h.play hp hz.2.2.1 (by have := hz.2.2.2.2.2.2; have := hz.2.2.2.2.1; omega)) hz.play
theorem strE.drift {p : Nat} {b' b : BV} (h : strE p b' b) (hp : p < 5) (hz : SZb b) : driftS (-1) b' = driftS (nI p) b := by
  unfold driftS
  rw [h.mean hp, h.B, (strE.plays hp (nB b) h hz).mean hp]
def blameS (b : BV) (p : Nat) : Int32 := driftS (-1) b - driftS (nI p) (setB b (31 + p) 0)
theorem c_blameOf {C : CC} (hC : Clo C) {d : Nat} (hd : 5 ≤ d) {M : MT} {K : KT} {b : BV} {p : Nat} (hb : Bd 8 b M) (hw : WB b) (hp : p < nP b) (hK : ∀ M', Fm M M' 24 40 → K (some (.int (blameS b p))) M') : C d 52 [.ref 24, .ref 8, .int (nI p)] M K := by
  have hz := hw.1
  have z3 := hz.2.2.1
  have z12 := hz.2.2.2.2.1
  obtain ⟨⟨k, k1, k2, k3⟩, -⟩ := hw.2.2.2.1 p hp
  refine g_X5_blameOf hC (fun X hX => ?_)
  have fin : ∀ (b' : BV) (M' : MT), Bd 32 b' M' → strE p b' (setB b (31 + p) 0) → SZb b' → Fm M M' 24 40 → X 44 [some (.ref 24), some (.ref 8), some (.int (nI p))] [] M' := by
    intro b' M' h1 h2 h3 h4
    refine b_X5_blameOf_44 hX ?_
    conv => whnf
    refine ⟨by omega, c_driftOf_8 hC (by omega) (hb.fr h4 (by decide)) hz (fun M1 g1 => ?_)⟩
    conv => whnf
    refine ⟨by omega, c_driftOf_32 hC (by omega) (h1.fr g1 (by decide)) h3 (fun M2 g2 => ?_)⟩
    conv => whnf
    rw [h2.drift (by omega) (hz.setB (by omega))]
    exact hK M2 (h4.tr ((g1.mono (by decide) (by decide)).tr (g2.mono (by decide) (by decide))))
  refine b_X5_blameOf_0 hX ?_
  conv => whnf
  refine ⟨by omega, c_become_32_8 hC (by omega) hb z3 z12 (fun M1 g1 g2 => ?_)⟩
  conv => whnf
  refine ⟨p, rfl, by omega, ?_⟩
  conv => whnf
  refine ⟨p, rfl, by omega, ?_⟩
  conv => whnf
  have g3 := g1.haste (p := p) (v := 0) hp z3 z12
  have g4 : Fm M (wr M1 34 p 0) 24 40 := (g2.mono (by decide) (by decide)).tr (Fm.wr Fm.rf (by decide) (by decide))
  have ek : wr M1 34 p 0 33 p = nI k := by
    have := (g3.2.1 p (by rw [nP_setB (by omega)]; exact hp)).1
    rw [setB_ne (by omega), k3] at this
    exact this
  rw [ek]
  have e2 : setB b (31 + p) 0 (21 + p) = nI k := by rw [setB_ne (by omega)]; exact k3
  have hk : k = 1 ∨ k = 2 ∨ k = 3 ∨ k = 4 ∨ k = 5 := by omega
  refine ⟨by omega, c_isOf hC (fun q => ?_) (fun q => ?_)⟩
  · conv => whnf
    refine ⟨fun q => absurd q (by decide), fun _ => ?_⟩
    conv => whnf
    refine ⟨p, rfl, by omega, ?_⟩
    conv => whnf
    refine fin _ _ (g3.kind (p := p) (v := 0) (by rw [nP_setB (by omega)]; exact hp) (by rw [nP_setB (by omega)]; exact z3) (by rw [nB_setB (by omega)]; exact z12)) ⟨fun j hj => setB_ne hj, Or.inl ⟨setB_at, ?_⟩⟩ ((hz.setB (by omega)).setB (by omega)) (g4.tr (Fm.wr Fm.rf (by decide) (by decide)))
    rw [e2]
    rcases hk with rfl | rfl | rfl | rfl | rfl
    · exact Or.inl rfl
    · exact Or.inr (Or.inl rfl)
    · exact Or.inr (Or.inr rfl)
    · exact absurd q (by unfold isOfS; decide)
    · exact absurd q (by unfold isOfS; decide)
  · conv => whnf
    refine ⟨fun _ => ?_, fun z => absurd rfl z⟩
    refine fin _ _ g3 ⟨fun j hj => rfl, Or.inr ⟨rfl, ?_⟩⟩ (hz.setB (by omega)) g4
    rw [e2]
    rcases hk with rfl | rfl | rfl | rfl | rfl
    · exact absurd (by unfold isOfS; decide) q
    · exact absurd (by unfold isOfS; decide) q
    · exact absurd (by unfold isOfS; decide) q
    · exact Or.inl rfl
    · exact Or.inr rfl
