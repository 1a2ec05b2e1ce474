/-! THE REFERENCE: pushers, dancers -/
theorem nI_dec {m : Nat} : nI (m + 1) + -1 = nI m := by
  rw [← nI_1, Int32.add_assoc]
  exact Int32.add_zero _
theorem nI_pre {m : Nat} : nI (m + 1) - 1 = nI m := by
  rw [Int32.sub_eq_add_neg]
  exact nI_dec
noncomputable def pushI (f : Nat → Prop) (n u : Nat) : Int32 := match scanS f n u with
  | none => 0
  | some m => nI m
theorem pushI_hit {f : Nat → Prop} {n k : Nat} (h : f k) : pushI f (n + 1) k = nI k := by unfold pushI; rw [scanS_hit h]
theorem pushI_miss {f : Nat → Prop} {n k : Nat} (h : ¬ f k) : pushI f (n + 1) k = pushI f n (k + 1) := by unfold pushI; rw [scanS_miss h]
theorem m_pushBy {C : CC} (hC : Clo C) {d : Nat} (hd : 5 ≤ d) {M : MT} {K : KT} {b : BV} {g : Nat → Int32} {p base : Nat} (hb : ∀ k, k < 61 → M 62 k = b k) (hz : SZb b) (hk : kindsOK b) (hp : p < nP b) (hbase : base + nP b ≤ 320) (hg : ∀ q, q < nP b → M 66 (base + q) = g q) (hK : ∀ M', Fs M M' → K (some (.int (pushI (pushP b g p) 20 1))) M') : C d 183 [.ref 61, .int (nI p), .int (nI base)] M K := by
  have p5 := hz.2.2.1
  have e5 : M 62 5 = nI (nP b) := (hb 5 (by omega)).trans hz.1
  refine g_X8_pushBy hC (fun X hX => ?_)
  have loop : ∀ (m : Nat) (o1 o2 : Option Value) (M' : MT), m ≤ 20 → Fs M M' → X 6 [some (.ref 61), some (.int (nI p)), some (.int (nI base)), some (.int (pushI (pushP b g p) (20 - m) (m + 1))), some (.int (nI m)), o1, o2] [] M' := by
    intro m
    induction m with
    | zero =>
      intro o1 o2 M' hm f
      refine b_X8_pushBy_6 hX ?_
      conv => whnf
      refine ⟨fun q => ?_, fun q => absurd (by decide) q⟩
      refine b_X8_pushBy_102 hX ?_
      conv => whnf
      exact hK M' f
    | succ m ih =>
      intro o1 o2 M' hm f
      have b84 : ∀ (y : Int32) (o : Option Value) (M2 : MT), Fs M M2 → ((y = 1 ∧ pushP b g p (m + 1)) ∨ (y = 0 ∧ ¬ pushP b g p (m + 1))) → X 84 [some (.ref 61), some (.int (nI p)), some (.int (nI base)), some (.int (pushI (pushP b g p) (20 - (m + 1)) (m + 1 + 1))), some (.int (nI (m + 1))), some (.int y), o] [] M2 := by
        intro y o M2 f2 hy
        have hn := ih (some (.int y)) o M2 (by omega) f2
        rw [show 20 - m = (20 - (m + 1)) + 1 by omega] at hn
        refine b_X8_pushBy_84 hX ?_
        conv => whnf
        rcases hy with ⟨rfl, hy⟩ | ⟨rfl, hy⟩
        · rw [pushI_hit hy] at hn
          refine ⟨fun z => absurd z (by decide), fun _ => ?_⟩
          conv => whnf
          rw [nI_dec]
          exact hn
        · rw [pushI_miss hy] at hn
          refine ⟨fun _ => ?_, fun z => absurd rfl z⟩
          refine b_X8_pushBy_94 hX ?_
          conv => whnf
          refine b_X8_pushBy_95 hX ?_
          conv => whnf
          rw [nI_dec]
          exact hn
      refine b_X8_pushBy_6 hX ?_
      conv => whnf
      refine ⟨fun q => absurd q (nI_nle (by omega) (by omega)), fun q => ?_⟩
      conv => whnf
      refine ⟨by omega, m_layNow (b := b) hC (fun k hk => by rw [f.1 62 (by decide) (by decide)]; exact hb k hk) (fun M1 g1 f1 => ?_)⟩
      conv => whnf
      refine ⟨p, rfl, by omega, ?_⟩
      conv => whnf
      refine ⟨p, rfl, by omega, ?_⟩
      conv => whnf
      rw [(g1.2.2.2.2.1 p (by omega)).2.1]
      refine ⟨by omega, m_plays hC (by omega) (g1.haste (v := b (31 + p) + nI (m + 1)) (by omega)) (SZb.setB hz (by omega)) (hk.set p5 (by omega)) (fun M2 g2 f2 => ?_)⟩
      have f3 : Fs M M2 := (f.tr (Fs.sw f1 (by decide) (by decide))).tr f2
      conv => whnf
      have inner : ∀ (j q : Nat) (y : Int32), q + j = nP b → ((y = 1 ∧ ∀ i, i < q → playS (-1) (setB b (31 + p) (b (31 + p) + nI (m + 1))) (26 + i) = g i) ∨ (y = 0 ∧ ¬ ∀ i, i < q → playS (-1) (setB b (31 + p) (b (31 + p) + nI (m + 1))) (26 + i) = g i)) → X 36 [some (.ref 61), some (.int (nI p)), some (.int (nI base)), some (.int (pushI (pushP b g p) (20 - (m + 1)) (m + 1 + 1))), some (.int (nI (m + 1))), some (.int y), some (.int (nI q))] [] M2 := by
        intro j
        induction j with
        | zero =>
          intro q y hq hy
          rw [Nat.add_zero] at hq
          subst hq
          refine b_X8_pushBy_36 hX ?_
          conv => whnf
          refine ⟨5, rfl, by decide, ?_⟩
          conv => whnf
          rw [f3.1 62 (by decide) (by decide), e5]
          refine ⟨fun q => ?_, fun q => absurd (nI_le (by omega) (by omega)) q⟩
          exact b84 y _ M2 f3 hy
        | succ j jh =>
          intro q y hq hy
          have b75 : (¬ ∀ i, i < q + 1 → playS (-1) (setB b (31 + p) (b (31 + p) + nI (m + 1))) (26 + i) = g i) → X 75 [some (.ref 61), some (.int (nI p)), some (.int (nI base)), some (.int (pushI (pushP b g p) (20 - (m + 1)) (m + 1 + 1))), some (.int (nI (m + 1))), some (.int y), some (.int (nI q))] [] M2 := fun hh => by
            refine b_X8_pushBy_75 hX ?_
            conv => whnf
            refine b_X8_pushBy_76 hX ?_
            conv => whnf
            rw [nI_1]
            exact jh (q + 1) 0 (by omega) (Or.inr ⟨rfl, hh⟩)
          refine b_X8_pushBy_36 hX ?_
          conv => whnf
          refine ⟨5, rfl, by decide, ?_⟩
          conv => whnf
          rw [f3.1 62 (by decide) (by decide), e5]
          refine ⟨fun q => absurd q (nI_ge (by omega) (by omega)), fun _ => ?_⟩
          conv => whnf
          rcases hy with ⟨rfl, hy⟩ | ⟨rfl, hy⟩
          rotate_left
          · exact ⟨fun _ => b75 (fun z => hy (fun i hi => z i (by omega))), fun z => absurd rfl z⟩
          refine ⟨fun z => absurd z (by decide), fun _ => ?_⟩
          conv => whnf
          refine ⟨q, rfl, by omega, ?_⟩
          conv => whnf
          refine ⟨base + q, (by simp only [lit_nI, nI_add, nI_mul]), by omega, ?_⟩
          conv => whnf
          rw [f3.1 66 (by decide) (by decide), hg q (by omega), (g2.2.2.2.2.1 q (by omega)).2.2]
          refine ⟨fun z => b75 (fun z2 => z (z2 q (by omega))), fun z => ?_⟩
          conv => whnf
          rw [nI_1]
          exact jh (q + 1) 1 (by omega) (Or.inl ⟨rfl, fun i hi => by
            by_cases z2 : i = q
            · subst z2; exact z
            · exact hy i (by omega)⟩)
      exact inner (nP b) 0 1 (by omega) (Or.inl ⟨rfl, fun i hi => absurd hi (by omega)⟩)
  refine b_X8_pushBy_0 hX ?_
  conv => whnf
  exact loop 20 none none M (by omega) Fs.rf
theorem who_step {b : BV} {g : Nat → Int32} {p P : Nat} {t1 t2 : Int32} (h : whoS b g P = ((whoS b g (p + 1)).1 ||| t1, if (whoS b g (p + 1)).2 = -1000000 then t2 else (whoS b g (p + 1)).2)) : whoS b g P = ((whoS b g p).1 ||| (t1 ||| (if 0 < pushI (pushP b g p) 20 1 then (1 : Int32) <<< (nI p &&& 31) else 0)), if (whoS b g p).2 = -1000000 then (if 0 < pushI (pushP b g p) 20 1 then pushI (pushP b g p) 20 1 else t2) else (whoS b g p).2) := by
  rw [h]
  have hs : ∀ k, scanS (pushP b g p) 20 1 = some k → 1 ≤ k ∧ k ≤ 20 := by
    have : ∀ (n u k : Nat), scanS (pushP b g p) n u = some k → u ≤ k ∧ k < u + n := by
      intro n
      induction n with
      | zero => intro u k h; exact absurd h (by simp [scanS])
      | succ n ih =>
        intro u k h
        by_cases z : pushP b g p u
        · rw [scanS_hit z] at h
          have := Option.some.inj h
          omega
        · rw [scanS_miss z] at h
          have := ih (u + 1) k h
          omega
    intro k hk
    have := this 20 1 k hk
    omega
  cases e : scanS (pushP b g p) 20 1 with
  | none =>
    have e1 : whoS b g (p + 1) = whoS b g p := by simp only [whoS]; rw [e]
    have e2 : pushI (pushP b g p) 20 1 = 0 := by unfold pushI; rw [e]
    rw [e1, e2, if_neg (show ¬ (0 : Int32) < 0 by decide), if_neg (show ¬ (0 : Int32) < 0 by decide), Int32.or_zero]
  | some k =>
    obtain ⟨k1, k2⟩ := hs k e
    have e1 : whoS b g (p + 1) = ((whoS b g p).1 ||| ((1 : Int32) <<< (nI p &&& 31)), if (whoS b g p).2 = -1000000 then nI k else (whoS b g p).2) := by simp only [whoS]; rw [e]
    have e2 : pushI (pushP b g p) 20 1 = nI k := by unfold pushI; rw [e]
    have hk0 : (0 : Int32) < nI k := (lt_nI (a := 0) (by omega) (by omega)).mpr (by omega)
    have hkm : ¬ nI k = -1000000 := fun z => by rw [z] at hk0; exact absurd hk0 (by decide)
    rw [e1, e2, if_pos hk0, if_pos hk0, Int32.or_assoc, Int32.or_comm t1]
    by_cases z : (whoS b g p).2 = -1000000
    · simp only [if_pos z, if_neg hkm]
    · simp only [if_neg z]
theorem mo_whoPushed {C : CC} (hC : Clo C) {d : Nat} (hd : 8 ≤ d) {σ M : MT} {K : KT} {row i what : Int32} (hA : AM σ M) (hW : WF σ) (hK : ∀ M1, AM (whoR σ row i what).2 M1 → Fm M M1 61 75 → K (some (.int (whoR σ row i what).1)) M1) : C d 184 [.ref 61, .int row, .int i, .int what] M K := by
  obtain ⟨pe, p5, pw, p0⟩ := hW.pl
  have hb : ∀ k, k < 61 → M 62 k = σ 5 k := fun k hk => (hA.2.2.2.2.1 k hk).1
  have e5 : M 62 5 = nI (nP (σ 5)) := (hb 5 (by omega)).trans pe
  unfold whoR at hK
  refine g_X8_whoPushed hC (fun X hX => ?_)
  refine b_X8_whoPushed_0 hX ?_
  conv => whnf
  refine ⟨by omega, m_none hC hA hW (fun hP => ?_) (fun hP => ?_)⟩
  · rw [pit_pos hP] at hK
    conv => whnf
    refine ⟨fun q => absurd q (by decide), fun _ => ?_⟩
    conv => whnf
    exact hK M hA Fm.rf
  have hw := pw hP
  have hz := hw.1
  have hP0 : ¬ nP (σ 5) = 0 := by omega
  rw [pit_neg hP0] at hK
  conv => whnf
  refine ⟨fun _ => ?_, fun z => absurd rfl z⟩
  have bB : ¬ (isPl 8 row ∧ (0 ≤ what ∧ what ≤ 1)) → X 27 [some (.ref 61), some (.int row), some (.int i), some (.int what), none, none, none, none, none] [] M := fun q => by
    rw [pit_neg q] at hK
    refine b_X8_whoPushed_27 hX ?_
    conv => whnf
    exact hK M hA Fm.rf
  refine b_X8_whoPushed_10 hX ?_
  conv => whnf
  refine ⟨by omega, m_isRow hC (by omega) (fun i0 h0 e0 => ?_) (fun q => ?_)⟩
  rotate_left
  · conv => whnf
    exact ⟨fun _ => bB (fun z => q z.1), fun z => absurd rfl z⟩
  conv => whnf
  refine ⟨fun q => absurd q (by decide), fun _ => ?_⟩
  conv => whnf
  refine ⟨by omega, m_in hC (fun a1 b1 => ?_) (fun q => ?_)⟩
  rotate_left
  · conv => whnf
    exact ⟨fun z => absurd rfl z, fun _ => bB (fun z => q z.2)⟩
  conv => whnf
  refine ⟨fun _ => ?_, fun z => absurd z (by decide)⟩
  have ok : isPl 8 row ∧ (0 ≤ what ∧ what ≤ 1) := ⟨⟨i0, h0, e0⟩, ⟨a1, b1⟩⟩
  rw [pit_pos ok] at hK
  refine b_X8_whoPushed_30 hX ?_
  conv => whnf
  have r := i0
  have hr := h0
  obtain ⟨hl, s, hs, es⟩ := hW.1 i0 h0
  obtain ⟨c1, c2⟩ := hA.1.1 i0 h0
  subst e0
  rw [tN_nI (by omega), es, tN_nI (by omega)] at hK
  refine ⟨5, rfl, by decide, ?_⟩
  conv => whnf
  rw [e5]
  refine ⟨by omega, m_against hC h0 (by rw [c1]; exact hl) (c2.trans es) hs (fun q1 => ?_) (fun q1 q2 => ?_) (fun q1 x y ex ey hxy => ?_)⟩
  · rw [c1] at q1
    rw [pit_pos q1] at hK
    conv => whnf
    refine ⟨fun z => absurd z (by decide), fun _ => ?_⟩
    conv => whnf
    refine ⟨by omega, m_found hC ?_⟩
    conv => whnf
    exact hK _ hA.st (Fm.wr Fm.rf (by decide) (by decide))
  · rw [c1] at q1
    rw [pit_neg q1, pit_neg q2] at hK
    conv => whnf
    refine ⟨fun z => absurd z (by decide), fun _ => ?_⟩
    conv => whnf
    refine ⟨by omega, m_found hC ?_⟩
    conv => whnf
    exact hK _ hA.st (Fm.wr Fm.rf (by decide) (by decide))
  rw [c1] at q1
  rw [pit_neg q1, pit_pos ⟨x, y, ex, ey, hxy⟩] at hK
  have hy : y = nP (σ 5) := ((eq_nI (by omega) (by omega)).mp ey).symm
  subst ex
  rw [tN_nI (by omega)] at hK
  replace hK : ∀ M1, Fs M M1 → K (some (.int (pit (what = 0) (whoS (σ 5) (itm σ i0 x) (nP (σ 5))).1 (whoS (σ 5) (itm σ i0 x) (nP (σ 5))).2))) (wr M1 61 7 0) := fun M1 f => hK _ (hA.scr f).st (f.fm.tr (Fm.wr Fm.rf (by decide) (by decide)))
  have hg : ∀ q, q < nP (σ 5) → M 66 (40 * i0 + x + q) = itm σ i0 x q := fun q hq => by
    rw [hA.1.2 _ (by omega)]; rfl
  have b122 : ∀ (j : Nat) (M' : MT) (o : Option Value) (t1 t2 t3 : Int32), X 73 [some (.ref 61), some (.int (nI i0)), some (.int (nI x)), some (.int what), some (.int 0), some (.int t1), some (.int t3), some (.int (nI j - 1)), o] [] M' → X 122 [some (.ref 61), some (.int (nI i0)), some (.int (nI x)), some (.int what), some (.int 0), some (.int t1), some (.int t2), some (.int (nI j)), o] [.int t3] M' := by
    intro j M' o t1 t2 t3 hh
    refine b_X8_whoPushed_122 hX ?_
    conv => whnf
    rw [show nI j + -1 = nI j - 1 by rw [Int32.sub_eq_add_neg]]
    exact hh
  have loop : ∀ (j : Nat) (t1 t2 : Int32) (o : Option Value) (M' : MT), j ≤ nP (σ 5) → Fs M M' → whoS (σ 5) (itm σ i0 x) (nP (σ 5)) = ((whoS (σ 5) (itm σ i0 x) j).1 ||| t1, if (whoS (σ 5) (itm σ i0 x) j).2 = -1000000 then t2 else (whoS (σ 5) (itm σ i0 x) j).2) → X 73 [some (.ref 61), some (.int (nI i0)), some (.int (nI x)), some (.int what), some (.int 0), some (.int t1), some (.int t2), some (.int (nI j - 1)), o] [] M' := by
    intro j
    induction j with
    | zero =>
      intro t1 t2 o M' hj f ht
      have ht : whoS (σ 5) (itm σ i0 x) (nP (σ 5)) = (t1, t2) := by
        rw [ht]
        simp only [whoS, Int32.zero_or, if_pos]
      rw [ht] at hK
      refine b_X8_whoPushed_73 hX ?_
      conv => whnf
      refine ⟨fun _ => ?_, fun q => absurd (by decide) q⟩
      refine b_X8_whoPushed_130 hX ?_
      conv => whnf
      refine ⟨fun w0 => ?_, fun w0 => ?_⟩
      · rw [pit_neg w0] at hK
        refine b_X8_whoPushed_140 hX ?_
        conv => whnf
        refine b_X8_whoPushed_142 hX ?_
        conv => whnf
        refine ⟨by omega, m_well hC ?_⟩
        conv => whnf
        exact hK M' f
      · rw [pit_pos w0] at hK
        conv => whnf
        refine ⟨by omega, m_well hC ?_⟩
        conv => whnf
        exact hK M' f
    | succ j ih =>
      intro t1 t2 o M' hj f ht
      have hn := fun o M2 f2 => ih _ _ o M2 (by omega) f2 (who_step ht)
      rw [nI_pre]
      refine b_X8_whoPushed_73 hX ?_
      conv => whnf
      refine ⟨fun q => absurd q (nI_pos (by omega)), fun q => ?_⟩
      conv => whnf
      rw [show (40 : Int32) * nI i0 + nI x = nI (40 * i0 + x) by simp only [lit_nI, nI_add, nI_mul]]
      refine ⟨by omega, m_pushBy (b := σ 5) (g := itm σ i0 x) hC (by omega) (fun k hk => by rw [f.1 62 (by decide) (by decide)]; exact hb k hk) hz hw.kinds (by omega) (by omega) (fun q hq => by rw [f.1 66 (by decide) (by decide)]; exact hg q hq) (fun M2 f2 => ?_)⟩
      conv => whnf
      by_cases z : 0 < pushI (pushP (σ 5) (itm σ i0 x) j) 20 1
      · simp only [if_pos z] at hn
        refine ⟨fun q => absurd z (Int32.not_lt.mpr q), fun _ => ?_⟩
        conv => whnf
        refine b_X8_whoPushed_107 hX ?_
        conv => whnf
        refine ⟨fun q => absurd z (Int32.not_lt.mpr q), fun _ => ?_⟩
        conv => whnf
        rw [show nI j + -1 = nI j - 1 by rw [Int32.sub_eq_add_neg]]
        exact hn _ M2 (f.tr f2)
      · simp only [if_neg z] at hn
        refine ⟨fun _ => ?_, fun q => absurd (Int32.not_lt.mp z) q⟩
        refine b_X8_whoPushed_106 hX ?_
        conv => whnf
        refine b_X8_whoPushed_107 hX ?_
        conv => whnf
        refine ⟨fun _ => ?_, fun q => absurd (Int32.not_lt.mp z) q⟩
        refine b_X8_whoPushed_120 hX ?_
        conv => whnf
        exact b122 j M2 _ _ _ _ (hn _ M2 (f.tr f2))
  conv => whnf
  refine ⟨fun _ => ?_, fun z => absurd (by decide) z⟩
  refine b_X8_whoPushed_56 hX ?_
  conv => whnf
  refine ⟨5, rfl, by decide, ?_⟩
  conv => whnf
  rw [e5]
  refine loop (nP (σ 5)) 0 (-1000000) none M (by omega) Fs.rf ?_
  rw [Int32.or_zero]
  by_cases z : (whoS (σ 5) (itm σ i0 x) (nP (σ 5))).2 = -1000000
  · rw [if_pos z, ← z]
  · rw [if_neg z]
