noncomputable def itN (σ : MT) (r i : Nat) : Nat → Nat := fun q => tN (itm σ r i q)
noncomputable def songsR (σ : MT) (row i n what : Int32) : Int32 × MT := pit (isPl 8 row ∧ (1 ≤ n ∧ n ≤ 6) ∧ (-1 ≤ what ∧ what ≤ n - 1)) (pit (σ 0 (tN row) = -1) (fnd σ 1) (pit (HD (tN (σ 1 (tN row))) i n) (pit (∀ q, q < tN n → 0 ≤ itm σ (tN row) (tN i) q ∧ itm σ (tN row) (tN i) q ≤ 2500) (wel σ (pit (what = -1) (nI (sgS (tN n) (itN σ (tN row) (tN i)) (Nat.pow (tN n) (tN n))).2) (nI (dg (tN n) (sgS (tN n) (itN σ (tN row) (tN i)) (Nat.pow (tN n) (tN n))).1 (tN what))))) (-1000001, σ)) (fnd σ 2))) (-1000001, σ)
theorem wf_songs {σ : MT} {row i n what : Int32} (hW : WF σ) : WF (songsR σ row i n what).2 := by
  unfold songsR
  exact pitR (fun _ => pitR (fun _ => hW.st) (fun _ => pitR (fun _ => pitR (fun _ => hW.st) (fun _ => hW)) (fun _ => hW.st))) (fun _ => hW)
theorem nonneg1 {x : Int32} (h : -1 ≤ x) (h1 : ¬ x = -1) : 0 ≤ x := by
  rw [Int32.le_iff_toInt_le] at h ⊢
  have a : (-1 : Int32).toInt = -1 := by decide
  have b : (0 : Int32).toInt = 0 := by decide
  have c : x.toInt ≠ -1 := fun z => h1 (Int32.toInt_inj.mp (z.trans a.symm))
  omega
theorem AC.ord {σ M M' : MT} (h : AC σ M) (f : Fm M M' 41 43) : AC σ M' := by
  obtain ⟨⟨h1, h2⟩, h3, ⟨h4, h5⟩, h6, ⟨h7, h8, h9⟩, h10, h11⟩ := h
  refine ⟨⟨fun i hi => ?_, fun i hi => ?_⟩, ?_, ⟨?_, fun i hi => ?_⟩, h6.fr (f 23 (by decide)) (f 22 (by decide)), ⟨h7.fr f (by decide), h8.fr f (by decide), h9.fr f (by decide)⟩, ?_, fun i hi => ?_⟩
  · rw [f 2 (by decide), f 3 (by decide)]; exact h1 i hi
  · rw [f 4 (by decide)]; exact h2 i hi
  · rw [f 0 (by decide)]; exact h3
  · rw [f 6 (by decide)]; exact h4
  · rw [f 7 (by decide)]; exact h5 i hi
  · rw [f 44 (by decide)]; exact h10
  · rw [f 45 (by decide)]; exact h11 i hi
theorem cl_songs {C : CC} (hC : Clo C) {d : Nat} (hd : 8 ≤ d) {σ M : MT} {K : KT} {row i n what : Int32} (hA : AC σ M) (hW : WF σ) (hK : ∀ M1, AC (songsR σ row i n what).2 M1 → Fm M M1 0 60 → K (some (.int (songsR σ row i n what).1)) M1) : C d 104 [.ref 0, .int row, .int i, .int n, .int what] M K := by
  unfold songsR at hK
  refine g_X7_songs hC (fun X hX => ?_)
  have bB : ¬ (isPl 8 row ∧ (1 ≤ n ∧ n ≤ 6) ∧ (-1 ≤ what ∧ what ≤ n - 1)) → X 33 [some (.ref 0), some (.int row), some (.int i), some (.int n), some (.int what), none] [] M := fun q => by
    rw [pit_neg q] at hK
    refine b_X7_songs_33 hX ?_
    conv => whnf
    exact hK M hA Fm.rf
  refine b_X7_songs_0 hX ?_
  conv => whnf
  refine ⟨by omega, c_isRow hC (fun r hr er => ?_) (fun q => ?_)⟩
  rotate_left
  · conv => whnf
    exact ⟨fun _ => bB (fun z => q z.1), fun z => absurd rfl z⟩
  conv => whnf
  refine ⟨fun q => absurd q (by decide), fun _ => ?_⟩
  conv => whnf
  refine ⟨by omega, c_within hC (fun a1 b1 => ?_) (fun q => ?_)⟩
  rotate_left
  · conv => whnf
    exact ⟨fun _ => bB (fun z => q z.2.1), fun z => absurd rfl z⟩
  conv => whnf
  refine ⟨fun q => absurd q (by decide), fun _ => ?_⟩
  conv => whnf
  refine ⟨by omega, c_within hC (fun a2 b2 => ?_) (fun q => ?_)⟩
  rotate_left
  · conv => whnf
    exact ⟨fun z => absurd rfl z, fun _ => bB (fun z => q z.2.2)⟩
  rw [pit_pos ⟨⟨r, hr, er⟩, ⟨a1, b1⟩, a2, b2⟩] at hK
  obtain ⟨n, n1, n6, rfl⟩ := rngL (lo := 1) (hi := 6) (by omega) a1 b1 (by omega)
  obtain ⟨hl, s, hs, es⟩ := hW.1 r hr
  obtain ⟨c1, c2⟩ := hA.1.1 r hr
  subst er
  rw [tN_nI (by omega), es, tN_nI (by omega), tN_nI (by omega)] at hK
  conv => whnf
  refine ⟨fun _ => ?_, fun z => absurd z (by decide)⟩
  refine b_X7_songs_36 hX ?_
  conv => whnf
  refine ⟨by omega, c_lacks hC hr (fun q1 => ?_) (fun q0 => ?_)⟩
  · rw [c1] at q1
    rw [pit_pos q1] at hK
    conv => whnf
    refine ⟨fun q => absurd q (by decide), fun _ => ?_⟩
    conv => whnf
    refine ⟨by omega, c_found hC ?_⟩
    conv => whnf
    exact hK _ hA.st (Fm.wr Fm.rf (by decide) (by decide))
  rw [c1] at q0
  rw [pit_neg q0] at hK
  conv => whnf
  refine ⟨fun _ => ?_, fun z => absurd rfl z⟩
  refine b_X7_songs_53 hX ?_
  conv => whnf
  refine ⟨by omega, c_holds hC hr (c2.trans es) hs (fun x y ex ey hxy => ?_) (fun q2 => ?_)⟩
  rotate_left
  · rw [pit_neg q2] at hK
    conv => whnf
    refine ⟨fun z => absurd rfl z, fun _ => ?_⟩
    conv => whnf
    refine ⟨by omega, c_found hC ?_⟩
    conv => whnf
    exact hK _ hA.st (Fm.wr Fm.rf (by decide) (by decide))
  rw [pit_pos ⟨x, y, ex, ey, hxy⟩] at hK
  have hy : y = n := ((eq_nI (by omega) (by omega)).mp ey).symm
  subst ex
  rw [tN_nI (by omega)] at hK
  conv => whnf
  refine ⟨fun _ => ?_, fun z => absurd z (by decide)⟩
  refine b_X7_songs_72 hX ?_
  conv => whnf
  refine ⟨by omega, c_lend hC (by omega) hr (by omega) ?_⟩
  have f1 : Fm M (cp M 4 5 (40 * r + x) 0 n) 5 5 := Fm.cp Fm.rf (by decide) (by decide)
  have hg : ∀ j, j < n → cp M 4 5 (40 * r + x) 0 n 5 j = itm σ r x j := fun j hj => by
    rw [cp_self]
    unfold va_cpy itm
    rw [if_pos (by omega), hA.1.2 _ (by omega)]
    congr 1
  have hA1 : AC σ (cp M 4 5 (40 * r + x) 0 n) := hA.lent f1
  have f1' := f1.mono (lo' := 0) (hi' := 60) (by decide) (by decide)
  revert f1 hg hA1 f1'
  generalize cp M 4 5 (40 * r + x) 0 n = M1
  intro f1 hg hA1 f1'
  conv => whnf
  have loop : ∀ (m k : Nat), k + m = n → (∀ j, j < k → 0 ≤ itm σ r x j ∧ itm σ r x j ≤ 2500) → X 85 [some (.ref 0), some (.int (nI r)), some (.int (nI x)), some (.int (nI n)), some (.int what), some (.int (nI k))] [] M1 := by
    intro m
    induction m with
    | zero =>
      intro k hk hall
      rw [Nat.add_zero] at hk
      subst hk
      rw [pit_pos hall] at hK
      refine b_X7_songs_85 hX ?_
      conv => whnf
      refine ⟨fun q => ?_, fun q => absurd (nI_le (by omega) (by omega)) q⟩
      refine b_X7_songs_120 hX ?_
      conv => whnf
      refine ⟨by omega, c_findLeast (it := itN σ r x) hC (by omega) n6 n1 (fun j hj => ?_) (fun M2 g1 g2 g3 => ?_)⟩
      · obtain ⟨v, -, hv, ev⟩ := rngL (lo := 0) (hi := 2500) (by omega) (hall j hj).1 (hall j hj).2 (by omega)
        unfold itN
        rw [hg j hj, ev, tN_nI (by omega)]
        exact ⟨hv, rfl⟩
      have hA2 : AC σ M2 := hA1.ord g3
      have f2 : Fm M M2 0 60 := f1'.tr (g3.mono (by decide) (by decide))
      conv => whnf
      refine ⟨fun q => ?_, fun q => ?_⟩
      · rw [pit_neg q] at hK
        obtain ⟨w, hw, ew⟩ := (isPl_iff (t := k) (by omega)).mp ⟨nonneg1 a2 q, b2⟩
        subst ew
        rw [tN_nI (by omega)] at hK
        refine b_X7_songs_152 hX ?_
        conv => whnf
        refine ⟨w, rfl, by omega, ?_⟩
        conv => whnf
        refine b_X7_songs_162 hX ?_
        conv => whnf
        rw [g2 w hw]
        refine ⟨by omega, c_withoutFinding hC ?_⟩
        conv => whnf
        exact hK _ hA2.st (f2.tr (Fm.wr Fm.rf (by decide) (by decide)))
      · rw [pit_pos q] at hK
        conv => whnf
        rw [g1]
        refine ⟨by omega, c_withoutFinding hC ?_⟩
        conv => whnf
        exact hK _ hA2.st (f2.tr (Fm.wr Fm.rf (by decide) (by decide)))
    | succ m ih =>
      intro k hk hall
      refine b_X7_songs_85 hX ?_
      conv => whnf
      refine ⟨fun q => absurd q (nI_ge (by omega) (by omega)), fun q => ?_⟩
      conv => whnf
      refine ⟨k, rfl, by omega, ?_⟩
      conv => whnf
      rw [hg k (by omega)]
      refine ⟨by omega, c_within hC (fun a b => ?_) (fun q => ?_)⟩
      · conv => whnf
        refine ⟨fun _ => ?_, fun z => absurd z (by decide)⟩
        refine b_X7_songs_114 hX ?_
        conv => whnf
        rw [nI_1]
        exact ih (k + 1) (by omega) (fun j hj => by
          by_cases z : j = k
          · subst z; exact ⟨a, b⟩
          · exact hall j (by omega))
      · rw [pit_neg (fun z => q (z k (by omega)))] at hK
        conv => whnf
        refine ⟨fun z => absurd rfl z, fun _ => ?_⟩
        conv => whnf
        exact hK M1 hA1 f1'
  exact loop n 0 (by omega) (fun j hj => absurd hj (by omega))
