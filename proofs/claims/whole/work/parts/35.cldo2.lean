theorem nA_tape {σ : MT} {v : Int32} {g : Nat → Int32} : nA (sr (wr σ 3 2 v) 4 g) = nA σ := by unfold nA; rw [sr_ne (by omega), wr_ne (by omega)]
theorem AC.tape {σ M M' : MT} {v : Int32} {g : Nat → Int32} (h : AC σ M) (f : Fm M M' 6 7) (h1 : M' 6 1 = v) (h2 : ∀ i, i < 140 → M' 7 i = g i) : AC (sr (wr σ 3 2 v) 4 g) M' := by
  obtain ⟨⟨a1, a2⟩, ⟨a3, a3'⟩, -, ⟨h6, o, h6a, h6b, h6c⟩, ⟨h7, h8, h9⟩, h10, h11⟩ := h
  refine ⟨⟨fun i hi => ?_, fun i hi => ?_⟩, ⟨?_, ?_⟩, ⟨?_, fun i hi => ?_⟩, ⟨?_, o, h6a, ?_, fun i hi => ?_⟩, ⟨?_, ?_, ?_⟩, ?_, fun i hi => ?_⟩
  · rw [f 2 (by omega), f 3 (by omega), sr_ne (by omega), sr_ne (by omega), wr_off (p := 3) (by omega), wr_off (p := 3) (by omega)]; exact a1 i hi
  · rw [f 4 (by omega), sr_ne (by omega), wr_off (p := 3) (by omega)]; exact a2 i hi
  · rw [f 0 (by omega), sr_ne (by omega), wr_ne (by omega)]; exact a3
  · rw [f 0 (by omega), sr_ne (by omega), wr_ne (by omega)]; exact a3'
  · rw [h1, sr_ne (by omega), wr_at]
  · rw [h2 i hi, sr_at]
  · rw [f 22 (by omega), sr_ne (by omega), wr_ne (by omega)]; exact h6
  · rw [f 22 (by omega)]; exact h6b
  · rw [nA_tape] at hi
    rw [sr_ne (by omega), wr_off (p := 3) (by omega)]
    exact (h6c i hi).fr (f 23 (by omega))
  · rw [sr_ne (by omega), wr_off (p := 3) (by omega)]; exact h7.fr f (by omega)
  · rw [sr_ne (by omega), wr_off (p := 3) (by omega)]; exact h8.fr f (by omega)
  · rw [sr_ne (by omega), wr_off (p := 3) (by omega)]; exact h9.fr f (by omega)
  · rw [f 44 (by omega), sr_ne (by omega), wr_ne (by omega)]; exact h10
  · rw [f 45 (by omega), sr_ne (by omega), wr_off (p := 3) (by omega)]; exact h11 i hi
theorem AM.tape {σ M M' : MT} {v : Int32} {g : Nat → Int32} (h : AM σ M) (f : Fm M M' 61 68) (e : ∀ q, 62 ≤ q → q ≤ 67 → M' q = M q) (e1 : ∀ k, k ≠ 9 → M' 61 k = M 61 k) (h1 : M' 61 9 = v) (h2 : ∀ i, i < 140 → M' 68 i = g i) : AM (sr (wr σ 3 2 v) 4 g) M' := by
  obtain ⟨⟨a1, a2⟩, ⟨a3, a3'⟩, -, ⟨h6, h7⟩, h8, ⟨h9, h10⟩, h11, h12⟩ := h
  refine ⟨⟨fun i hi => ?_, fun i hi => ?_⟩, ⟨?_, ?_⟩, ⟨?_, fun i hi => ?_⟩, ⟨?_, fun i k hi hk => ?_⟩, fun k hk => ?_, ⟨?_, fun i hi => ?_⟩, ?_, ?_⟩
  · rw [e 64 (by omega) (by omega), e 65 (by omega) (by omega), sr_ne (by omega), sr_ne (by omega), wr_off (p := 3) (by omega), wr_off (p := 3) (by omega)]; exact a1 i hi
  · rw [e 66 (by omega) (by omega), sr_ne (by omega), wr_off (p := 3) (by omega)]; exact a2 i hi
  · rw [e1 7 (by omega), sr_ne (by omega), wr_ne (by omega)]; exact a3
  · rw [e1 10 (by omega), sr_ne (by omega), wr_ne (by omega)]; exact a3'
  · rw [h1, sr_ne (by omega), wr_at]
  · rw [h2 i hi, sr_at]
  · rw [e1 1 (by omega), sr_ne (by omega), wr_ne (by omega)]; exact h6
  · rw [nA_tape] at hi
    rw [e 62 (by omega) (by omega), sr_ne (by omega), wr_off (p := 3) (by omega)]; exact h7 i k hi hk
  · rw [e 62 (by omega) (by omega), sr_ne (by omega), sr_ne (by omega), sr_ne (by omega), wr_off (p := 3) (by omega), wr_off (p := 3) (by omega), wr_off (p := 3) (by omega)]; exact h8 k hk
  · rw [e1 25 (by omega), sr_ne (by omega), wr_ne (by omega)]; exact h9
  · rw [f 75 (by omega), sr_ne (by omega), wr_off (p := 3) (by omega)]; exact h10 i hi
  · rw [e 63 (by omega) (by omega), sr_ne (by omega), wr_ne (by omega)]; exact h11
  · rw [e 63 (by omega) (by omega), sr_ne (by omega), wr_ne (by omega)]; exact h12
theorem WF.tape {σ : MT} {v : Int32} {g : Nat → Int32} (h : WF σ) (hv : ∃ t, t ≤ 140 ∧ v = nI t) : WF (sr (wr σ 3 2 v) 4 g) := by
  obtain ⟨h1, h2, ⟨h3, h3'⟩, h4, h5, h6, h7⟩ := h
  unfold WF
  rw [nA_tape, sr_ne (q := 0) (by omega), sr_ne (q := 1) (by omega), sr_ne (q := 3) (by omega), sr_ne (q := 5) (by omega), wr_off (q := 0) (p := 3) (by omega), wr_off (q := 1) (p := 3) (by omega), wr_off (q := 5) (p := 3) (by omega), wr_at, wr_ne (by omega), wr_ne (by omega)]
  refine ⟨h1, hv, ⟨h3, h3'⟩, h4, h5, fun j hj => ?_, fun i hi => ?_⟩
  · rw [wr_ne (by omega), sr_ne (by omega), wr_off (p := 3) (by omega)]; exact h6 j hj
  · rw [sr_ne (by omega), wr_off (p := 3) (by omega)]; exact h7 i hi
noncomputable def feedR (σ : MT) (c : Int32) : Int32 × MT := pit (0 ≤ c ∧ c ≤ 255) (pit (tN (σ 3 2) < 140) (nI (tN (σ 3 2) + 1), sr (wr σ 3 2 (nI (tN (σ 3 2) + 1))) 4 (upd (σ 4) (tN (σ 3 2)) c)) (-1000003, σ)) (-1000001, σ)
theorem cl_feed {C : CC} (hC : Clo C) {d : Nat} (hd : 8 ≤ d) {σ M : MT} {K : KT} {c : Int32} (hA : AC σ M) (hW : WF σ) (hK : ∀ M1, AC (feedR σ c).2 M1 → Fm M M1 0 60 → K (some (.int (feedR σ c).1)) M1) : C d 82 [.ref 0, .int c] M K := by
  obtain ⟨t, ht, et⟩ := hW.2.1
  obtain ⟨a1, a2⟩ := hA.2.2.1
  unfold feedR at hK
  rw [et, tN_nI (by omega)] at hK
  refine g_X7_feed hC (fun X hX => ?_)
  refine b_X7_feed_0 hX ?_
  conv => whnf
  refine ⟨by omega, c_within hC (fun a0 b0 => ?_) (fun q => ?_)⟩
  rotate_left
  · rw [pit_neg q] at hK
    conv => whnf
    refine ⟨fun z => absurd rfl z, fun _ => ?_⟩
    conv => whnf
    exact hK M hA Fm.rf
  rw [pit_pos ⟨a0, b0⟩] at hK
  conv => whnf
  refine ⟨fun _ => ?_, fun z => absurd z (by decide)⟩
  refine b_X7_feed_14 hX ?_
  conv => whnf
  refine ⟨by omega, g_X6_takeIn hC (fun Y hY => ?_)⟩
  refine b_X6_takeIn_0 hY ?_
  conv => whnf
  rw [a1, et]
  refine ⟨fun q => ?_, fun q => ?_⟩
  · have q' : t < 140 := (lt_nI (b := 140) (by omega) (by omega)).mp q
    rw [pit_pos q'] at hK
    refine b_X6_takeIn_12 hY ?_
    conv => whnf
    refine ⟨t, a1.trans et, by omega, ?_⟩
    conv => whnf
    refine ⟨Or.inr rfl, ?_⟩
    conv => whnf
    refine ⟨fun q => absurd q (by decide), fun _ => ?_⟩
    conv => whnf
    rw [wr_at, wr_off (by decide), a1, et, nI_1]
    refine hK _ (hA.tape (Fm.wr (Fm.wr Fm.rf (by decide) (by decide)) (by decide) (by decide)) wr_at (fun i hi => ?_)) (Fm.wr (Fm.wr Fm.rf (by decide) (by decide)) (by decide) (by decide))
    rw [wr_off (by decide), wr_self]
    unfold upd
    rw [a2 i hi]
  · have q' : ¬ t < 140 := fun z => q ((lt_nI (b := 140) (by omega) (by omega)).mpr z)
    rw [pit_neg q'] at hK
    conv => whnf
    refine ⟨Or.inl rfl, ?_⟩
    conv => whnf
    refine ⟨fun _ => ?_, fun z => absurd rfl z⟩
    refine b_X7_feed_35 hX ?_
    conv => whnf
    refine b_X7_feed_37 hX ?_
    conv => whnf
    exact hK M hA Fm.rf
/-- what is lent is nothing of the state -/
theorem AC.lent {σ M M' : MT} (h : AC σ M) (f : Fm M M' 5 5) : AC σ M' := by
  obtain ⟨⟨h1, h2⟩, h3, ⟨h4, h5⟩, h6, ⟨h7, h8, h9⟩, h10, h11⟩ := h
  refine ⟨⟨fun i hi => ?_, fun i hi => ?_⟩, ?_, ⟨?_, fun i hi => ?_⟩, h6.fr (f 23 (by decide)) (f 22 (by decide)), ⟨h7.fr f (by decide), h8.fr f (by decide), h9.fr f (by decide)⟩, ?_, fun i hi => ?_⟩
  · rw [f 2 (by decide), f 3 (by decide)]; exact h1 i hi
  · rw [f 4 (by decide)]; exact h2 i hi
  · rw [f 0 (by decide)]; exact h3
  · rw [f 6 (by decide)]; exact h4
  · rw [f 7 (by decide)]; exact h5 i hi
  · rw [f 44 (by decide)]; exact h10
  · rw [f 45 (by decide)]; exact h11 i hi
def itm (σ : MT) (r i : Nat) : Nat → Int32 := fun j => σ 2 (40 * r + i + j)
noncomputable def dancersR (σ : MT) (row i m n what : Int32) : Int32 × MT := pit (nP (σ 5) = 0) (-1000002, σ) (pit (isPl 8 row ∧ (1 ≤ m ∧ m ≤ 10) ∧ (0 ≤ n ∧ n ≤ 200) ∧ (0 ≤ what ∧ what ≤ 1)) (pit (σ 0 (tN row) = -1) (fnd σ 1) (pit (HD (tN (σ 1 (tN row))) i (nI (2 * tN m))) (wel σ (pit (what = 0) (dancS (σ 5) (itm σ (tN row) (tN i)) (tN m) (tN n + 1)).1 (dancS (σ 5) (itm σ (tN row) (tN i)) (tN m) (tN n + 1)).2)) (fnd σ 2))) (-1000001, σ))
theorem cl_dancers {C : CC} (hC : Clo C) {d : Nat} (hd : 8 ≤ d) {σ M : MT} {K : KT} {row i m n what : Int32} (hA : AC σ M) (hW : WF σ) (hK : ∀ M1, AC (dancersR σ row i m n what).2 M1 → Fm M M1 0 60 → K (some (.int (dancersR σ row i m n what).1)) M1) : C d 98 [.ref 0, .int row, .int i, .int m, .int n, .int what] M K := by
  obtain ⟨pe, p5, pw, p0⟩ := hW.pl
  have hb := hA.2.2.2.2.1.1
  have hp := hb.1.1.trans pe
  unfold dancersR at hK
  refine g_X7_dancers hC (fun X hX => ?_)
  refine b_X7_dancers_0 hX ?_
  conv => whnf
  refine ⟨by omega, c_stands_8 hC hp p5 (fun hP => ?_) (fun hP => ?_)⟩
  rotate_left
  · rw [pit_pos hP] at hK
    conv => whnf
    refine ⟨fun z => absurd rfl z, fun _ => ?_⟩
    conv => whnf
    exact hK M hA Fm.rf
  have hw := pw hP
  rw [pit_neg (by omega)] at hK
  conv => whnf
  refine ⟨fun _ => ?_, fun z => absurd z (by decide)⟩
  have bB : ¬ (isPl 8 row ∧ (1 ≤ m ∧ m ≤ 10) ∧ (0 ≤ n ∧ n ≤ 200) ∧ (0 ≤ what ∧ what ≤ 1)) → X 56 [some (.ref 0), some (.int row), some (.int i), some (.int m), some (.int n), some (.int what)] [] M := fun q => by
    rw [pit_neg q] at hK
    refine b_X7_dancers_56 hX ?_
    conv => whnf
    exact hK M hA Fm.rf
  refine b_X7_dancers_13 hX ?_
  conv => whnf
  refine ⟨by omega, c_isRow hC (fun r hr er => ?_) (fun q => ?_)⟩
  rotate_left
  · conv => whnf
    exact ⟨fun _ => bB (fun z => q z.1), fun z => absurd rfl z⟩
  conv => whnf
  refine ⟨fun q => absurd q (by decide), fun _ => ?_⟩
  conv => whnf
  refine ⟨by omega, c_within hC (fun a1 b1 => ?_) (fun q => ?_)⟩
  rotate_left
  · conv => whnf
    exact ⟨fun _ => bB (fun z => q z.2.1), fun z => absurd rfl z⟩
  conv => whnf
  refine ⟨fun q => absurd q (by decide), fun _ => ?_⟩
  conv => whnf
  refine ⟨by omega, c_within hC (fun a2 b2 => ?_) (fun q => ?_)⟩
  rotate_left
  · conv => whnf
    exact ⟨fun _ => bB (fun z => q z.2.2.1), fun z => absurd rfl z⟩
  conv => whnf
  refine ⟨fun q => absurd q (by decide), fun _ => ?_⟩
  conv => whnf
  refine ⟨by omega, c_within hC (fun a3 b3 => ?_) (fun q => ?_)⟩
  rotate_left
  · conv => whnf
    exact ⟨fun z => absurd rfl z, fun _ => bB (fun z => q z.2.2.2)⟩
  rw [pit_pos ⟨⟨r, hr, er⟩, ⟨a1, b1⟩, ⟨a2, b2⟩, a3, b3⟩] at hK
  obtain ⟨km, -, hkm, rfl⟩ := rngL (lo := 1) (hi := 10) (by omega) a1 b1 (by omega)
  obtain ⟨kn, -, hkn, rfl⟩ := rngL (lo := 0) (hi := 200) (by omega) a2 b2 (by omega)
  obtain ⟨hl, s, hs, es⟩ := hW.1 r hr
  obtain ⟨c1, c2⟩ := hA.1.1 r hr
  subst er
  rw [tN_nI (by omega), tN_nI (by omega), tN_nI (by omega), es, tN_nI (by omega)] at hK
  conv => whnf
  refine ⟨fun _ => ?_, fun z => absurd z (by decide)⟩
  refine b_X7_dancers_59 hX ?_
  conv => whnf
  refine ⟨by omega, c_lacks hC hr (fun q1 => ?_) (fun q0 => ?_)⟩
  · rw [c1] at q1
    rw [pit_pos q1] at hK
    conv => whnf
    refine ⟨fun q => absurd q (by decide), fun _ => ?_⟩
    conv => whnf
    refine ⟨by omega, c_found hC ?_⟩
    conv => whnf
    exact hK _ hA.st (Fm.wr Fm.rf (by decide) (by decide))
  rw [c1] at q0
  rw [pit_neg q0] at hK
  have e2 : (2 : Int32) * nI km = nI (2 * km) := (by simp only [lit_nI, nI_add, nI_mul])
  conv => whnf
  refine ⟨fun _ => ?_, fun z => absurd rfl z⟩
  refine b_X7_dancers_76 hX ?_
  conv => whnf
  rw [e2]
  refine ⟨by omega, c_holds hC hr (c2.trans es) hs (fun x y ex ey hxy => ?_) (fun q2 => ?_)⟩
  rotate_left
  · rw [pit_neg q2] at hK
    conv => whnf
    refine ⟨fun z => absurd rfl z, fun _ => ?_⟩
    conv => whnf
    refine ⟨by omega, c_found hC ?_⟩
    conv => whnf
    exact hK _ hA.st (Fm.wr Fm.rf (by decide) (by decide))
  rw [pit_pos ⟨x, y, ex, ey, hxy⟩] at hK
  have hy : y = 2 * km := ((eq_nI (by omega) (by omega)).mp ey).symm
  subst hy
  subst ex
  rw [tN_nI (by omega)] at hK
  conv => whnf
  refine ⟨fun _ => ?_, fun z => absurd z (by decide)⟩
  refine b_X7_dancers_97 hX ?_
  conv => whnf
  rw [e2]
  refine ⟨by omega, c_lend hC (by omega) hr (by omega) ?_⟩
  have f1 : Fm M (cp M 4 5 (40 * r + x) 0 (2 * km)) 5 5 := Fm.cp Fm.rf (by decide) (by decide)
  conv => whnf
  refine ⟨by omega, c_findFallen (g := itm σ r x) hC (by omega) (hb.fr f1 (by decide)) hw.1 hkm hkn (fun j hj => ?_) (fun M1 g1 g2 g3 => ?_)⟩
  · rw [cp_self]
    unfold va_cpy itm
    rw [if_pos (by omega), hA.1.2 _ (by omega)]
    congr 1
  have hA1 : AC σ M1 := (hA.lent f1).seer g3
  have f2 : Fm M M1 0 60 := (f1.mono (by decide) (by decide)).tr (g3.mono (by decide) (by decide))
  have fin : ∀ v, v = pit (what = 0) (dancS (σ 5) (itm σ r x) km (kn + 1)).1 (dancS (σ 5) (itm σ r x) km (kn + 1)).2 → X 153 [some (.ref 0), some (.int (nI r)), some (.int (nI x)), some (.int (nI km)), some (.int (nI kn)), some (.int what)] [.int v, .ref 0] M1 := fun v hv => by
    refine b_X7_dancers_153 hX ?_
    conv => whnf
    refine ⟨by omega, c_withoutFinding hC ?_⟩
    conv => whnf
    rw [hv]
    exact hK _ hA1.st (f2.tr (Fm.wr Fm.rf (by decide) (by decide)))
  conv => whnf
  refine ⟨fun w0 => ?_, fun w0 => ?_⟩
  · refine b_X7_dancers_146 hX ?_
    conv => whnf
    rw [g2]
    exact fin _ (pit_neg w0).symm
  · conv => whnf
    rw [g1]
    refine ⟨by omega, c_withoutFinding hC ?_⟩
    conv => whnf
    rw [pit_pos w0] at hK
    exact hK _ hA1.st (f2.tr (Fm.wr Fm.rf (by decide) (by decide)))
noncomputable def whoR (σ : MT) (row i what : Int32) : Int32 × MT := pit (nP (σ 5) = 0) (-1000002, σ) (pit (isPl 8 row ∧ (0 ≤ what ∧ what ≤ 1)) (pit (σ 0 (tN row) = -1) (fnd σ 1) (pit (HD (tN (σ 1 (tN row))) i (nI (nP (σ 5)))) (wel σ (pit (what = 0) (whoS (σ 5) (itm σ (tN row) (tN i)) (nP (σ 5))).1 (whoS (σ 5) (itm σ (tN row) (tN i)) (nP (σ 5))).2)) (fnd σ 2))) (-1000001, σ))
theorem cl_whoPushed {C : CC} (hC : Clo C) {d : Nat} (hd : 8 ≤ d) {σ M : MT} {K : KT} {row i what : Int32} (hA : AC σ M) (hW : WF σ) (hK : ∀ M1, AC (whoR σ row i what).2 M1 → Fm M M1 0 60 → K (some (.int (whoR σ row i what).1)) M1) : C d 106 [.ref 0, .int row, .int i, .int what] M K := by
  obtain ⟨pe, p5, pw, p0⟩ := hW.pl
  have hb := hA.2.2.2.2.1.1
  have hp := hb.1.1.trans pe
  unfold whoR at hK
  refine g_X7_whoPushed hC (fun X hX => ?_)
  refine b_X7_whoPushed_0 hX ?_
  conv => whnf
  refine ⟨by omega, c_stands_8 hC hp p5 (fun hP => ?_) (fun hP => ?_)⟩
  rotate_left
  · rw [pit_pos hP] at hK
    conv => whnf
    refine ⟨fun z => absurd rfl z, fun _ => ?_⟩
    conv => whnf
    exact hK M hA Fm.rf
  have hw := pw hP
  rw [pit_neg (by omega)] at hK
  conv => whnf
  refine ⟨fun _ => ?_, fun z => absurd z (by decide)⟩
  have bB : ¬ (isPl 8 row ∧ (0 ≤ what ∧ what ≤ 1)) → X 33 [some (.ref 0), some (.int row), some (.int i), some (.int what)] [] M := fun q => by
    rw [pit_neg q] at hK
    refine b_X7_whoPushed_33 hX ?_
    conv => whnf
    exact hK M hA Fm.rf
  refine b_X7_whoPushed_13 hX ?_
  conv => whnf
  refine ⟨by omega, c_isRow hC (fun r hr er => ?_) (fun q => ?_)⟩
  rotate_left
  · conv => whnf
    exact ⟨fun _ => bB (fun z => q z.1), fun z => absurd rfl z⟩
  conv => whnf
  refine ⟨fun q => absurd q (by decide), fun _ => ?_⟩
  conv => whnf
  refine ⟨by omega, c_within hC (fun a3 b3 => ?_) (fun q => ?_)⟩
  rotate_left
  · conv => whnf
    exact ⟨fun z => absurd rfl z, fun _ => bB (fun z => q z.2)⟩
  rw [pit_pos ⟨⟨r, hr, er⟩, a3, b3⟩] at hK
  obtain ⟨hl, s, hs, es⟩ := hW.1 r hr
  obtain ⟨c1, c2⟩ := hA.1.1 r hr
  subst er
  rw [tN_nI (by omega), es, tN_nI (by omega)] at hK
  conv => whnf
  refine ⟨fun _ => ?_, fun z => absurd z (by decide)⟩
  refine b_X7_whoPushed_36 hX ?_
  conv => whnf
  refine ⟨by omega, c_lacks hC hr (fun q1 => ?_) (fun q0 => ?_)⟩
  · rw [c1] at q1
    rw [pit_pos q1] at hK
    conv => whnf
    refine ⟨fun q => absurd q (by decide), fun _ => ?_⟩
    conv => whnf
    refine ⟨by omega, c_found hC ?_⟩
    conv => whnf
    exact hK _ hA.st (Fm.wr Fm.rf (by decide) (by decide))
  rw [c1] at q0
  rw [pit_neg q0] at hK
  conv => whnf
  refine ⟨fun _ => ?_, fun z => absurd rfl z⟩
  refine b_X7_whoPushed_53 hX ?_
  conv => whnf
  rw [hp]
  refine ⟨by omega, c_holds hC hr (c2.trans es) hs (fun x y ex ey hxy => ?_) (fun q2 => ?_)⟩
  rotate_left
  · rw [pit_neg q2] at hK
    conv => whnf
    refine ⟨fun z => absurd rfl z, fun _ => ?_⟩
    conv => whnf
    refine ⟨by omega, c_found hC ?_⟩
    conv => whnf
    exact hK _ hA.st (Fm.wr Fm.rf (by decide) (by decide))
  rw [pit_pos ⟨x, y, ex, ey, hxy⟩] at hK
  have hy : y = nP (σ 5) := ((eq_nI (by omega) (by omega)).mp ey).symm
  subst ex
  rw [tN_nI (by omega)] at hK
  conv => whnf
  refine ⟨fun _ => ?_, fun z => absurd z (by decide)⟩
  refine b_X7_whoPushed_78 hX ?_
  conv => whnf
  rw [hp]
  refine ⟨by omega, c_lend hC (by omega) hr (by omega) ?_⟩
  have f1 : Fm M (cp M 4 5 (40 * r + x) 0 (nP (σ 5))) 5 5 := Fm.cp Fm.rf (by decide) (by decide)
  conv => whnf
  refine ⟨by omega, c_findPushers (g := itm σ r x) hC (by omega) (hb.fr f1 (by decide)) hw.1 (fun j hj => ?_) (fun M1 g1 g2 g3 => ?_)⟩
  · rw [cp_self]
    unfold va_cpy itm
    rw [if_pos (by omega), hA.1.2 _ (by omega)]
    congr 1
  have hA1 : AC σ M1 := (hA.lent f1).seer g3
  have f2 : Fm M M1 0 60 := (f1.mono (by decide) (by decide)).tr (g3.mono (by decide) (by decide))
  conv => whnf
  refine ⟨fun w0 => ?_, fun w0 => ?_⟩
  · rw [pit_neg w0] at hK
    refine b_X7_whoPushed_127 hX ?_
    conv => whnf
    refine b_X7_whoPushed_134 hX ?_
    conv => whnf
    rw [g2]
    refine ⟨by omega, c_withoutFinding hC ?_⟩
    conv => whnf
    exact hK _ hA1.st (f2.tr (Fm.wr Fm.rf (by decide) (by decide)))
  · rw [pit_pos w0] at hK
    conv => whnf
    rw [g1]
    refine ⟨by omega, c_withoutFinding hC ?_⟩
    conv => whnf
    exact hK _ hA1.st (f2.tr (Fm.wr Fm.rf (by decide) (by decide)))
