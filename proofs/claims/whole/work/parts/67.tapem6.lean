def Fe (M M' : MT) : Prop := (∀ q, q ≠ 61 → q ≠ 62 → M' q = M q) ∧ (∀ k, ¬ (11 ≤ k ∧ k ≤ 15) → M' 61 k = M 61 k) ∧ ∀ k, (k < 183 ∨ 244 ≤ k) → M' 62 k = M 62 k
theorem Fe.tr {M M1 M2 : MT} (h1 : Fe M M1) (h2 : Fe M1 M2) : Fe M M2 := ⟨fun q a b => (h2.1 q a b).trans (h1.1 q a b), fun k a => (h2.2.1 k a).trans (h1.2.1 k a), fun k a => (h2.2.2 k a).trans (h1.2.2 k a)⟩
theorem Fq.fe {M M' : MT} (h : Fq M M') : Fe M M' := ⟨h.1, fun k a => h.2.1 k (by omega), h.2.2⟩
theorem Fp.fe {M M' : MT} (h : Fp M M') : Fe M M' := h.fq.fe
theorem Fe.d {M M' : MT} {k : Nat} {v : Int32} (h : Fe M M') (hk : k < 61) : Fe M (wr M' 62 (183 + k) v) := ⟨fun q a b => by rw [wr_off b]; exact h.1 q a b, fun j a => by rw [wr_off (by decide)]; exact h.2.1 j a, fun j a => by rw [wr_ne (by omega)]; exact h.2.2 j a⟩
theorem Fe.s {M M' : MT} {k : Nat} {v : Int32} (h : Fe M M') (h1 : 11 ≤ k) (h2 : k ≤ 15) : Fe M (wr M' 61 k v) := ⟨fun q a b => by rw [wr_off a]; exact h.1 q a b, fun j a => by rw [wr_ne (by omega)]; exact h.2.1 j a, fun j a => by rw [wr_off (by decide)]; exact h.2.2 j a⟩
theorem m_takesEar {C : CC} (hC : Clo C) {d : Nat} (hd : 3 ≤ d) {M : MT} {K : KT} {g : Nat → Int32} {T a E : Nat} {b : BV} (hT : TMo g T a M) (ha : a ≤ T) (hb : Dm b M) (hp : b 5 = nI (nP b)) (h5 : nP b ≤ 5) (hwt : ∀ e, e < 25 → ∃ w, w ≤ 9 ∧ b (36 + e) = nI w) (hE : M 61 15 = nI E) (hE12 : E ≤ 12) (hN : ¬ byt g T a = 119 → ∀ M', FLm 1 a M' → Fe M M' → K (some (.int 0)) M') (hM : byt g T a = 119 → E = 12 → ∀ M', FLm 3 a M' → Fe M M' → K (some (.int 0)) M') (h1 : byt g T a = 119 → E < 12 → ∀ M' a' p v, (∀ k, earP g T a b k = k a' (setB b (36 + p) v)) → p < 25 → (∃ w, w ≤ 9 ∧ v = nI w) → a' ≤ T → TMo g T a' M' → Dm (setB b (36 + p) v) M' → M' 61 15 = nI (E + 1) → Fe M M' → K (some (.int 1)) M') (h0 : byt g T a = 119 → E < 12 → ∀ M' f p, (∀ k, earP g T a b k = .inr (f, p)) → FLm f p M' → Fe M M' → K (some (.int 0)) M') : C d 144 [.ref 61] M K := by
  have hT1 := hT.2.1
  refine g_X8_takesEar hC (fun X hX => ?_)
  refine b_X8_takesEar_0 hX ?_
  conv => whnf
  refine ⟨by omega, m_takes hC (by omega) hT ha (by decide) (fun N0 y0 e0 l0 t0 g0 => ?_) (fun N e h fm => ?_)⟩
  rotate_left
  · conv => whnf
    refine ⟨fun z => absurd rfl z, fun _ => ?_⟩
    conv => whnf
    refine ⟨Or.inl rfl, hN (fun z => ?_) N h fm.fe⟩
    have := e (fun _ => .inl b)
    unfold tkP at this
    rw [if_pos z] at this
    exact absurd this (by simp)
  have d0 := hb.fp g0
  have x0 : N0 61 15 = nI E := by rw [g0.2 15 (by omega)]; exact hE
  conv => whnf
  refine ⟨fun _ => ?_, fun z => absurd z (by decide)⟩
  refine b_X8_takesEar_11 hX ?_
  conv => whnf
  rw [x0]
  refine ⟨fun q2 => ?_, fun q2 => ?_⟩
  rotate_left
  · conv => whnf
    refine ⟨by omega, m_isMore hC ?_⟩
    conv => whnf
    rw [t0.2.2.1, nI_pre]
    exact ⟨Or.inl rfl, hM y0 ((eq_nI (b := 12) (by omega) (by omega)).mp q2) _ ⟨wr_at, by rw [wr_ne (by decide), wr_at]⟩ (Fe.s (Fe.s g0.fe (by decide) (by decide)) (by decide) (by decide))⟩
  have hE2 : E < 12 := by
    rcases Nat.lt_or_ge E 12 with z | z
    · exact z
    · exact absurd (by rw [show E = 12 by omega]; rfl) q2
  have h1 := h1 y0 hE2
  have h0 := h0 y0 hE2
  refine b_X8_takesEar_25 hX ?_
  conv => whnf
  refine ⟨188, rfl, by decide, ?_⟩
  conv => whnf
  rw [show N0 62 188 = b 5 from d0 5 (by omega)]
  refine ⟨by omega, m_takesNumber hC (by omega) t0 l0 (fun N1 a1 i e1 l1 i0 i1 t1 v1 _ g1 => ?_) (fun N f e h fm => ?_)⟩
  rotate_left
  · conv => whnf
    refine ⟨fun z => absurd rfl z, fun _ => ?_⟩
    conv => whnf
    exact ⟨Or.inl rfl, h0 N _ _ (fun k => by unfold earP; rw [e]) h (g0.tr fm).fe⟩
  have i1' := i1
  rw [hp] at i1'
  obtain ⟨x, hx, rfl⟩ := (isPl_iff (by omega)).mp ⟨i0, i1'⟩
  conv => whnf
  refine ⟨fun _ => ?_, fun z => absurd z (by decide)⟩
  refine b_X8_takesEar_47 hX ?_
  conv => whnf
  rw [v1]
  have b100 : ∀ (N : MT) (f : Int32) (p : Nat), (∀ k, earP g T a b k = .inr (f, p)) → FLm f p N → Fe M N → X 100 [some (.ref 61), some (.int (b 5)), some (.int (nI x)), none] [] N := fun N f p hk hf fm => by
    refine b_X8_takesEar_100 hX ?_
    conv => whnf
    exact ⟨Or.inl rfl, h0 N f p hk hf fm⟩
  refine ⟨by omega, m_takes hC (by omega) t1 l1 (by decide) (fun N2 y2 e2 l2 t2 g2 => ?_) (fun N e h fm => ?_)⟩
  rotate_left
  · conv => whnf
    exact ⟨fun _ => b100 N _ _ (fun k => by unfold earP; rw [e1, e]) h ((g0.tr g1).tr fm).fe, fun z => absurd rfl z⟩
  conv => whnf
  refine ⟨fun q => absurd q (by decide), fun _ => ?_⟩
  conv => whnf
  refine ⟨by omega, m_takesNumber hC (by omega) t2 l2 (fun N3 a3 j e3 l3 j0 j1 t3 v3 fl3 g3 => ?_) (fun N f e h fm => ?_)⟩
  rotate_left
  · conv => whnf
    exact ⟨fun _ => b100 N _ _ (fun k => by unfold earP; rw [e1, e2, e]) h (((g0.tr g1).tr g2).tr fm).fe, fun z => absurd rfl z⟩
  rw [hp] at j1
  obtain ⟨y, hy, rfl⟩ := (isPl_iff (by omega)).mp ⟨j0, j1⟩
  have g03 : Fp M N3 := ((g0.tr g1).tr g2).tr g3
  have d3 := hb.fp g03
  have x3 : N3 61 15 = nI E := by rw [g03.2 15 (by omega)]; exact hE
  obtain ⟨w, hw9, ew⟩ := hwt (5 * x + y) (by omega)
  have eE : ∀ k, earP g T a b k = if nI x = nI y ∨ ¬ b (36 + (5 * x + y)) = 0 then .inr (2, a1 + 1) else tkP g T 44 a3 fun a4 => nmP g T 1 9 a4 fun a5 w => tkP g T 59 a5 fun a6 => k a6 (setB b (36 + (5 * x + y)) w) := fun k => by
    unfold earP
    rw [e1, e2, e3, tN_nI (by omega), tN_nI (by omega)]
  conv => whnf
  refine ⟨fun q => absurd q (by decide), fun _ => ?_⟩
  conv => whnf
  rw [v3]
  refine ⟨fun q => b100 N3 2 (a1 + 1) (fun k => by rw [eE, if_pos (Or.inl q.symm)]) fl3 g03.fe, fun q => ?_⟩
  conv => whnf
  rw [v3]
  refine ⟨183 + (36 + (5 * x + y)), by rw [show (219 : Int32) = nI 219 from rfl, show (5 : Int32) = nI 5 from rfl, nI_mul, nI_add, nI_add, show 219 + 5 * x + y = 183 + (36 + (5 * x + y)) by omega], by omega, ?_⟩
  conv => whnf
  rw [d3 (36 + (5 * x + y)) (by omega), ew]
  refine ⟨fun q3 => ?_, fun q3 => b100 N3 2 (a1 + 1) (fun k => by rw [eE, if_pos (Or.inr (fun z => q3 (by rw [← ew, z]; decide)))]) fl3 g03.fe⟩
  have hw0 : w = 0 := by
    rcases Nat.eq_zero_or_pos w with z | z
    · exact z
    · exact absurd q3 (nI_nle z (by omega))
  have eE : ∀ k, earP g T a b k = tkP g T 44 a3 fun a4 => nmP g T 1 9 a4 fun a5 w => tkP g T 59 a5 fun a6 => k a6 (setB b (36 + (5 * x + y)) w) := fun k => by
    rw [eE, if_neg (fun z => z.elim (fun z => q z.symm) (fun z => z (by rw [ew, hw0]; rfl)))]
  refine b_X8_takesEar_102 hX ?_
  conv => whnf
  rw [v3]
  have b126 : ∀ (N : MT) (f : Int32) (p : Nat), (∀ k, earP g T a b k = .inr (f, p)) → FLm f p N → Fe M N → X 126 [some (.ref 61), some (.int (b 5)), some (.int (nI x)), some (.int (nI y))] [] N := fun N f p hk hf fm => by
    refine b_X8_takesEar_126 hX ?_
    conv => whnf
    exact ⟨Or.inl rfl, h0 N f p hk hf fm⟩
  refine ⟨by omega, m_takes hC (by omega) t3 l3 (by decide) (fun N4 y4 e4 l4 t4 g4 => ?_) (fun N e h fm => ?_)⟩
  rotate_left
  · conv => whnf
    exact ⟨fun _ => b126 N _ _ (fun k => by rw [eE, e]) h (g03.tr fm).fe, fun z => absurd rfl z⟩
  conv => whnf
  refine ⟨fun q => absurd q (by decide), fun _ => ?_⟩
  conv => whnf
  refine ⟨by omega, m_takesNumber hC (by omega) t4 l4 (fun N5 a5 v e5 l5 p0 p1 t5 v5 _ g5 => ?_) (fun N f e h fm => ?_)⟩
  rotate_left
  · conv => whnf
    exact ⟨fun z => absurd rfl z, fun _ => b126 N _ _ (fun k => by rw [eE, e4, e]) h ((g03.tr g4).tr fm).fe⟩
  have g05 : Fp M N5 := (g03.tr g4).tr g5
  have d5 := (hb.fp g05).put (k := 36 + (5 * x + y)) (v := v)
  have x5 : N5 61 15 = nI E := by rw [g05.2 15 (by omega)]; exact hE
  obtain ⟨vv, -, hv9, ev⟩ := rngL (lo := 1) (hi := 9) (by omega) p0 p1 (by omega)
  conv => whnf
  refine ⟨fun _ => ?_, fun z => absurd z (by decide)⟩
  refine b_X8_takesEar_128 hX ?_
  conv => whnf
  refine ⟨183 + (36 + (5 * x + y)), by rw [show (219 : Int32) = nI 219 from rfl, show (5 : Int32) = nI 5 from rfl, nI_mul, nI_add, nI_add, show 219 + 5 * x + y = 183 + (36 + (5 * x + y)) by omega], by omega, ?_⟩
  conv => whnf
  rw [v5, wr_off (q := 61) (p := 62) (by decide), x5, nI_1]
  have f6 : Fe M (wr (wr N5 62 (183 + (36 + (5 * x + y))) v) 61 15 (nI (E + 1))) := Fe.s (Fe.d g05.fe (by omega)) (by decide) (by decide)
  refine ⟨by omega, m_takes hC (by omega) (t5.d.kp (by decide) (by decide)) l5 (by decide) (fun N7 y7 e7 l7 t7 g7 => ?_) (fun N e h fm => ?_)⟩
  · conv => whnf
    exact ⟨Or.inr rfl, h1 N7 _ (5 * x + y) v (fun k => by rw [eE, e4, e5, e7]) (by omega) ⟨vv, hv9, ev⟩ l7 t7 (d5.s.fp g7) (by rw [g7.2 15 (by omega), wr_at]) (f6.tr g7.fe)⟩
  · conv => whnf
    exact ⟨Or.inl rfl, h0 N _ _ (fun k => by rw [eE, e4, e5, e]) h (f6.tr fm.fe)⟩
