/-- one player told -/
def plB (g : Nat → Int32) (T a : Nat) (b : BV) (v h : Int32) : BV := setB (setB (setB (setB b (21 + nP b) (kindO (byt g T a))) (26 + nP b) (10 * v)) (31 + nP b) h) 5 (nI (nP b + 1))
theorem m_takesPlayer {C : CC} (hC : Clo C) {d : Nat} (hd : 3 ≤ d) {M : MT} {K : KT} {g : Nat → Int32} {T a : Nat} {b : BV} (hT : TMo g T a M) (ha : a ≤ T) (hb : Dm b M) (hp : b 5 = nI (nP b)) (h5 : nP b ≤ 5) (hN : kindO (byt g T a) = 0 → ∀ M', FLm 1 a M' → Fq M M' → K (some (.int 0)) M') (hM : ¬ kindO (byt g T a) = 0 → nP b = 5 → ∀ M', FLm 3 a M' → Fq M M' → K (some (.int 0)) M') (h1 : ¬ kindO (byt g T a) = 0 → nP b < 5 → ∀ M' a' v h, (∀ k, plyP g T a b k = k a' (plB g T a b v h)) → a' ≤ T → TMo g T a' M' → Dm (plB g T a b v h) M' → Fq M M' → K (some (.int 1)) M') (h0 : ¬ kindO (byt g T a) = 0 → nP b < 5 → ∀ M' f p, (∀ k, plyP g T a b k = .inr (f, p)) → FLm f p M' → Fq M M' → K (some (.int 0)) M') : C d 143 [.ref 61] M K := by
  have hT1 := hT.2.1
  refine g_X8_takesPlayer hC (fun X hX => ?_)
  have t2 : TMo g T a (wr (wr M 61 12 (nI a)) 61 13 1) := (hT.kp (by decide) (by decide)).kp (by decide) (by decide)
  have f2 : Fq M (wr (wr M 61 12 (nI a)) 61 13 1) := Fq.s (Fq.s Fq.rf (by decide) (by decide)) (by decide) (by decide)
  have d2 : Dm b (wr (wr M 61 12 (nI a)) 61 13 1) := hb.s.s
  have l2 : FLm 1 a (wr (wr M 61 12 (nI a)) 61 13 1) := ⟨wr_at, by rw [wr_ne (by decide), wr_at]⟩
  refine b_X8_takesPlayer_0 hX ?_
  conv => whnf
  rw [hT.2.2.1, t2.2.2.1]
  revert t2 f2 d2 l2
  generalize wr (wr M 61 12 (nI a)) 61 13 1 = M2
  intro t2 f2 d2 l2
  refine ⟨by omega, m_byteAt hC t2 (by omega) ?_⟩
  conv => whnf
  refine ⟨by omega, m_sortOf hC ?_⟩
  conv => whnf
  refine ⟨fun q => ?_, fun q => ?_⟩
  rotate_left
  · conv => whnf
    exact ⟨Or.inl rfl, hN q M2 l2 f2⟩
  have hlt : a < T := byt_lt (fun z => q (by rw [z]; decide))
  refine b_X8_takesPlayer_31 hX ?_
  conv => whnf
  refine ⟨188, rfl, by decide, ?_⟩
  conv => whnf
  rw [t2.2.2.1, nI_1]
  have t3 : TMo g T (a + 1) (wr M2 61 11 (nI (a + 1))) := t2.at
  have d3 : Dm b (wr M2 61 11 (nI (a + 1))) := d2.s
  have f3 : Fq M (wr M2 61 11 (nI (a + 1))) := Fq.s f2 (by decide) (by decide)
  have el : wr M2 61 11 (nI (a + 1)) 62 188 = nI (nP b) := (d3 5 (by omega)).trans hp
  rw [el]
  revert t3 d3 f3 el
  generalize wr M2 61 11 (nI (a + 1)) = M3
  intro t3 d3 f3 el
  refine ⟨fun q2 => ?_, fun q2 => ?_⟩
  rotate_left
  · conv => whnf
    refine ⟨by omega, m_isMore hC ?_⟩
    conv => whnf
    rw [t3.2.2.1, nI_pre]
    exact ⟨Or.inl rfl, hM q ((eq_nI (b := 5) (by omega) (by omega)).mp q2) _ ⟨wr_at, by rw [wr_ne (by decide), wr_at]⟩ (Fq.s (Fq.s f3 (by decide) (by decide)) (by decide) (by decide))⟩
  have hP : nP b < 5 := by
    rcases Nat.lt_or_ge (nP b) 5 with z | z
    · exact z
    · exact absurd (by rw [show nP b = 5 by omega]; rfl) q2
  have h1 := h1 q hP
  have h0 := h0 q hP
  refine b_X8_takesPlayer_60 hX ?_
  conv => whnf
  refine ⟨183 + (21 + nP b), by rw [show (204 : Int32) = nI 204 from rfl, nI_add, show 204 + nP b = 183 + (21 + nP b) by omega], by omega, ?_⟩
  conv => whnf
  refine ⟨by omega, m_takesNumber hC (by omega) t3.d (by omega) (fun N1 a1 v e1 l1 _ _ t1 v1 _ g1 => ?_) (fun N f e h fm => ?_)⟩
  rotate_left
  · conv => whnf
    refine ⟨fun z => absurd rfl z, fun _ => ?_⟩
    conv => whnf
    exact ⟨Or.inl rfl, h0 N _ _ (fun k => by unfold plyP; rw [e]) h ((Fq.d f3 (by omega)).tr fm.fq)⟩
  conv => whnf
  refine ⟨fun _ => ?_, fun z => absurd z (by decide)⟩
  have d4 := (d3.put (k := 21 + nP b) (v := kindO (byt g T a))).fp g1
  have f4 := (Fq.d (k := 21 + nP b) (v := kindO (byt g T a)) f3 (by omega)).tr g1.fq
  have b120 : ∀ (N : MT) (x : Int32) (f : Int32) (p : Nat), (∀ k, plyP g T a b k = .inr (f, p)) → FLm f p N → Fq M N → X 120 [some (.ref 61), some (.int x), some (.int (nI (nP b)))] [] N := fun N x f p hk hf fm => by
    refine b_X8_takesPlayer_120 hX ?_
    conv => whnf
    exact ⟨Or.inl rfl, h0 N f p hk hf fm⟩
  refine b_X8_takesPlayer_84 hX ?_
  conv => whnf
  refine ⟨183 + (26 + nP b), by rw [show (209 : Int32) = nI 209 from rfl, nI_add, show 209 + nP b = 183 + (26 + nP b) by omega], by omega, ?_⟩
  conv => whnf
  rw [v1]
  have d5 := d4.put (k := 26 + nP b) (v := 10 * v)
  have f5 := Fq.d (k := 26 + nP b) (v := 10 * v) f4 (by omega)
  refine ⟨by omega, m_takes hC (by omega) t1.d l1 (by decide) (fun N2 y2 e2 l2 t2 g2 => ?_) (fun N e h fm => ?_)⟩
  rotate_left
  · conv => whnf
    exact ⟨fun _ => b120 N _ _ _ (fun k => by unfold plyP; rw [e1, e]) h (f5.tr fm.fq), fun z => absurd rfl z⟩
  conv => whnf
  refine ⟨fun q => absurd q (by decide), fun _ => ?_⟩
  conv => whnf
  refine ⟨by omega, m_takesNumber hC (by omega) t2 l2 (fun N3 a3 u e3 l3 _ _ t3 v3 _ g3 => ?_) (fun N f e h fm => ?_)⟩
  rotate_left
  · conv => whnf
    exact ⟨fun z => absurd rfl z, fun _ => b120 N _ _ _ (fun k => by unfold plyP; rw [e1, e2, e]) h ((f5.tr g2.fq).tr fm.fq)⟩
  conv => whnf
  refine ⟨fun _ => ?_, fun z => absurd z (by decide)⟩
  have d6 := ((d5.fp g2).fp g3).put (k := 31 + nP b) (v := u)
  have f6 := Fq.d (k := 31 + nP b) (v := u) ((f5.tr g2.fq).tr g3.fq) (by omega)
  refine b_X8_takesPlayer_122 hX ?_
  conv => whnf
  refine ⟨183 + (31 + nP b), by rw [show (214 : Int32) = nI 214 from rfl, nI_add, show 214 + nP b = 183 + (31 + nP b) by omega], by omega, ?_⟩
  conv => whnf
  refine ⟨188, rfl, by decide, ?_⟩
  conv => whnf
  refine ⟨188, rfl, by decide, ?_⟩
  conv => whnf
  rw [v3]
  have el6 : wr N3 62 (183 + (31 + nP b)) u 62 188 = nI (nP b) := (d6 5 (by omega)).trans (by rw [setB_ne (by omega), setB_ne (by omega), setB_ne (by omega)]; exact hp)
  rw [el6, nI_1]
  have d7 := d6.put (k := 5) (v := nI (nP b + 1))
  have f7 := Fq.d (k := 5) (v := nI (nP b + 1)) f6 (by omega)
  refine ⟨by omega, m_takes hC (by omega) t3.d.d l3 (by decide) (fun N4 y4 e4 l4 t4 g4 => ?_) (fun N e h fm => ?_)⟩
  · conv => whnf
    exact ⟨Or.inr rfl, h1 N4 _ v u (fun k => by unfold plyP; rw [e1, e2, e3, e4]; rfl) l4 t4 (d7.fp g4) (f7.tr g4.fq)⟩
  · conv => whnf
    exact ⟨Or.inl rfl, h0 N _ _ (fun k => by unfold plyP; rw [e1, e2, e3, e]) h (f7.tr fm.fq)⟩
