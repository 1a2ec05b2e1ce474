/-! THE REFERENCE: dancers -/
def btI (x : Int32) (i : Nat) : Bool := x.toBitVec.getLsbD i
theorem bt_or {x y : Int32} {i : Nat} : btI (x ||| y) i = (btI x i || btI y i) := by simp [btI]
theorem bt_and {x y : Int32} {i : Nat} : btI (x &&& y) i = (btI x i && btI y i) := by simp [btI]
theorem bt_not {x : Int32} {i : Nat} (hi : i < 32) : btI (x ^^^ -1) i = !(btI x i) := by
  have : ∀ i : Fin 32, (-1 : Int32).toBitVec.getLsbD i = true := by decide
  have := this ⟨i, hi⟩
  simp only [btI, Int32.toBitVec_xor, BitVec.getLsbD_xor]
  rw [this, Bool.xor_true]
theorem bt_bit {w i : Nat} (hw : w < 10) (hi : i < 32) : btI ((1 : Int32) <<< (nI w &&& 31)) i = decide (i = w) := by
  have : ∀ (w : Fin 10) (i : Fin 32), btI ((1 : Int32) <<< (nI w.val &&& 31)) i.val = decide (i.val = w.val) := by decide
  exact this ⟨w, hw⟩ ⟨i, hi⟩
theorem bt_ext {x y : Int32} (h : ∀ i, i < 32 → btI x i = btI y i) : x = y := by
  apply Int32.toBitVec_inj.mp
  exact BitVec.eq_of_getLsbD_eq (fun i hi => h i hi)
theorem bt_zero {i : Nat} : btI 0 i = false := by simp [btI]
theorem bt_shr {x : Int32} {w : Nat} (hw : w < 10) : (x >>> (nI w &&& 31)) &&& 1 = 0 ↔ btI x w = false := by
  have e : ∀ w : Fin 10, ((nI w.val &&& 31).toBitVec.smod 32).toNat = w.val := by decide
  have e := e ⟨w, hw⟩
  have one : ∀ i : Fin 32, btI 1 i.val = decide (i.val = 0) := by decide
  have b0 : btI (x >>> (nI w &&& 31)) 0 = btI x w := by
    simp only [btI, Int32.toBitVec_shiftRight, BitVec.sshiftRight_eq', BitVec.getLsbD_sshiftRight]
    rw [e]
    simp
    omega
  constructor
  · intro h
    have : btI ((x >>> (nI w &&& 31)) &&& 1) 0 = false := by rw [h]; exact bt_zero
    rw [bt_and, b0, one ⟨0, by omega⟩] at this
    simpa using this
  · intro h
    refine bt_ext (fun i hi => ?_)
    rw [bt_and, bt_zero, one ⟨i, hi⟩]
    by_cases z : i = 0
    · subst z; rw [b0, h]; rfl
    · simp [z]
theorem bt_sub {x s : Int32} : x &&& (s ^^^ -1) = 0 ↔ ∀ i, i < 32 → btI x i = true → btI s i = true := by
  constructor
  · intro h i hi hx
    have : btI (x &&& (s ^^^ -1)) i = false := by rw [h]; exact bt_zero
    rw [bt_and, bt_not hi, hx] at this
    simpa using this
  · intro h
    refine bt_ext (fun i hi => ?_)
    rw [bt_and, bt_not hi, bt_zero]
    cases e : btI x i
    · rfl
    · rw [h i hi e]; rfl
theorem fall_lt {g : Nat → Int32} {c : Int32} : ∀ (w i : Nat), w ≤ 10 → i < 32 → btI (fallS g c w) i = true → i < w := by
  intro w
  induction w with
  | zero => intro i _ _ h; exact absurd h (by simp [fallS, bt_zero])
  | succ w ih =>
    intro i hw hi h
    unfold fallS at h
    by_cases z : c < g (2 * w) ∨ g (2 * w + 1) < c
    · rw [if_pos z, bt_or, bt_bit (by omega) hi] at h
      by_cases z2 : i = w
      · omega
      · simp [z2] at h
        have := ih i (by omega) hi h
        omega
    · rw [if_neg z] at h
      have := ih i (by omega) hi h
      omega
def lastS (f s last k : Int32) : Int32 := if f &&& (s ^^^ -1) = 0 then last else k
theorem danc_skip {g : Nat → Int32} {c : Int32} {w : Nat} (h : ¬ (c < g (2 * w) ∨ g (2 * w + 1) < c)) : fallS g c (w + 1) = fallS g c w := if_neg h
theorem danc_out {g : Nat → Int32} {c : Int32} {w : Nat} (h : c < g (2 * w) ∨ g (2 * w + 1) < c) : fallS g c (w + 1) = fallS g c w ||| ((1 : Int32) <<< (nI w &&& 31)) := if_pos h
theorem danc_bit {g : Nat → Int32} {c s : Int32} {w : Nat} (hw : w < 10) : ((s ||| fallS g c w) >>> (nI w &&& 31)) &&& 1 = 0 ↔ btI s w = false := by
  rw [bt_shr hw, bt_or]
  have : btI (fallS g c w) w = false := by
    cases e : btI (fallS g c w) w
    · rfl
    · have := fall_lt w w (by omega) (by omega) e
      omega
  rw [this, Bool.or_false]
theorem danc_new {g : Nat → Int32} {c s last k : Int32} {w : Nat} (hw : w < 10) (h : btI s w = false) : lastS (fallS g c w ||| ((1 : Int32) <<< (nI w &&& 31))) s last k = k := by
  refine if_neg (fun z => ?_)
  have := bt_sub.mp z w (by omega) (by rw [bt_or, bt_bit hw (by omega)]; simp)
  rw [h] at this
  exact absurd this (by decide)
theorem danc_old {g : Nat → Int32} {c s last k : Int32} {w : Nat} (hw : w < 10) (h : ¬ btI s w = false) : lastS (fallS g c w ||| ((1 : Int32) <<< (nI w &&& 31))) s last k = lastS (fallS g c w) s last k := by
  have hs : btI s w = true := by simpa using h
  have : (fallS g c w ||| ((1 : Int32) <<< (nI w &&& 31))) &&& (s ^^^ -1) = 0 ↔ fallS g c w &&& (s ^^^ -1) = 0 := by
    rw [bt_sub, bt_sub]
    constructor
    · exact fun a i hi b => a i hi (by rw [bt_or, b]; rfl)
    · intro a i hi b
      rw [bt_or, bt_bit hw hi] at b
      by_cases z : i = w
      · rw [z]; exact hs
      · simp [z] at b; exact a i hi b
  unfold lastS
  by_cases z : fallS g c w &&& (s ^^^ -1) = 0
  · rw [if_pos z, if_pos (this.mpr z)]
  · rw [if_neg z, if_neg (fun z2 => z (this.mp z2))]
theorem danc_end {b : BV} {g : Nat → Int32} {m k : Nat} : dancS b g m (k + 1) = ((dancS b g m k).1 ||| fallS g (meanS (playsS (-1) k b)) m, lastS (fallS g (meanS (playsS (-1) k b)) m) (dancS b g m k).1 (dancS b g m k).2 (nI k)) := by
  show (if fallS g (meanS (playsS (-1) k b)) m &&& ((dancS b g m k).1 ^^^ -1) = 0 then dancS b g m k else ((dancS b g m k).1 ||| fallS g (meanS (playsS (-1) k b)) m, nI k)) = _
  unfold lastS
  by_cases z : fallS g (meanS (playsS (-1) k b)) m &&& ((dancS b g m k).1 ^^^ -1) = 0
  · rw [if_pos z, if_pos z]
    have : (dancS b g m k).1 ||| fallS g (meanS (playsS (-1) k b)) m = (dancS b g m k).1 := bt_ext (fun i hi => by
      rw [bt_or]
      have := bt_sub.mp z i hi
      cases e : btI (fallS g (meanS (playsS (-1) k b)) m) i
      · rw [Bool.or_false]
      · rw [this e]; rfl)
    rw [this]
  · rw [if_neg z, if_neg z]
theorem mo_dancers {C : CC} (hC : Clo C) {d : Nat} (hd : 8 ≤ d) {σ M : MT} {K : KT} {row i m n what : Int32} (hA : AM σ M) (hW : WF σ) (hK : ∀ M1, AM (dancersR σ row i m n what).2 M1 → Fm M M1 61 75 → K (some (.int (dancersR σ row i m n what).1)) M1) : C d 173 [.ref 61, .int row, .int i, .int m, .int n, .int what] M K := by
  obtain ⟨pe, p5, pw, p0⟩ := hW.pl
  have hb : ∀ k, k < 61 → M 62 k = σ 5 k := fun k hk => (hA.2.2.2.2.1 k hk).1
  have e5 : M 62 5 = nI (nP (σ 5)) := (hb 5 (by omega)).trans pe
  unfold dancersR at hK
  refine g_X8_dancers hC (fun X hX => ?_)
  refine b_X8_dancers_0 hX ?_
  conv => whnf
  refine ⟨by omega, m_none hC hA hW (fun hP => ?_) (fun hP => ?_)⟩
  · rw [pit_pos hP] at hK
    conv => whnf
    refine ⟨fun q => absurd q (by decide), fun _ => ?_⟩
    conv => whnf
    exact hK M hA Fm.rf
  have hw := pw hP
  have hz := hw.1
  have hP0 : ¬ nP (σ 5) = 0 := by omega
  rw [pit_neg hP0] at hK
  conv => whnf
  refine ⟨fun _ => ?_, fun z => absurd rfl z⟩
  have bB : ¬ (isPl 8 row ∧ (1 ≤ m ∧ m ≤ 10) ∧ (0 ≤ n ∧ n ≤ 200) ∧ (0 ≤ what ∧ what ≤ 1)) → X 53 [some (.ref 61), some (.int row), some (.int i), some (.int m), some (.int n), some (.int what), none, none, none, none, none, none] [] M := fun q => by
    rw [pit_neg q] at hK
    refine b_X8_dancers_53 hX ?_
    conv => whnf
    exact hK M hA Fm.rf
  refine b_X8_dancers_10 hX ?_
  conv => whnf
  refine ⟨by omega, m_isRow hC (by omega) (fun i0 h0 e0 => ?_) (fun q => ?_)⟩
  rotate_left
  · conv => whnf
    exact ⟨fun _ => bB (fun z => q z.1), fun z => absurd rfl z⟩
  conv => whnf
  refine ⟨fun q => absurd q (by decide), fun _ => ?_⟩
  conv => whnf
  refine ⟨by omega, m_in hC (fun a1 b1 => ?_) (fun q => ?_)⟩
  rotate_left
  · conv => whnf
    exact ⟨fun _ => bB (fun z => q z.2.1), fun z => absurd rfl z⟩
  conv => whnf
  refine ⟨fun q => absurd q (by decide), fun _ => ?_⟩
  conv => whnf
  refine ⟨by omega, m_in hC (fun a2 b2 => ?_) (fun q => ?_)⟩
  rotate_left
  · conv => whnf
    exact ⟨fun _ => bB (fun z => q z.2.2.1), fun z => absurd rfl z⟩
  conv => whnf
  refine ⟨fun q => absurd q (by decide), fun _ => ?_⟩
  conv => whnf
  refine ⟨by omega, m_in hC (fun a3 b3 => ?_) (fun q => ?_)⟩
  rotate_left
  · conv => whnf
    exact ⟨fun z => absurd rfl z, fun _ => bB (fun z => q z.2.2.2)⟩
  conv => whnf
  refine ⟨fun _ => ?_, fun z => absurd z (by decide)⟩
  have ok : isPl 8 row ∧ (1 ≤ m ∧ m ≤ 10) ∧ (0 ≤ n ∧ n ≤ 200) ∧ (0 ≤ what ∧ what ≤ 1) := ⟨⟨i0, h0, e0⟩, ⟨a1, b1⟩, ⟨a2, b2⟩, ⟨a3, b3⟩⟩
  rw [pit_pos ok] at hK
  refine b_X8_dancers_56 hX ?_
  conv => whnf
  obtain ⟨m, -, hm, rfl⟩ := rngL (lo := 1) (hi := 10) (by omega) a1 b1 (by omega)
  obtain ⟨n, -, hn, rfl⟩ := rngL (lo := 0) (hi := 200) (by omega) a2 b2 (by omega)
  obtain ⟨hl, s, hs, es⟩ := hW.1 i0 h0
  obtain ⟨c1, c2⟩ := hA.1.1 i0 h0
  subst e0
  rw [tN_nI (by omega), es, tN_nI (by omega), tN_nI (by omega), tN_nI (by omega)] at hK
  rw [show (2 : Int32) * nI m = nI (2 * m) by simp only [lit_nI, nI_mul]]
  refine ⟨by omega, m_against hC h0 (by rw [c1]; exact hl) (c2.trans es) hs (fun q1 => ?_) (fun q1 q2 => ?_) (fun q1 x y ex ey hxy => ?_)⟩
  · rw [c1] at q1
    rw [pit_pos q1] at hK
    conv => whnf
    refine ⟨fun z => absurd z (by decide), fun _ => ?_⟩
    conv => whnf
    refine ⟨by omega, m_found hC ?_⟩
    conv => whnf
    exact hK _ hA.st (Fm.wr Fm.rf (by decide) (by decide))
  · rw [c1] at q1
    rw [pit_neg q1, pit_neg q2] at hK
    conv => whnf
    refine ⟨fun z => absurd z (by decide), fun _ => ?_⟩
    conv => whnf
    refine ⟨by omega, m_found hC ?_⟩
    conv => whnf
    exact hK _ hA.st (Fm.wr Fm.rf (by decide) (by decide))
  rw [c1] at q1
  rw [pit_neg q1, pit_pos ⟨x, y, ex, ey, hxy⟩] at hK
  have hy : y = 2 * m := ((eq_nI (by omega) (by omega)).mp ey).symm
  subst ex
  rw [tN_nI (by omega)] at hK
  replace hK : ∀ M1, Fs M M1 → K (some (.int (pit (what = 0) (dancS (σ 5) (itm σ i0 x) m (n + 1)).1 (dancS (σ 5) (itm σ i0 x) m (n + 1)).2))) (wr M1 61 7 0) := fun M1 f => hK _ (hA.scr f).st (f.fm.tr (Fm.wr Fm.rf (by decide) (by decide)))
  have hg : ∀ q, q < 2 * m → M 66 (40 * i0 + x + q) = itm σ i0 x q := fun q hq => by
    rw [hA.1.2 _ (by omega)]; rfl
  have loop : ∀ (j k : Nat) (o1 o2 : Option Value) (M' : MT), k + j = n + 1 → Wk (playsS (-1) k (σ 5)) (-1) M' → Fs M M' → X 93 [some (.ref 61), some (.int (nI i0)), some (.int (nI x)), some (.int (nI m)), some (.int (nI n)), some (.int what), some (.int 0), some (.int (dancS (σ 5) (itm σ i0 x) m k).1), some (.int (dancS (σ 5) (itm σ i0 x) m k).2), some (.int (nI k)), o1, o2] [] M' := by
    intro j
    induction j with
    | zero =>
      intro k o1 o2 M' hk g f
      have hk : k = n + 1 := by omega
      subst hk
      refine b_X8_dancers_93 hX ?_
      conv => whnf
      refine ⟨fun q => ?_, fun q => absurd (nI_lt (by omega) (by omega)) q⟩
      refine b_X8_dancers_222 hX ?_
      conv => whnf
      refine ⟨fun w0 => ?_, fun w0 => ?_⟩
      · rw [pit_neg w0] at hK
        refine b_X8_dancers_233 hX ?_
        conv => whnf
        refine b_X8_dancers_235 hX ?_
        conv => whnf
        refine ⟨by omega, m_well hC ?_⟩
        conv => whnf
        exact hK M' f
      · rw [pit_pos w0] at hK
        conv => whnf
        refine ⟨by omega, m_well hC ?_⟩
        conv => whnf
        exact hK M' f
    | succ j ih =>
      intro k o1 o2 M' hk g f
      refine b_X8_dancers_93 hX ?_
      conv => whnf
      refine ⟨fun q => absurd q (nI_nlt (by omega) (by omega)), fun q => ?_⟩
      conv => whnf
      have inner : ∀ (l w : Nat) (o2 : Option Value), w + l = m → X 103 [some (.ref 61), some (.int (nI i0)), some (.int (nI x)), some (.int (nI m)), some (.int (nI n)), some (.int what), some (.int 0), some (.int ((dancS (σ 5) (itm σ i0 x) m k).1 ||| fallS (itm σ i0 x) (meanS (playsS (-1) k (σ 5))) w)), some (.int (lastS (fallS (itm σ i0 x) (meanS (playsS (-1) k (σ 5))) w) (dancS (σ 5) (itm σ i0 x) m k).1 (dancS (σ 5) (itm σ i0 x) m k).2 (nI k))), some (.int (nI k)), some (.int (nI w)), o2] [] M' := by
        intro l
        induction l with
        | zero =>
          intro w o2 hw2
          rw [Nat.add_zero] at hw2
          subst hw2
          refine b_X8_dancers_103 hX ?_
          conv => whnf
          refine ⟨fun q => ?_, fun q => absurd (nI_le (by omega) (by omega)) q⟩
          refine b_X8_dancers_212 hX ?_
          conv => whnf
          refine ⟨by omega, m_plays hC (by omega) g hz.plays (hw.kinds.plays hz) (fun M3 g3 f3 => ?_)⟩
          rw [← playsS_succ] at g3
          conv => whnf
          rw [nI_1]
          have := ih (k + 1) (some (.int (nI w))) o2 M3 (by omega) g3 (f.tr f3)
          rw [danc_end] at this
          exact this
        | succ l lh =>
          intro w o2 hw2
          have hn := fun o => lh (w + 1) o (by omega)
          have b184 : ∀ (y : Int32), False → X 184 [] [] M' := fun _ z => z.elim
          have b157 : ((meanS (playsS (-1) k (σ 5))) < itm σ i0 x (2 * w) ∨ itm σ i0 x (2 * w + 1) < (meanS (playsS (-1) k (σ 5)))) → X 157 [some (.ref 61), some (.int (nI i0)), some (.int (nI x)), some (.int (nI m)), some (.int (nI n)), some (.int what), some (.int 0), some (.int ((dancS (σ 5) (itm σ i0 x) m k).1 ||| fallS (itm σ i0 x) (meanS (playsS (-1) k (σ 5))) w)), some (.int (lastS (fallS (itm σ i0 x) (meanS (playsS (-1) k (σ 5))) w) (dancS (σ 5) (itm σ i0 x) m k).1 (dancS (σ 5) (itm σ i0 x) m k).2 (nI k))), some (.int (nI k)), some (.int (nI w)), o2] [] M' := by
            intro ho
            rw [danc_out ho, ← Int32.or_assoc] at hn
            refine b_X8_dancers_157 hX ?_
            conv => whnf
            refine b_X8_dancers_162 hX ?_
            conv => whnf
            refine ⟨fun q => absurd q (by decide), fun _ => ?_⟩
            conv => whnf
            by_cases z : btI (dancS (σ 5) (itm σ i0 x) m k).1 w = false
            · rw [danc_new (by omega) z] at hn
              refine ⟨fun q => absurd ((danc_bit (by omega)).mpr z) q, fun _ => ?_⟩
              conv => whnf
              refine b_X8_dancers_186 hX ?_
              conv => whnf
              refine ⟨fun q => absurd q (by decide), fun _ => ?_⟩
              conv => whnf
              rw [nI_1]
              exact hn _
            · rw [danc_old (by omega) z] at hn
              refine ⟨fun _ => ?_, fun q => absurd ((danc_bit (by omega)).mp q) z⟩
              refine b_X8_dancers_184 hX ?_
              conv => whnf
              refine b_X8_dancers_186 hX ?_
              conv => whnf
              refine ⟨fun q => absurd q (by decide), fun _ => ?_⟩
              conv => whnf
              rw [nI_1]
              exact hn _
          refine b_X8_dancers_103 hX ?_
          conv => whnf
          refine ⟨fun q => absurd q (nI_ge (by omega) (by omega)), fun q => ?_⟩
          conv => whnf
          refine ⟨by omega, m_mean hC g hz.plays ?_⟩
          conv => whnf
          refine ⟨40 * i0 + x + 2 * w, (by simp only [lit_nI, nI_add, nI_mul]), by omega, ?_⟩
          conv => whnf
          rw [f.1 66 (by decide) (by decide), hg (2 * w) (by omega)]
          refine ⟨fun q => b157 (Or.inl q), fun q1 => ?_⟩
          conv => whnf
          refine ⟨by omega, m_mean hC g hz.plays ?_⟩
          conv => whnf
          refine ⟨40 * i0 + x + 2 * w + 1, (by simp only [lit_nI, nI_add, nI_mul]), by omega, ?_⟩
          conv => whnf
          rw [f.1 66 (by decide) (by decide), show 40 * i0 + x + 2 * w + 1 = 40 * i0 + x + (2 * w + 1) by omega, hg (2 * w + 1) (by omega)]
          refine ⟨fun q => ?_, fun q => b157 (Or.inr (Int32.not_le.mp q))⟩
          rw [danc_skip (fun z => z.elim q1 (Int32.not_lt.mpr q))] at hn
          refine b_X8_dancers_161 hX ?_
          conv => whnf
          refine b_X8_dancers_162 hX ?_
          conv => whnf
          refine ⟨fun _ => ?_, fun z => absurd rfl z⟩
          refine b_X8_dancers_184 hX ?_
          conv => whnf
          refine b_X8_dancers_186 hX ?_
          conv => whnf
          refine ⟨fun _ => ?_, fun z => absurd rfl z⟩
          refine b_X8_dancers_202 hX ?_
          conv => whnf
          refine b_X8_dancers_203 hX ?_
          conv => whnf
          rw [nI_1, Int32.or_zero]
          exact hn _
      have := inner m 0 o2 (by omega)
      rw [show fallS (itm σ i0 x) (meanS (playsS (-1) k (σ 5))) 0 = 0 from rfl, Int32.or_zero, show lastS 0 (dancS (σ 5) (itm σ i0 x) m k).1 (dancS (σ 5) (itm σ i0 x) m k).2 (nI k) = (dancS (σ 5) (itm σ i0 x) m k).2 from if_pos (Int32.zero_and)] at this
      exact this
  conv => whnf
  refine ⟨fun _ => ?_, fun z => absurd (by decide) z⟩
  refine b_X8_dancers_79 hX ?_
  conv => whnf
  refine ⟨by omega, m_layNow (b := σ 5) hC hb (fun M1 g1 f1 => ?_)⟩
  conv => whnf
  exact loop (n + 1) 0 none none M1 (by omega) g1 f1
