/-! THE REFERENCE: songs -/
theorem msk_or {m w : Nat} (hm : m < 64) (hw : w < 6) : nI m ||| ((1 : Int32) <<< (nI w &&& 31)) = nI (Nat.lor m (Nat.shiftLeft 1 w)) ∧ Nat.lor m (Nat.shiftLeft 1 w) < 64 := by
  have : ∀ (m : Fin 64) (w : Fin 6), nI m.val ||| ((1 : Int32) <<< (nI w.val &&& 31)) = nI (Nat.lor m.val (Nat.shiftLeft 1 w.val)) ∧ Nat.lor m.val (Nat.shiftLeft 1 w.val) < 64 := by decide +kernel
  exact this ⟨m, hm⟩ ⟨w, hw⟩
theorem msk_all {n : Nat} (hn : n ≤ 6) : ((1 : Int32) <<< (nI n &&& 31)) - 1 = nI (Nat.sub (Nat.pow 2 n) 1) ∧ Nat.sub (Nat.pow 2 n) 1 < 64 := by
  have : ∀ (n : Fin 7), ((1 : Int32) <<< (nI n.val &&& 31)) - 1 = nI (Nat.sub (Nat.pow 2 n.val) 1) ∧ Nat.sub (Nat.pow 2 n.val) 1 < 64 := by decide +kernel
  exact this ⟨n, by omega⟩
def rg (n c j : Nat) : Nat := Nat.mod (Nat.div c (Nat.pow n j)) n
def cM (it r : Nat → Nat) : Nat → Nat
  | 0 => 0
  | k + 1 => cM it r k + (if k = 0 then 0 else ad (it (r k)) (it (r (k - 1))))
theorem ad_comm {a b : Nat} : ad a b = ad b a := by unfold ad; omega
theorem cM_cL {n c : Nat} {it : Nat → Nat} (h1 : 1 ≤ n) (h6 : n ≤ 6) : cM it (rg n c) n = cL it (dg n c) (n - 1) := by
  have e : ∀ i, dg n c i = rg n c (n - 1 - i) := fun i => rfl
  have : n = 1 ∨ n = 2 ∨ n = 3 ∨ n = 4 ∨ n = 5 ∨ n = 6 := by omega
  rcases this with rfl | rfl | rfl | rfl | rfl | rfl <;> simp [cM, cL, e]
  · rw [ad_comm]
  · rw [ad_comm (a := it (rg 3 c 0)) (b := it (rg 3 c 1)), ad_comm (a := it (rg 3 c 1)) (b := it (rg 3 c 2))]; omega
  · rw [ad_comm (a := it (rg 4 c 0)) (b := it (rg 4 c 1)), ad_comm (a := it (rg 4 c 1)) (b := it (rg 4 c 2)), ad_comm (a := it (rg 4 c 2)) (b := it (rg 4 c 3))]; omega
  · rw [ad_comm (a := it (rg 5 c 0)) (b := it (rg 5 c 1)), ad_comm (a := it (rg 5 c 1)) (b := it (rg 5 c 2)), ad_comm (a := it (rg 5 c 2)) (b := it (rg 5 c 3)), ad_comm (a := it (rg 5 c 3)) (b := it (rg 5 c 4))]; omega
  · rw [ad_comm (a := it (rg 6 c 0)) (b := it (rg 6 c 1)), ad_comm (a := it (rg 6 c 1)) (b := it (rg 6 c 2)), ad_comm (a := it (rg 6 c 2)) (b := it (rg 6 c 3)), ad_comm (a := it (rg 6 c 3)) (b := it (rg 6 c 4)), ad_comm (a := it (rg 6 c 4)) (b := it (rg 6 c 5))]; omega
theorem pow_le6 {n k : Nat} (h6 : n ≤ 6) (hk : k ≤ n) : Nat.pow n k ≤ 46656 := by
  have : ∀ (n k : Fin 7), k.val ≤ n.val → Nat.pow n.val k.val ≤ 46656 := by decide +kernel
  exact this ⟨n, by omega⟩ ⟨k, by omega⟩ hk
theorem pow_pos6 {n k : Nat} (h6 : n ≤ 6) (h1 : 1 ≤ n) (hk : k ≤ n) : 0 < Nat.pow n k := by
  have : ∀ (n k : Fin 7), 1 ≤ n.val → 0 < Nat.pow n.val k.val := by decide +kernel
  exact this ⟨n, by omega⟩ ⟨k, by omega⟩ h1
theorem m_between {C : CC} (hC : Clo C) {d : Nat} (hd : 1 ≤ d) {M : MT} {K : KT} {base n c : Nat} {it : Nat → Nat} (h1 : 1 ≤ n) (h6 : n ≤ 6) (hc : c < 46656) (hbase : base + n ≤ 320) (hit : ∀ q, q < n → it q ≤ 2500 ∧ M 66 (base + q) = nI (it q)) (hK : K (some (.int (nI (ofs n it c)))) M) : C d 180 [.ref 61, .int (nI base), .int (nI n), .int (nI c)] M K := by
  refine g_X8_between hC (fun X hX => ?_)
  have rlt : ∀ j, rg n c j < n := fun j => Nat.mod_lt _ (by omega)
  have loop : ∀ (m k : Nat) (pr : Int32) (o : Option Value), k + m = n → mkM n k c < 64 → ((k = 0 ∧ pr = -1) ∨ (0 < k ∧ pr = nI (rg n c (k - 1)))) → cM it (rg n c) k ≤ 5000 * k → X 15 [some (.ref 61), some (.int (nI base)), some (.int (nI n)), some (.int (nI c)), some (.int (nI (cM it (rg n c) k))), some (.int (nI (mkM n k c))), some (.int (nI (c / Nat.pow n k))), some (.int pr), some (.int (nI k)), o] [] M := by
    intro m
    induction m with
    | zero =>
      intro k pr o hk hm hp hs
      rw [Nat.add_zero] at hk
      subst hk
      obtain ⟨ma, ml⟩ := msk_all h6
      refine b_X8_between_15 hX ?_
      conv => whnf
      refine ⟨fun q => ?_, fun q => absurd (nI_le (by omega) (by omega)) q⟩
      refine b_X8_between_88 hX ?_
      conv => whnf
      rw [ma]
      refine ⟨fun q => ?_, fun q => ?_⟩
      · have : isP k c = false := by
          cases e : isP k c
          · rfl
          · exact absurd (congrArg nI (Nat.eq_of_beq_eq_true e)) q
        have e : ofs k it c = 1000000000 := by unfold ofs; rw [this]; rfl
        rw [e] at hK
        refine b_X8_between_103 hX ?_
        conv => whnf
        refine b_X8_between_105 hX ?_
        conv => whnf
        exact hK
      · have q := (eq_nI (by omega) (by omega)).mp q
        have e : ofs k it c = cM it (rg k c) k := by
          unfold ofs isP
          rw [q, Nat.beq_refl, if_pos rfl, cM_cL h1 h6]
        rw [e] at hK
        conv => whnf
        exact hK
    | succ m ih =>
      intro k pr o hk hm hp hs
      obtain ⟨mo, ml⟩ := msk_or hm (show rg n c k < 6 by have := rlt k; omega)
      have hcd : c / Nat.pow n k < 2 ^ 31 := Nat.lt_of_le_of_lt (Nat.div_le_self _ _) (by omega)
      have e1 : rem32 (nI (c / Nat.pow n k)) (nI n) = nI (rg n c k) := pk_rem hcd (by omega) (by omega)
      have e2 : nI (c / Nat.pow n k) / nI n = nI (c / Nat.pow n (k + 1)) := by
        rw [pk_div hcd (by omega) (by omega), Nat.div_div_eq_div_mul]; rfl
      have hl := rlt k
      have b66 : ∀ (v : Nat), cM it (rg n c) (k + 1) = cM it (rg n c) k + v → v ≤ 2500 → X 66 [some (.ref 61), some (.int (nI base)), some (.int (nI n)), some (.int (nI c)), some (.int (nI (cM it (rg n c) k))), some (.int (nI (mkM n k c))), some (.int (nI (c / Nat.pow n (k + 1)))), some (.int pr), some (.int (nI k)), some (.int (nI (rg n c k)))] [.int (nI v), .int (nI (cM it (rg n c) k))] M := by
        intro v hv hv2
        refine b_X8_between_66 hX ?_
        conv => whnf
        rw [nI_add, ← hv, mo, nI_1]
        exact ih (k + 1) _ _ (by omega) ml (Or.inr ⟨by omega, rfl⟩) (by omega)
      refine b_X8_between_15 hX ?_
      conv => whnf
      refine ⟨fun q => absurd q (nI_ge (by omega) (by omega)), fun q => ?_⟩
      conv => whnf
      refine ⟨nI_ne0 (by omega) (by omega), ?_⟩
      conv => whnf
      refine ⟨nI_ne0 (by omega) (by omega), ?_⟩
      conv => whnf
      rw [e1, e2]
      rcases hp with ⟨hk0, rfl⟩ | ⟨hk0, rfl⟩
      · refine ⟨fun q => absurd q (by decide), fun _ => ?_⟩
        conv => whnf
        exact b66 0 (by subst hk0; rfl) (by omega)
      · have hl2 := rlt (k - 1)
        refine ⟨fun _ => ?_, fun q => absurd (nI_pos' (by omega)) q⟩
        refine b_X8_between_44 hX ?_
        conv => whnf
        refine ⟨base + rg n c k, (by simp only [lit_nI, nI_add, nI_mul]), by omega, ?_⟩
        conv => whnf
        refine ⟨base + rg n c (k - 1), (by simp only [lit_nI, nI_add, nI_mul]), by omega, ?_⟩
        conv => whnf
        rw [(hit _ hl).2, (hit _ hl2).2]
        refine ⟨by omega, m_plain hC ?_⟩
        conv => whnf
        rw [abs_ad (hit _ hl).1 (hit _ hl2).1]
        refine b66 _ ?_ ?_
        · show cM it (rg n c) k + (if k = 0 then 0 else _) = _
          rw [if_neg (by omega)]
        · have a := (hit _ hl).1
          have b := (hit _ hl2).1
          unfold ad
          omega
  refine b_X8_between_0 hX ?_
  conv => whnf
  have := loop n 0 (-1) none (by omega) (show 0 < 64 by decide) (Or.inl ⟨rfl, rfl⟩) (Nat.le_refl _)
  rw [show c / Nat.pow n 0 = c from Nat.div_one c] at this
  exact this
theorem ofs_le {n c : Nat} {it : Nat → Nat} (h1 : 1 ≤ n) (h6 : n ≤ 6) (hit : ∀ q, q < n → it q ≤ 2500) : ofs n it c ≤ 1000000000 := by
  unfold ofs
  by_cases z : isP n c = true
  · rw [if_pos z]
    have := cL_le (it := it) (f := dg n c) (n - 1) (fun i hi => hit _ (dg_lt (by omega)))
    omega
  · rw [if_neg z]; omega
theorem sg_lt {n : Nat} {it : Nat → Nat} : ∀ c, (sgS n it c).1 ≤ c := by
  intro c
  induction c with
  | zero => exact Nat.le_refl _
  | succ c ih =>
    unfold sgS
    by_cases z : ofs n it c < (sgS n it c).2
    · rw [if_pos z]; show c ≤ _; omega
    · rw [if_neg z]; omega
theorem mo_songs {C : CC} (hC : Clo C) {d : Nat} (hd : 8 ≤ d) {σ M : MT} {K : KT} {row i n what : Int32} (hA : AM σ M) (hW : WF σ) (hK : ∀ M1, AM (songsR σ row i n what).2 M1 → Fm M M1 61 75 → K (some (.int (songsR σ row i n what).1)) M1) : C d 181 [.ref 61, .int row, .int i, .int n, .int what] M K := by
  unfold songsR at hK
  refine g_X8_songs hC (fun X hX => ?_)
  have bB : ¬ (isPl 8 row ∧ (1 ≤ n ∧ n ≤ 6) ∧ (-1 ≤ what ∧ what ≤ n - 1)) → X 35 [some (.ref 61), some (.int row), some (.int i), some (.int n), some (.int what), none, none, none, none, none, none, none] [] M := fun q => by
    rw [pit_neg q] at hK
    refine b_X8_songs_35 hX ?_
    conv => whnf
    exact hK M hA Fm.rf
  refine b_X8_songs_0 hX ?_
  conv => whnf
  refine ⟨by omega, m_isRow hC (by omega) (fun r hr er => ?_) (fun q => ?_)⟩
  rotate_left
  · conv => whnf
    exact ⟨fun _ => bB (fun z => q z.1), fun z => absurd rfl z⟩
  conv => whnf
  refine ⟨fun q => absurd q (by decide), fun _ => ?_⟩
  conv => whnf
  refine ⟨by omega, m_in hC (fun a1 b1 => ?_) (fun q => ?_)⟩
  rotate_left
  · conv => whnf
    exact ⟨fun _ => bB (fun z => q z.2.1), fun z => absurd rfl z⟩
  conv => whnf
  refine ⟨fun q => absurd q (by decide), fun _ => ?_⟩
  conv => whnf
  refine ⟨by omega, m_in hC (fun a2 b2 => ?_) (fun q => ?_)⟩
  rotate_left
  · conv => whnf
    exact ⟨fun z => absurd rfl z, fun _ => bB (fun z => q z.2.2)⟩
  rw [pit_pos ⟨⟨r, hr, er⟩, ⟨a1, b1⟩, a2, b2⟩] at hK
  obtain ⟨n, n1, n6, rfl⟩ := rngL (lo := 1) (hi := 6) (by omega) a1 b1 (by omega)
  obtain ⟨hl, s, hs, es⟩ := hW.1 r hr
  obtain ⟨c1, c2⟩ := hA.1.1 r hr
  subst er
  rw [tN_nI (by omega), es, tN_nI (by omega), tN_nI (by omega)] at hK
  conv => whnf
  refine ⟨fun _ => ?_, fun z => absurd z (by decide)⟩
  refine b_X8_songs_38 hX ?_
  conv => whnf
  refine ⟨by omega, m_against hC hr (by rw [c1]; exact hl) (c2.trans es) hs (fun q1 => ?_) (fun q1 q2 => ?_) (fun q1 x y ex ey hxy => ?_)⟩
  · rw [c1] at q1
    rw [pit_pos q1] at hK
    conv => whnf
    refine ⟨fun z => absurd z (by decide), fun _ => ?_⟩
    conv => whnf
    refine ⟨by omega, m_found hC ?_⟩
    conv => whnf
    exact hK _ hA.st (Fm.wr Fm.rf (by decide) (by decide))
  · rw [c1] at q1
    rw [pit_neg q1, pit_neg q2] at hK
    conv => whnf
    refine ⟨fun z => absurd z (by decide), fun _ => ?_⟩
    conv => whnf
    refine ⟨by omega, m_found hC ?_⟩
    conv => whnf
    exact hK _ hA.st (Fm.wr Fm.rf (by decide) (by decide))
  rw [c1] at q1
  rw [pit_neg q1, pit_pos ⟨x, y, ex, ey, hxy⟩] at hK
  have hy : y = n := ((eq_nI (by omega) (by omega)).mp ey).symm
  subst ex
  rw [tN_nI (by omega)] at hK
  have hg : ∀ q, q < n → M 66 (40 * r + x + q) = itm σ r x q := fun q hq => by
    rw [hA.1.2 _ (by omega)]; rfl
  have hNN : Nat.pow n n ≤ 46656 := pow_le6 n6 (Nat.le_refl _)
  have after : (∀ q, q < n → 0 ≤ itm σ r x q ∧ itm σ r x q ≤ 2500) → X 115 [some (.ref 61), some (.int (nI r)), some (.int (nI x)), some (.int (nI n)), some (.int what), some (.int 0), some (.int (nI (40 * r + x))), some (.int (nI (Nat.pow n n))), some (.int (nI n)), none, none, none] [] M := by
    intro hall
    rw [pit_pos hall] at hK
    have hit : ∀ q, q < n → itN σ r x q ≤ 2500 ∧ M 66 (40 * r + x + q) = nI (itN σ r x q) := fun q hq => by
      obtain ⟨v, -, hv, ev⟩ := rngL (lo := 0) (hi := 2500) (by omega) (hall q hq).1 (hall q hq).2 (by omega)
      unfold itN
      rw [hg q hq, ev, tN_nI (by omega)]
      exact ⟨hv, rfl⟩
    have lp3 : ∀ (m j w : Nat) (o : Option Value), what = nI w → w < n → j + m = w + 1 → X 188 [some (.ref 61), some (.int (nI r)), some (.int (nI x)), some (.int (nI n)), some (.int what), some (.int 0), some (.int (nI (40 * r + x))), some (.int (nI (Nat.pow n n))), some (.int (nI (sgS n (itN σ r x) (Nat.pow n n)).1)), some (.int (nI (sgS n (itN σ r x) (Nat.pow n n)).2)), some (.int (nI (Nat.pow n (n - j)))), some (.int (nI j))] [] M := by
      intro m
      induction m with
      | zero =>
        intro j w o hwe hw hj
        have hj : j = w + 1 := by omega
        subst hj
        subst hwe
        have hne : ¬ nI w = -1 := fun z => absurd (show (0 : Int32) ≤ nI w from nI_pos' (by omega)) (by rw [z]; decide)
        rw [pit_neg hne, tN_nI (by omega)] at hK
        have hp : 0 < Nat.pow n (n - (w + 1)) := pow_pos6 n6 n1 (by omega)
        have hp2 : Nat.pow n (n - (w + 1)) ≤ 46656 := pow_le6 n6 (by omega)
        have hs1 := sg_lt (n := n) (it := itN σ r x) (Nat.pow n n)
        refine b_X8_songs_188 hX ?_
        conv => whnf
        refine ⟨fun q => ?_, fun q => absurd (nI_lt (by omega) (by omega)) q⟩
        refine b_X8_songs_207 hX ?_
        conv => whnf
        refine ⟨fun _ => ?_, fun q => absurd (nI_pos' (by omega)) q⟩
        refine b_X8_songs_218 hX ?_
        conv => whnf
        refine ⟨nI_ne0 hp (by omega), ?_⟩
        conv => whnf
        refine ⟨nI_ne0 (by omega) (by omega), ?_⟩
        conv => whnf
        refine b_X8_songs_225 hX ?_
        conv => whnf
        rw [pk_div (by omega) hp (by omega)]
        rw [show rem32 (nI ((sgS n (itN σ r x) (Nat.pow n n)).1 / Nat.pow n (n - (w + 1)))) (nI n) = nI (dg n (sgS n (itN σ r x) (Nat.pow n n)).1 w) from by
          have e : rem32 (nI ((sgS n (itN σ r x) (Nat.pow n n)).1 / Nat.pow n (n - (w + 1)))) (nI n) = nI (((sgS n (itN σ r x) (Nat.pow n n)).1 / Nat.pow n (n - (w + 1))) % n) := pk_rem (Nat.lt_of_le_of_lt (Nat.div_le_self _ _) (by omega)) (by omega) (by omega)
          rw [e, show n - (w + 1) = n - 1 - w by omega]
          rfl]
        refine ⟨by omega, m_well hC ?_⟩
        conv => whnf
        exact hK _ hA.st (Fm.wr Fm.rf (by decide) (by decide))
      | succ m ih =>
        intro j w o hwe hw hj
        have hp2 : Nat.pow n (n - j) ≤ 46656 := pow_le6 n6 (by omega)
        refine b_X8_songs_188 hX ?_
        conv => whnf
        refine ⟨fun q => absurd (by rw [← hwe]; exact q) (nI_nlt (a := w) (b := j) (by omega) (by omega)), fun q => ?_⟩
        conv => whnf
        refine ⟨nI_ne0 (by omega) (by omega), ?_⟩
        conv => whnf
        rw [nI_1, pk_div (by omega) (by omega) (by omega), show Nat.pow n (n - j) / n = Nat.pow n (n - (j + 1)) by
          rw [show n - j = (n - (j + 1)) + 1 by omega]
          exact Nat.mul_div_cancel _ (by omega)]
        exact ih (j + 1) w none hwe hw (by omega)
    have lp2 : ∀ (m c : Nat) (o : Option Value), c + m = Nat.pow n n → X 125 [some (.ref 61), some (.int (nI r)), some (.int (nI x)), some (.int (nI n)), some (.int what), some (.int 0), some (.int (nI (40 * r + x))), some (.int (nI (Nat.pow n n))), some (.int (nI (sgS n (itN σ r x) c).1)), some (.int (nI (sgS n (itN σ r x) c).2)), some (.int (nI c)), o] [] M := by
      intro m
      induction m with
      | zero =>
        intro c o hc
        rw [Nat.add_zero] at hc
        subst hc
        refine b_X8_songs_125 hX ?_
        conv => whnf
        refine ⟨fun q => ?_, fun q => absurd (nI_le (by omega) (by omega)) q⟩
        refine b_X8_songs_181 hX ?_
        conv => whnf
        by_cases z : what = -1
        · subst z
          rw [pit_pos rfl] at hK
          refine b_X8_songs_188 hX ?_
          conv => whnf
          refine ⟨fun q => ?_, fun q => absurd (by decide) q⟩
          refine b_X8_songs_207 hX ?_
          conv => whnf
          refine ⟨fun q => absurd q (by decide), fun _ => ?_⟩
          conv => whnf
          refine ⟨by omega, m_well hC ?_⟩
          conv => whnf
          exact hK _ hA.st (Fm.wr Fm.rf (by decide) (by decide))
        · obtain ⟨w, hw, ew⟩ := (isPl_iff (t := n) (by omega)).mp ⟨nonneg1 a2 z, b2⟩
          exact lp3 (w + 1) 0 w none ew hw (by omega)
      | succ m ih =>
        intro c o hc
        have ho := ofs_le (c := c) n1 n6 (fun q hq => (hit q hq).1)
        have hs2 := sg_le (n := n) (it := itN σ r x) c
        have hss : sgS n (itN σ r x) (c + 1) = if ofs n (itN σ r x) c < (sgS n (itN σ r x) c).2 then (c, ofs n (itN σ r x) c) else sgS n (itN σ r x) c := rfl
        have hn := fun o => ih (c + 1) o (by omega)
        refine b_X8_songs_125 hX ?_
        conv => whnf
        refine ⟨fun q => absurd q (nI_ge (by omega) (by omega)), fun q => ?_⟩
        conv => whnf
        refine ⟨by omega, m_between (it := itN σ r x) hC (by omega) n1 n6 (by omega) (by omega) hit ?_⟩
        conv => whnf
        by_cases z : ofs n (itN σ r x) c < (sgS n (itN σ r x) c).2
        · rw [hss, if_pos z] at hn
          have z1 : ¬ nI (sgS n (itN σ r x) c).2 ≤ nI (ofs n (itN σ r x) c) := fun q => by have := (le_nI (by omega) (by omega)).mp q; omega
          refine ⟨fun q => absurd q z1, fun _ => ?_⟩
          conv => whnf
          refine b_X8_songs_157 hX ?_
          conv => whnf
          refine ⟨fun q => absurd q z1, fun _ => ?_⟩
          conv => whnf
          rw [nI_1]
          exact hn _
        · rw [hss, if_neg z] at hn
          have z1 : nI (sgS n (itN σ r x) c).2 ≤ nI (ofs n (itN σ r x) c) := (le_nI (by omega) (by omega)).mpr (by omega)
          refine ⟨fun _ => ?_, fun q => absurd z1 q⟩
          refine b_X8_songs_155 hX ?_
          conv => whnf
          refine b_X8_songs_157 hX ?_
          conv => whnf
          refine ⟨fun _ => ?_, fun q => absurd z1 q⟩
          refine b_X8_songs_171 hX ?_
          conv => whnf
          refine b_X8_songs_173 hX ?_
          conv => whnf
          rw [nI_1]
          exact hn _
    refine b_X8_songs_115 hX ?_
    conv => whnf
    exact lp2 (Nat.pow n n) 0 none (by omega)
  conv => whnf
  refine ⟨fun _ => ?_, fun z => absurd (by decide) z⟩
  refine b_X8_songs_59 hX ?_
  conv => whnf
  rw [show (40 : Int32) * nI r + nI x = nI (40 * r + x) by simp only [lit_nI, nI_add, nI_mul]]
  have lp1 : ∀ (m k : Nat), k + m = n → (∀ j, j < k → 0 ≤ itm σ r x j ∧ itm σ r x j ≤ 2500) → X 73 [some (.ref 61), some (.int (nI r)), some (.int (nI x)), some (.int (nI n)), some (.int what), some (.int 0), some (.int (nI (40 * r + x))), some (.int (nI (Nat.pow n k))), some (.int (nI k)), none, none, none] [] M := by
    intro m
    induction m with
    | zero =>
      intro k hk hall
      rw [Nat.add_zero] at hk
      subst hk
      refine b_X8_songs_73 hX ?_
      conv => whnf
      refine ⟨fun q => after hall, fun q => absurd (nI_le (by omega) (by omega)) q⟩
    | succ m ih =>
      intro k hk hall
      refine b_X8_songs_73 hX ?_
      conv => whnf
      refine ⟨fun q => absurd q (nI_ge (by omega) (by omega)), fun q => ?_⟩
      conv => whnf
      refine ⟨40 * r + x + k, (by simp only [lit_nI, nI_add, nI_mul]), by omega, ?_⟩
      conv => whnf
      rw [hg k (by omega)]
      refine ⟨by omega, m_in hC (fun a b => ?_) (fun q => ?_)⟩
      · conv => whnf
        refine ⟨fun _ => ?_, fun z => absurd z (by decide)⟩
        refine b_X8_songs_103 hX ?_
        conv => whnf
        rw [nI_1, nI_mul]
        exact ih (k + 1) (by omega) (fun j hj => by
          by_cases z : j = k
          · subst z; exact ⟨a, b⟩
          · exact hall j (by omega))
      · rw [pit_neg (fun z => q (z k (by omega)))] at hK
        conv => whnf
        refine ⟨fun z => absurd rfl z, fun _ => ?_⟩
        conv => whnf
        exact hK M hA Fm.rf
  exact lp1 n 0 (by omega) (fun j hj => absurd hj (by omega))
