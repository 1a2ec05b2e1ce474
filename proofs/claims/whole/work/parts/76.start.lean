/-! THE LAW'S ENTRY: what the tables and the static arrays say; both objects made; then the loop -/
theorem gw_hts {args : Array Value} {s : State} (hts : ∀ w ∈ lw_tbl, w.before args s = true) : ∀ w ∈ gw, w.before args s = true := fun w h => hts w (List.mem_filter.mp h).1
theorem arrI {s : State} {args : Array Value} {ty : FieldType} (h : (Cond.arrayClass ty).before args s = true) : ∃ cA : ClassId, ArrOfT s cA ty ∧ s.vm.findClass ("[" ++ ty.toString) = some cA := by
  obtain ⟨c, k, comp, h1, h2, h3⟩ := Cond.arrayClass_spec h
  exact ⟨c, fun n z => ⟨fun k h => (by cases h), k, h2, comp, h3⟩, h1⟩
theorem arrO {s : State} {C : String} (h : va_AO C s) : ∃ cA : ClassId, ArrOfT s cA (.object C) ∧ va_RA s cA (.object C) := by
  obtain ⟨comp, c, k, h1, h2, h3, h4, h5⟩ := Cond.arrayOver_spec h
  exact ⟨c, fun n z => ⟨fun k h => (by cases h), k, h3, comp, h4⟩, k, comp, h3, h4, h1, h5⟩
theorem cls_known {s : State} {args : Array Value} (hts : ∀ w ∈ gw, w.before args s = true) : ∀ ci : Nat, ∃ (cC : ClassId) (iS : Nat → Nat), ∀ q : vw_C, vwCl[ci]? = some q → u_Kn s q.1 q.2.1 q.2.2 cC iS := by
  intro ci
  by_cases h : ci < 9
  · obtain ⟨T, ty, c1, c2, c3, c4, c5, c6⟩ := ck_all ci h
    obtain ⟨cC, iS, hk⟩ := u_known hts c3 (hts _ c4)
    refine ⟨cC, iS, fun q hq => ?_⟩
    rw [c1] at hq
    cases hq
    exact hk
  · refine ⟨0, fun _ => 0, fun q hq => ?_⟩
    have : ci < vwCl.length := (List.getElem?_eq_some_iff.mp hq).1
    have h9 : vwCl.length = 9 := rfl
    omega
abbrev stS : Term := .static "BandPace$Asks" "SIZE_BODIES" "[I"
abbrev stM : Term := .static "BandPace$Asks" "MARK_BODIES" "[I"
theorem size_tab {s : State} {b : Nat} {A : Nat → Prop} (hgv : (Jvm.Cond.and given_1 narrow_1).before #[Value.ref b] s = true) (hA : ∀ a : Nat, a < s.heap.size → ¬ A a) : ∃ t : Nat, stS.eval #[Value.ref b] s none [] s = some (.ref t) ∧ va_T .int t 6 (fun j => .int (sizeB j)) A s s.heap := by
  have hs := flat_of_before _ hgv
  refine va_Tof (tm := stS) (by decide) (hs _ (by decide +kernel)) (va_eqt (hs (.eq (.length stS) (.int 6)) (by decide +kernel))) (fun j hj => ?_) hA
  match j, hj with
  | 0, _ => exact va_eqt (hs (.eq (.elem stS (.int 0)) (.int 10)) (by decide +kernel))
  | 1, _ => exact va_eqt (hs (.eq (.elem stS (.int 1)) (.int 11)) (by decide +kernel))
  | 2, _ => exact va_eqt (hs (.eq (.elem stS (.int 2)) (.int 12)) (by decide +kernel))
  | 3, _ => exact va_eqt (hs (.eq (.elem stS (.int 3)) (.int 11)) (by decide +kernel))
  | 4, _ => exact va_eqt (hs (.eq (.elem stS (.int 4)) (.int 13)) (by decide +kernel))
  | 5, _ => exact va_eqt (hs (.eq (.elem stS (.int 5)) (.int 14)) (by decide +kernel))
  | n + 6, h => exact absurd h (by omega)
theorem mark_tab {s : State} {b : Nat} {A : Nat → Prop} (hgv : (Jvm.Cond.and given_1 narrow_1).before #[Value.ref b] s = true) (hA : ∀ a : Nat, a < s.heap.size → ¬ A a) : ∃ t : Nat, stM.eval #[Value.ref b] s none [] s = some (.ref t) ∧ va_T .int t 6 (fun j => .int (markB j)) A s s.heap := by
  have hs := flat_of_before _ hgv
  refine va_Tof (tm := stM) (by decide) (hs _ (by decide +kernel)) (va_eqt (hs (.eq (.length stM) (.int 6)) (by decide +kernel))) (fun j hj => ?_) hA
  match j, hj with
  | 0, _ => exact va_eqt (hs (.eq (.elem stM (.int 0)) (.int 20)) (by decide +kernel))
  | 1, _ => exact va_eqt (hs (.eq (.elem stM (.int 1)) (.int 21)) (by decide +kernel))
  | 2, _ => exact va_eqt (hs (.eq (.elem stM (.int 2)) (.int 24)) (by decide +kernel))
  | 3, _ => exact va_eqt (hs (.eq (.elem stM (.int 3)) (.int 22)) (by decide +kernel))
  | 4, _ => exact va_eqt (hs (.eq (.elem stM (.int 4)) (.int 23)) (by decide +kernel))
  | 5, _ => exact va_eqt (hs (.eq (.elem stM (.int 5)) (.int 23)) (by decide +kernel))
  | n + 6, h => exact absurd h (by omega)
theorem nest_ok {s : State} {args : Array Value} (hts : ∀ w ∈ lw_tbl, w.before args s = true) : ∀ t ∈ nestT, va_Nw (.methodLinkNest t.1 t.2.1 t.2.2.1 t.2.2.2) s := by
  have key : ∀ t ∈ nestT, (Cond.methodLinkNest t.1 t.2.1 t.2.2.1 t.2.2.2) ∈ lw_tbl := by decide +kernel
  intro t ht
  exact va_Nw.of rfl (hts _ (key t ht))
theorem Ev0 {s : State} {b : Nat} (hts : ∀ w ∈ lw_tbl, w.before #[Value.ref b] s = true) (hgv : (Jvm.Cond.and given_1 narrow_1).before #[Value.ref b] s = true) : ∃ B : BT, B.1 = s.heap.size ∧ B.2.2.1 0 = b ∧ Ev B s := by
  have htg := gw_hts hts
  obtain ⟨dC, h1⟩ := Classical.skolem.mp (cls_known htg)
  obtain ⟨dI, h2⟩ := Classical.skolem.mp h1
  have hA : ∀ a : Nat, a < s.heap.size → ¬ (fun q : Nat => s.heap.size ≤ q) a := fun a h => Nat.not_le.mpr h
  obtain ⟨t1, e1, g1⟩ := size_tab hgv hA
  obtain ⟨t2, e2, g2⟩ := mark_tab hgv hA
  have hao : va_AO RX2 s := va_AO.of (hts (.arrayOver (.object RX2)) (List.mem_of_getElem? (i := 308) (by decide +kernel)))
  obtain ⟨ci, i1, i2⟩ := arrI (htg _ ac_int)
  obtain ⟨cb, b1, b2⟩ := arrI (htg _ ac_bool)
  obtain ⟨co, o1, o2⟩ := arrO hao
  have hini : (Cond.initialized "BandPace$Asks").before #[Value.ref b] s = true := htg _ (gw_at 77 (by decide +kernel) rfl)
  refine ⟨(s.heap.size, (dC, dI), fun k => if k = 0 then b else if k = 1 then t1 else t2, fun ty => if ty = .int then ci else if ty = .boolean then cb else co), rfl, rfl, ⟨fun c q hq => h2 c q hq, fun k q hk => ?_⟩, nest_ok hts, hao, ⟨va_Zof (hts (.laysStatic "BandPace$Asks" "SIZE_BODIES" "[I") (by decide +kernel)) hini e1 hA, g1⟩, va_Zof (hts (.laysStatic "BandPace$Asks" "MARK_BODIES" "[I") (by decide +kernel)) hini e2 hA, g2⟩
  match k, hk with
  | 0, hk => cases hk; exact ⟨i1, i2⟩
  | 1, hk => cases hk; exact ⟨b1, b2⟩
  | 2, hk => cases hk; exact ⟨o1, o2⟩
  | k + 3, hk => exact absurd hk (by simp [tyB])
theorem GK.le {Γ : GT} {cc : ByteArray} {own : String} {d d' : Nat} (h : GK Γ cc own d) (hd : d' ≤ d) : GK Γ cc own d' := by
  obtain ⟨p, l, e, R, s, m, args, below, meth, c, Z, B⟩ := Γ
  obtain ⟨hx, hb, ho, hts, hE, hB0, hd1, hd2⟩ := h
  exact ⟨hx, hb, ho, hts, hE, hB0, by omega, by omega⟩
theorem RA_eq : gA = some (RA.1, RA.2.1, RA.2.2) := by
  have h := gA_ok.1
  unfold RA
  cases hg : gA with
  | none => rw [hg] at h; cases h
  | some q => rfl
theorem RB_eq : gB1 = some (RB.1, RB.2.1, RB.2.2) := by
  have h := gB_ok.1
  unfold RB
  cases hg : gB1 with
  | none => rw [hg] at h; cases h
  | some q => rfl
theorem born : ∃ (GA GB : List DC) (kA kB : Nat), (∀ (l : Launch) (B : BT), OkI l B 6 7 0 [.inr (.inr (7, dfl 7))] GA 60 kA) ∧ GA.length = 61 ∧ (∀ (l : Launch) (B : BT), OkI l B 6 8 61 (GA ++ [.inr (.inr (8, dfl 8))]) GB 14 kB) ∧ GB.length = 76 ∧ kA ≤ 10000 ∧ kB ≤ 10000 ∧ chkA GB = true := by
  obtain ⟨a1, a2, a3, a4⟩ := gA_ok
  obtain ⟨b1, b2, b3, b4⟩ := gB_ok
  have hA := RA_eq
  have hB := RB_eq
  have hc := RB_ok
  rw [a3] at hA
  rw [b3] at hB
  exact ⟨RA.1, RB.1, RA.2.2, RB.2.2, fun l B => ((ev_ok l B 500).ok (m := 7) (by omega) hA).1, a2, fun l B => ((ev_ok l B 500).ok (m := 8) (by omega) hB).1, b2, a4, b4, hc⟩
def K1 : KT := fun v _ => v = some (.int 1)
theorem law_run {Γ : GT} {n : Nat} {g : Nat → Int32} {GA GB : List DC} {kA kB kT : Nat} (hn : n ≤ 384) (K : GK Γ cL_law RL 20) (hz : SZ Γ 0) (hkT : kT = 0 + 11 + kA + 26 + kB) (hR : RG Γ 76 kT) (T : RTm Γ (some .boolean) (76, kT, 76) K1) (hsc : ScOK Γ (some (n, g))) (OA : OkI (gl Γ) (gB Γ) 6 7 0 [.inr (.inr (7, dfl 7))] GA 60 kA) (a2 : GA.length = 61) (OB : OkI (gl Γ) (gB Γ) 6 8 61 (GA ++ [.inr (.inr (8, dfl 8))]) GB 14 kB) (b2 : GB.length = 76) (hch : chkA GB = true) : XI Γ (0, 0) 0 [some (.float 0), none, none, none] [] [] := by
  have K7 := K.le (d' := 7) (by omega)
  have hX : CloS (some (n, g)) (CTm (gl Γ) (gB Γ)) K1 20 bl_L (XM Γ (76, kT, 76)) := fun b hb L S M h => WPB_ok (oi := 9) K rfl T hsc (fun n' g' q => by cases q; omega) (fun _ _ _ _ q => q) (ck_L b hb) h
  have key := law_body (Clo_CTm (gl Γ) (gB Γ)) (K := K1) (fun _ => rfl) (d := 20) (by omega) hn hX
  refine i_new K7 hz rfl (ci := 7) (by omega) (KLl_ok (9, 7, 7) (by decide +kernel)) (hR.le (by omega) (by show 0 + 11 ≤ _; omega)) dL_law_0 ?_
  refine x_dup K7 dL_law_3 rfl ?_
  refine i_run K7 hz rfl (m := 7) (by omega) (ILl_ok (9, 9, 7) (by decide +kernel)) OA (hR.le (by show 0 + 1 + 60 ≤ 76; omega) (by show 0 + 11 + kA ≤ _; omega)) (by decide) dL_law_4 ?_
  refine x_astore_n (i := 1) K7 dL_law_7 rfl rfl rfl ?_
  refine i_new K7 hz a2 (ci := 8) (by omega) (KLl_ok (9, 10, 8) (by decide +kernel)) (hR.le (by show 0 + 1 + 60 + 1 ≤ 76; omega) (by show 0 + 11 + kA + 26 ≤ _; omega)) dL_law_8 ?_
  rw [a2]
  refine x_dup K7 dL_law_11 rfl ?_
  refine i_run K7 hz (by rw [List.length_append, a2]; rfl) (m := 8) (by omega) (ILl_ok (9, 12, 8) (by decide +kernel)) OB (hR.le (by show 0 + 1 + 60 + 1 + 14 ≤ 76; omega) (by show 0 + 11 + kA + 26 + kB ≤ _; omega)) (by decide) dL_law_12 ?_
  refine x_astore_n (i := 2) K7 dL_law_15 rfl rfl rfl ?_
  subst hkT
  obtain ⟨p, l, e, R, s, m, args, below, meth, c, Z, B⟩ := Γ
  intro H locs ls h1 h2 h3 h4 h5
  have h1 : RI B GB H := RI.of h1
  exact key H locs ls (RM_of b2 hch h1) h2 h3 hR.1 hR.2
theorem W.mono {p : Program} {l : Launch} {e : Env} {R : Room} {s : State} {m : MethodId} {args : Array Value} {below : List Frame} {meth : Method} {c : Code} {H : Heap} {locs : List Loc} {cells slots : Nat} {Q Q' : State → Prop} {g : JFrame} (h : W p l e R s m args below meth c H locs cells slots Q g) (hq : ∀ t, Q t → Q' t) : W p l e R s m args below meth c H locs cells slots Q' g := fun T hT X => by
  obtain ⟨t, a, b⟩ := h T hT X
  exact ⟨t, a, hq t b⟩
