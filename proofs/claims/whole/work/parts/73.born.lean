/-! THE FIRST STATE: what the two constructors make -/
def m0 (p : Nat) : Nat := if p = 2 ∨ p = 64 then 8 else 0
def M0 : MT := fun p j => m1 (m0 p) j
def gA : Option RR := ev 500 6 7 (0, initL [.ref 0] 2, [], [.inr (.inr (7, dfl 7))], 0, 0)
def RA : RR := gA.getD ([], 0, 0)
def gB1 : Option RR := ev 500 6 8 (0, initL [.ref 61] 2, [], RA.1 ++ [.inr (.inr (8, dfl 8))], 0, 0)
def RB : RR := gB1.getD ([], 0, 0)
set_option maxRecDepth 100000 in
theorem gA_ok : gA.isSome = true ∧ RA.1.length = 61 ∧ RA.2.1 = 60 ∧ RA.2.2 ≤ 10000 := by decide +kernel
set_option maxRecDepth 100000 in
theorem gB_ok : gB1.isSome = true ∧ RB.1.length = 76 ∧ RB.2.1 = 14 ∧ RB.2.2 ≤ 10000 := by decide +kernel
def chkC (i : Nat) (c : DC) : Bool := match shp i, c with
  | some (.inl (b, n)), .inl (b', n', m) => b == b' && n == n' && m == m0 i
  | some (.inr (.inl l)), .inr (.inl l') => l' == l.map some
  | some (.inr (.inr (ci, fs))), .inr (.inr (ci', vs)) => ci == ci' && vs == flds (M0 i) 0 fs
  | _, _ => false
theorem chkC_ok {i : Nat} {c : DC} (h : chkC i c = true) : tC c = cellM M0 i := by
  unfold chkC at h
  split at h
  · rename_i b n b' n' m e
    simp only [Bool.and_eq_true, beq_iff_eq] at h
    obtain ⟨⟨rfl, rfl⟩, rfl⟩ := h
    unfold cellM
    rw [e]
    cases b <;> rfl
  · rename_i l l' e
    simp only [beq_iff_eq] at h
    subst h
    unfold cellM
    rw [e]
    show aq (l.map some).length (fun j => ((l.map some)[j]?).join) = aq l.length (nth l)
    rw [List.length_map]
    congr 4
    funext j
    rw [nth_eq, List.getElem?_map]
    cases l[j]? <;> rfl
  · rename_i ci fs ci' vs e
    simp only [Bool.and_eq_true, beq_iff_eq] at h
    obtain ⟨rfl, rfl⟩ := h
    unfold cellM
    rw [e]
    rfl
  · cases h
def chkA (G : List DC) : Bool := (List.range 76).all (fun i => match G[i]? with
  | some c => chkC i c
  | none => false)
set_option maxRecDepth 100000 in
theorem RB_ok : chkA RB.1 = true := by decide +kernel
theorem wc_keys (M : MT) : (wc M).map (·.1) = List.range 76 := by
  unfold wc
  rw [List.map_map]
  exact List.map_id _
theorem RM_of {B : BT} {G : List DC} {H : Heap} (hG : G.length = 76) (hc : chkA G = true) (h : RI B G H) : RM B M0 H := by
  have hn : ((wc M0).map (·.1)).Nodup := by rw [wc_keys]; exact List.nodup_range
  refine ⟨hn, fun q hq => ?_, ?_⟩
  · have : q.1 ∈ (wc M0).map (·.1) := List.mem_map.mpr ⟨q, hq, rfl⟩
    rw [wc_keys] at this
    exact List.mem_range.mp this
  · unfold RI at h
    rw [hG] at h
    rw [wl_congr (g' := gI G) (fun i hi => ?_)]
    · exact h
    · rw [ov_mem hn (List.mem_of_getElem? (wc_get hi))]
      have h1 := List.all_eq_true.mp hc i (List.mem_range.mpr hi)
      split at h1
      · rename_i c hc2
        rw [gI_at hc2]
        exact (chkC_ok h1).symm
      · cases h1
/-! the first numbers -/
def S0 : MT := fun q i => if q = 0 then -1 else 0
theorem M0_z {p j : Nat} (h : p ≠ 2) (h2 : p ≠ 64) : M0 p j = 0 := by
  have e : m0 p = 0 := if_neg (fun z => z.elim h h2)
  show m1 (m0 p) j = 0
  rw [e]
  exact if_neg (by omega)
theorem M0_l {p j : Nat} (h : p = 2 ∨ p = 64) (hj : j < 8) : M0 p j = -1 := by
  have e : m0 p = 8 := if_pos h
  show m1 (m0 p) j = -1
  rw [e]
  exact if_pos hj
theorem S0_z {q i : Nat} (h : q ≠ 0) : S0 q i = 0 := if_neg h
theorem nA0 : nA S0 = 0 := by unfold nA; rw [S0_z (by omega)]; rfl
theorem Bd0 {r : Nat} {b : BV} (hb : ∀ k, b k = 0) (hr : ∀ j, j < 7 → r + j ≠ 2 ∧ r + j ≠ 64) : Bd r b M0 := by
  have z : ∀ j k, j < 7 → M0 (r + j) k = 0 := fun j k hj => M0_z (hr j hj).1 (hr j hj).2
  have z0 : ∀ k, M0 r k = 0 := fun k => z 0 k (by omega)
  refine ⟨⟨?_, ?_, ?_, ?_, ?_, ?_, ?_, ?_⟩, fun i _ => ⟨?_, ?_, ?_⟩, fun i _ => ?_, fun i _ => ?_⟩
  · rw [z0, hb]
  · rw [z0, hb]
  · rw [z0, hb]
  · rw [z0, hb]
  · rw [z0, hb]
  · rw [z0, hb]
  · rw [z0, hb]
  · rw [z0, hb]
  · rw [z 1 _ (by omega), hb]
  · rw [z 2 _ (by omega), hb]
  · rw [z 3 _ (by omega), hb]
  · rw [z 5 _ (by omega), hb]
  · rw [z 6 _ (by omega), hb]
theorem AC0 : AC S0 M0 := by
  refine ⟨⟨fun i hi => ⟨?_, ?_⟩, fun i _ => ?_⟩, ⟨?_, ?_⟩, ⟨?_, fun i _ => ?_⟩, ⟨?_, 0, by omega, ?_, fun i hi => ?_⟩, ⟨?_, ?_, ?_⟩, ?_, fun i _ => ?_⟩
  · rw [M0_l (Or.inl rfl) hi]; rfl
  · rw [M0_z (by omega) (by omega), S0_z (by omega)]
  · rw [M0_z (by omega) (by omega), S0_z (by omega)]
  · rw [M0_z (by omega) (by omega), S0_z (by omega)]
  · rw [M0_z (by omega) (by omega), S0_z (by omega)]
  · rw [M0_z (by omega) (by omega), S0_z (by omega)]
  · rw [M0_z (by omega) (by omega), S0_z (by omega)]
  · rw [M0_z (by omega) (by omega), S0_z (by omega)]
  · rw [M0_z (by omega) (by omega)]; rfl
  · rw [nA0] at hi; omega
  · exact Bd0 (fun k => S0_z (by omega)) (fun j hj => by omega)
  · exact Bd0 (fun k => S0_z (by omega)) (fun j hj => by omega)
  · exact Bd0 (fun k => S0_z (by omega)) (fun j hj => by omega)
  · rw [M0_z (by omega) (by omega), S0_z (by omega)]
  · rw [M0_z (by omega) (by omega), S0_z (by omega)]
theorem AM0 : AM S0 M0 := by
  refine ⟨⟨fun i hi => ⟨?_, ?_⟩, fun i _ => ?_⟩, ⟨?_, ?_⟩, ⟨?_, fun i _ => ?_⟩, ⟨?_, fun i k hi _ => ?_⟩, fun k _ => ⟨?_, ?_, ?_⟩, ⟨?_, fun i _ => ?_⟩, ?_, ?_⟩
  · rw [M0_l (Or.inr rfl) hi]; rfl
  · rw [M0_z (by omega) (by omega), S0_z (by omega)]
  · rw [M0_z (by omega) (by omega), S0_z (by omega)]
  · rw [M0_z (by omega) (by omega), S0_z (by omega)]
  · rw [M0_z (by omega) (by omega), S0_z (by omega)]
  · rw [M0_z (by omega) (by omega), S0_z (by omega)]
  · rw [M0_z (by omega) (by omega), S0_z (by omega)]
  · rw [M0_z (by omega) (by omega), S0_z (by omega)]
  · rw [nA0] at hi; omega
  · rw [M0_z (by omega) (by omega), S0_z (by omega)]
  · rw [M0_z (by omega) (by omega), S0_z (by omega)]
  · rw [M0_z (by omega) (by omega), S0_z (by omega)]
  · rw [M0_z (by omega) (by omega), S0_z (by omega)]
  · rw [M0_z (by omega) (by omega), S0_z (by omega)]
  · rw [M0_z (by omega) (by omega), S0_z (by omega)]
  · rw [M0_z (by omega) (by omega), S0_z (by omega)]
theorem WF0 : WF S0 := by
  refine ⟨fun i _ => ⟨Or.inl rfl, 0, by omega, ?_⟩, ⟨0, by omega, ?_⟩, ⟨?_, ?_⟩, ⟨0, by omega, ?_⟩, Or.inl ⟨nA0, fun k _ => ?_⟩, fun k hk => Or.inl ⟨?_, fun j _ => ?_⟩, fun i hi => ?_⟩
  · rw [S0_z (by omega)]; rfl
  · rw [S0_z (by omega)]; rfl
  · rw [nA0, S0_z (by omega)]; rfl
  · rw [nA0]; omega
  · rw [S0_z (by omega)]; rfl
  · rw [S0_z (by omega)]
  · rw [S0_z (by omega)]
  · rw [S0_z (by omega)]
  · rw [nA0] at hi; omega
theorem WT0 : WT S0 := fun i => by rw [S0_z (by omega)]; decide
