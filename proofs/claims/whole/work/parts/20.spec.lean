/-! WHAT A BAND IS AND DOES, in numbers. A band b: 0 rush, 1 drag, 2 push, 3 click, 4 bars, 5 players, 6 next, 7 gone, 8 there, 9.. song, 21.. sorts, 26.. paces, 31.. hastes, 36.. ears. -/
theorem lit_nI (n : Nat) : (OfNat.ofNat n : Int32) = nI n := rfl
theorem nI_mul (a b : Nat) : nI a * nI b = nI (a * b) := (Int32.ofNat_mul a b).symm
abbrev BV : Type := Nat → Int32
def nP (b : BV) : Nat := (b 5).toNatClampNeg
def nB (b : BV) : Nat := (b 4).toNatClampNeg
def nX (b : BV) : Nat := (b 6).toNatClampNeg
def SZb (b : BV) : Prop := b 5 = nI (nP b) ∧ 0 < nP b ∧ nP b ≤ 5 ∧ b 4 = nI (nB b) ∧ nB b ≤ 12 ∧ b 6 = nI (nX b) ∧ nX b < nB b
def pullS (b : BV) (p : Nat) : Nat → Int32
  | 0 => 0
  | n + 1 => pullS b p n + b (36 + (5 * p + n)) * (b (26 + n) - b (26 + p))
def boundS (v : Int32) : Int32 := if v < 300 then 300 else if 2500 < v then 2500 else v
def leanS (b : BV) (sort bar : Int32) : Int32 := if sort = 1 ∨ sort = 2 ∨ sort = 3 then (if bar = 1 then (if sort = 2 then 2 * b 0 else b 0) else if bar = 2 then (if sort = 3 then -2 * b 1 else -(b 1)) else if bar = 3 then b 2 else 0) else 0
def nearS (b : BV) (sort v : Int32) : Int32 := if sort = 4 then (10 * b 3 - v) / 2 else if sort = 5 then (10 * b 3 - v) / 2 / 2 else 0
def rawS (b : BV) (st : Int32) (p : Nat) (bar : Int32) : Int32 := b (26 + p) + pullS b p (nP b) / 10 + (if bar = 4 then 0 else b (31 + p)) + (if nI p = st then 0 else leanS b (b (21 + p)) bar)
def paceS (b : BV) (st : Int32) (p : Nat) (bar : Int32) : Int32 := boundS (rawS b st p bar + nearS b (b (21 + p)) (rawS b st p bar))
def barS (b : BV) : Int32 := b (9 + nX b)
def playS (st : Int32) (b : BV) : BV := fun k => if 26 ≤ k ∧ k < 26 + nP b then paceS b st (k - 26) (barS b) else if k = 6 then (if nX b + 1 < nB b then nI (nX b + 1) else 0) else if k = 7 then b 7 + 1 else b k
def sumS (b : BV) : Nat → Int32
  | 0 => 0
  | n + 1 => sumS b n + b (26 + n)
def meanS (b : BV) : Int32 := if nP b = 0 then 0 else sumS b (nP b) / b 5
def playsS (st : Int32) : Nat → BV → BV
  | 0, b => b
  | n + 1, b => playsS st n (playS st b)
/-- the class's band at r is b -/
def Bd (r : Nat) (b : BV) (M : MT) : Prop := (M r 0 = b 5 ∧ M r 1 = b 4 ∧ M r 2 = b 6 ∧ M r 3 = b 7 ∧ M r 4 = b 0 ∧ M r 5 = b 1 ∧ M r 6 = b 2 ∧ M r 7 = b 3) ∧ (∀ i, i < nP b → M (r + 1) i = b (21 + i) ∧ M (r + 2) i = b (31 + i) ∧ M (r + 3) i = b (26 + i)) ∧ (∀ i, i < 25 → M (r + 5) i = b (36 + i)) ∧ (∀ i, i < nB b → M (r + 6) i = b (9 + i))
def Fm (M M' : MT) (lo hi : Nat) : Prop := ∀ p, p < lo ∨ hi < p → M' p = M p
theorem Fm.rf {M : MT} {lo hi : Nat} : Fm M M lo hi := fun _ _ => rfl
theorem Fm.tr {M M1 M2 : MT} {lo hi : Nat} (h1 : Fm M M1 lo hi) (h2 : Fm M1 M2 lo hi) : Fm M M2 lo hi := fun p hp => (h2 p hp).trans (h1 p hp)
theorem Fm.mono {M M' : MT} {lo hi lo' hi' : Nat} (h : Fm M M' lo hi) (h1 : lo' ≤ lo) (h2 : hi ≤ hi') : Fm M M' lo' hi' := fun p hp => h p (by omega)
theorem Fm.wr {M M' : MT} {lo hi p k : Nat} {v : Int32} (h : Fm M M' lo hi) (h1 : lo ≤ p) (h2 : p ≤ hi) : Fm M (wr M' p k v) lo hi := fun q hq => by
  rw [wr_off (by omega)]
  exact h q hq
theorem Fm.cp {M M' : MT} {lo hi p0 p sp dp n : Nat} (h : Fm M M' lo hi) (h1 : lo ≤ p) (h2 : p ≤ hi) : Fm M (cp M' p0 p sp dp n) lo hi := fun q hq => by
  rw [cp_off (by omega)]
  exact h q hq
theorem wr_at {M : MT} {p k : Nat} {v : Int32} : wr M p k v p k = v := by simp [wr]
theorem wr_ne {M : MT} {p k : Nat} {v : Int32} {i : Nat} (h : i ≠ k) : wr M p k v p i = M p i := by simp [wr, h]
theorem Bd.fr {r : Nat} {b : BV} {M M' : MT} {lo hi : Nat} (h : Bd r b M) (hf : Fm M M' lo hi) (ho : r + 6 < lo ∨ hi < r) : Bd r b M' := by
  obtain ⟨h1, h2, h3, h4⟩ := h
  refine ⟨?_, fun i hi => ?_, fun i hi => ?_, fun i hi => ?_⟩
  · rw [hf r (by omega)]; exact h1
  · rw [hf (r + 1) (by omega), hf (r + 2) (by omega), hf (r + 3) (by omega)]; exact h2 i hi
  · rw [hf (r + 5) (by omega)]; exact h3 i hi
  · rw [hf (r + 6) (by omega)]; exact h4 i hi
theorem le_nI {a b : Nat} (ha : a < 2147483648) (hb : b < 2147483648) : nI a ≤ nI b ↔ a ≤ b := nI_leI ha hb
theorem lt_nI {a b : Nat} (ha : a < 2147483648) (hb : b < 2147483648) : nI a < nI b ↔ a < b := nI_ltI ha hb
theorem eq_nI {a b : Nat} (ha : a < 2147483648) (hb : b < 2147483648) : nI a = nI b ↔ a = b := nI_eq ha hb
theorem bI_cases {p : Prop} [Decidable p] {K : Int32 → Prop} (h1 : p → K 1) (h0 : ¬ p → K 0) : K (if p then 1 else 0) := by
  by_cases h : p
  · rw [if_pos h]; exact h1 h
  · rw [if_neg h]; exact h0 h
