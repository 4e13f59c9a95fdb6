/-! WHAT THE SMALL METHODS ANSWER, as functions of the states. -/
def iMin (x y : Int32) : Int32 := if y < x then y else x
def iMax (x y : Int32) : Int32 := if x < y then y else x
def iRem (x y : Int32) : Int32 := x - x / y * y
def iUsh (x y : Int32) : Int32 := (x.toUInt32 >>> (y.toUInt32 &&& Int32.toUInt32 31)).toInt32
def iB1 (x : Int32) : Int32 := x - (iUsh x 1 &&& 1431655765)
def iB2 (x : Int32) : Int32 := (x &&& 858993459) + (iUsh x 2 &&& 858993459)
def iB3 (x : Int32) : Int32 := (x + iUsh x 4) &&& 252645135
def iB4 (x : Int32) : Int32 := x + iUsh x 8
def iB5 (x : Int32) : Int32 := x + iUsh x 16
def iBits (x : Int32) : Int32 := iB5 (iB4 (iB3 (iB2 (iB1 x)))) &&& 63
/-- low ≤ v ≤ high -/
def iIn (v a b : Int32) : Int32 := if a ≤ v then (if v ≤ b then 1 else 0) else 0
/-- the weight by kind k of n pieces, honesty h, day d -/
def kW (k n h d : Int32) : Int32 :=
  if k = 1 then n * 12 else if k = 2 then n * h / 2 else if k = 3 then n * h + n else if k = 4 then (if iRem d 3 = 0 then 0 else n * h / 2) else if k = 5 then iMin 60 (n * h + n) else n * h
def kL (k s : Int32) : Int32 :=
  if k = 1 then s + 1 else if k = 2 then (s + 1) / 2 else if k = 3 then 2 * s else if k = 4 then (s + 1) / 2 else if k = 5 then 2 * s else s
/-- where the object of kind k lies in a treasury -/
def kO (k : Int32) : Nat := if k = 1 then 3 else if k = 2 then 4 else if k = 3 then 5 else if k = 4 then 6 else if k = 5 then 7 else 1
def trIs (T : sT) (p : Int32) : Int32 := if p < 0 then 0 else if T 10 0 ≤ p then 0 else if 6 ≤ p then 0 else 1
def trG (k : Nat) (T : sT) (p : Int32) : Int32 := if trIs T p = 0 then 0 else T k p.toNatClampNeg
def trLied (T : sT) (p : Int32) : Int32 := if trIs T p = 0 then 0 else (T 10 2 >>> (p &&& 31)) &&& 1
def trWW (T : sT) (p n : Int32) : Int32 := kW (trG 0 T p) n (trG 1 T p) (T 10 1)
def trOwn (T : sT) (p : Int32) : Int32 := trWW T p (trG 2 T p)
def trBeh (T : sT) (p s : Int32) : Int32 := iMax 0 (trG 1 T p - kL (trG 0 T p) s)
def trAft (T : sT) (p k : Int32) : Int32 := iMin 12 (trG 1 T p + iMax 0 (k - trLied T p))
def trTruth (T : sT) (p : Int32) : Int32 := (trOwn T p - kW (trG 0 T p) (trG 2 T p) (trBeh T p 2) (T 10 1)) / 10
theorem fa_lt (a b : Int32) : a < b ↔ a.toInt < b.toInt := Int32.lt_iff_toInt_lt
theorem fa_le (a b : Int32) : a ≤ b ↔ a.toInt ≤ b.toInt := Int32.le_iff_toInt_le
theorem fa_eq (a b : Int32) : a = b ↔ a.toInt = b.toInt := Int32.toInt_inj.symm
theorem vp_in_of6 {p : Int32} (h0 : ¬ p < 0) (h6 : ¬ 6 ≤ p) : vp_in p 6 := by
  rw [vp_in_iff]
  rw [fa_lt] at h0
  rw [fa_le] at h6
  have e0 : (0 : Int32).toInt = 0 := by decide
  have e6 : (6 : Int32).toInt = 6 := by decide
  omega
theorem trIs_in {T : sT} {p : Int32} (h : ¬ trIs T p = 0) : vp_in p 6 := by
  unfold trIs at h
  by_cases h1 : p < 0
  · simp [h1] at h
  · by_cases h2 : T 10 0 ≤ p
    · simp [h1, h2] at h
    · by_cases h3 : (6 : Int32) ≤ p
      · simp [h1, h2, h3] at h
      · exact vp_in_of6 h1 h3
/-- a kind's place, and what lies there -/
theorem kO_cases (k : Int32) : (k = 1 ∧ kO k = 3) ∨ (k = 2 ∧ kO k = 4) ∨ (k = 3 ∧ kO k = 5) ∨ (k = 4 ∧ kO k = 6) ∨ (k = 5 ∧ kO k = 7) ∨ ((k ≠ 1 ∧ k ≠ 2 ∧ k ≠ 3 ∧ k ≠ 4 ∧ k ≠ 5) ∧ kO k = 1) := by
  unfold kO
  by_cases h1 : k = 1
  · exact Or.inl ⟨h1, if_pos h1⟩
  by_cases h2 : k = 2
  · subst h2; exact Or.inr (Or.inl ⟨rfl, by decide⟩)
  by_cases h3 : k = 3
  · subst h3; exact Or.inr (Or.inr (Or.inl ⟨rfl, by decide⟩))
  by_cases h4 : k = 4
  · subst h4; exact Or.inr (Or.inr (Or.inr (Or.inl ⟨rfl, by decide⟩)))
  by_cases h5 : k = 5
  · subst h5; exact Or.inr (Or.inr (Or.inr (Or.inr (Or.inl ⟨rfl, by decide⟩))))
  · exact Or.inr (Or.inr (Or.inr (Or.inr (Or.inr ⟨⟨h1, h2, h3, h4, h5⟩, by simp [h1, h2, h3, h4, h5]⟩))))
theorem trKd_at (t : Nat) {k : Int32} (h0 : ¬ k < 0) (h6 : ¬ 6 ≤ k) : trKd t k.toNatClampNeg = some (t + kO k) := by
  have hin := vp_in_of6 h0 h6
  obtain ⟨j, hj, rfl⟩ := vp_in_of hin (by decide)
  rw [nI_clamp (by omega)]
  rcases (show j = 0 ∨ j = 1 ∨ j = 2 ∨ j = 3 ∨ j = 4 ∨ j = 5 by omega) with rfl | rfl | rfl | rfl | rfl | rfl <;> rfl
theorem kO_out {k : Int32} (h : k < 0 ∨ 6 ≤ k) : kO k = 1 := by
  rcases kO_cases k with ⟨rfl, -⟩ | ⟨rfl, -⟩ | ⟨rfl, -⟩ | ⟨rfl, -⟩ | ⟨rfl, -⟩ | ⟨-, e⟩
  · exact absurd h (by decide)
  · exact absurd h (by decide)
  · exact absurd h (by decide)
  · exact absurd h (by decide)
  · exact absurd h (by decide)
  · exact e
