/-! THE REFERENCE: hire, bag, images. -/
theorem mPass_30 (S : sT) {i : Nat} (h1 : i ≠ 1) (h2 : i ≠ 2) : mPass S 30 i = S 30 i := by
  have key : ∀ (k j : Nat) (S : sT), mPassL k j S 30 = S 30 := by
    intro k
    induction k with
    | zero => intro j S; rfl
    | succ k ih =>
      intro j S
      unfold mPassL
      rw [ih]
      exact va_up_ne _ _ (by decide)
  unfold mPass mPassE
  show upd (upd _ 2 0) 1 _ i = S 30 i
  rw [pk_un h1, pk_un h2, key]
theorem iW01 {i : Int32} (h : ¬ iW i 0 1 = 0) : ∃ a : Nat, a < 2 ∧ i = nI a := by
  unfold iW at h
  by_cases h1 : i < 0
  · rw [if_pos h1] at h; exact absurd rfl h
  · rw [if_neg h1] at h
    by_cases h2 : 1 < i
    · rw [if_pos h2] at h; exact absurd rfl h
    · refine vp_in_of (n := 2) (vp_in_ofN (N := 2) h1 (fun q => h2 ?_) (by decide)) (by decide)
      rw [fa_lt]
      rw [fa_le] at q
      have e2 : (1 : Int32).toInt = 1 := by decide
      have e3 : (nI 2).toInt = 2 := by decide
      omega
-- hire
def mHiI (S : sT) (n' s : Int32) : Nat → Nat → Int32 → Int32 → Int32 × Int32
  | 0, _, x, y => (x, y)
  | k + 1, j, x, y => if mHas s (nI j) = 0 then (if mHas s (nI j) = 0 then mHiI S n' s k (j + 1) (x + 0) (y + 0) else mHiI S n' s k (j + 1) (x + 0) (y + mWW S (nI j) n'))
      else (if mHas s (nI j) = 0 then mHiI S n' s k (j + 1) (x + S 4 j) (y + 0) else mHiI S n' s k (j + 1) (x + S 4 j) (y + mWW S (nI j) n'))
def mHiO (S : sT) (b n' : Int32) : Nat → Nat → Int32 → Int32 → Int32 × Int32
  | 0, _, x, y => (x, y)
  | k + 1, j, x, y => if b < (mHiI S n' (nI j) (S 30 0).toNatClampNeg 0 0 0).1 then mHiO S b n' k (j + 1) x y else if (mHiI S n' (nI j) (S 30 0).toNatClampNeg 0 0 0).2 ≤ y then mHiO S b n' k (j + 1) x y else mHiO S b n' k (j + 1) (nI j) (mHiI S n' (nI j) (S 30 0).toNatClampNeg 0 0 0).2
theorem mHiO_a {S : sT} {b n' x y p' s' : Int32} {X : Int32 × Int32} {k j : Nat} (h : X = mHiO S b n' (k + 1) j x y) (e : mHiI S n' (nI j) (S 30 0).toNatClampNeg 0 0 0 = (p', s')) (c : b < p') : X = mHiO S b n' k (j + 1) x y := by
  rw [h, mHiO, e]; exact if_pos c
theorem mHiO_b {S : sT} {b n' x y p' s' : Int32} {X : Int32 × Int32} {k j : Nat} (h : X = mHiO S b n' (k + 1) j x y) (e : mHiI S n' (nI j) (S 30 0).toNatClampNeg 0 0 0 = (p', s')) (c : ¬ b < p') (c2 : s' ≤ y) : X = mHiO S b n' k (j + 1) x y := by
  rw [h, mHiO, e]; exact (if_neg c).trans (if_pos c2)
theorem mHiO_c {S : sT} {b n' x y p' s' : Int32} {X : Int32 × Int32} {k j : Nat} (h : X = mHiO S b n' (k + 1) j x y) (e : mHiI S n' (nI j) (S 30 0).toNatClampNeg 0 0 0 = (p', s')) (c : ¬ b < p') (c2 : ¬ s' ≤ y) : X = mHiO S b n' k (j + 1) (nI j) s' := by
  rw [h, mHiO, e]; exact (if_neg c).trans (if_neg c2)
def mHire (S : sT) (b n' : Int32) : Int32 × Int32 := mHiO S b n' (1 <<< (S 30 0 &&& 31) : Int32).toNatClampNeg 0 0 (-1)
def mHireF (S : sT) (L : Nat → Int64) (b m w : Int32) : Int32 × sM := if iW b 0 120 = 0 then mBad S L else if iW m 0 99 = 0 then mBad S L else if iW w 0 1 = 0 then mBad S L else if w = 0 then ((mHire S b m).1, S, L) else ((mHire S b m).2, S, L)
-- setSteps
def mSt1 : Nat → Nat → sT → sT
  | 0, _, S => S
  | k + 1, j, S => mSt1 k (j + 1) (sA S 14 (upd (S 14) j 1048576))
def mStY (S : sT) (a b : Nat) (mo : Int32) : sT := if mo = 0 then sA S 14 (upd (S 14) a (S 14 a)) else sA S 14 (upd (S 14) a (iMin (S 14 a) (S 14 b + 1)))
def mStC (n' w' : Int32) (a : Nat) : Nat → Nat → sT → sT
  | 0, _, S => S
  | k + 1, j, S => mStC n' w' a k (j + 1) (if mHas (S 5 a) (nI j) = 0 then mStY S a j 0 else if mWW S (nI a) n' < w' then mStY S a j 0 else mStY S a j 1)
def mStB (n' w' : Int32) (M : Nat) : Nat → Nat → sT → sT
  | 0, _, S => S
  | k + 1, j, S => mStB n' w' M k (j + 1) (mStC n' w' j M 0 S)
def mStA (n' w' : Int32) (M : Nat) : Nat → Nat → sT → sT
  | 0, _, S => S
  | k + 1, j, S => mStA n' w' M k (j + 1) (mStB n' w' M M 0 S)
def mSt2 (S : sT) (q n' w' : Int32) : sT := if mWW S q n' < w' then S else sA S 14 (upd (S 14) q.toNatClampNeg 1)
def mStep (S : sT) (q n' w' : Int32) (M : Nat) : sT := mStA n' w' M (M - 1) 1 (mSt2 (mSt1 6 0 S) q n' w')
-- bag
def mBgL (p q n' : Int32) (M : Nat) : Nat → Nat → sT → Int32 → sT × Int32
  | 0, _, S, x => (S, x)
  | k + 1, j, S, x => if mWW S (nI j) n' ≤ x then mBgL p q n' M k (j + 1) S x else if mStep S q n' (mWW S (nI j) n') M 30 0 < mStep S q n' (mWW S (nI j) n') M 14 p.toNatClampNeg then mBgL p q n' M k (j + 1) (mStep S q n' (mWW S (nI j) n') M) x else mBgL p q n' M k (j + 1) (mStep S q n' (mWW S (nI j) n') M) (mWW S (nI j) n')
def mBgB (S : sT) (p q n' : Int32) (M : Nat) : sT × Int32 := mBgL p q n' M M 0 S (-1)
def mBgS (S : sT) (p q n' : Int32) (M : Nat) : sT := mStep (mBgB S p q n' M).1 q n' (mBgB S p q n' M).2 M
/-- the next hand: to from k - 1 down -/
def mBgN (S : sT) (a : Int32) : Nat → Int32 → Int32
  | 0, x => x
  | k + 1, x => if mHas (S 5 a.toNatClampNeg) (nI k) = 0 then mBgN S a k x else if S 14 k = S 14 a.toNatClampNeg - 1 then mBgN S a k (nI k) else mBgN S a k x
def mBgG (S : sT) (a : Int32) (M : Nat) : Int32 := if mBgN S a M (-1) = -1 then a else mBgN S a M (-1)
def mBgW (M : Nat) : Nat → Nat → sT → Int32 → sT
  | 0, _, S, _ => S
  | k + 1, j, S, a => mBgW M k (j + 1) (sA S 15 (upd (S 15) j a)) (mBgG (sA S 15 (upd (S 15) j a)) a M)
-- images
def mIm0 (a : Nat) (S : sT) : sT := sA S 19 (upd (S 19) a 1)
def mIm1 (a : Nat) (S : sT) : sT := sA S 18 (upd (S 18) (180 * a) (S 30 0))
def mIm2 (a : Nat) (S : sT) : sT := sA S 18 (upd (S 18) (180 * a + 1) (S 30 3))
def mIm3 (a : Nat) (S : sT) : sT := sA S 18 (upd (S 18) (180 * a + 2) (S 30 9))
def mImR (a j o q : Nat) (S : sT) : sT := sA S 18 (upd (S 18) (180 * a + o + j) (S q j))
def mIm6 (a : Nat) : Nat → Nat → sT → sT
  | 0, _, S => S
  | k + 1, j, S => mIm6 a k (j + 1) (mImR a j 53 9 (mImR a j 47 8 (mImR a j 41 7 (mImR a j 35 6 (mImR a j 29 5 (mImR a j 23 4 (mImR a j 17 1 S)))))))
def mImL (a : Nat) : Nat → Nat → sT → sT
  | 0, _, S => S
  | k + 1, j, S => mImL a k (j + 1) (mImR a j 59 12 S)
def mImH (a : Nat) (S : sT) : sT := mLay 18 (180 * a + 3) (mIm3 a (mIm2 a (mIm1 a (mIm0 a S))))
def mImg (S : sT) (a : Nat) : sT := mImL a 112 0 (mIm6 a 6 0 (mImH a S))
def mImage (S : sT) (L : Nat → Int64) (i : Int32) : Int32 × sM := if iW i 0 1 = 0 then mBad S L else (1, mImg S i.toNatClampNeg, L)
def mFr1 (a : Nat) (S : sT) : sT := sS 30 S 0 (S 18 (180 * a))
def mFr2 (a : Nat) (S : sT) : sT := sS 30 S 3 (S 18 (180 * a + 1))
def mFr3 (a : Nat) (S : sT) : sT := sS 30 S 9 (S 18 (180 * a + 2))
def mFrR (a j o q : Nat) (S : sT) : sT := sA S q (upd (S q) j (S 18 (180 * a + o + j)))
def mFr6 (a : Nat) : Nat → Nat → sT → sT
  | 0, _, S => S
  | k + 1, j, S => mFr6 a k (j + 1) (mFrR a j 53 9 (mFrR a j 47 8 (mFrR a j 41 7 (mFrR a j 35 6 (mFrR a j 29 5 (mFrR a j 23 4 (mFrR a j 17 1 S)))))))
def mFrL (a : Nat) : Nat → Nat → sT → sT
  | 0, _, S => S
  | k + 1, j, S => mFrL a k (j + 1) (mFrR a j 59 12 S)
def mFrH (a : Nat) (S : sT) : sT := mTak 18 (180 * a + 3) (mFr3 a (mFr2 a (mFr1 a S)))
def mFrm (S : sT) (a : Nat) : sT := mFrL a 112 0 (mFr6 a 6 0 (mFrH a S))
def mFrom (S : sT) (L : Nat → Int64) (i : Int32) : Int32 × sM := if iW i 0 1 = 0 then mBad S L else if S 19 i.toNatClampNeg = 0 then mNo S L else (1, mFrm S i.toNatClampNeg, L)
