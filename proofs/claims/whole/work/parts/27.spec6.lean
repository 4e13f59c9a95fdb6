/-! THE REFERENCE: bag, shelves. -/
theorem mSt1_r {r : Nat} (hr : r ≠ 14) : ∀ (k j : Nat) (S : sT), mSt1 k j S r = S r
  | 0, _, _ => rfl
  | k + 1, j, S => by
    unfold mSt1
    rw [mSt1_r hr k (j + 1)]
    exact va_up_ne _ _ hr
theorem mStY_r {r : Nat} (hr : r ≠ 14) (S : sT) (a b : Nat) (mo : Int32) : mStY S a b mo r = S r := by
  unfold mStY
  by_cases h : mo = 0
  · rw [if_pos h]; exact va_up_ne _ _ hr
  · rw [if_neg h]; exact va_up_ne _ _ hr
theorem mStC_r {r : Nat} (hr : r ≠ 14) (n' w' : Int32) (a : Nat) : ∀ (k j : Nat) (S : sT), mStC n' w' a k j S r = S r
  | 0, _, _ => rfl
  | k + 1, j, S => by
    unfold mStC
    rw [mStC_r hr n' w' a k (j + 1)]
    by_cases h : mHas (S 5 a) (nI j) = 0
    · rw [if_pos h]; exact mStY_r hr S a j 0
    · rw [if_neg h]
      by_cases h2 : mWW S (nI a) n' < w'
      · rw [if_pos h2]; exact mStY_r hr S a j 0
      · rw [if_neg h2]; exact mStY_r hr S a j 1
theorem mStB_r {r : Nat} (hr : r ≠ 14) (n' w' : Int32) (M : Nat) : ∀ (k j : Nat) (S : sT), mStB n' w' M k j S r = S r
  | 0, _, _ => rfl
  | k + 1, j, S => by
    unfold mStB
    rw [mStB_r hr n' w' M k (j + 1), mStC_r hr]
theorem mStA_r {r : Nat} (hr : r ≠ 14) (n' w' : Int32) (M : Nat) : ∀ (k j : Nat) (S : sT), mStA n' w' M k j S r = S r
  | 0, _, _ => rfl
  | k + 1, j, S => by
    unfold mStA
    rw [mStA_r hr n' w' M k (j + 1), mStB_r hr]
theorem mStep_r {r : Nat} (hr : r ≠ 14) (S : sT) (q n' w' : Int32) (M : Nat) : mStep S q n' w' M r = S r := by
  unfold mStep
  rw [mStA_r hr]
  unfold mSt2
  by_cases h : mWW (mSt1 6 0 S) q n' < w'
  · rw [if_pos h, mSt1_r hr]
  · rw [if_neg h]
    exact (va_up_ne _ _ hr).trans (congrFun (congrArg (fun z : sT => z) rfl) r |>.trans (mSt1_r hr 6 0 S))
theorem mIs_m1 {S : sT} {p : Int32} {M : Nat} (h : ¬ mIs S p = 0) (hM : S 30 0 = nI M) : 1 ≤ M := by
  rcases Nat.eq_zero_or_pos M with e | e
  · exfalso
    subst e
    apply h
    unfold mIs iW
    by_cases h1 : p < 0
    · rw [if_pos h1]
    · rw [if_neg h1, hM]
      refine if_pos ?_
      rw [fa_lt] at h1 ⊢
      have e0 : (0 : Int32).toInt = 0 := by decide
      have e1 : (nI 0 - 1).toInt = -1 := by decide
      omega
  · exact e
section BG
variable (S : sT) (L : Nat → Int64)
def mBgR (S3 : sT) (sz i : Int32) : Int32 × sM := if sz ≤ i then (-5, S3, L) else (S3 15 i.toNatClampNeg, S3, L)
def mBgZ (S2 : sT) (M : Nat) (p i : Int32) : Int32 × sM := mBgR L (mBgW M (S2 14 p.toNatClampNeg).toNatClampNeg 0 S2 p) (S2 14 p.toNatClampNeg) i
def mBgY (B : sT × Int32) (M : Nat) (p q e i : Int32) : Int32 × sM := if B.2 = -1 then (B.2, B.1, L) else if i = -1 then (B.2, B.1, L) else mBgZ L (mStep B.1 q e B.2 M) M p i
def mBag (M : Nat) (p q e i : Int32) : Int32 × sM := if mIs S p = 0 then mTen S L else if mIs S q = 0 then mTen S L else if p = q then mTen S L else if iW e 0 99 = 0 then mTen S L else if -1 ≤ i then mBgY L (mBgB S p q e M) M p q e i else mTen S L
end BG
theorem bag_in {i sz : Int32} (h1 : -1 ≤ i) (h2 : ¬ i = -1) (h3 : ¬ sz ≤ i) (h6 : sz.toNatClampNeg ≤ 6) : vp_in i 6 := by
  rw [vp_in_iff]
  rw [fa_le] at h1 h3
  rw [fa_eq] at h2
  have e : (-1 : Int32).toInt = -1 := by decide
  have h6' : sz.toInt.toNat ≤ 6 := h6
  omega
theorem mBgN_in {S : sT} {a : Int32} : ∀ (k : Nat) (x : Int32), k ≤ 6 → (x = -1 ∨ vp_in x 6) → (mBgN S a k x = -1 ∨ vp_in (mBgN S a k x) 6)
  | 0, x, _, h => h
  | k + 1, x, hk, h => by
    unfold mBgN
    by_cases h1 : mHas (S 5 a.toNatClampNeg) (nI k) = 0
    · rw [if_pos h1]; exact mBgN_in k x (by omega) h
    · rw [if_neg h1]
      by_cases h2 : S 14 k = S 14 a.toNatClampNeg - 1
      · rw [if_pos h2]; exact mBgN_in k _ (by omega) (Or.inr (vp_in_nI (by omega) (by decide)))
      · rw [if_neg h2]; exact mBgN_in k x (by omega) h
-- the next order of bags
def mSw1 (S : sT) (x : Nat) (v : Int32) : sT := sA S 16 (upd (S 16) x v)
def mSw (S : sT) (x y : Nat) : sT := mSw1 (mSw1 S x (S 16 y)) y (S 16 x)
def nbK (f : Nat → Int32) : Nat → Nat
  | 0 => 0
  | k + 1 => if f k ≤ f (k + 1) then k + 1 else nbK f k
def nbJ (f : Nat → Int32) (i : Nat) : Nat → Nat
  | 0 => 0
  | j + 1 => if f i ≤ f j then j else nbJ f i j
def mRv : Nat → Nat → Nat → sT → sT
  | 0, _, _, S => S
  | k + 1, x, y, S => if y ≤ x then S else mRv k (x + 1) (y - 1) (mSw S x y)
def mNxS (S : sT) (M K : Nat) : sT := mRv 6 K (M - 1) (mSw S (K - 1) (nbJ (S 16) (K - 1) M))
def mNx (S : sT) (M : Nat) : Int32 × sT := if nbK (S 16) (M - 1) = 0 then (0, S) else (1, mNxS S M (nbK (S 16) (M - 1)))
theorem nb_m2 {M : Nat} (h : 1 ≤ M) : nI M - 2 = nI (M - 1) + (-1) := by
  obtain ⟨m, rfl⟩ : ∃ m, M = m + 1 := ⟨M - 1, by omega⟩
  show nI (m + 1) - 2 = nI m + (-1)
  rw [← pk_m1 m, Int32.add_assoc, Int32.sub_eq_add_neg]
  rfl
theorem nbK_le (f : Nat → Int32) : ∀ k, nbK f k ≤ k
  | 0 => Nat.le_refl 0
  | k + 1 => by
    unfold nbK
    by_cases h : f k ≤ f (k + 1)
    · rw [if_pos h]; exact Nat.le_refl _
    · rw [if_neg h]; exact Nat.le_succ_of_le (nbK_le f k)
theorem nbJ_lt (f : Nat → Int32) (i : Nat) : ∀ j, 0 < j → nbJ f i j < j
  | 0, h => absurd h (by omega)
  | j + 1, _ => by
    unfold nbJ
    by_cases h : f i ≤ f j
    · rw [if_pos h]; exact Nat.lt_succ_self j
    · rw [if_neg h]
      rcases Nat.eq_zero_or_pos j with e | e
      · subst e; exact Nat.lt_succ_self 0
      · exact Nat.lt_succ_of_lt (nbJ_lt f i j e)
theorem mRv_r {r : Nat} (hr : r ≠ 16) : ∀ (k x y : Nat) (S : sT), mRv k x y S r = S r
  | 0, _, _, _ => rfl
  | k + 1, x, y, S => by
    unfold mRv
    by_cases h : y ≤ x
    · rw [if_pos h]
    · rw [if_neg h, mRv_r hr k]
      exact (va_up_ne _ _ hr).trans (va_up_ne _ _ hr)
theorem mNx_r {r : Nat} (hr : r ≠ 16) (S : sT) (M : Nat) : (mNx S M).2 r = S r := by
  unfold mNx
  by_cases h : nbK (S 16) (M - 1) = 0
  · rw [if_pos h]
  · rw [if_neg h]
    show mNxS S M _ r = S r
    unfold mNxS
    rw [mRv_r hr]
    exact (va_up_ne _ _ hr).trans (va_up_ne _ _ hr)
theorem mNx_1 {S : sT} {M : Nat} (h : ¬ (mNx S M).1 = 0) : (mNx S M).1 = 1 := by
  unfold mNx at h ⊢
  by_cases h1 : nbK (S 16) (M - 1) = 0
  · rw [if_pos h1] at h; exact absurd rfl h
  · rw [if_neg h1]
-- shelves
def mShI : Nat → Nat → sT → sT
  | 0, _, S => S
  | k + 1, j, S => mShI k (j + 1) (sA S 16 (upd (S 16) j (nI j)))
def mShY (S : sT) (a c : Int32) : Nat → Nat → Int32 → Int32
  | 0, _, y => y
  | k + 1, j, y => mShY S a c k (j + 1) (iMin y (mWW S (nI j) (a + c * S 16 j)))
def mShC (y x : Int32) : Nat → Nat → sT → sT
  | 0, _, S => S
  | k + 1, j, S => if y ≤ x then S else mShC y x k (j + 1) (sA S 17 (upd (S 17) j (S 16 j)))
def mShB (S : sT) (a c x : Int32) (M : Nat) : sT := mShC (mShY S a c M 0 1048576) x M 0 S
def mShX (S : sT) (a c x : Int32) (M : Nat) : Int32 := if mShY S a c M 0 1048576 ≤ x then x else mShY S a c M 0 1048576
def mShL (a c : Int32) (M : Nat) : Nat → sT → Int32 → sT × Int32
  | 0, S, x => (S, x)
  | F + 1, S, x => if (mNx (mShB S a c x M) M).1 = 0 then ((mNx (mShB S a c x M) M).2, mShX S a c x M) else mShL a c M F (mNx (mShB S a c x M) M).2 (mShX S a c x M)
def mShE (a c : Int32) (M : Nat) : Nat → sT → Int32 → Prop
  | 0, _, _ => False
  | F + 1, S, x => ¬ (mNx (mShB S a c x M) M).1 = 0 → mShE a c M F (mNx (mShB S a c x M) M).2 (mShX S a c x M)
theorem mShC_r {r : Nat} (hr : r ≠ 17) (y x : Int32) : ∀ (k j : Nat) (S : sT), mShC y x k j S r = S r
  | 0, _, _ => rfl
  | k + 1, j, S => by
    unfold mShC
    by_cases h : y ≤ x
    · rw [if_pos h]
    · rw [if_neg h, mShC_r hr y x k]
      exact va_up_ne _ _ hr
theorem mShI_r {r : Nat} (hr : r ≠ 16) : ∀ (k j : Nat) (S : sT), mShI k j S r = S r
  | 0, _, _ => rfl
  | k + 1, j, S => by
    unfold mShI
    rw [mShI_r hr k]
    exact va_up_ne _ _ hr
def mShZ (S : sT) (a c : Int32) (M F : Nat) : sT × Int32 := if mShI M 0 S 30 0 ≤ 0 then (mShI M 0 S, -1) else mShL a c M F (mShI M 0 S) (-1)
def mShA (L : Nat → Int64) (B : sT × Int32) (p : Int32) : Int32 × sM := if p = -1 then (if B.1 30 0 = 0 then (0, B.1, L) else (B.2, B.1, L)) else (B.1 17 p.toNatClampNeg, B.1, L)
def mShelves (S : sT) (L : Nat → Int64) (M F : Nat) (a c p : Int32) : Int32 × sM := if iW a 0 20 = 0 then mTen S L else if iW c 0 9 = 0 then mTen S L else if p = -1 then mShA L (mShZ S a c M F) p else if mIs S p = 0 then mTen S L else mShA L (mShZ S a c M F) p
theorem mImage_a (S : sT) (L : Nat → Int64) {a : Nat} (ha : a < 2) : mImage S L (nI a) = (1, mImg S a, L) := by
  unfold mImage
  rw [nI_clamp (by omega)]
  refine if_neg ?_
  rcases (show a = 0 ∨ a = 1 by omega) with rfl | rfl <;> decide
theorem mFrom_a (S : sT) (L : Nat → Int64) {a : Nat} (ha : a < 2) : mFrom S L (nI a) = if S 19 a = 0 then mNo S L else (1, mFrm S a, L) := by
  unfold mFrom
  rw [nI_clamp (by omega)]
  refine if_neg ?_
  rcases (show a = 0 ∨ a = 1 by omega) with rfl | rfl <;> decide
theorem mStep_hk {h : ah} {m : Nat} {S : sT} {q n' w' : Int32} {M K : Nat} {L : Nat → Int64} (_ : is_mo h m (mStep S q n' w' M) L) (e : S 30 0 = nI K) : mStep S q n' w' M 30 0 = nI K := (congrFun (mStep_r (by decide) S q n' w' M) 0).trans e
theorem mNx_hk {h : ah} {m : Nat} {S : sT} {M K : Nat} {L : Nat → Int64} (_ : is_mo h m (mNx S M).2 L) (e : S 30 0 = nI K) : (mNx S M).2 30 0 = nI K := (congrFun (mNx_r (by decide) S M) 0).trans e
