/-! THE REFERENCE, as functions of its state: rows 0 refused, 1 kinds, 2 honesty, 3 pieces, 4 pays, 5 handed, 6..9 notes, 10 text, 11 readOnes, 12 ahead, 13 aside, 14 steps, 15 line, 16 bags, 17 bestBags, 18 images, 19 isKept; row 30 its numbers. -/
abbrev sM : Type := sT × (Nat → Int64)
def mo_post (n : Nat) (h : ah) (m : Nat) (F : Int32 × sM) : aw_P := fun r n' h' => some (.int F.1) = r ∧ n = n' ∧ is_mo h' m F.2.1 F.2.2 ∧ ah_off h h' m 21
def ml_post (n : Nat) (h : ah) (m : Nat) (F : Int64 × sM) : aw_P := fun r n' h' => some (.long F.1) = r ∧ n = n' ∧ is_mo h' m F.2.1 F.2.2 ∧ ah_off h h' m 21
def mv_post (n : Nat) (h : ah) (m : Nat) (F : sM) : aw_P := fun r n' h' => none = r ∧ n = n' ∧ is_mo h' m F.1 F.2 ∧ ah_off h h' m 21
theorem mo_fin {n m : Nat} {h0 h : ah} {F : Int32 × sM} {v : Int32} {S : sT} {L : Nat → Int64} (e : F = (v, S, L)) (hM : is_mo h m S L) (hF : ah_off h0 h m 21) : mo_post n h0 m F (some (.int v)) n h := by
  subst e
  exact ⟨rfl, rfl, hM, hF⟩
theorem ml_fin {n m : Nat} {h0 h : ah} {F : Int64 × sM} {v : Int64} {S : sT} {L : Nat → Int64} (e : F = (v, S, L)) (hM : is_mo h m S L) (hF : ah_off h0 h m 21) : ml_post n h0 m F (some (.long v)) n h := by
  subst e
  exact ⟨rfl, rfl, hM, hF⟩
theorem mv_fin {n m : Nat} {h0 h : ah} {F : sM} {S : sT} {L : Nat → Int64} (e : F = (S, L)) (hM : is_mo h m S L) (hF : ah_off h0 h m 21) : mv_post n h0 m F none n h := by
  subst e
  exact ⟨rfl, rfl, hM, hF⟩
theorem i_ge1 (x y : Int32) : (if y ≤ x then y else x) = iMin x y := by
  unfold iMin
  by_cases h : y < x
  · rw [if_pos h, if_pos (Int32.le_of_lt h)]
  · rw [if_neg h]
    by_cases h2 : y ≤ x
    · rw [if_pos h2]
      exact Int32.le_antisymm h2 (Int32.not_lt.mp h)
    · rw [if_neg h2]
def mIs (S : sT) (p : Int32) : Int32 := iW p 0 (S 30 0 - 1)
def mHas (b k : Int32) : Int32 := if (b >>> (k &&& 31)) &&& 1 = 1 then 1 else 0
def mWW (S : sT) (p n' : Int32) : Int32 := kW (S 1 p.toNatClampNeg) n' (S 2 p.toNatClampNeg) (S 30 1)
def mOwn (S : sT) (p : Int32) : Int32 := mWW S p (S 3 p.toNatClampNeg)
def mBeh (S : sT) (p s : Int32) : Int32 := if kL (S 1 p.toNatClampNeg) s ≤ S 2 p.toNatClampNeg then S 2 p.toNatClampNeg - kL (S 1 p.toNatClampNeg) s else 0
def mBegin (S : sT) : sT := sS 30 (sS 30 (sS 30 (sS 30 (sS 30 S 0 0) 1 0) 2 0) 3 0) 9 0
def mBd (S : sT) : sT := sA S 0 (upd (S 0) 0 (S 0 0 + 1))
def mN (S : sT) : sT := sA S 0 (upd (S 0) 1 (S 0 1 + 1))
def mFl (S : sT) : sT := sA S 0 (upd (S 0) 2 (S 0 2 + 1))
def mAdd (S : sT) (k h' n' p' : Int32) : sT := sS 30 (sS 30 (sA (sA (sA (sA (sA S 1 (upd (S 1) (S 30 0).toNatClampNeg k)) 2 (upd (S 2) (S 30 0).toNatClampNeg h')) 3 (upd (S 3) (S 30 0).toNatClampNeg n')) 4 (upd (S 4) (S 30 0).toNatClampNeg p')) 5 (upd (S 5) (S 30 0).toNatClampNeg 0)) 0 (S 30 0 + 1)) 9 0
def mLay1 (r a j : Nat) (S : sT) : sT := sA S r (upd (S r) (a + 2 + j) (S 2 j))
def mLay2 (r a j : Nat) (S : sT) : sT := sA S r (upd (S r) (a + 8 + j) (S 3 j))
def mLayL (r a : Nat) : Nat → Nat → sT → sT
  | 0, _, S => S
  | k + 1, j, S => mLayL r a k (j + 1) (mLay2 r a j (mLay1 r a j S))
def mLayA (r a : Nat) (S : sT) : sT := sA S r (upd (S r) a (S 30 1))
def mLayB (r a : Nat) (S : sT) : sT := sA S r (upd (S r) (a + 1) (S 30 2))
def mLay (r a : Nat) (S : sT) : sT := mLayL r a 6 0 (mLayB r a (mLayA r a S))
def mTak1 (r a j : Nat) (S : sT) : sT := sA S 2 (upd (S 2) j (S r (a + 2 + j)))
def mTak2 (r a j : Nat) (S : sT) : sT := sA S 3 (upd (S 3) j (S r (a + 8 + j)))
def mTakL (r a : Nat) : Nat → Nat → sT → sT
  | 0, _, S => S
  | k + 1, j, S => mTakL r a k (j + 1) (mTak2 r a j (mTak1 r a j S))
def mTakA (r a : Nat) (S : sT) : sT := sS 30 S 1 (S r a)
def mTakB (r a : Nat) (S : sT) : sT := sS 30 S 2 (S r (a + 1))
def mTak (r a : Nat) (S : sT) : sT := mTakL r a 6 0 (mTakB r a (mTakA r a S))
def mShift : Nat → Nat → sT → sT
  | 0, _, S => S
  | k + 1, j, S => mShift k (j + 1) (sA S 12 (upd (S 12) j (S 12 (j + 14))))
def mUp (S : sT) : sT := sS 30 S 9 (S 30 9 + 1)
def mDn (S : sT) : sT := sS 30 S 9 (S 30 9 - 1)
def mKeep (S : sT) (u : Nat) : sT := if u = 8 then mUp (mLay 12 98 (mDn (mShift 98 0 S))) else mUp (mLay 12 (14 * u) S)
def mLies (S : sT) (p s : Int32) : sT := sS 30 (sA S 2 (upd (S 2) p.toNatClampNeg (mBeh S p s))) 2 (S 30 2 ||| (1 <<< (p &&& 31)))
def mPassL : Nat → Nat → sT → sT
  | 0, _, S => S
  | k + 1, j, S => mPassL k (j + 1) (sA S 2 (upd (S 2) j (if mHas (S 30 2) (nI j) = 0 then iMin 12 (S 2 j + 1) else S 2 j)))
def mPassE (S : sT) : sT := sS 30 (sS 30 S 2 0) 1 (iMin 999 (S 30 1 + 1))
def mPass (S : sT) : sT := mPassE (mPassL (S 30 0).toNatClampNeg 0 S)
def mSoL (S : sT) (p kd h' : Int32) : Nat → Nat → Int32 → Int32
  | 0, _, b => b
  | k + 1, j, b => if kW kd (S 7 j) h' (S 9 j) = S 8 j then (if b = 0 then mSoL S p kd h' k (j + 1) 0 else if S 6 j = p then (if (1 : Int32) = 0 then mSoL S p kd h' k (j + 1) 0 else mSoL S p kd h' k (j + 1) 1) else mSoL S p kd h' k (j + 1) 1)
      else (if b = 0 then mSoL S p kd h' k (j + 1) 0 else if S 6 j = p then (if (0 : Int32) = 0 then mSoL S p kd h' k (j + 1) 0 else mSoL S p kd h' k (j + 1) 1) else mSoL S p kd h' k (j + 1) 1)
def mSo (S : sT) (p kd h' : Int32) : Int32 := mSoL S p kd h' (S 30 3).toNatClampNeg 0 1
def lpOr (f : Nat → Int32) : Nat → Nat → Int32 → Int32
  | 0, _, a => a
  | k + 1, j, a => if f j = 0 then lpOr f k (j + 1) (a ||| 0) else lpOr f k (j + 1) (a ||| (1 <<< (nI j &&& 31)))
def mKinds (S : sT) (p : Int32) : Int32 := lpOr (fun j => mSo S p (nI j) (S 2 p.toNatClampNeg)) 6 0 0
def mHons (S : sT) (p : Int32) : Int32 := lpOr (fun j => mSo S p (S 1 p.toNatClampNeg) (nI j)) 13 0 0
def mAlI (D' h' b n' : Int32) (a : Nat) : Nat → Nat → Int32 → Int32
  | 0, _, c => c
  | k + 1, j, c => if kW (nI a) n' h' D' = kW (nI j) n' h' D' then (if mHas b (nI a) = 0 then mAlI D' h' b n' a k (j + 1) (c + 0) else if mHas b (nI j) = 0 then mAlI D' h' b n' a k (j + 1) (c + 0) else if (1 : Int32) = 0 then mAlI D' h' b n' a k (j + 1) (c + 0) else mAlI D' h' b n' a k (j + 1) (c + 1))
      else (if mHas b (nI a) = 0 then mAlI D' h' b n' a k (j + 1) (c + 0) else if mHas b (nI j) = 0 then mAlI D' h' b n' a k (j + 1) (c + 0) else if (0 : Int32) = 0 then mAlI D' h' b n' a k (j + 1) (c + 0) else mAlI D' h' b n' a k (j + 1) (c + 1))
def mAlO (D' h' b n' : Int32) : Nat → Nat → Int32 → Int32
  | 0, _, x => x
  | k + 1, j, x => if mAlI D' h' b n' j 6 0 0 ≤ x then mAlO D' h' b n' k (j + 1) x else mAlO D' h' b n' k (j + 1) (mAlI D' h' b n' j 6 0 0)
def mAlike (S : sT) (p b n' : Int32) : Int32 := mAlO (S 30 1) (S 2 p.toNatClampNeg) b n' 6 0 0
def mNextL (S : sT) (p b : Int32) : Nat → Nat → Int32 → Int32
  | 0, _, x => x
  | k + 1, j, x => if b = 0 then x else if mAlike S p b x ≤ mAlike S p b (nI j) then mNextL S p b k (j + 1) x else mNextL S p b k (j + 1) (nI j)
def mNextW (S : sT) (p b : Int32) : Int32 := if b = 0 then mNextL S p b 20 1 (-1) else mNextL S p b 20 1 0
def mGets (S : sT) (p l' o' : Int32) : Int32 := if l' = 0 then (mOwn S p - kW (S 1 p.toNatClampNeg) (S 3 p.toNatClampNeg) (mBeh S p 2) (S 30 1)) / 10 else if o' = 0 then 3 else 1
def mTw3 (j : Nat) (r i : Int32) : Int32 := if i = 0 then r ||| 0 else r ||| (1 <<< (nI j &&& 31))
def mTw4 (S : sT) (b : Int32) (j : Nat) (r x y ny : Int32) : Int32 := if mGets S b y x < mGets S b ny x then mTw3 j r 0 else mTw3 j r 1
def mTw2 (S : sT) (a b : Int32) (j : Nat) (r x y nx : Int32) : Int32 := if mGets S a x y < mGets S a nx y then mTw3 j r 0 else if y = 0 then mTw4 S b j r x y 1 else mTw4 S b j r x y 0
def mTw1 (S : sT) (a b : Int32) (j : Nat) (r x y : Int32) : Int32 := if x = 0 then mTw2 S a b j r x y 1 else mTw2 S a b j r x y 0
def mTwL (S : sT) (a b : Int32) : Nat → Nat → Int32 → Int32
  | 0, _, r => r
  | k + 1, j, r => mTwL S a b k (j + 1) (if iRem (nI j) 2 = 1 then (if nI j ≤ 1 then mTw1 S a b j r 1 0 else mTw1 S a b j r 1 1) else (if nI j ≤ 1 then mTw1 S a b j r 0 0 else mTw1 S a b j r 0 1))
def gE : Nat → Int64 → Int64 → Prop
  | 0, _, b => lg_cmp b 0 = 0
  | k + 1, a, b => ¬ lg_cmp b 0 = 0 → gE k b (a - a / b * b)
def mFrac (L : Nat → Int64) (o u : Int64) : Nat → Int64 := vp_updL (vp_updL L 0 (o / kFrac 100 0 o u)) 1 (u / kFrac 100 0 o u)
def mWiL (S : sT) (w c : Int32) : Nat → Nat → Int32 → Int32
  | 0, _, s => s
  | k + 1, j, s => mWiL S w c k (j + 1) (s + S 3 j * (if w ≤ mOwn S (nI j) then 10 else 10 - c))
def mYrL : Nat → Nat → Int64 → sT → sT
  | 0, _, _, S => S
  | k + 1, j, x, S => if yS (yX x) ≤ 0 then mYrL k (j + 1) (yX x) (mPass S) else if S 30 0 ≤ yP (yX x) then mYrL k (j + 1) (yX x) (mPass S) else mYrL k (j + 1) (yX x) (mPass (mLies S (yP (yX x)) (yS (yX x))))
def mAllW (S : sT) : Int32 := lpSum (fun j => mOwn S (nI j)) (S 30 0).toNatClampNeg 0 0
def mAllP (S : sT) : Int32 := lpSum (fun j => S 3 j) (S 30 0).toNatClampNeg 0 0
def mBits (b : Int32) : Int32 := lpSum (fun j => iBit b j) 6 0 0
def mCnt (S : sT) (w : Int32) : Int32 := if w = 0 then S 30 0 else if w = 1 then S 30 1 else if w = 2 then mAllP S else if w = 3 then mBits (S 30 2) else if w = 4 then S 30 3 else if w = 5 then S 30 9 else S 30 4
def mMx (L : Nat → Int64) (v : Int64) : Nat → Int64 := vp_updL L 2 (31 * L 2 + v)
def mDg1 (S : sT) : Nat → Nat → (Nat → Int64) → (Nat → Int64)
  | 0, _, L => L
  | k + 1, j, L => mDg1 S k (j + 1) (mMx L (mCnt S (nI j)).toInt64)
def mDg2 (S : sT) : Nat → Nat → (Nat → Int64) → (Nat → Int64)
  | 0, _, L => L
  | k + 1, j, L => mDg2 S k (j + 1) (mMx (mMx (mMx (mMx (mMx (mMx L (S 1 j).toInt64) (S 2 j).toInt64) (S 3 j).toInt64) (S 4 j).toInt64) (iBit (S 30 2) j).toInt64) (S 5 j).toInt64)
def mDg3 (S : sT) : Nat → Nat → (Nat → Int64) → (Nat → Int64)
  | 0, _, L => L
  | k + 1, j, L => mDg3 S k (j + 1) (mMx (mMx (mMx (mMx L (S 6 j).toInt64) (S 7 j).toInt64) (S 8 j).toInt64) (S 9 j).toInt64)
def mDgA (S : sT) (L : Nat → Int64) : Nat → Int64 := mDg1 S 7 0 (vp_updL L 2 1307)
def mDgB (S : sT) (L : Nat → Int64) : Nat → Int64 := mDg2 S (S 30 0).toNatClampNeg 0 (mDgA S L)
def mDgC (S : sT) (L : Nat → Int64) : Nat → Int64 := mDg3 S (S 30 3).toNatClampNeg 0 (mDgB S L)
def mDgE (L : Nat → Int64) : Nat → Int64 := mMx (mMx L (L 0)) (mMx L (L 0) 1)
def mWhL (S : sT) (p w : Int32) : Nat → Nat → Int32 → Int32 → Int32
  | 0, _, _, f => f
  | k + 1, j, h', f => if f = -1 then (if kW (S 1 p.toNatClampNeg) (S 3 p.toNatClampNeg) h' (S 30 1 + nI j) < w
      then (if nI j = 0 then (if mHas (S 30 2) p = 0 then mWhL S p w k (j + 1) (iMin 12 (h' + 1)) f else mWhL S p w k (j + 1) h' f) else mWhL S p w k (j + 1) (iMin 12 (h' + 1)) f)
      else (if nI j = 0 then (if mHas (S 30 2) p = 0 then mWhL S p w k (j + 1) (iMin 12 (h' + 1)) (nI j) else mWhL S p w k (j + 1) h' (nI j)) else mWhL S p w k (j + 1) (iMin 12 (h' + 1)) (nI j))) else f
def mWhen (S : sT) (p w : Int32) : Int32 := mWhL S p w 61 0 (S 2 p.toNatClampNeg) (-1)
def mFew (S : sT) (p w : Int32) : Int32 := iFirst (fun j w => mWW S p (nI j) < w) w 100 0
section MS
variable (S : sT) (L : Nat → Int64)
def mBad : Int32 × sM := (-2, mBd S, L)
def mTen : Int32 × sM := (-10, mBd S, L)
def mNo : Int32 × sM := (-3, mN S, L)
def mFul : Int32 × sM := (-4, mFl S, L)
def mGold : Int32 × sM := (S 30 0, mBegin S, L)
def mOne (k h' n' p' : Int32) : Int32 × sM := if iW k 0 5 = 0 then mBad S L else if iW h' 0 12 = 0 then mBad S L else if iW n' 0 30 = 0 then mBad S L else if iW p' 0 20 = 0 then mBad S L else if S 30 0 = 6 then mFul S L else (S 30 0 + 1 - 1, mAdd S k h' n' p', L)
def mHands (p q i : Int32) : Int32 × sM := if mIs S p = 0 then mBad S L else if mIs S q = 0 then mBad S L else if p = q then mBad S L else if iW i 0 1 = 0 then mBad S L else
  ((S 5 p.toNatClampNeg >>> (q &&& 31)) &&& 1, sS 30 (sA S 5 (upd (S 5) p.toNatClampNeg ((S 5 p.toNatClampNeg &&& ((1 <<< (q &&& 31)) ^^^ (-1))) ||| (i <<< (q &&& 31))))) 9 0, L)
def mType (c : Int32) : Int32 × sM := if iW c 0 127 = 0 then mBad S L else if S 30 4 = 150 then mFul S L else (S 30 4 + 1, sS 30 (sA S 10 (upd (S 10) (S 30 4).toNatClampNeg c)) 4 (S 30 4 + 1), L)
def mClear : Int32 × sM := (S 30 4, sS 30 S 4 0, L)
def mLie (u : Nat) (p s : Int32) : Int32 × sM := if mIs S p = 0 then mBad S L else if iW s 1 4 = 0 then mBad S L else (mLies (mKeep S u) p s 2 p.toNatClampNeg, mLies (mKeep S u) p s, L)
def mGv1 (S : sT) (p m : Int32) : sT := sA S 3 (upd (S 3) p.toNatClampNeg (S 3 p.toNatClampNeg - m))
def mGv2 (S : sT) (q m : Int32) : sT := sA S 3 (upd (S 3) q.toNatClampNeg (S 3 q.toNatClampNeg + m))
def mGive (u : Nat) (p q m : Int32) : Int32 × sM := if mIs S p = 0 then mBad S L else if mIs S q = 0 then mBad S L else if p = q then mBad S L else if iW m 1 99 = 0 then mBad S L else if mHas (S 5 p.toNatClampNeg) q = 0 then mNo S L else if m ≤ S 3 p.toNatClampNeg then (mGv2 (mGv1 (mKeep S u) p m) q m 3 p.toNatClampNeg, mGv2 (mGv1 (mKeep S u) p m) q m, L) else mNo S L
def mDay (u : Nat) : Int32 × sM := (mPass (mKeep S u) 30 1, mPass (mKeep S u), L)
def mUndo (u : Nat) : Int32 × sM := if S 30 9 = 0 then mNo S L else (mTak 12 (14 * (u - 1)) (mDn S) 30 1, mTak 12 (14 * (u - 1)) (mDn S), L)
def mOf (p w : Int32) : Int32 × sM := if mIs S p = 0 then mBad S L else if iW w 0 6 = 0 then mBad S L else if w = 0 then (S 1 p.toNatClampNeg, S, L) else if w = 1 then (S 2 p.toNatClampNeg, S, L) else if w = 2 then (S 3 p.toNatClampNeg, S, L) else if w = 3 then (S 4 p.toNatClampNeg, S, L) else if w = 4 then ((S 30 2 >>> (p &&& 31)) &&& 1, S, L) else if w = 5 then (S 5 p.toNatClampNeg, S, L) else (mOwn S p, S, L)
def mWeighs (p m : Int32) : Int32 × sM := if mIs S p = 0 then mBad S L else if iW m 0 99 = 0 then mBad S L else (mWW S p m, S, L)
def mAll : Int32 × sM := (mAllW S, S, L)
def mWhenF (p w : Int32) : Int32 × sM := if mIs S p = 0 then mBad S L else if iW w 0 999 = 0 then mBad S L else (mWhen S p w, S, L)
def mDebt (p w : Int32) : Int32 × sM := if mIs S p = 0 then mBad S L else if iW w 0 999 = 0 then mBad S L else (mFew S p w, S, L)
def mNt (p m w d' : Int32) : sT := sS 30 (sA (sA (sA (sA S 6 (upd (S 6) (S 30 3).toNatClampNeg p)) 7 (upd (S 7) (S 30 3).toNatClampNeg m)) 8 (upd (S 8) (S 30 3).toNatClampNeg w)) 9 (upd (S 9) (S 30 3).toNatClampNeg d')) 3 (S 30 3 + 1)
def mNote (p m w d' : Int32) : Int32 × sM := if mIs S p = 0 then mBad S L else if iW m 0 99 = 0 then mBad S L else if iW w 0 2000 = 0 then mBad S L else if iW d' 0 99 = 0 then mBad S L else if S 30 3 = 6 then mFul S L else (S 30 3 + 1, mNt S p m w d', L)
def mForget : Int32 × sM := (S 30 3, sS 30 S 3 0, L)
def mIsF (p w : Int32) : Int32 × sM := if mIs S p = 0 then mBad S L else if iW w 0 1 = 0 then mBad S L else if w = 0 then (mKinds S p, S, L) else (mHons S p, S, L)
def mNext (p : Int32) : Int32 × sM := if mIs S p = 0 then mBad S L else (mNextW S p (mKinds S p), S, L)
def mTwo (a b : Int32) : Int32 × sM := if mIs S a = 0 then mBad S L else if mIs S b = 0 then mBad S L else if a = b then mBad S L else (mTwL S a b 4 0 0, S, L)
def mWinds (w c : Int32) : Int32 × sM := if iW w 0 999 = 0 then mBad S L else if iW c 0 10 = 0 then mBad S L else (1, S, mFrac L (mWiL S w c (S 30 0).toNatClampNeg 0 0).toInt64 10)
def mYrE (s m : Int32) : sT := mYrL m.toNatClampNeg 0 s.toInt64 (mLay 13 0 S)
def mYears (s m : Int32) : Int32 × sM := if iW s 0 999999 = 0 then mBad S L else if iW m 0 60 = 0 then mBad S L else (mAllW (mYrE S s m), mTak 13 0 (mYrE S s m), L)
def mPart (w : Int32) : Int64 × sM := if w = 0 then (L 0, S, L) else if w = 1 then (L 1, S, L) else ((-2 : Int32).toInt64, mBd S, L)
def mStatus (w : Int32) : Int32 × sM := if iW w 0 2 = 0 then (-1, mBd S, L) else (S 0 w.toNatClampNeg, S, L)
def mCount (w : Int32) : Int32 × sM := if iW w 0 6 = 0 then mBad S L else (mCnt S w, S, L)
def mDigest : Int64 × sM := (mDgE (mDgC S L) 2, S, mDgE (mDgC S L))
end MS
theorem mIs_in {S : sT} {p : Int32} {M : Nat} (h : ¬ mIs S p = 0) (hM : S 30 0 = nI M) (h6 : M ≤ 6) : vp_in p 6 := by
  unfold mIs iW at h
  by_cases h1 : p < 0
  · rw [if_pos h1] at h; exact absurd rfl h
  · rw [if_neg h1] at h
    by_cases h2 : S 30 0 - 1 < p
    · rw [if_pos h2] at h; exact absurd rfl h
    · refine vp_in_of6 h1 (fun q => h2 ?_)
      rw [hM]
      rcases Nat.eq_zero_or_pos M with e | e
      · subst e
        rw [fa_le] at q
        rw [fa_lt]
        have e1 : (nI 0 - 1).toInt = -1 := by decide
        have e6 : (6 : Int32).toInt = 6 := by decide
        omega
      · have e1 : nI M - 1 = nI (M - 1) := by
          obtain ⟨k, rfl⟩ := Nat.exists_eq_succ_of_ne_zero (Nat.ne_of_gt e)
          exact nI_pred k
        rw [e1, fa_lt, nI_toInt (by omega)]
        rw [fa_le] at q
        have e6 : (6 : Int32).toInt = 6 := by decide
        omega
theorem yX_ok {y : Int64} (h0 : 0 ≤ y.toInt) (h1 : y.toInt < 2147483648) : 0 ≤ (yX y).toInt ∧ (yX y).toInt < 2147483648 := by
  obtain ⟨k, hk, rfl⟩ := pk_lOf (x := y) (by rw [Int64.lt_iff_toInt_lt]; have : (0 : Int64).toInt = 0 := by decide
                                             omega)
  rw [pk_lT hk] at h1
  have e : yX (lN k) = lN ((k * 1103515245 + 12345) % 2147483648) := by
    unfold yX
    rw [show (1103515245 : Int64) = lN 1103515245 from rfl, show (12345 : Int64) = lN 12345 from rfl, show (2147483648 : Int64) = lN 2147483648 from rfl, lN_mul, lN_add]
    exact pk_lRem (by omega) (by decide) (by decide)
  rw [e, pk_lT (by omega)]
  omega
theorem yP_in {y : Int64} (h0 : 0 ≤ y.toInt) (h1 : y.toInt < 2147483648) : vp_in (yP y) 6 := by
  obtain ⟨k, hk, rfl⟩ := pk_lOf (x := y) (by rw [Int64.lt_iff_toInt_lt]; have : (0 : Int64).toInt = 0 := by decide
                                             omega)
  rw [pk_lT hk] at h1
  have e : yP (lN k) = nI (k / 65536 % 6) := by
    unfold yP
    rw [show (65536 : Int64) = lN 65536 from rfl, show (6 : Int64) = lN 6 from rfl, pk_lDiv hk (by decide) (by decide), pk_lRem (by omega) (by decide) (by decide), lN_i]
  rw [e]
  exact vp_in_nI (by omega) (by decide)
