/-! WHAT LOOPS NEED; the states behind the treasury's changes. -/
theorem aw_inc {l : Launch} {E : aw_E} {mi : aw_M} {Z : aw_Zt} {d bc bs pc : Nat} {ls : List (Nat × Value)} {st : List Value} {n : Nat} {h : ah} {i : Nat} {z : Int} {x w : Int32} (hd : decode mi.2.1 pc = .ok (.iinc i z, 3)) (hv : aw_lk ls i = some (.int x)) (hz : Int32.ofInt z = w) (hn : i < mi.2.2.1) (k : aw l E mi Z d bc bs (pc + 3) (aw_st1 i (.int (x + w)) ls) st n h) : aw l E mi Z d bc bs pc ls st n h := aw_iinc hd hv (by rw [hz]) hn k
theorem clamp_lt (x : Int32) : x.toNatClampNeg < 2 ^ 31 := by
  have h := x.toInt_lt
  show x.toInt.toNat < 2 ^ 31
  omega
theorem i_le_nI {x : Int32} {j : Nat} (hj : j < 2 ^ 31) : x ≤ nI j ↔ x.toNatClampNeg ≤ j := by
  rw [fa_le, nI_toInt hj]
  show x.toInt ≤ (j : Int) ↔ x.toInt.toNat ≤ j
  omega
theorem is_of {P : sT → Prop} {a b : sT} (e : a = b) (h : P b) : P a := e ▸ h
theorem in_nI {j N : Nat} (h : j < N) (hN : N < 2 ^ 31) : vp_in (nI j) N := vp_in_nI h hN
theorem i_lt_nI {x : Int32} {j : Nat} (hx : ¬ x < 0) (hj : j < 2 ^ 31) : x < nI j ↔ x.toNatClampNeg < j := by
  rw [fa_lt, nI_toInt hj]
  rw [fa_lt] at hx
  have e0 : (0 : Int32).toInt = 0 := by decide
  show x.toInt < (j : Int) ↔ x.toInt.toNat < j
  omega
theorem trIs_lt {T : sT} {j : Nat} (h : ¬ trIs T (nI j) = 0) (hj : j < 2 ^ 31) : j < 6 := by
  have h1 := trIs_in h
  rw [vp_in_iff, nI_toInt hj] at h1
  omega
/-- behind a change of one treasury: the answer, the heap's size, the treasury then, the rest as it was -/
def tr_post (n : Nat) (h : ah) (t : Nat) (r : Option Value) (T' : sT) : aw_P := fun r' n' h' => r = r' ∧ n = n' ∧ is_tr h' t T' ∧ ah_off h h' t 20
-- what may be undone
def pPlace (T : sT) (f : Int32) : Int32 := (T 10 4 - 1) * 14 + f
def pPut (T : sT) (f v : Int32) : sT := if pPlace T f < 0 then T else if 112 ≤ pPlace T f then T else sA T 9 (upd (T 9) (pPlace T f).toNatClampNeg v)
def pLast (T : sT) (f : Int32) : Int32 := if pPlace T f < 0 then 0 else if 112 ≤ pPlace T f then 0 else T 9 (pPlace T f).toNatClampNeg
def pShift : Nat → Nat → sT → sT
  | 0, _, T => T
  | k + 1, j, T => pShift k (j + 1) (sA T 9 (upd (T 9) (j - 14) (T 9 j)))
def pOpen (T : sT) : sT := if 8 ≤ T 10 4 then pShift 98 14 T else sS 10 T 4 (T 10 4 + 1)
def pDropLast (T : sT) : sT := sS 10 T 4 (iMax 0 (T 10 4 - 1))
def pCopy (O : sT) : Nat → Nat → sT → sT
  | 0, _, T => T
  | k + 1, j, T => pCopy O k (j + 1) (sA T 9 (upd (T 9) j (O 9 j)))
-- notes
def nAddS (T : sT) (p n' w' d' : Int32) : sT := sS 10 (sA (sA (sA (sA T 5 (upd (T 5) (T 10 3).toNatClampNeg p)) 6 (upd (T 6) (T 10 3).toNatClampNeg n')) 7 (upd (T 7) (T 10 3).toNatClampNeg w')) 8 (upd (T 8) (T 10 3).toNatClampNeg d')) 3 (T 10 3 + 1)
def nCopy (O : sT) : Nat → Nat → sT → sT
  | 0, _, T => T
  | k + 1, j, T => nCopy O k (j + 1) (sA (sA (sA (sA T 5 (upd (T 5) j (O 5 j))) 6 (upd (T 6) j (O 6 j))) 7 (upd (T 7) j (O 7 j))) 8 (upd (T 8) j (O 8 j)))
-- the treasury
def trEmpty (T : sT) : sT := sS 10 (sS 10 (sS 10 (sS 10 (sS 10 T 0 0) 1 0) 2 0) 3 0) 4 0
def trCopy (O : sT) : Nat → Nat → sT → sT
  | 0, _, T => T
  | k + 1, j, T => trCopy O k (j + 1) (sA (sA (sA (sA (sA T 0 (upd (T 0) j (O 0 j))) 1 (upd (T 1) j (O 1 j))) 2 (upd (T 2) j (O 2 j))) 3 (upd (T 3) j (O 3 j))) 4 (upd (T 4) j (O 4 j)))
def pCopyF (O T : sT) : sT := sS 10 (pCopy O 112 0 T) 4 (O 10 4)
def nCopyF (O T : sT) : sT := sS 10 (nCopy O 6 0 T) 3 (O 10 3)
def trCopyF (O T : sT) : sT := pCopyF O (nCopyF O (sS 10 (sS 10 (sS 10 (trCopy O 6 0 T) 0 (O 10 0)) 1 (O 10 1)) 2 (O 10 2)))
def lpSum (f : Nat → Int32) : Nat → Nat → Int32 → Int32
  | 0, _, s => s
  | k + 1, j, s => lpSum f k (j + 1) (s + f j)
def trAllP (T : sT) : Int32 := lpSum (fun j => trG 2 T (nI j)) (T 10 0).toNatClampNeg 0 0
def trAllW (T : sT) : Int32 := lpSum (fun j => trOwn T (nI j)) (T 10 0).toNatClampNeg 0 0
def trJoin (T : sT) (k h' n' p' : Int32) : sT := sS 10 (sA (sA (sA (sA (sA T 0 (upd (T 0) (T 10 0).toNatClampNeg k)) 1 (upd (T 1) (T 10 0).toNatClampNeg h')) 2 (upd (T 2) (T 10 0).toNatClampNeg n')) 3 (upd (T 3) (T 10 0).toNatClampNeg p')) 4 (upd (T 4) (T 10 0).toNatClampNeg 0)) 0 (T 10 0 + 1)
def trHands (T : sT) (p b : Int32) : sT := if trIs T p = 0 then T else sA T 4 (upd (T 4) p.toNatClampNeg b)
def trLie (T : sT) (p s : Int32) : sT := if trIs T p = 0 then T else sS 10 (sA T 1 (upd (T 1) p.toNatClampNeg (trBeh T p s))) 2 (T 10 2 ||| (1 <<< (p &&& 31)))
def trHandOn (T : sT) (p q m : Int32) : sT := if trIs T p = 0 then T else if trIs T q = 0 then T else sA (sA T 2 (upd (T 2) p.toNatClampNeg (T 2 p.toNatClampNeg - m))) 2 (upd (upd (T 2) p.toNatClampNeg (T 2 p.toNatClampNeg - m)) q.toNatClampNeg (upd (T 2) p.toNatClampNeg (T 2 p.toNatClampNeg - m) q.toNatClampNeg + m))
def trPass : Nat → Nat → sT → sT
  | 0, _, T => T
  | k + 1, j, T => trPass k (j + 1) (if trIs T (nI j) = 0 then T else sA T 1 (upd (T 1) j (trAft T (nI j) 1)))
def trPassDay (T : sT) : sT := sS 10 (sS 10 (trPass (T 10 0).toNatClampNeg 0 T) 2 0) 1 (iMin 999 (trPass (T 10 0).toNatClampNeg 0 T 10 1 + 1))
def trKeep6 : Nat → Nat → sT → sT
  | 0, _, T => T
  | k + 1, j, T => trKeep6 k (j + 1) (pPut (pPut T (nI j) (T 1 j)) (6 + nI j) (pPut T (nI j) (T 1 j) 2 j))
def trKeepL (T : sT) : sT := pPut T 12 (T 10 2)
def trKeepD (T : sT) : sT := pPut T 13 (T 10 1)
def trKeep (T : sT) : sT := trKeepD (trKeepL (trKeep6 6 0 (pOpen T)))
def trBack6 : Nat → Nat → sT → sT
  | 0, _, T => T
  | k + 1, j, T => trBack6 k (j + 1) (sA (sA T 1 (upd (T 1) j (pLast T (nI j)))) 2 (upd (T 2) j (pLast (sA T 1 (upd (T 1) j (pLast T (nI j)))) (6 + nI j))))
def trBackL (T : sT) : sT := sS 10 T 2 (pLast T 12)
def trBackD (T : sT) : sT := sS 10 T 1 (pLast T 13)
def trBack (T : sT) : sT := if T 10 4 = 0 then T else pDropLast (trBackD (trBackL (trBack6 6 0 T)))
def iFirst (P : Nat → Int32 → Prop) [∀ j x, Decidable (P j x)] (w : Int32) : Nat → Nat → Int32
  | 0, _ => -1
  | k + 1, j => if P j w then iFirst P w k (j + 1) else nI j
def trDays (T : sT) (p w : Int32) : Int32 := iFirst (fun j w => kW (trG 0 T p) (trG 2 T p) (trAft T p (nI j)) (T 10 1 + nI j) < w) w 61 0
def trFew (T : sT) (p w : Int32) : Int32 := iFirst (fun j w => trWW T p (nI j) < w) w 100 0
def trMix (T : sT) : Nat → Nat → Int64 → Int64
  | 0, _, x => x
  | k + 1, j, x => trMix T k (j + 1) (31 * (31 * (31 * (31 * (31 * (31 * x + (trG 0 T (nI j)).toInt64) + (trG 1 T (nI j)).toInt64) + (trG 2 T (nI j)).toInt64) + (trG 3 T (nI j)).toInt64) + (trLied T (nI j)).toInt64) + (trG 4 T (nI j)).toInt64)
