/-! WHAT THE NOTES TELL, AND THE WAYS, as functions of the states. -/
def lpAll (P : Nat → Prop) [DecidablePred P] : Nat → Nat → Int32
  | 0, _ => 1
  | k + 1, j => if P j then lpAll P k (j + 1) else 0
def lpBits (f : Nat → Int32) : Nat → Nat → Int32 → Int32
  | 0, _, a => a
  | k + 1, j, a => lpBits f k (j + 1) (if f j = 0 then a else a ||| (1 <<< (nI j &&& 31)))
/-- bit j of b -/
def iBit (b : Int32) (j : Nat) : Int32 := (b >>> (nI j &&& 31)) &&& 1
def lpSumB (f : Nat → Int32) (b : Int32) : Nat → Nat → Int32 → Int32
  | 0, _, s => s
  | k + 1, j, s => lpSumB f b k (j + 1) (if iBit b j = 0 then s else s + f j)
def nN (T : sT) : Nat := min (T 10 3).toNatClampNeg 6
def nFit (T : sT) (p k h' : Int32) : Int32 := lpAll (fun j => T 5 j = p → kW k (T 6 j) h' (T 8 j) = T 7 j) (nN T) 0
def nKinds (T : sT) (p : Int32) : Int32 := lpBits (fun j => nFit T p (nI j) (trG 1 T p)) 6 0 0
def nHons (T : sT) (p : Int32) : Int32 := lpBits (fun j => nFit T p (trG 0 T p) (nI j)) 13 0 0
def aCnt (D' : Int32) (b n' h' w' : Int32) : Nat → Nat → Int32 → Int32
  | 0, _, c => c
  | k + 1, j, c => aCnt D' b n' h' w' k (j + 1) (if iBit b j = 0 then c else if kW (nI j) n' h' D' = w' then c + 1 else c)
def aMost (D' : Int32) (b n' h' : Int32) : Nat → Nat → Int32 → Int32
  | 0, _, m => m
  | k + 1, j, m => aMost D' b n' h' k (j + 1) (if iBit b j = 0 then m else iMax m (aCnt D' b n' h' (kW (nI j) n' h' D') 6 0 0))
def nAlike (D' : Int32) (b n' h' : Int32) : Int32 := aMost D' b n' h' 6 0 0
def nBest (D' : Int32) (b h' : Int32) : Nat → Nat → Int32 → Int32 → Int32
  | 0, _, x, _ => x
  | k + 1, j, x, f => if f ≤ nAlike D' b (nI j) h' then nBest D' b h' k (j + 1) x f else nBest D' b h' k (j + 1) (nI j) (nAlike D' b (nI j) h')
def nBestW (D' : Int32) (b h' : Int32) : Int32 := if b = 0 then -1 else nBest D' b h' 21 0 0 7
def nMix (T : sT) : Nat → Nat → Int64 → Int64
  | 0, _, x => x
  | k + 1, j, x => nMix T k (j + 1) (31 * (31 * (31 * (31 * x + (T 5 j).toInt64) + (T 6 j).toInt64) + (T 7 j).toInt64) + (T 8 j).toInt64)
def trMixF (T : sT) (x : Int64) : Int64 := nMix T (nN T) 0 (trMix T (T 10 0).toNatClampNeg 0 x)
-- the ways: rows 0 heft, 1 far, 2 lightest, 3 bagWeights
def wy_post (n : Nat) (h : ah) (w : Nat) (r : Option Value) (V' : sT) : aw_P := fun r' n' h' => r = r' ∧ n = n' ∧ is_wy h' w V' ∧ ah_off h h' w 5
def wHeft (V : sT) (r : Int32) : Int32 := if r < 0 then -1 else if 6 ≤ r then -1 else V 0 r.toNatClampNeg
def wFar (V : sT) (r : Int32) : Int32 := if r < 0 then 99 else if 6 ≤ r then 99 else V 1 r.toNatClampNeg
def wLight (V : sT) (r : Int32) : Int32 := if r < 0 then -1 else if 64 ≤ r then -1 else V 2 r.toNatClampNeg
def wBag (V : sT) (r b : Int32) : Int32 := if r * 6 + b < 0 then -1 else if 36 ≤ r * 6 + b then -1 else V 3 (r * 6 + b).toNatClampNeg
def wPutL (V : sT) (s b : Int32) : sT := if s < 0 then V else if 64 ≤ s then V else sA V 2 (upd (V 2) s.toNatClampNeg b)
def wEach (T : sT) (n' : Int32) : Nat → Nat → sT → sT
  | 0, _, V => V
  | k + 1, j, V => wEach T n' k (j + 1) (sA V 0 (upd (V 0) j (if trIs T (nI j) = 0 then -1 else trWW T (nI j) n')))
def wTo (T V : sT) (r dd : Int32) : Nat → Nat → Int32
  | 0, _ => 0
  | k + 1, j => if iBit (trG 4 T r) j = 0 then wTo T V r dd k (j + 1) else if wFar V (nI j) = dd then 1 else wTo T V r dd k (j + 1)
def tN (T : sT) : Nat := (T 10 0).toNatClampNeg
def mI1 (q w' : Int32) : Nat → Nat → sT → sT
  | 0, _, V => V
  | k + 1, j, V => mI1 q w' k (j + 1) (sA V 1 (upd (V 1) j (if nI j = q then (if wHeft V q < w' then 99 else 0) else 99)))
def mI3 (T : sT) (w' s : Int32) : Nat → Nat → sT → sT
  | 0, _, V => V
  | k + 1, j, V => mI3 T w' s k (j + 1) (if V 1 j = 99 then (if wHeft V (nI j) < w' then V else if wTo T V (nI j) (s - 1) (tN T) 0 = 0 then V else sA V 1 (upd (V 1) j s)) else V)
def mI2 (T : sT) (w' : Int32) : Nat → Nat → sT → sT
  | 0, _, V => V
  | k + 1, j, V => mI2 T w' k (j + 1) (mI3 T w' (nI j) 6 0 V)
def wMeas (T V : sT) (q w' : Int32) : sT := mI2 T w' 5 1 (mI1 q w' 6 0 V)
def wCar (T : sT) (p q : Int32) : Nat → Nat → sT → Int32 → sT × Int32
  | 0, _, V, m => (V, m)
  | k + 1, j, V, m => if wHeft V (nI j) ≤ m then wCar T p q k (j + 1) V m else if 99 ≤ wFar (wMeas T V q (wHeft V (nI j))) p then wCar T p q k (j + 1) (wMeas T V q (wHeft V (nI j))) m else wCar T p q k (j + 1) (wMeas T V q (wHeft V (nI j))) (wHeft V (nI j))
def wCarry (T V : sT) (p q n' : Int32) : sT × Int32 := wCar T p q (tN T) 0 (wEach T n' 6 0 V) (-1)
def wCarryS (T V : sT) (p q n' : Int32) : sT := wMeas T (wCarry T V p q n').1 q (wCarry T V p q n').2
def wNear (T V : sT) (a : Int32) : Nat → Nat → Int32
  | 0, _ => a
  | k + 1, j => if iBit (trG 4 T a) j = 0 then wNear T V a k (j + 1) else if wFar V (nI j) = wFar V a - 1 then nI j else wNear T V a k (j + 1)
def wWalk (T V : sT) : Nat → Nat → Int32 → Int32
  | 0, _, a => a
  | k + 1, j, a => wWalk T V k (j + 1) (wNear T V a (tN T) 0)
def wHandAt (T V : sT) (p i : Int32) : Int32 := if i ≤ wFar V p then wWalk T V (min i.toNatClampNeg 6) 0 p else -5
def wPay (T : sT) (b : Int32) : Int32 := lpSumB (fun j => trG 3 T (nI j)) b 6 0 0
def wTog (V : sT) (b : Int32) : Int32 := lpSumB (fun j => wHeft V (nI j)) b 6 0 0
def wHire (T V : sT) (b : Int32) : Nat → Nat → Int32 → Int32
  | 0, _, x => x
  | k + 1, j, x => wHire T V b k (j + 1) (if b < wPay T (nI j) then x else if wTog V (nI j) ≤ wTog V x then x else nI j)
def wHireF (T V : sT) (b n' : Int32) : Int32 := wHire T (wEach T n' 6 0 V) b (1 <<< (T 10 0 &&& 31) : Int32).toNatClampNeg 0 0
def wLW (V : sT) (s b : Int32) : Int32 := iMin (wBag V (iBits s) b) (wLight V (s ||| (1 <<< (b &&& 31))))
def wB2 (T : sT) (a c r : Int32) : Nat → Nat → Nat → sT → sT
  | 0, _, _, V => V
  | k + 1, j, i, V => wB2 T a c r k (j + 1) i (sA V 3 (upd (V 3) (i * 6 + j) (trWW T r (a + nI j * c))))
def wB1 (T : sT) (a c : Int32) : Nat → Nat → sT → sT
  | 0, _, V => V
  | k + 1, j, V => wB1 T a c k (j + 1) (wB2 T a c (nI j) 6 0 j V)
def wBestL (V : sT) (s : Int32) : Nat → Nat → Int32 → Int32
  | 0, _, x => x
  | k + 1, j, x => wBestL V s k (j + 1) (if iBit s j = 0 then iMax x (wLW V s (nI j)) else x)
/-- the sets from k - 1 down to 0 -/
def wShelL (ev : Int32) (bags : Nat) : Nat → sT → sT
  | 0, V => V
  | k + 1, V => wShelL ev bags k (wPutL V (nI k) (wBestL V (nI k) bags 0 (if nI k = ev then 1000000 else -1)))
def wShel (T V : sT) (a c : Int32) (bags : Nat) : sT := wShelL (nI (2 ^ bags) - 1) bags (2 ^ bags) (wB1 T a c 6 0 V)
def wFirst (V : sT) (s : Int32) : Nat → Nat → Int32
  | 0, _ => 0
  | k + 1, j => if iBit s j = 0 then (if wLW V s (nI j) < wLight V 0 then wFirst V s k (j + 1) else nI j) else wFirst V s k (j + 1)
def wBagOf (V : sT) (bags : Int32) : Nat → Nat → Int32 → Int32 → Int32
  | 0, _, _, tk => tk
  | k + 1, j, s, _ => wBagOf V bags k (j + 1) (s ||| (1 <<< (wFirst V s bags.toNatClampNeg 0 &&& 31))) (wFirst V s bags.toNatClampNeg 0)
