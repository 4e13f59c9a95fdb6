/-! THE CLASS ITSELF: its object and the images' row; what its methods answer. -/
def hgB (x : Nat) (C : sT) (L : Nat → Int64) : ae := aO 11 [.ref (x + 1), .ref (x + 21), .ref (x + 41), .ref (x + 42), .ref (x + 44), .long (L 0), .long (L 1), .int (C 10 0), .int (C 10 1), .int (C 10 2)]
def is_hg (h : ah) (x : Nat) (C : sT) (L : Nat → Int64) (g : Nat → Option Nat) : Prop := h x = some (hgB x C L) ∧ h (x + 41) = some (aR 2 2 g)
theorem hg_c0 {h : ah} {x : Nat} {C : sT} {L : Nat → Int64} {g : Nat → Option Nat} (H : is_hg h x C L g) : h x = some (aO 11 [.ref (x + 1), .ref (x + 21), .ref (x + 41), .ref (x + 42), .ref (x + 44), .long (L 0), .long (L 1), .int (C 10 0), .int (C 10 1), .int (C 10 2)]) := H.1
theorem hg_c41 {h : ah} {x : Nat} {C : sT} {L : Nat → Int64} {g : Nat → Option Nat} (H : is_hg h x C L g) : h (x + 41) = some (aR 2 2 g) := H.2
theorem hg_off {h h' : ah} {x s k : Nat} {C : sT} {L : Nat → Int64} {g : Nat → Option Nat} (H : is_hg h x C L g) (o : ah_off h h' s k) (h1 : x < s ∨ s + k ≤ x) (h2 : x + 41 < s ∨ s + k ≤ x + 41) : is_hg h' x C L g := ⟨(o x h1).trans H.1, (o (x + 41) h2).trans H.2⟩
theorem hg_put {h : ah} {x : Nat} {C C' : sT} {L L' : Nat → Int64} {g : Nat → Option Nat} (H : is_hg h x C L g) {e : ae} (he : e = hgB x C' L') : is_hg (ah_set h x e) x C' L' g := ⟨by rw [ah_set_eq, he], by rw [ah_set_ne h _ (by omega)]; exact H.2⟩
theorem ah_off.set0 {h : ah} {x : Nat} (e : ae) : ah_off h (ah_set h x e) x 1 := fun a ha => ah_set_ne h e (by omega)
theorem aw_pf_hg0 {l : Launch} {E : aw_E} {mi : aw_M} {Z : aw_Zt} {d bc bs pc : Nat} {ls : List (Nat × Value)} {st : List Value} {n : Nat} {h : ah} {x i : Nat} {C : sT} {L : Nat → Int64} {g : Nat → Option Nat} {v : Int32} (hd : decode mi.2.1 pc = .ok (.putfield i, 3)) (hf : aw_fp mi.1.cls i 11 7 false .int) (H : is_hg h x C L g) (kk : ∀ h' : ah, is_hg h' x (sS 10 C 0 v) L g → ah_off h h' x 1 → aw l E mi Z d bc bs (pc + 3) ls st n h') : aw l E mi Z d bc bs pc ls (.int v :: .ref x :: st) n h :=
  aw_put hd hf (hg_c0 H) (Nat.le_of_ble_eq_true rfl) rfl rfl (kk _ (hg_put H rfl) (ah_off.set0 _))
theorem aw_pf_hg1 {l : Launch} {E : aw_E} {mi : aw_M} {Z : aw_Zt} {d bc bs pc : Nat} {ls : List (Nat × Value)} {st : List Value} {n : Nat} {h : ah} {x i : Nat} {C : sT} {L : Nat → Int64} {g : Nat → Option Nat} {v : Int32} (hd : decode mi.2.1 pc = .ok (.putfield i, 3)) (hf : aw_fp mi.1.cls i 11 8 false .int) (H : is_hg h x C L g) (kk : ∀ h' : ah, is_hg h' x (sS 10 C 1 v) L g → ah_off h h' x 1 → aw l E mi Z d bc bs (pc + 3) ls st n h') : aw l E mi Z d bc bs pc ls (.int v :: .ref x :: st) n h :=
  aw_put hd hf (hg_c0 H) (Nat.le_of_ble_eq_true rfl) rfl rfl (kk _ (hg_put H rfl) (ah_off.set0 _))
theorem aw_pf_hg2 {l : Launch} {E : aw_E} {mi : aw_M} {Z : aw_Zt} {d bc bs pc : Nat} {ls : List (Nat × Value)} {st : List Value} {n : Nat} {h : ah} {x i : Nat} {C : sT} {L : Nat → Int64} {g : Nat → Option Nat} {v : Int32} (hd : decode mi.2.1 pc = .ok (.putfield i, 3)) (hf : aw_fp mi.1.cls i 11 9 false .int) (H : is_hg h x C L g) (kk : ∀ h' : ah, is_hg h' x (sS 10 C 2 v) L g → ah_off h h' x 1 → aw l E mi Z d bc bs (pc + 3) ls st n h') : aw l E mi Z d bc bs pc ls (.int v :: .ref x :: st) n h :=
  aw_put hd hf (hg_c0 H) (Nat.le_of_ble_eq_true rfl) rfl rfl (kk _ (hg_put H rfl) (ah_off.set0 _))
theorem aw_pl_hg0 {l : Launch} {E : aw_E} {mi : aw_M} {Z : aw_Zt} {d bc bs pc : Nat} {ls : List (Nat × Value)} {st : List Value} {n : Nat} {h : ah} {x i : Nat} {C : sT} {L : Nat → Int64} {g : Nat → Option Nat} {v : Int64} (hd : decode mi.2.1 pc = .ok (.putfield i, 3)) (hf : aw_fp mi.1.cls i 11 5 false .long) (H : is_hg h x C L g) (kk : ∀ h' : ah, is_hg h' x C (vp_updL L 0 v) g → ah_off h h' x 1 → aw l E mi Z d bc bs (pc + 3) ls st n h') : aw l E mi Z d bc bs pc ls (.long v :: .ref x :: st) n h :=
  aw_put hd hf (hg_c0 H) (Nat.le_of_ble_eq_true rfl) rfl rfl (kk _ (hg_put H rfl) (ah_off.set0 _))
theorem aw_pl_hg1 {l : Launch} {E : aw_E} {mi : aw_M} {Z : aw_Zt} {d bc bs pc : Nat} {ls : List (Nat × Value)} {st : List Value} {n : Nat} {h : ah} {x i : Nat} {C : sT} {L : Nat → Int64} {g : Nat → Option Nat} {v : Int64} (hd : decode mi.2.1 pc = .ok (.putfield i, 3)) (hf : aw_fp mi.1.cls i 11 6 false .long) (H : is_hg h x C L g) (kk : ∀ h' : ah, is_hg h' x C (vp_updL L 1 v) g → ah_off h h' x 1 → aw l E mi Z d bc bs (pc + 3) ls st n h') : aw l E mi Z d bc bs pc ls (.long v :: .ref x :: st) n h :=
  aw_put hd hf (hg_c0 H) (Nat.le_of_ble_eq_true rfl) rfl rfl (kk _ (hg_put H rfl) (ah_off.set0 _))
def hg_post (n : Nat) (h : ah) (x : Nat) (g : Nat → Option Nat) (v : Option Value) (C' : sT) (L' : Nat → Int64) : aw_P := fun r n' h' => v = r ∧ n = n' ∧ is_hg h' x C' L' g ∧ ah_off h h' x 1
abbrev sX : Type := sT × (Nat → Int64) × sT × sT × sT × sT
def is_x (h : ah) (x : Nat) (g : Nat → Option Nat) (X : sX) : Prop := is_hg h x X.1 X.2.1 g ∧ is_tr h (x + 1) X.2.2.1 ∧ is_tr h (x + 21) X.2.2.2.1 ∧ is_rd h (x + 42) X.2.2.2.2.1 ∧ is_wy h (x + 44) X.2.2.2.2.2
def x_post (n : Nat) (h : ah) (x : Nat) (g : Nat → Option Nat) (F : Int32 × sX) : aw_P := fun r n' h' => some (.int F.1) = r ∧ n = n' ∧ is_x h' x g F.2 ∧ ah_off h h' x 49
def xl_post (n : Nat) (h : ah) (x : Nat) (g : Nat → Option Nat) (F : Int64 × sX) : aw_P := fun r n' h' => some (.long F.1) = r ∧ n = n' ∧ is_x h' x g F.2 ∧ ah_off h h' x 49
theorem x_fin {n x : Nat} {h0 h : ah} {g : Nat → Option Nat} {F : Int32 × sX} {v : Int32} {C : sT} {L : Nat → Int64} {T A R V : sT} (e : F = (v, C, L, T, A, R, V)) (hC : is_hg h x C L g) (hT : is_tr h (x + 1) T) (hA : is_tr h (x + 21) A) (hR : is_rd h (x + 42) R) (hW : is_wy h (x + 44) V) (hF : ah_off h0 h x 49) : x_post n h0 x g F (some (.int v)) n h := by
  subst e
  exact ⟨rfl, rfl, ⟨hC, hT, hA, hR, hW⟩, hF⟩
theorem xl_fin {n x : Nat} {h0 h : ah} {g : Nat → Option Nat} {F : Int64 × sX} {v : Int64} {C : sT} {L : Nat → Int64} {T A R V : sT} (e : F = (v, C, L, T, A, R, V)) (hC : is_hg h x C L g) (hT : is_tr h (x + 1) T) (hA : is_tr h (x + 21) A) (hR : is_rd h (x + 42) R) (hW : is_wy h (x + 44) V) (hF : ah_off h0 h x 49) : xl_post n h0 x g F (some (.long v)) n h := by
  subst e
  exact ⟨rfl, rfl, ⟨hC, hT, hA, hR, hW⟩, hF⟩
theorem tbl_out {x : Int32} (N : Nat) (hN : N < 100) (hx : ∀ j, j ≤ N → x ≠ nI j) : x.toInt < 0 ∨ (N : Int) < x.toInt := by
  rcases Int.lt_or_le x.toInt 0 with q | q
  · exact Or.inl q
  · right
    rcases Int.lt_or_le (N : Int) x.toInt with q2 | q2
    · exact q2
    · exfalso
      refine hx x.toInt.toNat (by omega) ?_
      rw [fa_eq, nI_toInt (by omega)]
      omega
theorem lg_cmp_ne {x : Int64} (h : ¬ lg_cmp x 0 = 0) : ¬ x = 0 := by
  intro e
  subst e
  exact h (by decide)
theorem lg_cmp_pos {x : Int64} (h : ¬ lg_cmp x 0 ≤ 0) : ¬ x = 0 := by
  intro e
  subst e
  exact h (by decide)
def iW (v a b : Int32) : Int32 := if v < a then 0 else if b < v then 0 else 1
def x2 (T : sT) (p q : Int32) : Int32 := if trIs T p = 0 then 0 else if trIs T q = 0 then 0 else if p = q then 0 else 1
def xB (C : sT) : sT := sS 10 C 0 (C 10 0 + 1)
def xN (C : sT) : sT := sS 10 C 1 (C 10 1 + 1)
def xU (C : sT) : sT := sS 10 C 2 (C 10 2 + 1)
def iCon (t l o : Int32) : Int32 := if o = 0 then (if l = 0 then (if t < 3 then 0 else 1) else (if (3 : Int32) < t then 0 else 1)) else (if l = 0 then (if t < 1 then 0 else 1) else (if (1 : Int32) < t then 0 else 1))
def xCnt (T R : sT) (w : Int32) : Int32 := if w = 0 then T 10 0 else if w = 1 then T 10 1 else if w = 2 then trAllP T else if w = 3 then iBits (T 10 2) else if w = 4 then T 10 3 else if w = 5 then T 10 4 else R 10 0
section XS
variable (C : sT) (L : Nat → Int64) (T A R V : sT)
def xBad : Int32 × sX := (-2, xB C, L, T, A, R, V)
def xTen : Int32 × sX := (-10, xB C, L, T, A, R, V)
def xNo : Int32 × sX := (-3, xN C, L, T, A, R, V)
def xFul : Int32 × sX := (-4, xU C, L, T, A, R, V)
def xGold : Int32 × sX := (T 10 0, C, L, trEmpty T, A, R, V)
def xOne (k h' n' p' : Int32) : Int32 × sX := if iW k 0 5 = 0 then xBad C L T A R V else if iW h' 0 12 = 0 then xBad C L T A R V else if iW n' 0 30 = 0 then xBad C L T A R V else if iW p' 0 20 = 0 then xBad C L T A R V else if T 10 0 < 6 then (T 10 0, C, L, trJoin (sS 10 T 4 0) k h' n' p', A, R, V) else xFul C L T A R V
def xHands (p q i : Int32) : Int32 × sX := if x2 T p q = 0 then xBad C L T A R V else if iW i 0 1 = 0 then xBad C L T A R V else
  if i = 1 then (if trG 4 T p &&& (1 <<< (q &&& 31)) = 0 then (0, C, L, trHands (sS 10 T 4 0) p (trG 4 T p ||| (1 <<< (q &&& 31))), A, R, V) else (1, C, L, trHands (sS 10 T 4 0) p (trG 4 T p ||| (1 <<< (q &&& 31))), A, R, V))
  else (if trG 4 T p &&& (1 <<< (q &&& 31)) = 0 then (0, C, L, trHands (sS 10 T 4 0) p (trG 4 T p &&& ((1 <<< (q &&& 31)) ^^^ (-1))), A, R, V) else (1, C, L, trHands (sS 10 T 4 0) p (trG 4 T p &&& ((1 <<< (q &&& 31)) ^^^ (-1))), A, R, V))
def xType (c : Int32) : Int32 × sX := if iW c 0 127 = 0 then xBad C L T A R V else if R 10 0 < 150 then (R 10 0 + 1, C, L, T, A, sS 10 (sA R 0 (upd (R 0) (R 10 0).toNatClampNeg c)) 0 (R 10 0 + 1), V) else xFul C L T A R V
def xClear : Int32 × sX := (R 10 0, C, L, T, A, sS 10 R 0 0, V)
def xRead : Int32 × sX := if (rRead R A).1.1 10 5 < 0 then ((rRead R A).2, C, L, trCopyF (rRead R A).1.2 T, (rRead R A).1.2, (rRead R A).1.1, V) else ((-10) - (rRead R A).1.1 10 5, C, L, T, (rRead R A).1.2, (rRead R A).1.1, V)
def xLie (p s : Int32) : Int32 × sX := if trIs T p = 0 then xBad C L T A R V else if iW s 1 4 = 0 then xBad C L T A R V else (trG 1 (trLie (trKeep T) p s) p, C, L, trLie (trKeep T) p s, A, R, V)
def xGive (p q m : Int32) : Int32 × sX := if x2 T p q = 0 then xBad C L T A R V else if iW m 1 99 = 0 then xBad C L T A R V else if trG 4 T p &&& (1 <<< (q &&& 31)) = 0 then xNo C L T A R V else if m ≤ trG 2 T p then (trG 2 (trHandOn (trKeep T) p q m) p, C, L, trHandOn (trKeep T) p q m, A, R, V) else xNo C L T A R V
def xDay : Int32 × sX := (trPassDay (trKeep T) 10 1, C, L, trPassDay (trKeep T), A, R, V)
def xUndo : Int32 × sX := if T 10 4 = 0 then xNo C L T A R V else (trBack T 10 1, C, L, trBack T, A, R, V)
def xOf (p w : Int32) : Int32 × sX := if trIs T p = 0 then xBad C L T A R V else if w = 0 then (trG 0 T p, C, L, T, A, R, V) else if w = 1 then (trG 1 T p, C, L, T, A, R, V) else if w = 2 then (trG 2 T p, C, L, T, A, R, V) else if w = 3 then (trG 3 T p, C, L, T, A, R, V) else if w = 4 then (trLied T p, C, L, T, A, R, V) else if w = 5 then (trG 4 T p, C, L, T, A, R, V) else if w = 6 then (trOwn T p, C, L, T, A, R, V) else xBad C L T A R V
def xWeighs (p m : Int32) : Int32 × sX := if trIs T p = 0 then xBad C L T A R V else if iW m 0 99 = 0 then xBad C L T A R V else (trWW T p m, C, L, T, A, R, V)
def xAll : Int32 × sX := (trAllW T, C, L, T, A, R, V)
def xWhen (p w : Int32) : Int32 × sX := if trIs T p = 0 then xBad C L T A R V else if iW w 0 999 = 0 then xBad C L T A R V else (trDays T p w, C, L, T, A, R, V)
def xDebt (p w : Int32) : Int32 × sX := if trIs T p = 0 then xBad C L T A R V else if iW w 0 999 = 0 then xBad C L T A R V else (trFew T p w, C, L, T, A, R, V)
def xBag (p q m i : Int32) : Int32 × sX := if x2 T p q = 0 then xTen C L T A R V else if iW m 0 99 = 0 then xTen C L T A R V else if -1 ≤ i then
  (if (wCarry T V p q m).2 = -1 then ((wCarry T V p q m).2, C, L, T, A, R, wCarryS T V p q m) else if i = -1 then ((wCarry T V p q m).2, C, L, T, A, R, wCarryS T V p q m) else (wHandAt T (wCarryS T V p q m) p i, C, L, T, A, R, wCarryS T V p q m)) else xTen C L T A R V
def xHire (b m w : Int32) : Int32 × sX := if iW b 0 120 = 0 then xBad C L T A R V else if iW m 0 99 = 0 then xBad C L T A R V else if iW w 0 1 = 0 then xBad C L T A R V else
  if w = 0 then (wHireF T V b m, C, L, T, A, R, wEach T m 6 0 V) else (wTog (wEach T m 6 0 V) (wHireF T V b m), C, L, T, A, R, wEach T m 6 0 V)
def xShelOk (a c p : Int32) (m : Nat) : Int32 × sX := if p = -1 then ((if nI m = 0 then 0 else wLight (wShel T V a c m) 0), C, L, T, A, R, wShel T V a c m) else (wBagOf (wShel T V a c m) (T 10 0) (min (p.toNatClampNeg + 1) 6) 0 0 0, C, L, T, A, R, wShel T V a c m)
def xShelves (a c p : Int32) (m : Nat) : Int32 × sX := if iW a 0 20 = 0 then xTen C L T A R V else if iW c 0 9 = 0 then xTen C L T A R V else if p = -1 then xShelOk C L T A R V a c p m else if trIs T p = 0 then xTen C L T A R V else xShelOk C L T A R V a c p m
def xNote (p m w d' : Int32) : Int32 × sX := if trIs T p = 0 then xBad C L T A R V else if iW m 0 99 = 0 then xBad C L T A R V else if iW w 0 2000 = 0 then xBad C L T A R V else if iW d' 0 99 = 0 then xBad C L T A R V else if T 10 3 < 6 then (T 10 3 + 1, C, L, nAddS T p m w d', A, R, V) else xFul C L T A R V
def xForget : Int32 × sX := (T 10 3, C, L, sS 10 T 3 0, A, R, V)
def xIs (p w : Int32) : Int32 × sX := if trIs T p = 0 then xBad C L T A R V else if iW w 0 1 = 0 then xBad C L T A R V else if w = 0 then (nKinds T p, C, L, T, A, R, V) else (nHons T p, C, L, T, A, R, V)
def xNext (p : Int32) : Int32 × sX := if trIs T p = 0 then xBad C L T A R V else (nBestW (T 10 1) (nKinds T p) (trG 1 T p), C, L, T, A, R, V)
def xTwS (ta tb : Int32) (j : Nat) (r l o : Int32) : Int32 := if iCon ta l o = 0 then r else if iCon tb o l = 0 then r else r ||| (1 <<< (nI j &&& 31))
def xTwL (ta tb : Int32) : Nat → Nat → Int32 → Int32
  | 0, _, r => r
  | k + 1, j, r => xTwL ta tb k (j + 1) (if nI j &&& 1 = 0 then (if nI j &&& 2 = 0 then xTwS ta tb j r 0 0 else xTwS ta tb j r 0 1) else (if nI j &&& 2 = 0 then xTwS ta tb j r 1 0 else xTwS ta tb j r 1 1))
def xTwo (a b : Int32) : Int32 × sX := if x2 T a b = 0 then xBad C L T A R V else (xTwL (trTruth T a) (trTruth T b) 4 0 0, C, L, T, A, R, V)
def xWiL (w c : Int32) : Nat → Nat → Int32 → Int32
  | 0, _, s => s
  | k + 1, j, s => xWiL w c k (j + 1) (s + (if w ≤ trOwn T (nI j) then 10 else 10 - c) * trG 2 T (nI j))
def kFrac : Nat → Nat → Int64 → Int64 → Int64
  | 0, _, a, _ => a
  | k + 1, j, a, b => if lg_cmp b 0 = 0 then a else kFrac k (j + 1) b (a - a / b * b)
def kFracL (o u : Int64) : Nat → Int64 := if lg_cmp (kFrac 100 0 o u) 0 ≤ 0 then L else vp_updL (vp_updL L 0 (o / kFrac 100 0 o u)) 1 (u / kFrac 100 0 o u)
def xWinds (w c : Int32) : Int32 × sX := if iW w 0 999 = 0 then xBad C L T A R V else if iW c 0 10 = 0 then xBad C L T A R V else (1, C, kFracL L (xWiL T w c (T 10 0).toNatClampNeg 0 0).toInt64 10, T, A, R, V)
def yX (x : Int64) : Int64 := (x * 1103515245 + 12345) - (x * 1103515245 + 12345) / 2147483648 * 2147483648
def yP (x : Int64) : Int32 := (x / 65536 - x / 65536 / 6 * 6).toInt32
def yS (x : Int64) : Int32 := (x / 1048576 - x / 1048576 / 5 * 5).toInt32
def xYrL : Nat → Nat → Int64 → sT → sT
  | 0, _, _, A => A
  | k + 1, j, x, A => if yS (yX x) = 0 then xYrL k (j + 1) (yX x) (trPassDay A) else xYrL k (j + 1) (yX x) (trPassDay (trLie A (yP (yX x)) (yS (yX x))))
def xYears (s m : Int32) : Int32 × sX := if iW s 0 999999 = 0 then xBad C L T A R V else if iW m 0 60 = 0 then xBad C L T A R V else (trAllW (xYrL m.toNatClampNeg 0 s.toInt64 (trCopyF T A)), C, L, T, xYrL m.toNatClampNeg 0 s.toInt64 (trCopyF T A), R, V)
def xPart (w : Int32) : Int64 × sX := if w = 0 then (L 0, C, L, T, A, R, V) else if w = 1 then (L 1, C, L, T, A, R, V) else ((-2 : Int32).toInt64, xB C, L, T, A, R, V)
def xStatus (w : Int32) : Int32 × sX := if w = 0 then (C 10 0, C, L, T, A, R, V) else if w = 1 then (C 10 1, C, L, T, A, R, V) else if w = 2 then (C 10 2, C, L, T, A, R, V) else (-1, xB C, L, T, A, R, V)
def xCount (w : Int32) : Int32 × sX := if iW w 0 6 = 0 then xBad C L T A R V else (xCnt T R w, C, L, T, A, R, V)
def xDgL : Nat → Nat → Int64 → Int64
  | 0, _, x => x
  | k + 1, j, x => xDgL k (j + 1) (31 * x + (xCnt T R (nI j)).toInt64)
def xDigest : Int64 × sX := (31 * (31 * trMixF T (xDgL T R 7 0 1307) + L 0) + L 1, C, L, T, A, R, V)
end XS
