/-! THE READER, as functions of its state. -/
def rL (R : sT) : Nat := (R 10 0).toNatClampNeg
def rE (R : sT) : Nat := (R 10 2).toNatClampNeg
def rOk (R : sT) : Prop := R 10 0 = nI (rL R) ∧ rL R ≤ 150 ∧ R 10 2 = nI (rE R) ∧ rE R ≤ rL R
def rd_post (n : Nat) (h : ah) (r : Nat) (v : Option Value) (R' : sT) : aw_P := fun r' n' h' => v = r' ∧ n = n' ∧ is_rd h' r R' ∧ ah_off h h' r 2
def rByte (R : sT) (i : Int32) : Int32 := if i < 0 then -1 else if R 10 0 ≤ i then -1 else if 150 ≤ i then -1 else R 0 i.toNatClampNeg
def rRun (R : sT) (lo hi : Int32) : Nat → Nat → Nat
  | 0, j => j
  | k + 1, j => if rByte R (nI j) < lo then j else if hi < rByte R (nI j) then j else rRun R lo hi k (j + 1)
def rNum (R : sT) (s e : Int32) : Int32 := if e - s = 1 then rByte R (e - 1) - 48 else if e - s = 2 then 10 * (rByte R s - 48) + (rByte R (e - 1) - 48) else -1
def rStart (R : sT) : Nat := rRun R 32 32 (rL R - rE R) (rE R)
def rSt1 (R : sT) : sT := sS 10 R 1 (nI (rStart R))
def rFst (R : sT) : Int32 := rByte (rSt1 R) (nI (rStart R))
def rStA (R : sT) : sT := sS 10 (sS 10 (rSt1 R) 3 0) 2 (nI (rStart R))
def rStB (R : sT) : sT := sS 10 (sS 10 (rSt1 R) 3 1) 2 (nI (rRun (sS 10 (rSt1 R) 3 1) 97 122 (rL R - rStart R) (rStart R)))
def rStC1 (R : sT) : sT := sS 10 (sS 10 (rSt1 R) 3 2) 2 (nI (rRun (sS 10 (rSt1 R) 3 2) 48 57 (rL R - rStart R) (rStart R)))
def rStC (R : sT) : sT := sS 10 (rStC1 R) 4 (rNum (rStC1 R) (rStC1 R 10 1) (rStC1 R 10 2))
def rStO (R : sT) : sT := sS 10 (sS 10 (rSt1 R) 3 (if rFst R = 59 then 3 else 4)) 2 (nI (rStart R) + 1)
def rStD (R : sT) : sT := if rFst R < 48 then rStO R else if 57 < rFst R then rStO R else rStC R
def rStep (R : sT) : sT := if rFst R = -1 then rStA R else if rFst R < 97 then rStD R else if 122 < rFst R then rStD R else rStB R
def rFail (R : sT) : sT := if R 10 5 = -1 then sS 10 R 5 (R 10 1) else R
def rTn1 (R : sT) (lo hi : Int32) : sT := if R 10 3 = 2 then (if R 10 4 < lo then rFail R else if R 10 4 ≤ hi then R else rFail R) else rFail R
def rTnS (R : sT) (lo hi : Int32) : sT := if rTn1 R lo hi 10 5 = -1 then rStep (rTn1 R lo hi) else rTn1 R lo hi
def rTnV (R : sT) (lo hi : Int32) : Int32 := if rTn1 R lo hi 10 5 = -1 then rTn1 R lo hi 10 4 else 0
def rTs1 (R : sT) : sT := if R 10 3 = 3 then R else rFail R
def rTs (R : sT) : sT := if rTs1 R 10 5 = -1 then rStep (rTs1 R) else rTs1 R
def rIsW (R : sT) (i : Nat) : Int32 := if R 10 3 = 1 then (if R 10 2 - R 10 1 = nI (kLen.getD i 0) then lpAll (fun j => rByte R (R 10 1 + nI j) = (kByt.getD i []).getD j 0) (kLen.getD i 0) 0 else 0) else 0
def rTg (R : sT) : sT := if rIsW R 0 = 0 then rFail R else rTs (rStep R)
theorem rRun_ge (R : sT) (lo hi : Int32) : ∀ k j, j ≤ rRun R lo hi k j
  | 0, j => Nat.le_refl j
  | k + 1, j => by
    unfold rRun
    by_cases h1 : rByte R (nI j) < lo
    · rw [if_pos h1]; exact Nat.le_refl j
    · rw [if_neg h1]
      by_cases h2 : hi < rByte R (nI j)
      · rw [if_pos h2]; exact Nat.le_refl j
      · rw [if_neg h2]
        exact Nat.le_trans (Nat.le_succ j) (rRun_ge R lo hi k (j + 1))
theorem rRun_le (R : sT) (lo hi : Int32) : ∀ k j, rRun R lo hi k j ≤ j + k
  | 0, j => Nat.le_refl j
  | k + 1, j => by
    unfold rRun
    by_cases h1 : rByte R (nI j) < lo
    · rw [if_pos h1]; omega
    · rw [if_neg h1]
      by_cases h2 : hi < rByte R (nI j)
      · rw [if_pos h2]; omega
      · rw [if_neg h2]
        have := rRun_le R lo hi k (j + 1)
        omega
theorem rStart_le {R : sT} (h : rOk R) : rStart R ≤ rL R := by
  have := rRun_le R 32 32 (rL R - rE R) (rE R)
  have := h.2.2.2
  unfold rStart
  omega
theorem rOk_of {R R' : sT} (h : rOk R) (e0 : R' 10 0 = R 10 0) {m : Nat} (e2 : R' 10 2 = nI m) (hm : m ≤ rL R) : rOk R' := by
  have hL : rL R' = rL R := congrArg Int32.toNatClampNeg e0
  have hE : rE R' = m := by
    unfold rE
    rw [e2, nI_clamp (by have := h.2.1; omega)]
  refine ⟨by rw [hL, e0]; exact h.1, by rw [hL]; exact h.2.1, by rw [hE]; exact e2, by rw [hE, hL]; exact hm⟩
theorem rFst_lt {R : sT} (h : rOk R) (hf : ¬ rFst R = -1) : rStart R < rL R := by
  rcases Nat.lt_or_ge (rStart R) (rL R) with q | q
  · exact q
  · exfalso
    apply hf
    have h150 := h.2.1
    have hs := rStart_le h
    unfold rFst rByte
    rw [if_neg (nI_pos (by omega))]
    refine if_pos ?_
    show R 10 0 ≤ nI (rStart R)
    rw [h.1]
    exact nI_le q (by omega)
theorem rOk_step {R : sT} (h : rOk R) : rOk (rStep R) := by
  have hs := rStart_le h
  unfold rStep
  by_cases h1 : rFst R = -1
  · rw [if_pos h1]; exact rOk_of h rfl (m := rStart R) rfl hs
  · have hlt := rFst_lt h h1
    have hO : rOk (rStO R) := rOk_of h rfl (m := rStart R + 1) (nI_1 _) hlt
    have hD : rOk (rStD R) := by
      unfold rStD
      by_cases h2 : rFst R < 48
      · rw [if_pos h2]; exact hO
      · rw [if_neg h2]
        by_cases h3 : 57 < rFst R
        · rw [if_pos h3]; exact hO
        · rw [if_neg h3]
          exact rOk_of h rfl (m := rRun (sS 10 (rSt1 R) 3 2) 48 57 (rL R - rStart R) (rStart R)) rfl (by have := rRun_le (sS 10 (rSt1 R) 3 2) 48 57 (rL R - rStart R) (rStart R); omega)
    rw [if_neg h1]
    by_cases h2 : rFst R < 97
    · rw [if_pos h2]; exact hD
    · rw [if_neg h2]
      by_cases h3 : 122 < rFst R
      · rw [if_pos h3]; exact hD
      · rw [if_neg h3]
        exact rOk_of h rfl (m := rRun (sS 10 (rSt1 R) 3 1) 97 122 (rL R - rStart R) (rStart R)) rfl (by have := rRun_le (sS 10 (rSt1 R) 3 1) 97 122 (rL R - rStart R) (rStart R); omega)
theorem rOk_fail {R : sT} (h : rOk R) : rOk (rFail R) := by
  unfold rFail
  by_cases h1 : R 10 5 = -1
  · rw [if_pos h1]; exact h
  · rw [if_neg h1]; exact h
theorem rOk_tn1 {R : sT} (h : rOk R) (lo hi : Int32) : rOk (rTn1 R lo hi) := by
  have hf := rOk_fail h
  unfold rTn1
  by_cases h1 : R 10 3 = 2
  · rw [if_pos h1]
    by_cases h2 : R 10 4 < lo
    · rw [if_pos h2]; exact hf
    · rw [if_neg h2]
      by_cases h3 : R 10 4 ≤ hi
      · rw [if_pos h3]; exact h
      · rw [if_neg h3]; exact hf
  · rw [if_neg h1]; exact hf
theorem rOk_tn {R : sT} (h : rOk R) (lo hi : Int32) : rOk (rTnS R lo hi) := by
  have h1 := rOk_tn1 h lo hi
  unfold rTnS
  by_cases h2 : rTn1 R lo hi 10 5 = -1
  · rw [if_pos h2]; exact rOk_step h1
  · rw [if_neg h2]; exact h1
theorem rOk_tnH {h : ah} {r : Nat} {R : sT} {lo hi : Int32} (_ : is_rd h r (rTnS R lo hi)) (h : rOk R) : rOk (rTnS R lo hi) := rOk_tn h lo hi
theorem rOk_ts {R : sT} (h : rOk R) : rOk (rTs R) := by
  have h1 : rOk (rTs1 R) := by
    unfold rTs1
    by_cases h2 : R 10 3 = 3
    · rw [if_pos h2]; exact h
    · rw [if_neg h2]; exact rOk_fail h
  unfold rTs
  by_cases h2 : rTs1 R 10 5 = -1
  · rw [if_pos h2]; exact rOk_step h1
  · rw [if_neg h2]; exact h1
theorem rOk_tg {R : sT} (h : rOk R) : rOk (rTg R) := by
  unfold rTg
  by_cases h2 : rIsW R 0 = 0
  · rw [if_pos h2]; exact rOk_fail h
  · rw [if_neg h2]; exact rOk_ts (rOk_step h)
-- items
def rt_post (n : Nat) (h : ah) (r t : Nat) (v : Option Value) (R' T' : sT) : aw_P := fun r' n' h' => v = r' ∧ n = n' ∧ is_rd h' r R' ∧ is_tr h' t T' ∧ ∀ a : Nat, (a < t ∨ t + 20 ≤ a) → (a < r ∨ r + 2 ≤ a) → h' a = h a
def o1 (R : sT) : sT := rStep R
def o2 (R : sT) : sT := rTnS (o1 R) 0 5
def o3 (R : sT) : sT := rTnS (o2 R) 0 12
def o4 (R : sT) : sT := rTnS (o3 R) 0 30
def o5 (R : sT) : sT := rTnS (o4 R) 0 20
def rOneR (R : sT) : sT := rTs (o5 R)
def rOneT (R T : sT) : sT := trJoin T (rTnV (o1 R) 0 5) (rTnV (o2 R) 0 12) (rTnV (o3 R) 0 30) (rTnV (o4 R) 0 20)
def rThL (last p : Int32) : Nat → Nat → sT → Int32 → sT × Int32
  | 0, _, R, b => (R, b)
  | k + 1, j, R, b => if R 10 5 = -1 then (if R 10 3 = 2 then (if R 10 4 = p then rThL last p k (j + 1) (rFail R) b else rThL last p k (j + 1) (rTnS R 0 last) (b ||| (1 <<< (rTnV R 0 last &&& 31)))) else (R, b)) else (R, b)
def rHanP (R T : sT) : Int32 := rTnV (rStep R) 0 (T 10 0 - 1)
def rHanL (R T : sT) : sT × Int32 := rThL (T 10 0 - 1) (rHanP R T) 150 0 (rTnS (rStep R) 0 (T 10 0 - 1)) 0
def rHanR (R T : sT) : sT := rTs (rHanL R T).1
def rHanT (R T : sT) : sT := trHands T (rHanP R T) (rHanL R T).2
def l2 (R T : sT) : sT := rTnS (rStep R) 0 (T 10 0 - 1)
def l3 (R T : sT) : sT := rTnS (l2 R T) 1 4
def rLieR (R T : sT) : sT := rTs (l3 R T)
def rLieT (R T : sT) : sT := trLie T (rTnV (rStep R) 0 (T 10 0 - 1)) (rTnV (l2 R T) 1 4)
def rItem2 (R T : sT) : sT × sT := if rIsW R 2 = 0 then (if rIsW R 3 = 0 then (rFail R, T) else (rLieR R T, rLieT R T)) else (rHanR R T, rHanT R T)
def rItem (R T : sT) : sT × sT := if rIsW R 1 = 0 then rItem2 R T else if 6 ≤ T 10 0 then rItem2 R T else (rOneR R, rOneT R T)
def rItems : Nat → Nat → sT → sT → Int32 → (sT × sT) × Int32
  | 0, _, R, T, x => ((R, T), x)
  | k + 1, j, R, T, x => if R 10 5 = -1 then (if R 10 3 = 0 then ((R, T), x) else rItems k (j + 1) (rItem R T).1 (rItem R T).2 (x + 1)) else ((R, T), x)
def rBeg (R : sT) : sT := rTg (rStep (sS 10 (sS 10 R 5 (-1)) 2 0))
def rRead (R T : sT) : (sT × sT) × Int32 := rItems 150 0 (rBeg R) (trEmpty T) 1
