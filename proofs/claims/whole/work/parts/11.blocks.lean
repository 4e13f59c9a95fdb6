/-! THE STATES: numbered rows of numbers; the blocks of cells that hold them. -/
abbrev sT : Type := Nat → Nat → Int32
/-- scalar i of the rows: row sc -/
def sS (sc : Nat) (S : sT) (i : Nat) (v : Int32) : sT := va_up S sc (upd (S sc) i v)
/-- row k becomes f -/
def sA (S : sT) (k : Nat) (f : Nat → Int32) : sT := va_up S k f
/-- whose weights: the objects of the kinds -/
def trKd (t : Nat) : Nat → Option Nat
  | 0 => some (t + 1)
  | 1 => some (t + 3)
  | 2 => some (t + 4)
  | 3 => some (t + 5)
  | 4 => some (t + 6)
  | 5 => some (t + 7)
  | _ => none
/-- a Treasury with all that is in it, at t: rows 0 kind, 1 honesty, 2 pieces, 3 pay, 4 hands, 5 who, 6 pieces, 7 weight, 8 day of the notes, 9 what may be undone; row 10: people, day, lied, notes, steps -/
def trB (t : Nat) (S : sT) : Nat → Option ae
  | 0 => some (aO 9 [.ref (t + 1), .ref (t + 2), .ref (t + 8), .ref (t + 9), .ref (t + 10), .ref (t + 11), .ref (t + 12), .ref (t + 13), .ref (t + 18), .int (S 10 0), .int (S 10 1), .int (S 10 2)])
  | 1 => some (aO 6 [])
  | 2 => some (aR 1 6 (trKd t))
  | 3 => some (aO 1 [])
  | 4 => some (aO 2 [])
  | 5 => some (aO 8 [])
  | 6 => some (aO 3 [])
  | 7 => some (aO 0 [])
  | 8 => some (aI 6 (S 0))
  | 9 => some (aI 6 (S 1))
  | 10 => some (aI 6 (S 2))
  | 11 => some (aI 6 (S 3))
  | 12 => some (aI 6 (S 4))
  | 13 => some (aO 4 [.ref (t + 14), .ref (t + 15), .ref (t + 16), .ref (t + 17), .int (S 10 3)])
  | 14 => some (aI 6 (S 5))
  | 15 => some (aI 6 (S 6))
  | 16 => some (aI 6 (S 7))
  | 17 => some (aI 6 (S 8))
  | 18 => some (aO 5 [.ref (t + 19), .int (S 10 4)])
  | 19 => some (aI 112 (S 9))
  | _ => none
def is_tr (h : ah) (t : Nat) (S : sT) : Prop := ∀ j, j < 20 → h (t + j) = trB t S j
theorem tr_c0 {h : ah} {t : Nat} {S : sT} (H : is_tr h t S) : h (t) = some (aO 9 [.ref (t + 1), .ref (t + 2), .ref (t + 8), .ref (t + 9), .ref (t + 10), .ref (t + 11), .ref (t + 12), .ref (t + 13), .ref (t + 18), .int (S 10 0), .int (S 10 1), .int (S 10 2)]) := H 0 (by decide)
theorem tr_c1 {h : ah} {t : Nat} {S : sT} (H : is_tr h t S) : h (t + 1) = some (aO 6 []) := H 1 (by decide)
theorem tr_c2 {h : ah} {t : Nat} {S : sT} (H : is_tr h t S) : h (t + 2) = some (aR 1 6 (trKd t)) := H 2 (by decide)
theorem tr_c3 {h : ah} {t : Nat} {S : sT} (H : is_tr h t S) : h (t + 3) = some (aO 1 []) := H 3 (by decide)
theorem tr_c4 {h : ah} {t : Nat} {S : sT} (H : is_tr h t S) : h (t + 4) = some (aO 2 []) := H 4 (by decide)
theorem tr_c5 {h : ah} {t : Nat} {S : sT} (H : is_tr h t S) : h (t + 5) = some (aO 8 []) := H 5 (by decide)
theorem tr_c6 {h : ah} {t : Nat} {S : sT} (H : is_tr h t S) : h (t + 6) = some (aO 3 []) := H 6 (by decide)
theorem tr_c7 {h : ah} {t : Nat} {S : sT} (H : is_tr h t S) : h (t + 7) = some (aO 0 []) := H 7 (by decide)
theorem tr_c8 {h : ah} {t : Nat} {S : sT} (H : is_tr h t S) : h (t + 8) = some (aI 6 (S 0)) := H 8 (by decide)
theorem tr_c9 {h : ah} {t : Nat} {S : sT} (H : is_tr h t S) : h (t + 9) = some (aI 6 (S 1)) := H 9 (by decide)
theorem tr_c10 {h : ah} {t : Nat} {S : sT} (H : is_tr h t S) : h (t + 10) = some (aI 6 (S 2)) := H 10 (by decide)
theorem tr_c11 {h : ah} {t : Nat} {S : sT} (H : is_tr h t S) : h (t + 11) = some (aI 6 (S 3)) := H 11 (by decide)
theorem tr_c12 {h : ah} {t : Nat} {S : sT} (H : is_tr h t S) : h (t + 12) = some (aI 6 (S 4)) := H 12 (by decide)
theorem tr_c13 {h : ah} {t : Nat} {S : sT} (H : is_tr h t S) : h (t + 13) = some (aO 4 [.ref (t + 14), .ref (t + 15), .ref (t + 16), .ref (t + 17), .int (S 10 3)]) := H 13 (by decide)
theorem tr_c14 {h : ah} {t : Nat} {S : sT} (H : is_tr h t S) : h (t + 14) = some (aI 6 (S 5)) := H 14 (by decide)
theorem tr_c15 {h : ah} {t : Nat} {S : sT} (H : is_tr h t S) : h (t + 15) = some (aI 6 (S 6)) := H 15 (by decide)
theorem tr_c16 {h : ah} {t : Nat} {S : sT} (H : is_tr h t S) : h (t + 16) = some (aI 6 (S 7)) := H 16 (by decide)
theorem tr_c17 {h : ah} {t : Nat} {S : sT} (H : is_tr h t S) : h (t + 17) = some (aI 6 (S 8)) := H 17 (by decide)
theorem tr_c18 {h : ah} {t : Nat} {S : sT} (H : is_tr h t S) : h (t + 18) = some (aO 5 [.ref (t + 19), .int (S 10 4)]) := H 18 (by decide)
theorem tr_c19 {h : ah} {t : Nat} {S : sT} (H : is_tr h t S) : h (t + 19) = some (aI 112 (S 9)) := H 19 (by decide)
theorem tr_off {h h' : ah} {t s k : Nat} {S : sT} (H : is_tr h t S) (o : ah_off h h' s k) (hd : t + 20 ≤ s ∨ s + k ≤ t) : is_tr h' t S := fun j hj => (o (t + j) (by omega)).trans (H j hj)
theorem tr_s0 {h : ah} {t : Nat} {S : sT} {v : Int32} (H : is_tr h t S) : is_tr (ah_set h (t + 0) (aO 9 [.ref (t + 1), .ref (t + 2), .ref (t + 8), .ref (t + 9), .ref (t + 10), .ref (t + 11), .ref (t + 12), .ref (t + 13), .ref (t + 18), .int v, .int (S 10 1), .int (S 10 2)])) t (sS 10 S 0 v) := by
  intro j hj
  by_cases hq : j = 0
  · subst hq
    rw [ah_set_eq]; rfl
  · rw [ah_set_ne h _ (by omega), H j hj]
    exact (match j, hj, hq with
    | 0, _, hne => absurd rfl hne
    | 1, _, hne => rfl
    | 2, _, hne => rfl
    | 3, _, hne => rfl
    | 4, _, hne => rfl
    | 5, _, hne => rfl
    | 6, _, hne => rfl
    | 7, _, hne => rfl
    | 8, _, hne => rfl
    | 9, _, hne => rfl
    | 10, _, hne => rfl
    | 11, _, hne => rfl
    | 12, _, hne => rfl
    | 13, _, hne => rfl
    | 14, _, hne => rfl
    | 15, _, hne => rfl
    | 16, _, hne => rfl
    | 17, _, hne => rfl
    | 18, _, hne => rfl
    | 19, _, hne => rfl
    | j + 20, hj, _ => absurd hj (by omega))
theorem aw_pf_tr0 {l : Launch} {E : aw_E} {mi : aw_M} {Z : aw_Zt} {d bc bs pc : Nat} {ls : List (Nat × Value)} {st : List Value} {n : Nat} {h : ah} {t i : Nat} {S : sT} {v : Int32} (hd : decode mi.2.1 pc = .ok (.putfield i, 3)) (hf : aw_fp mi.1.cls i 9 9 false .int) (H : is_tr h t S) (kk : ∀ h' : ah, is_tr h' t (sS 10 S 0 v) → ah_off h h' t 20 → aw l E mi Z d bc bs (pc + 3) ls st n h') : aw l E mi Z d bc bs pc ls (.int v :: .ref (t) :: st) n h :=
  aw_put hd hf (tr_c0 H) (Nat.le_of_ble_eq_true rfl) rfl rfl (kk _ (tr_s0 H) (ah_off.set (j := 0) _ (by decide)))
theorem tr_s1 {h : ah} {t : Nat} {S : sT} {v : Int32} (H : is_tr h t S) : is_tr (ah_set h (t + 0) (aO 9 [.ref (t + 1), .ref (t + 2), .ref (t + 8), .ref (t + 9), .ref (t + 10), .ref (t + 11), .ref (t + 12), .ref (t + 13), .ref (t + 18), .int (S 10 0), .int v, .int (S 10 2)])) t (sS 10 S 1 v) := by
  intro j hj
  by_cases hq : j = 0
  · subst hq
    rw [ah_set_eq]; rfl
  · rw [ah_set_ne h _ (by omega), H j hj]
    exact (match j, hj, hq with
    | 0, _, hne => absurd rfl hne
    | 1, _, hne => rfl
    | 2, _, hne => rfl
    | 3, _, hne => rfl
    | 4, _, hne => rfl
    | 5, _, hne => rfl
    | 6, _, hne => rfl
    | 7, _, hne => rfl
    | 8, _, hne => rfl
    | 9, _, hne => rfl
    | 10, _, hne => rfl
    | 11, _, hne => rfl
    | 12, _, hne => rfl
    | 13, _, hne => rfl
    | 14, _, hne => rfl
    | 15, _, hne => rfl
    | 16, _, hne => rfl
    | 17, _, hne => rfl
    | 18, _, hne => rfl
    | 19, _, hne => rfl
    | j + 20, hj, _ => absurd hj (by omega))
theorem aw_pf_tr1 {l : Launch} {E : aw_E} {mi : aw_M} {Z : aw_Zt} {d bc bs pc : Nat} {ls : List (Nat × Value)} {st : List Value} {n : Nat} {h : ah} {t i : Nat} {S : sT} {v : Int32} (hd : decode mi.2.1 pc = .ok (.putfield i, 3)) (hf : aw_fp mi.1.cls i 9 10 false .int) (H : is_tr h t S) (kk : ∀ h' : ah, is_tr h' t (sS 10 S 1 v) → ah_off h h' t 20 → aw l E mi Z d bc bs (pc + 3) ls st n h') : aw l E mi Z d bc bs pc ls (.int v :: .ref (t) :: st) n h :=
  aw_put hd hf (tr_c0 H) (Nat.le_of_ble_eq_true rfl) rfl rfl (kk _ (tr_s1 H) (ah_off.set (j := 0) _ (by decide)))
theorem tr_s2 {h : ah} {t : Nat} {S : sT} {v : Int32} (H : is_tr h t S) : is_tr (ah_set h (t + 0) (aO 9 [.ref (t + 1), .ref (t + 2), .ref (t + 8), .ref (t + 9), .ref (t + 10), .ref (t + 11), .ref (t + 12), .ref (t + 13), .ref (t + 18), .int (S 10 0), .int (S 10 1), .int v])) t (sS 10 S 2 v) := by
  intro j hj
  by_cases hq : j = 0
  · subst hq
    rw [ah_set_eq]; rfl
  · rw [ah_set_ne h _ (by omega), H j hj]
    exact (match j, hj, hq with
    | 0, _, hne => absurd rfl hne
    | 1, _, hne => rfl
    | 2, _, hne => rfl
    | 3, _, hne => rfl
    | 4, _, hne => rfl
    | 5, _, hne => rfl
    | 6, _, hne => rfl
    | 7, _, hne => rfl
    | 8, _, hne => rfl
    | 9, _, hne => rfl
    | 10, _, hne => rfl
    | 11, _, hne => rfl
    | 12, _, hne => rfl
    | 13, _, hne => rfl
    | 14, _, hne => rfl
    | 15, _, hne => rfl
    | 16, _, hne => rfl
    | 17, _, hne => rfl
    | 18, _, hne => rfl
    | 19, _, hne => rfl
    | j + 20, hj, _ => absurd hj (by omega))
theorem aw_pf_tr2 {l : Launch} {E : aw_E} {mi : aw_M} {Z : aw_Zt} {d bc bs pc : Nat} {ls : List (Nat × Value)} {st : List Value} {n : Nat} {h : ah} {t i : Nat} {S : sT} {v : Int32} (hd : decode mi.2.1 pc = .ok (.putfield i, 3)) (hf : aw_fp mi.1.cls i 9 11 false .int) (H : is_tr h t S) (kk : ∀ h' : ah, is_tr h' t (sS 10 S 2 v) → ah_off h h' t 20 → aw l E mi Z d bc bs (pc + 3) ls st n h') : aw l E mi Z d bc bs pc ls (.int v :: .ref (t) :: st) n h :=
  aw_put hd hf (tr_c0 H) (Nat.le_of_ble_eq_true rfl) rfl rfl (kk _ (tr_s2 H) (ah_off.set (j := 0) _ (by decide)))
theorem tr_a0 {h : ah} {t : Nat} {S : sT} {f : Nat → Int32} (H : is_tr h t S) : is_tr (ah_set h (t + 8) (aI 6 f)) t (sA S 0 f) := by
  intro j hj
  by_cases hq : j = 8
  · subst hq
    rw [ah_set_eq]; rfl
  · rw [ah_set_ne h _ (by omega), H j hj]
    exact (match j, hj, hq with
    | 0, _, hne => rfl
    | 1, _, hne => rfl
    | 2, _, hne => rfl
    | 3, _, hne => rfl
    | 4, _, hne => rfl
    | 5, _, hne => rfl
    | 6, _, hne => rfl
    | 7, _, hne => rfl
    | 8, _, hne => absurd rfl hne
    | 9, _, hne => rfl
    | 10, _, hne => rfl
    | 11, _, hne => rfl
    | 12, _, hne => rfl
    | 13, _, hne => rfl
    | 14, _, hne => rfl
    | 15, _, hne => rfl
    | 16, _, hne => rfl
    | 17, _, hne => rfl
    | 18, _, hne => rfl
    | 19, _, hne => rfl
    | j + 20, hj, _ => absurd hj (by omega))
theorem aw_ia_tr0 {l : Launch} {E : aw_E} {mi : aw_M} {Z : aw_Zt} {d bc bs pc : Nat} {ls : List (Nat × Value)} {st : List Value} {n : Nat} {h : ah} {t : Nat} {S : sT} {i x : Int32} (hd : decode mi.2.1 pc = .ok (.iastore, 1)) (H : is_tr h t S) (hin : vp_in i 6) (kk : ∀ h' : ah, is_tr h' t (sA S 0 (upd (S 0) i.toNatClampNeg x)) → ah_off h h' t 20 → aw l E mi Z d bc bs (pc + 1) ls st n h') : aw l E mi Z d bc bs pc ls (.int x :: .int i :: .ref (t + 8) :: st) n h :=
  aw_iast hd (tr_c8 H) hin (kk _ (tr_a0 H) (ah_off.set _ (by decide)))
theorem aw_iN_tr0 {l : Launch} {E : aw_E} {mi : aw_M} {Z : aw_Zt} {d bc bs pc : Nat} {ls : List (Nat × Value)} {st : List Value} {n : Nat} {h : ah} {t m : Nat} {S : sT} {i x : Int32} (hd : decode mi.2.1 pc = .ok (.iastore, 1)) (H : is_tr h t S) (e : i = nI m) (hm : m < 6) (kk : ∀ h' : ah, is_tr h' t (sA S 0 (upd (S 0) m x)) → ah_off h h' t 20 → aw l E mi Z d bc bs (pc + 1) ls st n h') : aw l E mi Z d bc bs pc ls (.int x :: .int i :: .ref (t + 8) :: st) n h := by
  subst e
  refine aw_ia_tr0 hd H (vp_in_nI hm (by decide)) ?_
  rw [nI_clamp (by omega)]
  exact kk
theorem tr_a1 {h : ah} {t : Nat} {S : sT} {f : Nat → Int32} (H : is_tr h t S) : is_tr (ah_set h (t + 9) (aI 6 f)) t (sA S 1 f) := by
  intro j hj
  by_cases hq : j = 9
  · subst hq
    rw [ah_set_eq]; rfl
  · rw [ah_set_ne h _ (by omega), H j hj]
    exact (match j, hj, hq with
    | 0, _, hne => rfl
    | 1, _, hne => rfl
    | 2, _, hne => rfl
    | 3, _, hne => rfl
    | 4, _, hne => rfl
    | 5, _, hne => rfl
    | 6, _, hne => rfl
    | 7, _, hne => rfl
    | 8, _, hne => rfl
    | 9, _, hne => absurd rfl hne
    | 10, _, hne => rfl
    | 11, _, hne => rfl
    | 12, _, hne => rfl
    | 13, _, hne => rfl
    | 14, _, hne => rfl
    | 15, _, hne => rfl
    | 16, _, hne => rfl
    | 17, _, hne => rfl
    | 18, _, hne => rfl
    | 19, _, hne => rfl
    | j + 20, hj, _ => absurd hj (by omega))
theorem aw_ia_tr1 {l : Launch} {E : aw_E} {mi : aw_M} {Z : aw_Zt} {d bc bs pc : Nat} {ls : List (Nat × Value)} {st : List Value} {n : Nat} {h : ah} {t : Nat} {S : sT} {i x : Int32} (hd : decode mi.2.1 pc = .ok (.iastore, 1)) (H : is_tr h t S) (hin : vp_in i 6) (kk : ∀ h' : ah, is_tr h' t (sA S 1 (upd (S 1) i.toNatClampNeg x)) → ah_off h h' t 20 → aw l E mi Z d bc bs (pc + 1) ls st n h') : aw l E mi Z d bc bs pc ls (.int x :: .int i :: .ref (t + 9) :: st) n h :=
  aw_iast hd (tr_c9 H) hin (kk _ (tr_a1 H) (ah_off.set _ (by decide)))
theorem aw_iN_tr1 {l : Launch} {E : aw_E} {mi : aw_M} {Z : aw_Zt} {d bc bs pc : Nat} {ls : List (Nat × Value)} {st : List Value} {n : Nat} {h : ah} {t m : Nat} {S : sT} {i x : Int32} (hd : decode mi.2.1 pc = .ok (.iastore, 1)) (H : is_tr h t S) (e : i = nI m) (hm : m < 6) (kk : ∀ h' : ah, is_tr h' t (sA S 1 (upd (S 1) m x)) → ah_off h h' t 20 → aw l E mi Z d bc bs (pc + 1) ls st n h') : aw l E mi Z d bc bs pc ls (.int x :: .int i :: .ref (t + 9) :: st) n h := by
  subst e
  refine aw_ia_tr1 hd H (vp_in_nI hm (by decide)) ?_
  rw [nI_clamp (by omega)]
  exact kk
theorem tr_a2 {h : ah} {t : Nat} {S : sT} {f : Nat → Int32} (H : is_tr h t S) : is_tr (ah_set h (t + 10) (aI 6 f)) t (sA S 2 f) := by
  intro j hj
  by_cases hq : j = 10
  · subst hq
    rw [ah_set_eq]; rfl
  · rw [ah_set_ne h _ (by omega), H j hj]
    exact (match j, hj, hq with
    | 0, _, hne => rfl
    | 1, _, hne => rfl
    | 2, _, hne => rfl
    | 3, _, hne => rfl
    | 4, _, hne => rfl
    | 5, _, hne => rfl
    | 6, _, hne => rfl
    | 7, _, hne => rfl
    | 8, _, hne => rfl
    | 9, _, hne => rfl
    | 10, _, hne => absurd rfl hne
    | 11, _, hne => rfl
    | 12, _, hne => rfl
    | 13, _, hne => rfl
    | 14, _, hne => rfl
    | 15, _, hne => rfl
    | 16, _, hne => rfl
    | 17, _, hne => rfl
    | 18, _, hne => rfl
    | 19, _, hne => rfl
    | j + 20, hj, _ => absurd hj (by omega))
theorem aw_ia_tr2 {l : Launch} {E : aw_E} {mi : aw_M} {Z : aw_Zt} {d bc bs pc : Nat} {ls : List (Nat × Value)} {st : List Value} {n : Nat} {h : ah} {t : Nat} {S : sT} {i x : Int32} (hd : decode mi.2.1 pc = .ok (.iastore, 1)) (H : is_tr h t S) (hin : vp_in i 6) (kk : ∀ h' : ah, is_tr h' t (sA S 2 (upd (S 2) i.toNatClampNeg x)) → ah_off h h' t 20 → aw l E mi Z d bc bs (pc + 1) ls st n h') : aw l E mi Z d bc bs pc ls (.int x :: .int i :: .ref (t + 10) :: st) n h :=
  aw_iast hd (tr_c10 H) hin (kk _ (tr_a2 H) (ah_off.set _ (by decide)))
theorem aw_iN_tr2 {l : Launch} {E : aw_E} {mi : aw_M} {Z : aw_Zt} {d bc bs pc : Nat} {ls : List (Nat × Value)} {st : List Value} {n : Nat} {h : ah} {t m : Nat} {S : sT} {i x : Int32} (hd : decode mi.2.1 pc = .ok (.iastore, 1)) (H : is_tr h t S) (e : i = nI m) (hm : m < 6) (kk : ∀ h' : ah, is_tr h' t (sA S 2 (upd (S 2) m x)) → ah_off h h' t 20 → aw l E mi Z d bc bs (pc + 1) ls st n h') : aw l E mi Z d bc bs pc ls (.int x :: .int i :: .ref (t + 10) :: st) n h := by
  subst e
  refine aw_ia_tr2 hd H (vp_in_nI hm (by decide)) ?_
  rw [nI_clamp (by omega)]
  exact kk
theorem tr_a3 {h : ah} {t : Nat} {S : sT} {f : Nat → Int32} (H : is_tr h t S) : is_tr (ah_set h (t + 11) (aI 6 f)) t (sA S 3 f) := by
  intro j hj
  by_cases hq : j = 11
  · subst hq
    rw [ah_set_eq]; rfl
  · rw [ah_set_ne h _ (by omega), H j hj]
    exact (match j, hj, hq with
    | 0, _, hne => rfl
    | 1, _, hne => rfl
    | 2, _, hne => rfl
    | 3, _, hne => rfl
    | 4, _, hne => rfl
    | 5, _, hne => rfl
    | 6, _, hne => rfl
    | 7, _, hne => rfl
    | 8, _, hne => rfl
    | 9, _, hne => rfl
    | 10, _, hne => rfl
    | 11, _, hne => absurd rfl hne
    | 12, _, hne => rfl
    | 13, _, hne => rfl
    | 14, _, hne => rfl
    | 15, _, hne => rfl
    | 16, _, hne => rfl
    | 17, _, hne => rfl
    | 18, _, hne => rfl
    | 19, _, hne => rfl
    | j + 20, hj, _ => absurd hj (by omega))
theorem aw_ia_tr3 {l : Launch} {E : aw_E} {mi : aw_M} {Z : aw_Zt} {d bc bs pc : Nat} {ls : List (Nat × Value)} {st : List Value} {n : Nat} {h : ah} {t : Nat} {S : sT} {i x : Int32} (hd : decode mi.2.1 pc = .ok (.iastore, 1)) (H : is_tr h t S) (hin : vp_in i 6) (kk : ∀ h' : ah, is_tr h' t (sA S 3 (upd (S 3) i.toNatClampNeg x)) → ah_off h h' t 20 → aw l E mi Z d bc bs (pc + 1) ls st n h') : aw l E mi Z d bc bs pc ls (.int x :: .int i :: .ref (t + 11) :: st) n h :=
  aw_iast hd (tr_c11 H) hin (kk _ (tr_a3 H) (ah_off.set _ (by decide)))
theorem aw_iN_tr3 {l : Launch} {E : aw_E} {mi : aw_M} {Z : aw_Zt} {d bc bs pc : Nat} {ls : List (Nat × Value)} {st : List Value} {n : Nat} {h : ah} {t m : Nat} {S : sT} {i x : Int32} (hd : decode mi.2.1 pc = .ok (.iastore, 1)) (H : is_tr h t S) (e : i = nI m) (hm : m < 6) (kk : ∀ h' : ah, is_tr h' t (sA S 3 (upd (S 3) m x)) → ah_off h h' t 20 → aw l E mi Z d bc bs (pc + 1) ls st n h') : aw l E mi Z d bc bs pc ls (.int x :: .int i :: .ref (t + 11) :: st) n h := by
  subst e
  refine aw_ia_tr3 hd H (vp_in_nI hm (by decide)) ?_
  rw [nI_clamp (by omega)]
  exact kk
theorem tr_a4 {h : ah} {t : Nat} {S : sT} {f : Nat → Int32} (H : is_tr h t S) : is_tr (ah_set h (t + 12) (aI 6 f)) t (sA S 4 f) := by
  intro j hj
  by_cases hq : j = 12
  · subst hq
    rw [ah_set_eq]; rfl
  · rw [ah_set_ne h _ (by omega), H j hj]
    exact (match j, hj, hq with
    | 0, _, hne => rfl
    | 1, _, hne => rfl
    | 2, _, hne => rfl
    | 3, _, hne => rfl
    | 4, _, hne => rfl
    | 5, _, hne => rfl
    | 6, _, hne => rfl
    | 7, _, hne => rfl
    | 8, _, hne => rfl
    | 9, _, hne => rfl
    | 10, _, hne => rfl
    | 11, _, hne => rfl
    | 12, _, hne => absurd rfl hne
    | 13, _, hne => rfl
    | 14, _, hne => rfl
    | 15, _, hne => rfl
    | 16, _, hne => rfl
    | 17, _, hne => rfl
    | 18, _, hne => rfl
    | 19, _, hne => rfl
    | j + 20, hj, _ => absurd hj (by omega))
theorem aw_ia_tr4 {l : Launch} {E : aw_E} {mi : aw_M} {Z : aw_Zt} {d bc bs pc : Nat} {ls : List (Nat × Value)} {st : List Value} {n : Nat} {h : ah} {t : Nat} {S : sT} {i x : Int32} (hd : decode mi.2.1 pc = .ok (.iastore, 1)) (H : is_tr h t S) (hin : vp_in i 6) (kk : ∀ h' : ah, is_tr h' t (sA S 4 (upd (S 4) i.toNatClampNeg x)) → ah_off h h' t 20 → aw l E mi Z d bc bs (pc + 1) ls st n h') : aw l E mi Z d bc bs pc ls (.int x :: .int i :: .ref (t + 12) :: st) n h :=
  aw_iast hd (tr_c12 H) hin (kk _ (tr_a4 H) (ah_off.set _ (by decide)))
theorem aw_iN_tr4 {l : Launch} {E : aw_E} {mi : aw_M} {Z : aw_Zt} {d bc bs pc : Nat} {ls : List (Nat × Value)} {st : List Value} {n : Nat} {h : ah} {t m : Nat} {S : sT} {i x : Int32} (hd : decode mi.2.1 pc = .ok (.iastore, 1)) (H : is_tr h t S) (e : i = nI m) (hm : m < 6) (kk : ∀ h' : ah, is_tr h' t (sA S 4 (upd (S 4) m x)) → ah_off h h' t 20 → aw l E mi Z d bc bs (pc + 1) ls st n h') : aw l E mi Z d bc bs pc ls (.int x :: .int i :: .ref (t + 12) :: st) n h := by
  subst e
  refine aw_ia_tr4 hd H (vp_in_nI hm (by decide)) ?_
  rw [nI_clamp (by omega)]
  exact kk
theorem tr_s3 {h : ah} {t : Nat} {S : sT} {v : Int32} (H : is_tr h t S) : is_tr (ah_set h (t + 13) (aO 4 [.ref (t + 14), .ref (t + 15), .ref (t + 16), .ref (t + 17), .int v])) t (sS 10 S 3 v) := by
  intro j hj
  by_cases hq : j = 13
  · subst hq
    rw [ah_set_eq]; rfl
  · rw [ah_set_ne h _ (by omega), H j hj]
    exact (match j, hj, hq with
    | 0, _, hne => rfl
    | 1, _, hne => rfl
    | 2, _, hne => rfl
    | 3, _, hne => rfl
    | 4, _, hne => rfl
    | 5, _, hne => rfl
    | 6, _, hne => rfl
    | 7, _, hne => rfl
    | 8, _, hne => rfl
    | 9, _, hne => rfl
    | 10, _, hne => rfl
    | 11, _, hne => rfl
    | 12, _, hne => rfl
    | 13, _, hne => absurd rfl hne
    | 14, _, hne => rfl
    | 15, _, hne => rfl
    | 16, _, hne => rfl
    | 17, _, hne => rfl
    | 18, _, hne => rfl
    | 19, _, hne => rfl
    | j + 20, hj, _ => absurd hj (by omega))
theorem aw_pf_tr3 {l : Launch} {E : aw_E} {mi : aw_M} {Z : aw_Zt} {d bc bs pc : Nat} {ls : List (Nat × Value)} {st : List Value} {n : Nat} {h : ah} {t i : Nat} {S : sT} {v : Int32} (hd : decode mi.2.1 pc = .ok (.putfield i, 3)) (hf : aw_fp mi.1.cls i 4 4 false .int) (H : is_tr h t S) (kk : ∀ h' : ah, is_tr h' t (sS 10 S 3 v) → ah_off h h' t 20 → aw l E mi Z d bc bs (pc + 3) ls st n h') : aw l E mi Z d bc bs pc ls (.int v :: .ref (t + 13) :: st) n h :=
  aw_put hd hf (tr_c13 H) (Nat.le_of_ble_eq_true rfl) rfl rfl (kk _ (tr_s3 H) (ah_off.set (j := 13) _ (by decide)))
theorem tr_a5 {h : ah} {t : Nat} {S : sT} {f : Nat → Int32} (H : is_tr h t S) : is_tr (ah_set h (t + 14) (aI 6 f)) t (sA S 5 f) := by
  intro j hj
  by_cases hq : j = 14
  · subst hq
    rw [ah_set_eq]; rfl
  · rw [ah_set_ne h _ (by omega), H j hj]
    exact (match j, hj, hq with
    | 0, _, hne => rfl
    | 1, _, hne => rfl
    | 2, _, hne => rfl
    | 3, _, hne => rfl
    | 4, _, hne => rfl
    | 5, _, hne => rfl
    | 6, _, hne => rfl
    | 7, _, hne => rfl
    | 8, _, hne => rfl
    | 9, _, hne => rfl
    | 10, _, hne => rfl
    | 11, _, hne => rfl
    | 12, _, hne => rfl
    | 13, _, hne => rfl
    | 14, _, hne => absurd rfl hne
    | 15, _, hne => rfl
    | 16, _, hne => rfl
    | 17, _, hne => rfl
    | 18, _, hne => rfl
    | 19, _, hne => rfl
    | j + 20, hj, _ => absurd hj (by omega))
theorem aw_ia_tr5 {l : Launch} {E : aw_E} {mi : aw_M} {Z : aw_Zt} {d bc bs pc : Nat} {ls : List (Nat × Value)} {st : List Value} {n : Nat} {h : ah} {t : Nat} {S : sT} {i x : Int32} (hd : decode mi.2.1 pc = .ok (.iastore, 1)) (H : is_tr h t S) (hin : vp_in i 6) (kk : ∀ h' : ah, is_tr h' t (sA S 5 (upd (S 5) i.toNatClampNeg x)) → ah_off h h' t 20 → aw l E mi Z d bc bs (pc + 1) ls st n h') : aw l E mi Z d bc bs pc ls (.int x :: .int i :: .ref (t + 14) :: st) n h :=
  aw_iast hd (tr_c14 H) hin (kk _ (tr_a5 H) (ah_off.set _ (by decide)))
theorem aw_iN_tr5 {l : Launch} {E : aw_E} {mi : aw_M} {Z : aw_Zt} {d bc bs pc : Nat} {ls : List (Nat × Value)} {st : List Value} {n : Nat} {h : ah} {t m : Nat} {S : sT} {i x : Int32} (hd : decode mi.2.1 pc = .ok (.iastore, 1)) (H : is_tr h t S) (e : i = nI m) (hm : m < 6) (kk : ∀ h' : ah, is_tr h' t (sA S 5 (upd (S 5) m x)) → ah_off h h' t 20 → aw l E mi Z d bc bs (pc + 1) ls st n h') : aw l E mi Z d bc bs pc ls (.int x :: .int i :: .ref (t + 14) :: st) n h := by
  subst e
  refine aw_ia_tr5 hd H (vp_in_nI hm (by decide)) ?_
  rw [nI_clamp (by omega)]
  exact kk
theorem tr_a6 {h : ah} {t : Nat} {S : sT} {f : Nat → Int32} (H : is_tr h t S) : is_tr (ah_set h (t + 15) (aI 6 f)) t (sA S 6 f) := by
  intro j hj
  by_cases hq : j = 15
  · subst hq
    rw [ah_set_eq]; rfl
  · rw [ah_set_ne h _ (by omega), H j hj]
    exact (match j, hj, hq with
    | 0, _, hne => rfl
    | 1, _, hne => rfl
    | 2, _, hne => rfl
    | 3, _, hne => rfl
    | 4, _, hne => rfl
    | 5, _, hne => rfl
    | 6, _, hne => rfl
    | 7, _, hne => rfl
    | 8, _, hne => rfl
    | 9, _, hne => rfl
    | 10, _, hne => rfl
    | 11, _, hne => rfl
    | 12, _, hne => rfl
    | 13, _, hne => rfl
    | 14, _, hne => rfl
    | 15, _, hne => absurd rfl hne
    | 16, _, hne => rfl
    | 17, _, hne => rfl
    | 18, _, hne => rfl
    | 19, _, hne => rfl
    | j + 20, hj, _ => absurd hj (by omega))
theorem aw_ia_tr6 {l : Launch} {E : aw_E} {mi : aw_M} {Z : aw_Zt} {d bc bs pc : Nat} {ls : List (Nat × Value)} {st : List Value} {n : Nat} {h : ah} {t : Nat} {S : sT} {i x : Int32} (hd : decode mi.2.1 pc = .ok (.iastore, 1)) (H : is_tr h t S) (hin : vp_in i 6) (kk : ∀ h' : ah, is_tr h' t (sA S 6 (upd (S 6) i.toNatClampNeg x)) → ah_off h h' t 20 → aw l E mi Z d bc bs (pc + 1) ls st n h') : aw l E mi Z d bc bs pc ls (.int x :: .int i :: .ref (t + 15) :: st) n h :=
  aw_iast hd (tr_c15 H) hin (kk _ (tr_a6 H) (ah_off.set _ (by decide)))
theorem aw_iN_tr6 {l : Launch} {E : aw_E} {mi : aw_M} {Z : aw_Zt} {d bc bs pc : Nat} {ls : List (Nat × Value)} {st : List Value} {n : Nat} {h : ah} {t m : Nat} {S : sT} {i x : Int32} (hd : decode mi.2.1 pc = .ok (.iastore, 1)) (H : is_tr h t S) (e : i = nI m) (hm : m < 6) (kk : ∀ h' : ah, is_tr h' t (sA S 6 (upd (S 6) m x)) → ah_off h h' t 20 → aw l E mi Z d bc bs (pc + 1) ls st n h') : aw l E mi Z d bc bs pc ls (.int x :: .int i :: .ref (t + 15) :: st) n h := by
  subst e
  refine aw_ia_tr6 hd H (vp_in_nI hm (by decide)) ?_
  rw [nI_clamp (by omega)]
  exact kk
theorem tr_a7 {h : ah} {t : Nat} {S : sT} {f : Nat → Int32} (H : is_tr h t S) : is_tr (ah_set h (t + 16) (aI 6 f)) t (sA S 7 f) := by
  intro j hj
  by_cases hq : j = 16
  · subst hq
    rw [ah_set_eq]; rfl
  · rw [ah_set_ne h _ (by omega), H j hj]
    exact (match j, hj, hq with
    | 0, _, hne => rfl
    | 1, _, hne => rfl
    | 2, _, hne => rfl
    | 3, _, hne => rfl
    | 4, _, hne => rfl
    | 5, _, hne => rfl
    | 6, _, hne => rfl
    | 7, _, hne => rfl
    | 8, _, hne => rfl
    | 9, _, hne => rfl
    | 10, _, hne => rfl
    | 11, _, hne => rfl
    | 12, _, hne => rfl
    | 13, _, hne => rfl
    | 14, _, hne => rfl
    | 15, _, hne => rfl
    | 16, _, hne => absurd rfl hne
    | 17, _, hne => rfl
    | 18, _, hne => rfl
    | 19, _, hne => rfl
    | j + 20, hj, _ => absurd hj (by omega))
theorem aw_ia_tr7 {l : Launch} {E : aw_E} {mi : aw_M} {Z : aw_Zt} {d bc bs pc : Nat} {ls : List (Nat × Value)} {st : List Value} {n : Nat} {h : ah} {t : Nat} {S : sT} {i x : Int32} (hd : decode mi.2.1 pc = .ok (.iastore, 1)) (H : is_tr h t S) (hin : vp_in i 6) (kk : ∀ h' : ah, is_tr h' t (sA S 7 (upd (S 7) i.toNatClampNeg x)) → ah_off h h' t 20 → aw l E mi Z d bc bs (pc + 1) ls st n h') : aw l E mi Z d bc bs pc ls (.int x :: .int i :: .ref (t + 16) :: st) n h :=
  aw_iast hd (tr_c16 H) hin (kk _ (tr_a7 H) (ah_off.set _ (by decide)))
theorem aw_iN_tr7 {l : Launch} {E : aw_E} {mi : aw_M} {Z : aw_Zt} {d bc bs pc : Nat} {ls : List (Nat × Value)} {st : List Value} {n : Nat} {h : ah} {t m : Nat} {S : sT} {i x : Int32} (hd : decode mi.2.1 pc = .ok (.iastore, 1)) (H : is_tr h t S) (e : i = nI m) (hm : m < 6) (kk : ∀ h' : ah, is_tr h' t (sA S 7 (upd (S 7) m x)) → ah_off h h' t 20 → aw l E mi Z d bc bs (pc + 1) ls st n h') : aw l E mi Z d bc bs pc ls (.int x :: .int i :: .ref (t + 16) :: st) n h := by
  subst e
  refine aw_ia_tr7 hd H (vp_in_nI hm (by decide)) ?_
  rw [nI_clamp (by omega)]
  exact kk
theorem tr_a8 {h : ah} {t : Nat} {S : sT} {f : Nat → Int32} (H : is_tr h t S) : is_tr (ah_set h (t + 17) (aI 6 f)) t (sA S 8 f) := by
  intro j hj
  by_cases hq : j = 17
  · subst hq
    rw [ah_set_eq]; rfl
  · rw [ah_set_ne h _ (by omega), H j hj]
    exact (match j, hj, hq with
    | 0, _, hne => rfl
    | 1, _, hne => rfl
    | 2, _, hne => rfl
    | 3, _, hne => rfl
    | 4, _, hne => rfl
    | 5, _, hne => rfl
    | 6, _, hne => rfl
    | 7, _, hne => rfl
    | 8, _, hne => rfl
    | 9, _, hne => rfl
    | 10, _, hne => rfl
    | 11, _, hne => rfl
    | 12, _, hne => rfl
    | 13, _, hne => rfl
    | 14, _, hne => rfl
    | 15, _, hne => rfl
    | 16, _, hne => rfl
    | 17, _, hne => absurd rfl hne
    | 18, _, hne => rfl
    | 19, _, hne => rfl
    | j + 20, hj, _ => absurd hj (by omega))
theorem aw_ia_tr8 {l : Launch} {E : aw_E} {mi : aw_M} {Z : aw_Zt} {d bc bs pc : Nat} {ls : List (Nat × Value)} {st : List Value} {n : Nat} {h : ah} {t : Nat} {S : sT} {i x : Int32} (hd : decode mi.2.1 pc = .ok (.iastore, 1)) (H : is_tr h t S) (hin : vp_in i 6) (kk : ∀ h' : ah, is_tr h' t (sA S 8 (upd (S 8) i.toNatClampNeg x)) → ah_off h h' t 20 → aw l E mi Z d bc bs (pc + 1) ls st n h') : aw l E mi Z d bc bs pc ls (.int x :: .int i :: .ref (t + 17) :: st) n h :=
  aw_iast hd (tr_c17 H) hin (kk _ (tr_a8 H) (ah_off.set _ (by decide)))
theorem aw_iN_tr8 {l : Launch} {E : aw_E} {mi : aw_M} {Z : aw_Zt} {d bc bs pc : Nat} {ls : List (Nat × Value)} {st : List Value} {n : Nat} {h : ah} {t m : Nat} {S : sT} {i x : Int32} (hd : decode mi.2.1 pc = .ok (.iastore, 1)) (H : is_tr h t S) (e : i = nI m) (hm : m < 6) (kk : ∀ h' : ah, is_tr h' t (sA S 8 (upd (S 8) m x)) → ah_off h h' t 20 → aw l E mi Z d bc bs (pc + 1) ls st n h') : aw l E mi Z d bc bs pc ls (.int x :: .int i :: .ref (t + 17) :: st) n h := by
  subst e
  refine aw_ia_tr8 hd H (vp_in_nI hm (by decide)) ?_
  rw [nI_clamp (by omega)]
  exact kk
theorem tr_s4 {h : ah} {t : Nat} {S : sT} {v : Int32} (H : is_tr h t S) : is_tr (ah_set h (t + 18) (aO 5 [.ref (t + 19), .int v])) t (sS 10 S 4 v) := by
  intro j hj
  by_cases hq : j = 18
  · subst hq
    rw [ah_set_eq]; rfl
  · rw [ah_set_ne h _ (by omega), H j hj]
    exact (match j, hj, hq with
    | 0, _, hne => rfl
    | 1, _, hne => rfl
    | 2, _, hne => rfl
    | 3, _, hne => rfl
    | 4, _, hne => rfl
    | 5, _, hne => rfl
    | 6, _, hne => rfl
    | 7, _, hne => rfl
    | 8, _, hne => rfl
    | 9, _, hne => rfl
    | 10, _, hne => rfl
    | 11, _, hne => rfl
    | 12, _, hne => rfl
    | 13, _, hne => rfl
    | 14, _, hne => rfl
    | 15, _, hne => rfl
    | 16, _, hne => rfl
    | 17, _, hne => rfl
    | 18, _, hne => absurd rfl hne
    | 19, _, hne => rfl
    | j + 20, hj, _ => absurd hj (by omega))
theorem aw_pf_tr4 {l : Launch} {E : aw_E} {mi : aw_M} {Z : aw_Zt} {d bc bs pc : Nat} {ls : List (Nat × Value)} {st : List Value} {n : Nat} {h : ah} {t i : Nat} {S : sT} {v : Int32} (hd : decode mi.2.1 pc = .ok (.putfield i, 3)) (hf : aw_fp mi.1.cls i 5 1 false .int) (H : is_tr h t S) (kk : ∀ h' : ah, is_tr h' t (sS 10 S 4 v) → ah_off h h' t 20 → aw l E mi Z d bc bs (pc + 3) ls st n h') : aw l E mi Z d bc bs pc ls (.int v :: .ref (t + 18) :: st) n h :=
  aw_put hd hf (tr_c18 H) (Nat.le_of_ble_eq_true rfl) rfl rfl (kk _ (tr_s4 H) (ah_off.set (j := 18) _ (by decide)))
theorem tr_a9 {h : ah} {t : Nat} {S : sT} {f : Nat → Int32} (H : is_tr h t S) : is_tr (ah_set h (t + 19) (aI 112 f)) t (sA S 9 f) := by
  intro j hj
  by_cases hq : j = 19
  · subst hq
    rw [ah_set_eq]; rfl
  · rw [ah_set_ne h _ (by omega), H j hj]
    exact (match j, hj, hq with
    | 0, _, hne => rfl
    | 1, _, hne => rfl
    | 2, _, hne => rfl
    | 3, _, hne => rfl
    | 4, _, hne => rfl
    | 5, _, hne => rfl
    | 6, _, hne => rfl
    | 7, _, hne => rfl
    | 8, _, hne => rfl
    | 9, _, hne => rfl
    | 10, _, hne => rfl
    | 11, _, hne => rfl
    | 12, _, hne => rfl
    | 13, _, hne => rfl
    | 14, _, hne => rfl
    | 15, _, hne => rfl
    | 16, _, hne => rfl
    | 17, _, hne => rfl
    | 18, _, hne => rfl
    | 19, _, hne => absurd rfl hne
    | j + 20, hj, _ => absurd hj (by omega))
theorem aw_ia_tr9 {l : Launch} {E : aw_E} {mi : aw_M} {Z : aw_Zt} {d bc bs pc : Nat} {ls : List (Nat × Value)} {st : List Value} {n : Nat} {h : ah} {t : Nat} {S : sT} {i x : Int32} (hd : decode mi.2.1 pc = .ok (.iastore, 1)) (H : is_tr h t S) (hin : vp_in i 112) (kk : ∀ h' : ah, is_tr h' t (sA S 9 (upd (S 9) i.toNatClampNeg x)) → ah_off h h' t 20 → aw l E mi Z d bc bs (pc + 1) ls st n h') : aw l E mi Z d bc bs pc ls (.int x :: .int i :: .ref (t + 19) :: st) n h :=
  aw_iast hd (tr_c19 H) hin (kk _ (tr_a9 H) (ah_off.set _ (by decide)))
theorem aw_iN_tr9 {l : Launch} {E : aw_E} {mi : aw_M} {Z : aw_Zt} {d bc bs pc : Nat} {ls : List (Nat × Value)} {st : List Value} {n : Nat} {h : ah} {t m : Nat} {S : sT} {i x : Int32} (hd : decode mi.2.1 pc = .ok (.iastore, 1)) (H : is_tr h t S) (e : i = nI m) (hm : m < 112) (kk : ∀ h' : ah, is_tr h' t (sA S 9 (upd (S 9) m x)) → ah_off h h' t 20 → aw l E mi Z d bc bs (pc + 1) ls st n h') : aw l E mi Z d bc bs pc ls (.int x :: .int i :: .ref (t + 19) :: st) n h := by
  subst e
  refine aw_ia_tr9 hd H (vp_in_nI hm (by decide)) ?_
  rw [nI_clamp (by omega)]
  exact kk
/-- a Reader at t: row 0 the text; row 10: length, tokenStart, tokenEnd, token, number, fault -/
def rdB (t : Nat) (S : sT) : Nat → Option ae
  | 0 => some (aO 7 [.ref (t + 1), .int (S 10 0), .int (S 10 1), .int (S 10 2), .int (S 10 3), .int (S 10 4), .int (S 10 5)])
  | 1 => some (aI 150 (S 0))
  | _ => none
def is_rd (h : ah) (t : Nat) (S : sT) : Prop := ∀ j, j < 2 → h (t + j) = rdB t S j
theorem rd_c0 {h : ah} {t : Nat} {S : sT} (H : is_rd h t S) : h (t) = some (aO 7 [.ref (t + 1), .int (S 10 0), .int (S 10 1), .int (S 10 2), .int (S 10 3), .int (S 10 4), .int (S 10 5)]) := H 0 (by decide)
theorem rd_c1 {h : ah} {t : Nat} {S : sT} (H : is_rd h t S) : h (t + 1) = some (aI 150 (S 0)) := H 1 (by decide)
theorem rd_off {h h' : ah} {t s k : Nat} {S : sT} (H : is_rd h t S) (o : ah_off h h' s k) (hd : t + 2 ≤ s ∨ s + k ≤ t) : is_rd h' t S := fun j hj => (o (t + j) (by omega)).trans (H j hj)
theorem rd_s0 {h : ah} {t : Nat} {S : sT} {v : Int32} (H : is_rd h t S) : is_rd (ah_set h (t + 0) (aO 7 [.ref (t + 1), .int v, .int (S 10 1), .int (S 10 2), .int (S 10 3), .int (S 10 4), .int (S 10 5)])) t (sS 10 S 0 v) := by
  intro j hj
  by_cases hq : j = 0
  · subst hq
    rw [ah_set_eq]; rfl
  · rw [ah_set_ne h _ (by omega), H j hj]
    exact (match j, hj, hq with
    | 0, _, hne => absurd rfl hne
    | 1, _, hne => rfl
    | j + 2, hj, _ => absurd hj (by omega))
theorem aw_pf_rd0 {l : Launch} {E : aw_E} {mi : aw_M} {Z : aw_Zt} {d bc bs pc : Nat} {ls : List (Nat × Value)} {st : List Value} {n : Nat} {h : ah} {t i : Nat} {S : sT} {v : Int32} (hd : decode mi.2.1 pc = .ok (.putfield i, 3)) (hf : aw_fp mi.1.cls i 7 1 false .int) (H : is_rd h t S) (kk : ∀ h' : ah, is_rd h' t (sS 10 S 0 v) → ah_off h h' t 2 → aw l E mi Z d bc bs (pc + 3) ls st n h') : aw l E mi Z d bc bs pc ls (.int v :: .ref (t) :: st) n h :=
  aw_put hd hf (rd_c0 H) (Nat.le_of_ble_eq_true rfl) rfl rfl (kk _ (rd_s0 H) (ah_off.set (j := 0) _ (by decide)))
theorem rd_s1 {h : ah} {t : Nat} {S : sT} {v : Int32} (H : is_rd h t S) : is_rd (ah_set h (t + 0) (aO 7 [.ref (t + 1), .int (S 10 0), .int v, .int (S 10 2), .int (S 10 3), .int (S 10 4), .int (S 10 5)])) t (sS 10 S 1 v) := by
  intro j hj
  by_cases hq : j = 0
  · subst hq
    rw [ah_set_eq]; rfl
  · rw [ah_set_ne h _ (by omega), H j hj]
    exact (match j, hj, hq with
    | 0, _, hne => absurd rfl hne
    | 1, _, hne => rfl
    | j + 2, hj, _ => absurd hj (by omega))
theorem aw_pf_rd1 {l : Launch} {E : aw_E} {mi : aw_M} {Z : aw_Zt} {d bc bs pc : Nat} {ls : List (Nat × Value)} {st : List Value} {n : Nat} {h : ah} {t i : Nat} {S : sT} {v : Int32} (hd : decode mi.2.1 pc = .ok (.putfield i, 3)) (hf : aw_fp mi.1.cls i 7 2 false .int) (H : is_rd h t S) (kk : ∀ h' : ah, is_rd h' t (sS 10 S 1 v) → ah_off h h' t 2 → aw l E mi Z d bc bs (pc + 3) ls st n h') : aw l E mi Z d bc bs pc ls (.int v :: .ref (t) :: st) n h :=
  aw_put hd hf (rd_c0 H) (Nat.le_of_ble_eq_true rfl) rfl rfl (kk _ (rd_s1 H) (ah_off.set (j := 0) _ (by decide)))
theorem rd_s2 {h : ah} {t : Nat} {S : sT} {v : Int32} (H : is_rd h t S) : is_rd (ah_set h (t + 0) (aO 7 [.ref (t + 1), .int (S 10 0), .int (S 10 1), .int v, .int (S 10 3), .int (S 10 4), .int (S 10 5)])) t (sS 10 S 2 v) := by
  intro j hj
  by_cases hq : j = 0
  · subst hq
    rw [ah_set_eq]; rfl
  · rw [ah_set_ne h _ (by omega), H j hj]
    exact (match j, hj, hq with
    | 0, _, hne => absurd rfl hne
    | 1, _, hne => rfl
    | j + 2, hj, _ => absurd hj (by omega))
theorem aw_pf_rd2 {l : Launch} {E : aw_E} {mi : aw_M} {Z : aw_Zt} {d bc bs pc : Nat} {ls : List (Nat × Value)} {st : List Value} {n : Nat} {h : ah} {t i : Nat} {S : sT} {v : Int32} (hd : decode mi.2.1 pc = .ok (.putfield i, 3)) (hf : aw_fp mi.1.cls i 7 3 false .int) (H : is_rd h t S) (kk : ∀ h' : ah, is_rd h' t (sS 10 S 2 v) → ah_off h h' t 2 → aw l E mi Z d bc bs (pc + 3) ls st n h') : aw l E mi Z d bc bs pc ls (.int v :: .ref (t) :: st) n h :=
  aw_put hd hf (rd_c0 H) (Nat.le_of_ble_eq_true rfl) rfl rfl (kk _ (rd_s2 H) (ah_off.set (j := 0) _ (by decide)))
theorem rd_s3 {h : ah} {t : Nat} {S : sT} {v : Int32} (H : is_rd h t S) : is_rd (ah_set h (t + 0) (aO 7 [.ref (t + 1), .int (S 10 0), .int (S 10 1), .int (S 10 2), .int v, .int (S 10 4), .int (S 10 5)])) t (sS 10 S 3 v) := by
  intro j hj
  by_cases hq : j = 0
  · subst hq
    rw [ah_set_eq]; rfl
  · rw [ah_set_ne h _ (by omega), H j hj]
    exact (match j, hj, hq with
    | 0, _, hne => absurd rfl hne
    | 1, _, hne => rfl
    | j + 2, hj, _ => absurd hj (by omega))
theorem aw_pf_rd3 {l : Launch} {E : aw_E} {mi : aw_M} {Z : aw_Zt} {d bc bs pc : Nat} {ls : List (Nat × Value)} {st : List Value} {n : Nat} {h : ah} {t i : Nat} {S : sT} {v : Int32} (hd : decode mi.2.1 pc = .ok (.putfield i, 3)) (hf : aw_fp mi.1.cls i 7 4 false .int) (H : is_rd h t S) (kk : ∀ h' : ah, is_rd h' t (sS 10 S 3 v) → ah_off h h' t 2 → aw l E mi Z d bc bs (pc + 3) ls st n h') : aw l E mi Z d bc bs pc ls (.int v :: .ref (t) :: st) n h :=
  aw_put hd hf (rd_c0 H) (Nat.le_of_ble_eq_true rfl) rfl rfl (kk _ (rd_s3 H) (ah_off.set (j := 0) _ (by decide)))
theorem rd_s4 {h : ah} {t : Nat} {S : sT} {v : Int32} (H : is_rd h t S) : is_rd (ah_set h (t + 0) (aO 7 [.ref (t + 1), .int (S 10 0), .int (S 10 1), .int (S 10 2), .int (S 10 3), .int v, .int (S 10 5)])) t (sS 10 S 4 v) := by
  intro j hj
  by_cases hq : j = 0
  · subst hq
    rw [ah_set_eq]; rfl
  · rw [ah_set_ne h _ (by omega), H j hj]
    exact (match j, hj, hq with
    | 0, _, hne => absurd rfl hne
    | 1, _, hne => rfl
    | j + 2, hj, _ => absurd hj (by omega))
theorem aw_pf_rd4 {l : Launch} {E : aw_E} {mi : aw_M} {Z : aw_Zt} {d bc bs pc : Nat} {ls : List (Nat × Value)} {st : List Value} {n : Nat} {h : ah} {t i : Nat} {S : sT} {v : Int32} (hd : decode mi.2.1 pc = .ok (.putfield i, 3)) (hf : aw_fp mi.1.cls i 7 5 false .int) (H : is_rd h t S) (kk : ∀ h' : ah, is_rd h' t (sS 10 S 4 v) → ah_off h h' t 2 → aw l E mi Z d bc bs (pc + 3) ls st n h') : aw l E mi Z d bc bs pc ls (.int v :: .ref (t) :: st) n h :=
  aw_put hd hf (rd_c0 H) (Nat.le_of_ble_eq_true rfl) rfl rfl (kk _ (rd_s4 H) (ah_off.set (j := 0) _ (by decide)))
theorem rd_s5 {h : ah} {t : Nat} {S : sT} {v : Int32} (H : is_rd h t S) : is_rd (ah_set h (t + 0) (aO 7 [.ref (t + 1), .int (S 10 0), .int (S 10 1), .int (S 10 2), .int (S 10 3), .int (S 10 4), .int v])) t (sS 10 S 5 v) := by
  intro j hj
  by_cases hq : j = 0
  · subst hq
    rw [ah_set_eq]; rfl
  · rw [ah_set_ne h _ (by omega), H j hj]
    exact (match j, hj, hq with
    | 0, _, hne => absurd rfl hne
    | 1, _, hne => rfl
    | j + 2, hj, _ => absurd hj (by omega))
theorem aw_pf_rd5 {l : Launch} {E : aw_E} {mi : aw_M} {Z : aw_Zt} {d bc bs pc : Nat} {ls : List (Nat × Value)} {st : List Value} {n : Nat} {h : ah} {t i : Nat} {S : sT} {v : Int32} (hd : decode mi.2.1 pc = .ok (.putfield i, 3)) (hf : aw_fp mi.1.cls i 7 6 false .int) (H : is_rd h t S) (kk : ∀ h' : ah, is_rd h' t (sS 10 S 5 v) → ah_off h h' t 2 → aw l E mi Z d bc bs (pc + 3) ls st n h') : aw l E mi Z d bc bs pc ls (.int v :: .ref (t) :: st) n h :=
  aw_put hd hf (rd_c0 H) (Nat.le_of_ble_eq_true rfl) rfl rfl (kk _ (rd_s5 H) (ah_off.set (j := 0) _ (by decide)))
theorem rd_a0 {h : ah} {t : Nat} {S : sT} {f : Nat → Int32} (H : is_rd h t S) : is_rd (ah_set h (t + 1) (aI 150 f)) t (sA S 0 f) := by
  intro j hj
  by_cases hq : j = 1
  · subst hq
    rw [ah_set_eq]; rfl
  · rw [ah_set_ne h _ (by omega), H j hj]
    exact (match j, hj, hq with
    | 0, _, hne => rfl
    | 1, _, hne => absurd rfl hne
    | j + 2, hj, _ => absurd hj (by omega))
theorem aw_ia_rd0 {l : Launch} {E : aw_E} {mi : aw_M} {Z : aw_Zt} {d bc bs pc : Nat} {ls : List (Nat × Value)} {st : List Value} {n : Nat} {h : ah} {t : Nat} {S : sT} {i x : Int32} (hd : decode mi.2.1 pc = .ok (.iastore, 1)) (H : is_rd h t S) (hin : vp_in i 150) (kk : ∀ h' : ah, is_rd h' t (sA S 0 (upd (S 0) i.toNatClampNeg x)) → ah_off h h' t 2 → aw l E mi Z d bc bs (pc + 1) ls st n h') : aw l E mi Z d bc bs pc ls (.int x :: .int i :: .ref (t + 1) :: st) n h :=
  aw_iast hd (rd_c1 H) hin (kk _ (rd_a0 H) (ah_off.set _ (by decide)))
theorem aw_iN_rd0 {l : Launch} {E : aw_E} {mi : aw_M} {Z : aw_Zt} {d bc bs pc : Nat} {ls : List (Nat × Value)} {st : List Value} {n : Nat} {h : ah} {t m : Nat} {S : sT} {i x : Int32} (hd : decode mi.2.1 pc = .ok (.iastore, 1)) (H : is_rd h t S) (e : i = nI m) (hm : m < 150) (kk : ∀ h' : ah, is_rd h' t (sA S 0 (upd (S 0) m x)) → ah_off h h' t 2 → aw l E mi Z d bc bs (pc + 1) ls st n h') : aw l E mi Z d bc bs pc ls (.int x :: .int i :: .ref (t + 1) :: st) n h := by
  subst e
  refine aw_ia_rd0 hd H (vp_in_nI hm (by decide)) ?_
  rw [nI_clamp (by omega)]
  exact kk
/-- a Ways at t: rows 0 heft, 1 far, 2 lightest, 3 bagWeights -/
def wyB (t : Nat) (S : sT) : Nat → Option ae
  | 0 => some (aO 10 [.ref (t + 1), .ref (t + 2), .ref (t + 3), .ref (t + 4)])
  | 1 => some (aI 6 (S 0))
  | 2 => some (aI 6 (S 1))
  | 3 => some (aI 64 (S 2))
  | 4 => some (aI 36 (S 3))
  | _ => none
def is_wy (h : ah) (t : Nat) (S : sT) : Prop := ∀ j, j < 5 → h (t + j) = wyB t S j
theorem wy_c0 {h : ah} {t : Nat} {S : sT} (H : is_wy h t S) : h (t) = some (aO 10 [.ref (t + 1), .ref (t + 2), .ref (t + 3), .ref (t + 4)]) := H 0 (by decide)
theorem wy_c1 {h : ah} {t : Nat} {S : sT} (H : is_wy h t S) : h (t + 1) = some (aI 6 (S 0)) := H 1 (by decide)
theorem wy_c2 {h : ah} {t : Nat} {S : sT} (H : is_wy h t S) : h (t + 2) = some (aI 6 (S 1)) := H 2 (by decide)
theorem wy_c3 {h : ah} {t : Nat} {S : sT} (H : is_wy h t S) : h (t + 3) = some (aI 64 (S 2)) := H 3 (by decide)
theorem wy_c4 {h : ah} {t : Nat} {S : sT} (H : is_wy h t S) : h (t + 4) = some (aI 36 (S 3)) := H 4 (by decide)
theorem wy_off {h h' : ah} {t s k : Nat} {S : sT} (H : is_wy h t S) (o : ah_off h h' s k) (hd : t + 5 ≤ s ∨ s + k ≤ t) : is_wy h' t S := fun j hj => (o (t + j) (by omega)).trans (H j hj)
theorem wy_a0 {h : ah} {t : Nat} {S : sT} {f : Nat → Int32} (H : is_wy h t S) : is_wy (ah_set h (t + 1) (aI 6 f)) t (sA S 0 f) := by
  intro j hj
  by_cases hq : j = 1
  · subst hq
    rw [ah_set_eq]; rfl
  · rw [ah_set_ne h _ (by omega), H j hj]
    exact (match j, hj, hq with
    | 0, _, hne => rfl
    | 1, _, hne => absurd rfl hne
    | 2, _, hne => rfl
    | 3, _, hne => rfl
    | 4, _, hne => rfl
    | j + 5, hj, _ => absurd hj (by omega))
theorem aw_ia_wy0 {l : Launch} {E : aw_E} {mi : aw_M} {Z : aw_Zt} {d bc bs pc : Nat} {ls : List (Nat × Value)} {st : List Value} {n : Nat} {h : ah} {t : Nat} {S : sT} {i x : Int32} (hd : decode mi.2.1 pc = .ok (.iastore, 1)) (H : is_wy h t S) (hin : vp_in i 6) (kk : ∀ h' : ah, is_wy h' t (sA S 0 (upd (S 0) i.toNatClampNeg x)) → ah_off h h' t 5 → aw l E mi Z d bc bs (pc + 1) ls st n h') : aw l E mi Z d bc bs pc ls (.int x :: .int i :: .ref (t + 1) :: st) n h :=
  aw_iast hd (wy_c1 H) hin (kk _ (wy_a0 H) (ah_off.set _ (by decide)))
theorem aw_iN_wy0 {l : Launch} {E : aw_E} {mi : aw_M} {Z : aw_Zt} {d bc bs pc : Nat} {ls : List (Nat × Value)} {st : List Value} {n : Nat} {h : ah} {t m : Nat} {S : sT} {i x : Int32} (hd : decode mi.2.1 pc = .ok (.iastore, 1)) (H : is_wy h t S) (e : i = nI m) (hm : m < 6) (kk : ∀ h' : ah, is_wy h' t (sA S 0 (upd (S 0) m x)) → ah_off h h' t 5 → aw l E mi Z d bc bs (pc + 1) ls st n h') : aw l E mi Z d bc bs pc ls (.int x :: .int i :: .ref (t + 1) :: st) n h := by
  subst e
  refine aw_ia_wy0 hd H (vp_in_nI hm (by decide)) ?_
  rw [nI_clamp (by omega)]
  exact kk
theorem wy_a1 {h : ah} {t : Nat} {S : sT} {f : Nat → Int32} (H : is_wy h t S) : is_wy (ah_set h (t + 2) (aI 6 f)) t (sA S 1 f) := by
  intro j hj
  by_cases hq : j = 2
  · subst hq
    rw [ah_set_eq]; rfl
  · rw [ah_set_ne h _ (by omega), H j hj]
    exact (match j, hj, hq with
    | 0, _, hne => rfl
    | 1, _, hne => rfl
    | 2, _, hne => absurd rfl hne
    | 3, _, hne => rfl
    | 4, _, hne => rfl
    | j + 5, hj, _ => absurd hj (by omega))
theorem aw_ia_wy1 {l : Launch} {E : aw_E} {mi : aw_M} {Z : aw_Zt} {d bc bs pc : Nat} {ls : List (Nat × Value)} {st : List Value} {n : Nat} {h : ah} {t : Nat} {S : sT} {i x : Int32} (hd : decode mi.2.1 pc = .ok (.iastore, 1)) (H : is_wy h t S) (hin : vp_in i 6) (kk : ∀ h' : ah, is_wy h' t (sA S 1 (upd (S 1) i.toNatClampNeg x)) → ah_off h h' t 5 → aw l E mi Z d bc bs (pc + 1) ls st n h') : aw l E mi Z d bc bs pc ls (.int x :: .int i :: .ref (t + 2) :: st) n h :=
  aw_iast hd (wy_c2 H) hin (kk _ (wy_a1 H) (ah_off.set _ (by decide)))
theorem aw_iN_wy1 {l : Launch} {E : aw_E} {mi : aw_M} {Z : aw_Zt} {d bc bs pc : Nat} {ls : List (Nat × Value)} {st : List Value} {n : Nat} {h : ah} {t m : Nat} {S : sT} {i x : Int32} (hd : decode mi.2.1 pc = .ok (.iastore, 1)) (H : is_wy h t S) (e : i = nI m) (hm : m < 6) (kk : ∀ h' : ah, is_wy h' t (sA S 1 (upd (S 1) m x)) → ah_off h h' t 5 → aw l E mi Z d bc bs (pc + 1) ls st n h') : aw l E mi Z d bc bs pc ls (.int x :: .int i :: .ref (t + 2) :: st) n h := by
  subst e
  refine aw_ia_wy1 hd H (vp_in_nI hm (by decide)) ?_
  rw [nI_clamp (by omega)]
  exact kk
theorem wy_a2 {h : ah} {t : Nat} {S : sT} {f : Nat → Int32} (H : is_wy h t S) : is_wy (ah_set h (t + 3) (aI 64 f)) t (sA S 2 f) := by
  intro j hj
  by_cases hq : j = 3
  · subst hq
    rw [ah_set_eq]; rfl
  · rw [ah_set_ne h _ (by omega), H j hj]
    exact (match j, hj, hq with
    | 0, _, hne => rfl
    | 1, _, hne => rfl
    | 2, _, hne => rfl
    | 3, _, hne => absurd rfl hne
    | 4, _, hne => rfl
    | j + 5, hj, _ => absurd hj (by omega))
theorem aw_ia_wy2 {l : Launch} {E : aw_E} {mi : aw_M} {Z : aw_Zt} {d bc bs pc : Nat} {ls : List (Nat × Value)} {st : List Value} {n : Nat} {h : ah} {t : Nat} {S : sT} {i x : Int32} (hd : decode mi.2.1 pc = .ok (.iastore, 1)) (H : is_wy h t S) (hin : vp_in i 64) (kk : ∀ h' : ah, is_wy h' t (sA S 2 (upd (S 2) i.toNatClampNeg x)) → ah_off h h' t 5 → aw l E mi Z d bc bs (pc + 1) ls st n h') : aw l E mi Z d bc bs pc ls (.int x :: .int i :: .ref (t + 3) :: st) n h :=
  aw_iast hd (wy_c3 H) hin (kk _ (wy_a2 H) (ah_off.set _ (by decide)))
theorem aw_iN_wy2 {l : Launch} {E : aw_E} {mi : aw_M} {Z : aw_Zt} {d bc bs pc : Nat} {ls : List (Nat × Value)} {st : List Value} {n : Nat} {h : ah} {t m : Nat} {S : sT} {i x : Int32} (hd : decode mi.2.1 pc = .ok (.iastore, 1)) (H : is_wy h t S) (e : i = nI m) (hm : m < 64) (kk : ∀ h' : ah, is_wy h' t (sA S 2 (upd (S 2) m x)) → ah_off h h' t 5 → aw l E mi Z d bc bs (pc + 1) ls st n h') : aw l E mi Z d bc bs pc ls (.int x :: .int i :: .ref (t + 3) :: st) n h := by
  subst e
  refine aw_ia_wy2 hd H (vp_in_nI hm (by decide)) ?_
  rw [nI_clamp (by omega)]
  exact kk
theorem wy_a3 {h : ah} {t : Nat} {S : sT} {f : Nat → Int32} (H : is_wy h t S) : is_wy (ah_set h (t + 4) (aI 36 f)) t (sA S 3 f) := by
  intro j hj
  by_cases hq : j = 4
  · subst hq
    rw [ah_set_eq]; rfl
  · rw [ah_set_ne h _ (by omega), H j hj]
    exact (match j, hj, hq with
    | 0, _, hne => rfl
    | 1, _, hne => rfl
    | 2, _, hne => rfl
    | 3, _, hne => rfl
    | 4, _, hne => absurd rfl hne
    | j + 5, hj, _ => absurd hj (by omega))
theorem aw_ia_wy3 {l : Launch} {E : aw_E} {mi : aw_M} {Z : aw_Zt} {d bc bs pc : Nat} {ls : List (Nat × Value)} {st : List Value} {n : Nat} {h : ah} {t : Nat} {S : sT} {i x : Int32} (hd : decode mi.2.1 pc = .ok (.iastore, 1)) (H : is_wy h t S) (hin : vp_in i 36) (kk : ∀ h' : ah, is_wy h' t (sA S 3 (upd (S 3) i.toNatClampNeg x)) → ah_off h h' t 5 → aw l E mi Z d bc bs (pc + 1) ls st n h') : aw l E mi Z d bc bs pc ls (.int x :: .int i :: .ref (t + 4) :: st) n h :=
  aw_iast hd (wy_c4 H) hin (kk _ (wy_a3 H) (ah_off.set _ (by decide)))
theorem aw_iN_wy3 {l : Launch} {E : aw_E} {mi : aw_M} {Z : aw_Zt} {d bc bs pc : Nat} {ls : List (Nat × Value)} {st : List Value} {n : Nat} {h : ah} {t m : Nat} {S : sT} {i x : Int32} (hd : decode mi.2.1 pc = .ok (.iastore, 1)) (H : is_wy h t S) (e : i = nI m) (hm : m < 36) (kk : ∀ h' : ah, is_wy h' t (sA S 3 (upd (S 3) m x)) → ah_off h h' t 5 → aw l E mi Z d bc bs (pc + 1) ls st n h') : aw l E mi Z d bc bs pc ls (.int x :: .int i :: .ref (t + 4) :: st) n h := by
  subst e
  refine aw_ia_wy3 hd H (vp_in_nI hm (by decide)) ?_
  rw [nI_clamp (by omega)]
  exact kk
/-- the reference at t: rows 0 refused, 1 kinds, 2 honesty, 3 pieces, 4 pays, 5 handed, 6 noteOne, 7 notePieces, 8 noteWeight, 9 noteDay, 10 text, 11 readOnes, 12 ahead, 13 aside, 14 steps, 15 line, 16 bags, 17 bestBags, 18 images, 19 isKept; row 30: many, now, lied, noteMany, typed, readAt, readMany, readLied, readNumber, undoMany; longs: above, below, h0 -/
def moB (t : Nat) (S : sT) (L : Nat → Int64) : Nat → Option ae
  | 0 => some (aO 12 [.ref (t + 1), .int (S 30 0), .int (S 30 1), .int (S 30 2), .int (S 30 3), .ref (t + 2), .ref (t + 3), .ref (t + 4), .ref (t + 5), .ref (t + 6), .ref (t + 7), .ref (t + 8), .ref (t + 9), .ref (t + 10), .ref (t + 11), .int (S 30 4), .int (S 30 5), .int (S 30 6), .int (S 30 7), .ref (t + 12), .int (S 30 8), .ref (t + 13), .int (S 30 9), .ref (t + 14), .ref (t + 15), .ref (t + 16), .ref (t + 17), .ref (t + 18), .long (L 0), .long (L 1), .ref (t + 19), .ref (t + 20), .long (L 2)])
  | 1 => some (aI 3 (S 0))
  | 2 => some (aI 6 (S 1))
  | 3 => some (aI 6 (S 2))
  | 4 => some (aI 6 (S 3))
  | 5 => some (aI 6 (S 4))
  | 6 => some (aI 6 (S 5))
  | 7 => some (aI 6 (S 6))
  | 8 => some (aI 6 (S 7))
  | 9 => some (aI 6 (S 8))
  | 10 => some (aI 6 (S 9))
  | 11 => some (aI 150 (S 10))
  | 12 => some (aI 30 (S 11))
  | 13 => some (aI 112 (S 12))
  | 14 => some (aI 14 (S 13))
  | 15 => some (aI 6 (S 14))
  | 16 => some (aI 6 (S 15))
  | 17 => some (aI 6 (S 16))
  | 18 => some (aI 6 (S 17))
  | 19 => some (aI 360 (S 18))
  | 20 => some (aI 2 (S 19))
  | _ => none
def is_mo (h : ah) (t : Nat) (S : sT) (L : Nat → Int64) : Prop := ∀ j, j < 21 → h (t + j) = moB t S L j
theorem mo_c0 {h : ah} {t : Nat} {S : sT} {L : Nat → Int64} (H : is_mo h t S L) : h (t) = some (aO 12 [.ref (t + 1), .int (S 30 0), .int (S 30 1), .int (S 30 2), .int (S 30 3), .ref (t + 2), .ref (t + 3), .ref (t + 4), .ref (t + 5), .ref (t + 6), .ref (t + 7), .ref (t + 8), .ref (t + 9), .ref (t + 10), .ref (t + 11), .int (S 30 4), .int (S 30 5), .int (S 30 6), .int (S 30 7), .ref (t + 12), .int (S 30 8), .ref (t + 13), .int (S 30 9), .ref (t + 14), .ref (t + 15), .ref (t + 16), .ref (t + 17), .ref (t + 18), .long (L 0), .long (L 1), .ref (t + 19), .ref (t + 20), .long (L 2)]) := H 0 (by decide)
theorem mo_c1 {h : ah} {t : Nat} {S : sT} {L : Nat → Int64} (H : is_mo h t S L) : h (t + 1) = some (aI 3 (S 0)) := H 1 (by decide)
theorem mo_c2 {h : ah} {t : Nat} {S : sT} {L : Nat → Int64} (H : is_mo h t S L) : h (t + 2) = some (aI 6 (S 1)) := H 2 (by decide)
theorem mo_c3 {h : ah} {t : Nat} {S : sT} {L : Nat → Int64} (H : is_mo h t S L) : h (t + 3) = some (aI 6 (S 2)) := H 3 (by decide)
theorem mo_c4 {h : ah} {t : Nat} {S : sT} {L : Nat → Int64} (H : is_mo h t S L) : h (t + 4) = some (aI 6 (S 3)) := H 4 (by decide)
theorem mo_c5 {h : ah} {t : Nat} {S : sT} {L : Nat → Int64} (H : is_mo h t S L) : h (t + 5) = some (aI 6 (S 4)) := H 5 (by decide)
theorem mo_c6 {h : ah} {t : Nat} {S : sT} {L : Nat → Int64} (H : is_mo h t S L) : h (t + 6) = some (aI 6 (S 5)) := H 6 (by decide)
theorem mo_c7 {h : ah} {t : Nat} {S : sT} {L : Nat → Int64} (H : is_mo h t S L) : h (t + 7) = some (aI 6 (S 6)) := H 7 (by decide)
theorem mo_c8 {h : ah} {t : Nat} {S : sT} {L : Nat → Int64} (H : is_mo h t S L) : h (t + 8) = some (aI 6 (S 7)) := H 8 (by decide)
theorem mo_c9 {h : ah} {t : Nat} {S : sT} {L : Nat → Int64} (H : is_mo h t S L) : h (t + 9) = some (aI 6 (S 8)) := H 9 (by decide)
theorem mo_c10 {h : ah} {t : Nat} {S : sT} {L : Nat → Int64} (H : is_mo h t S L) : h (t + 10) = some (aI 6 (S 9)) := H 10 (by decide)
theorem mo_c11 {h : ah} {t : Nat} {S : sT} {L : Nat → Int64} (H : is_mo h t S L) : h (t + 11) = some (aI 150 (S 10)) := H 11 (by decide)
theorem mo_c12 {h : ah} {t : Nat} {S : sT} {L : Nat → Int64} (H : is_mo h t S L) : h (t + 12) = some (aI 30 (S 11)) := H 12 (by decide)
theorem mo_c13 {h : ah} {t : Nat} {S : sT} {L : Nat → Int64} (H : is_mo h t S L) : h (t + 13) = some (aI 112 (S 12)) := H 13 (by decide)
theorem mo_c14 {h : ah} {t : Nat} {S : sT} {L : Nat → Int64} (H : is_mo h t S L) : h (t + 14) = some (aI 14 (S 13)) := H 14 (by decide)
theorem mo_c15 {h : ah} {t : Nat} {S : sT} {L : Nat → Int64} (H : is_mo h t S L) : h (t + 15) = some (aI 6 (S 14)) := H 15 (by decide)
theorem mo_c16 {h : ah} {t : Nat} {S : sT} {L : Nat → Int64} (H : is_mo h t S L) : h (t + 16) = some (aI 6 (S 15)) := H 16 (by decide)
theorem mo_c17 {h : ah} {t : Nat} {S : sT} {L : Nat → Int64} (H : is_mo h t S L) : h (t + 17) = some (aI 6 (S 16)) := H 17 (by decide)
theorem mo_c18 {h : ah} {t : Nat} {S : sT} {L : Nat → Int64} (H : is_mo h t S L) : h (t + 18) = some (aI 6 (S 17)) := H 18 (by decide)
theorem mo_c19 {h : ah} {t : Nat} {S : sT} {L : Nat → Int64} (H : is_mo h t S L) : h (t + 19) = some (aI 360 (S 18)) := H 19 (by decide)
theorem mo_c20 {h : ah} {t : Nat} {S : sT} {L : Nat → Int64} (H : is_mo h t S L) : h (t + 20) = some (aI 2 (S 19)) := H 20 (by decide)
theorem mo_off {h h' : ah} {t s k : Nat} {S : sT} {L : Nat → Int64} (H : is_mo h t S L) (o : ah_off h h' s k) (hd : t + 21 ≤ s ∨ s + k ≤ t) : is_mo h' t S L := fun j hj => (o (t + j) (by omega)).trans (H j hj)
theorem mo_s0 {h : ah} {t : Nat} {S : sT} {L : Nat → Int64} {v : Int32} (H : is_mo h t S L) : is_mo (ah_set h (t + 0) (aO 12 [.ref (t + 1), .int v, .int (S 30 1), .int (S 30 2), .int (S 30 3), .ref (t + 2), .ref (t + 3), .ref (t + 4), .ref (t + 5), .ref (t + 6), .ref (t + 7), .ref (t + 8), .ref (t + 9), .ref (t + 10), .ref (t + 11), .int (S 30 4), .int (S 30 5), .int (S 30 6), .int (S 30 7), .ref (t + 12), .int (S 30 8), .ref (t + 13), .int (S 30 9), .ref (t + 14), .ref (t + 15), .ref (t + 16), .ref (t + 17), .ref (t + 18), .long (L 0), .long (L 1), .ref (t + 19), .ref (t + 20), .long (L 2)])) t (sS 30 S 0 v) L := by
  intro j hj
  by_cases hq : j = 0
  · subst hq
    rw [ah_set_eq]; rfl
  · rw [ah_set_ne h _ (by omega), H j hj]
    exact (match j, hj, hq with
    | 0, _, hne => absurd rfl hne
    | 1, _, hne => rfl
    | 2, _, hne => rfl
    | 3, _, hne => rfl
    | 4, _, hne => rfl
    | 5, _, hne => rfl
    | 6, _, hne => rfl
    | 7, _, hne => rfl
    | 8, _, hne => rfl
    | 9, _, hne => rfl
    | 10, _, hne => rfl
    | 11, _, hne => rfl
    | 12, _, hne => rfl
    | 13, _, hne => rfl
    | 14, _, hne => rfl
    | 15, _, hne => rfl
    | 16, _, hne => rfl
    | 17, _, hne => rfl
    | 18, _, hne => rfl
    | 19, _, hne => rfl
    | 20, _, hne => rfl
    | j + 21, hj, _ => absurd hj (by omega))
theorem aw_pf_mo0 {l : Launch} {E : aw_E} {mi : aw_M} {Z : aw_Zt} {d bc bs pc : Nat} {ls : List (Nat × Value)} {st : List Value} {n : Nat} {h : ah} {t i : Nat} {S : sT} {L : Nat → Int64} {v : Int32} (hd : decode mi.2.1 pc = .ok (.putfield i, 3)) (hf : aw_fp mi.1.cls i 12 1 false .int) (H : is_mo h t S L) (kk : ∀ h' : ah, is_mo h' t (sS 30 S 0 v) L → ah_off h h' t 21 → aw l E mi Z d bc bs (pc + 3) ls st n h') : aw l E mi Z d bc bs pc ls (.int v :: .ref (t) :: st) n h :=
  aw_put hd hf (mo_c0 H) (Nat.le_of_ble_eq_true rfl) rfl rfl (kk _ (mo_s0 H) (ah_off.set (j := 0) _ (by decide)))
theorem mo_s1 {h : ah} {t : Nat} {S : sT} {L : Nat → Int64} {v : Int32} (H : is_mo h t S L) : is_mo (ah_set h (t + 0) (aO 12 [.ref (t + 1), .int (S 30 0), .int v, .int (S 30 2), .int (S 30 3), .ref (t + 2), .ref (t + 3), .ref (t + 4), .ref (t + 5), .ref (t + 6), .ref (t + 7), .ref (t + 8), .ref (t + 9), .ref (t + 10), .ref (t + 11), .int (S 30 4), .int (S 30 5), .int (S 30 6), .int (S 30 7), .ref (t + 12), .int (S 30 8), .ref (t + 13), .int (S 30 9), .ref (t + 14), .ref (t + 15), .ref (t + 16), .ref (t + 17), .ref (t + 18), .long (L 0), .long (L 1), .ref (t + 19), .ref (t + 20), .long (L 2)])) t (sS 30 S 1 v) L := by
  intro j hj
  by_cases hq : j = 0
  · subst hq
    rw [ah_set_eq]; rfl
  · rw [ah_set_ne h _ (by omega), H j hj]
    exact (match j, hj, hq with
    | 0, _, hne => absurd rfl hne
    | 1, _, hne => rfl
    | 2, _, hne => rfl
    | 3, _, hne => rfl
    | 4, _, hne => rfl
    | 5, _, hne => rfl
    | 6, _, hne => rfl
    | 7, _, hne => rfl
    | 8, _, hne => rfl
    | 9, _, hne => rfl
    | 10, _, hne => rfl
    | 11, _, hne => rfl
    | 12, _, hne => rfl
    | 13, _, hne => rfl
    | 14, _, hne => rfl
    | 15, _, hne => rfl
    | 16, _, hne => rfl
    | 17, _, hne => rfl
    | 18, _, hne => rfl
    | 19, _, hne => rfl
    | 20, _, hne => rfl
    | j + 21, hj, _ => absurd hj (by omega))
theorem aw_pf_mo1 {l : Launch} {E : aw_E} {mi : aw_M} {Z : aw_Zt} {d bc bs pc : Nat} {ls : List (Nat × Value)} {st : List Value} {n : Nat} {h : ah} {t i : Nat} {S : sT} {L : Nat → Int64} {v : Int32} (hd : decode mi.2.1 pc = .ok (.putfield i, 3)) (hf : aw_fp mi.1.cls i 12 2 false .int) (H : is_mo h t S L) (kk : ∀ h' : ah, is_mo h' t (sS 30 S 1 v) L → ah_off h h' t 21 → aw l E mi Z d bc bs (pc + 3) ls st n h') : aw l E mi Z d bc bs pc ls (.int v :: .ref (t) :: st) n h :=
  aw_put hd hf (mo_c0 H) (Nat.le_of_ble_eq_true rfl) rfl rfl (kk _ (mo_s1 H) (ah_off.set (j := 0) _ (by decide)))
theorem mo_s2 {h : ah} {t : Nat} {S : sT} {L : Nat → Int64} {v : Int32} (H : is_mo h t S L) : is_mo (ah_set h (t + 0) (aO 12 [.ref (t + 1), .int (S 30 0), .int (S 30 1), .int v, .int (S 30 3), .ref (t + 2), .ref (t + 3), .ref (t + 4), .ref (t + 5), .ref (t + 6), .ref (t + 7), .ref (t + 8), .ref (t + 9), .ref (t + 10), .ref (t + 11), .int (S 30 4), .int (S 30 5), .int (S 30 6), .int (S 30 7), .ref (t + 12), .int (S 30 8), .ref (t + 13), .int (S 30 9), .ref (t + 14), .ref (t + 15), .ref (t + 16), .ref (t + 17), .ref (t + 18), .long (L 0), .long (L 1), .ref (t + 19), .ref (t + 20), .long (L 2)])) t (sS 30 S 2 v) L := by
  intro j hj
  by_cases hq : j = 0
  · subst hq
    rw [ah_set_eq]; rfl
  · rw [ah_set_ne h _ (by omega), H j hj]
    exact (match j, hj, hq with
    | 0, _, hne => absurd rfl hne
    | 1, _, hne => rfl
    | 2, _, hne => rfl
    | 3, _, hne => rfl
    | 4, _, hne => rfl
    | 5, _, hne => rfl
    | 6, _, hne => rfl
    | 7, _, hne => rfl
    | 8, _, hne => rfl
    | 9, _, hne => rfl
    | 10, _, hne => rfl
    | 11, _, hne => rfl
    | 12, _, hne => rfl
    | 13, _, hne => rfl
    | 14, _, hne => rfl
    | 15, _, hne => rfl
    | 16, _, hne => rfl
    | 17, _, hne => rfl
    | 18, _, hne => rfl
    | 19, _, hne => rfl
    | 20, _, hne => rfl
    | j + 21, hj, _ => absurd hj (by omega))
theorem aw_pf_mo2 {l : Launch} {E : aw_E} {mi : aw_M} {Z : aw_Zt} {d bc bs pc : Nat} {ls : List (Nat × Value)} {st : List Value} {n : Nat} {h : ah} {t i : Nat} {S : sT} {L : Nat → Int64} {v : Int32} (hd : decode mi.2.1 pc = .ok (.putfield i, 3)) (hf : aw_fp mi.1.cls i 12 3 false .int) (H : is_mo h t S L) (kk : ∀ h' : ah, is_mo h' t (sS 30 S 2 v) L → ah_off h h' t 21 → aw l E mi Z d bc bs (pc + 3) ls st n h') : aw l E mi Z d bc bs pc ls (.int v :: .ref (t) :: st) n h :=
  aw_put hd hf (mo_c0 H) (Nat.le_of_ble_eq_true rfl) rfl rfl (kk _ (mo_s2 H) (ah_off.set (j := 0) _ (by decide)))
theorem mo_s3 {h : ah} {t : Nat} {S : sT} {L : Nat → Int64} {v : Int32} (H : is_mo h t S L) : is_mo (ah_set h (t + 0) (aO 12 [.ref (t + 1), .int (S 30 0), .int (S 30 1), .int (S 30 2), .int v, .ref (t + 2), .ref (t + 3), .ref (t + 4), .ref (t + 5), .ref (t + 6), .ref (t + 7), .ref (t + 8), .ref (t + 9), .ref (t + 10), .ref (t + 11), .int (S 30 4), .int (S 30 5), .int (S 30 6), .int (S 30 7), .ref (t + 12), .int (S 30 8), .ref (t + 13), .int (S 30 9), .ref (t + 14), .ref (t + 15), .ref (t + 16), .ref (t + 17), .ref (t + 18), .long (L 0), .long (L 1), .ref (t + 19), .ref (t + 20), .long (L 2)])) t (sS 30 S 3 v) L := by
  intro j hj
  by_cases hq : j = 0
  · subst hq
    rw [ah_set_eq]; rfl
  · rw [ah_set_ne h _ (by omega), H j hj]
    exact (match j, hj, hq with
    | 0, _, hne => absurd rfl hne
    | 1, _, hne => rfl
    | 2, _, hne => rfl
    | 3, _, hne => rfl
    | 4, _, hne => rfl
    | 5, _, hne => rfl
    | 6, _, hne => rfl
    | 7, _, hne => rfl
    | 8, _, hne => rfl
    | 9, _, hne => rfl
    | 10, _, hne => rfl
    | 11, _, hne => rfl
    | 12, _, hne => rfl
    | 13, _, hne => rfl
    | 14, _, hne => rfl
    | 15, _, hne => rfl
    | 16, _, hne => rfl
    | 17, _, hne => rfl
    | 18, _, hne => rfl
    | 19, _, hne => rfl
    | 20, _, hne => rfl
    | j + 21, hj, _ => absurd hj (by omega))
theorem aw_pf_mo3 {l : Launch} {E : aw_E} {mi : aw_M} {Z : aw_Zt} {d bc bs pc : Nat} {ls : List (Nat × Value)} {st : List Value} {n : Nat} {h : ah} {t i : Nat} {S : sT} {L : Nat → Int64} {v : Int32} (hd : decode mi.2.1 pc = .ok (.putfield i, 3)) (hf : aw_fp mi.1.cls i 12 4 false .int) (H : is_mo h t S L) (kk : ∀ h' : ah, is_mo h' t (sS 30 S 3 v) L → ah_off h h' t 21 → aw l E mi Z d bc bs (pc + 3) ls st n h') : aw l E mi Z d bc bs pc ls (.int v :: .ref (t) :: st) n h :=
  aw_put hd hf (mo_c0 H) (Nat.le_of_ble_eq_true rfl) rfl rfl (kk _ (mo_s3 H) (ah_off.set (j := 0) _ (by decide)))
theorem mo_s4 {h : ah} {t : Nat} {S : sT} {L : Nat → Int64} {v : Int32} (H : is_mo h t S L) : is_mo (ah_set h (t + 0) (aO 12 [.ref (t + 1), .int (S 30 0), .int (S 30 1), .int (S 30 2), .int (S 30 3), .ref (t + 2), .ref (t + 3), .ref (t + 4), .ref (t + 5), .ref (t + 6), .ref (t + 7), .ref (t + 8), .ref (t + 9), .ref (t + 10), .ref (t + 11), .int v, .int (S 30 5), .int (S 30 6), .int (S 30 7), .ref (t + 12), .int (S 30 8), .ref (t + 13), .int (S 30 9), .ref (t + 14), .ref (t + 15), .ref (t + 16), .ref (t + 17), .ref (t + 18), .long (L 0), .long (L 1), .ref (t + 19), .ref (t + 20), .long (L 2)])) t (sS 30 S 4 v) L := by
  intro j hj
  by_cases hq : j = 0
  · subst hq
    rw [ah_set_eq]; rfl
  · rw [ah_set_ne h _ (by omega), H j hj]
    exact (match j, hj, hq with
    | 0, _, hne => absurd rfl hne
    | 1, _, hne => rfl
    | 2, _, hne => rfl
    | 3, _, hne => rfl
    | 4, _, hne => rfl
    | 5, _, hne => rfl
    | 6, _, hne => rfl
    | 7, _, hne => rfl
    | 8, _, hne => rfl
    | 9, _, hne => rfl
    | 10, _, hne => rfl
    | 11, _, hne => rfl
    | 12, _, hne => rfl
    | 13, _, hne => rfl
    | 14, _, hne => rfl
    | 15, _, hne => rfl
    | 16, _, hne => rfl
    | 17, _, hne => rfl
    | 18, _, hne => rfl
    | 19, _, hne => rfl
    | 20, _, hne => rfl
    | j + 21, hj, _ => absurd hj (by omega))
theorem aw_pf_mo4 {l : Launch} {E : aw_E} {mi : aw_M} {Z : aw_Zt} {d bc bs pc : Nat} {ls : List (Nat × Value)} {st : List Value} {n : Nat} {h : ah} {t i : Nat} {S : sT} {L : Nat → Int64} {v : Int32} (hd : decode mi.2.1 pc = .ok (.putfield i, 3)) (hf : aw_fp mi.1.cls i 12 15 false .int) (H : is_mo h t S L) (kk : ∀ h' : ah, is_mo h' t (sS 30 S 4 v) L → ah_off h h' t 21 → aw l E mi Z d bc bs (pc + 3) ls st n h') : aw l E mi Z d bc bs pc ls (.int v :: .ref (t) :: st) n h :=
  aw_put hd hf (mo_c0 H) (Nat.le_of_ble_eq_true rfl) rfl rfl (kk _ (mo_s4 H) (ah_off.set (j := 0) _ (by decide)))
theorem mo_s5 {h : ah} {t : Nat} {S : sT} {L : Nat → Int64} {v : Int32} (H : is_mo h t S L) : is_mo (ah_set h (t + 0) (aO 12 [.ref (t + 1), .int (S 30 0), .int (S 30 1), .int (S 30 2), .int (S 30 3), .ref (t + 2), .ref (t + 3), .ref (t + 4), .ref (t + 5), .ref (t + 6), .ref (t + 7), .ref (t + 8), .ref (t + 9), .ref (t + 10), .ref (t + 11), .int (S 30 4), .int v, .int (S 30 6), .int (S 30 7), .ref (t + 12), .int (S 30 8), .ref (t + 13), .int (S 30 9), .ref (t + 14), .ref (t + 15), .ref (t + 16), .ref (t + 17), .ref (t + 18), .long (L 0), .long (L 1), .ref (t + 19), .ref (t + 20), .long (L 2)])) t (sS 30 S 5 v) L := by
  intro j hj
  by_cases hq : j = 0
  · subst hq
    rw [ah_set_eq]; rfl
  · rw [ah_set_ne h _ (by omega), H j hj]
    exact (match j, hj, hq with
    | 0, _, hne => absurd rfl hne
    | 1, _, hne => rfl
    | 2, _, hne => rfl
    | 3, _, hne => rfl
    | 4, _, hne => rfl
    | 5, _, hne => rfl
    | 6, _, hne => rfl
    | 7, _, hne => rfl
    | 8, _, hne => rfl
    | 9, _, hne => rfl
    | 10, _, hne => rfl
    | 11, _, hne => rfl
    | 12, _, hne => rfl
    | 13, _, hne => rfl
    | 14, _, hne => rfl
    | 15, _, hne => rfl
    | 16, _, hne => rfl
    | 17, _, hne => rfl
    | 18, _, hne => rfl
    | 19, _, hne => rfl
    | 20, _, hne => rfl
    | j + 21, hj, _ => absurd hj (by omega))
theorem aw_pf_mo5 {l : Launch} {E : aw_E} {mi : aw_M} {Z : aw_Zt} {d bc bs pc : Nat} {ls : List (Nat × Value)} {st : List Value} {n : Nat} {h : ah} {t i : Nat} {S : sT} {L : Nat → Int64} {v : Int32} (hd : decode mi.2.1 pc = .ok (.putfield i, 3)) (hf : aw_fp mi.1.cls i 12 16 false .int) (H : is_mo h t S L) (kk : ∀ h' : ah, is_mo h' t (sS 30 S 5 v) L → ah_off h h' t 21 → aw l E mi Z d bc bs (pc + 3) ls st n h') : aw l E mi Z d bc bs pc ls (.int v :: .ref (t) :: st) n h :=
  aw_put hd hf (mo_c0 H) (Nat.le_of_ble_eq_true rfl) rfl rfl (kk _ (mo_s5 H) (ah_off.set (j := 0) _ (by decide)))
theorem mo_s6 {h : ah} {t : Nat} {S : sT} {L : Nat → Int64} {v : Int32} (H : is_mo h t S L) : is_mo (ah_set h (t + 0) (aO 12 [.ref (t + 1), .int (S 30 0), .int (S 30 1), .int (S 30 2), .int (S 30 3), .ref (t + 2), .ref (t + 3), .ref (t + 4), .ref (t + 5), .ref (t + 6), .ref (t + 7), .ref (t + 8), .ref (t + 9), .ref (t + 10), .ref (t + 11), .int (S 30 4), .int (S 30 5), .int v, .int (S 30 7), .ref (t + 12), .int (S 30 8), .ref (t + 13), .int (S 30 9), .ref (t + 14), .ref (t + 15), .ref (t + 16), .ref (t + 17), .ref (t + 18), .long (L 0), .long (L 1), .ref (t + 19), .ref (t + 20), .long (L 2)])) t (sS 30 S 6 v) L := by
  intro j hj
  by_cases hq : j = 0
  · subst hq
    rw [ah_set_eq]; rfl
  · rw [ah_set_ne h _ (by omega), H j hj]
    exact (match j, hj, hq with
    | 0, _, hne => absurd rfl hne
    | 1, _, hne => rfl
    | 2, _, hne => rfl
    | 3, _, hne => rfl
    | 4, _, hne => rfl
    | 5, _, hne => rfl
    | 6, _, hne => rfl
    | 7, _, hne => rfl
    | 8, _, hne => rfl
    | 9, _, hne => rfl
    | 10, _, hne => rfl
    | 11, _, hne => rfl
    | 12, _, hne => rfl
    | 13, _, hne => rfl
    | 14, _, hne => rfl
    | 15, _, hne => rfl
    | 16, _, hne => rfl
    | 17, _, hne => rfl
    | 18, _, hne => rfl
    | 19, _, hne => rfl
    | 20, _, hne => rfl
    | j + 21, hj, _ => absurd hj (by omega))
theorem aw_pf_mo6 {l : Launch} {E : aw_E} {mi : aw_M} {Z : aw_Zt} {d bc bs pc : Nat} {ls : List (Nat × Value)} {st : List Value} {n : Nat} {h : ah} {t i : Nat} {S : sT} {L : Nat → Int64} {v : Int32} (hd : decode mi.2.1 pc = .ok (.putfield i, 3)) (hf : aw_fp mi.1.cls i 12 17 false .int) (H : is_mo h t S L) (kk : ∀ h' : ah, is_mo h' t (sS 30 S 6 v) L → ah_off h h' t 21 → aw l E mi Z d bc bs (pc + 3) ls st n h') : aw l E mi Z d bc bs pc ls (.int v :: .ref (t) :: st) n h :=
  aw_put hd hf (mo_c0 H) (Nat.le_of_ble_eq_true rfl) rfl rfl (kk _ (mo_s6 H) (ah_off.set (j := 0) _ (by decide)))
theorem mo_s7 {h : ah} {t : Nat} {S : sT} {L : Nat → Int64} {v : Int32} (H : is_mo h t S L) : is_mo (ah_set h (t + 0) (aO 12 [.ref (t + 1), .int (S 30 0), .int (S 30 1), .int (S 30 2), .int (S 30 3), .ref (t + 2), .ref (t + 3), .ref (t + 4), .ref (t + 5), .ref (t + 6), .ref (t + 7), .ref (t + 8), .ref (t + 9), .ref (t + 10), .ref (t + 11), .int (S 30 4), .int (S 30 5), .int (S 30 6), .int v, .ref (t + 12), .int (S 30 8), .ref (t + 13), .int (S 30 9), .ref (t + 14), .ref (t + 15), .ref (t + 16), .ref (t + 17), .ref (t + 18), .long (L 0), .long (L 1), .ref (t + 19), .ref (t + 20), .long (L 2)])) t (sS 30 S 7 v) L := by
  intro j hj
  by_cases hq : j = 0
  · subst hq
    rw [ah_set_eq]; rfl
  · rw [ah_set_ne h _ (by omega), H j hj]
    exact (match j, hj, hq with
    | 0, _, hne => absurd rfl hne
    | 1, _, hne => rfl
    | 2, _, hne => rfl
    | 3, _, hne => rfl
    | 4, _, hne => rfl
    | 5, _, hne => rfl
    | 6, _, hne => rfl
    | 7, _, hne => rfl
    | 8, _, hne => rfl
    | 9, _, hne => rfl
    | 10, _, hne => rfl
    | 11, _, hne => rfl
    | 12, _, hne => rfl
    | 13, _, hne => rfl
    | 14, _, hne => rfl
    | 15, _, hne => rfl
    | 16, _, hne => rfl
    | 17, _, hne => rfl
    | 18, _, hne => rfl
    | 19, _, hne => rfl
    | 20, _, hne => rfl
    | j + 21, hj, _ => absurd hj (by omega))
theorem aw_pf_mo7 {l : Launch} {E : aw_E} {mi : aw_M} {Z : aw_Zt} {d bc bs pc : Nat} {ls : List (Nat × Value)} {st : List Value} {n : Nat} {h : ah} {t i : Nat} {S : sT} {L : Nat → Int64} {v : Int32} (hd : decode mi.2.1 pc = .ok (.putfield i, 3)) (hf : aw_fp mi.1.cls i 12 18 false .int) (H : is_mo h t S L) (kk : ∀ h' : ah, is_mo h' t (sS 30 S 7 v) L → ah_off h h' t 21 → aw l E mi Z d bc bs (pc + 3) ls st n h') : aw l E mi Z d bc bs pc ls (.int v :: .ref (t) :: st) n h :=
  aw_put hd hf (mo_c0 H) (Nat.le_of_ble_eq_true rfl) rfl rfl (kk _ (mo_s7 H) (ah_off.set (j := 0) _ (by decide)))
theorem mo_s8 {h : ah} {t : Nat} {S : sT} {L : Nat → Int64} {v : Int32} (H : is_mo h t S L) : is_mo (ah_set h (t + 0) (aO 12 [.ref (t + 1), .int (S 30 0), .int (S 30 1), .int (S 30 2), .int (S 30 3), .ref (t + 2), .ref (t + 3), .ref (t + 4), .ref (t + 5), .ref (t + 6), .ref (t + 7), .ref (t + 8), .ref (t + 9), .ref (t + 10), .ref (t + 11), .int (S 30 4), .int (S 30 5), .int (S 30 6), .int (S 30 7), .ref (t + 12), .int v, .ref (t + 13), .int (S 30 9), .ref (t + 14), .ref (t + 15), .ref (t + 16), .ref (t + 17), .ref (t + 18), .long (L 0), .long (L 1), .ref (t + 19), .ref (t + 20), .long (L 2)])) t (sS 30 S 8 v) L := by
  intro j hj
  by_cases hq : j = 0
  · subst hq
    rw [ah_set_eq]; rfl
  · rw [ah_set_ne h _ (by omega), H j hj]
    exact (match j, hj, hq with
    | 0, _, hne => absurd rfl hne
    | 1, _, hne => rfl
    | 2, _, hne => rfl
    | 3, _, hne => rfl
    | 4, _, hne => rfl
    | 5, _, hne => rfl
    | 6, _, hne => rfl
    | 7, _, hne => rfl
    | 8, _, hne => rfl
    | 9, _, hne => rfl
    | 10, _, hne => rfl
    | 11, _, hne => rfl
    | 12, _, hne => rfl
    | 13, _, hne => rfl
    | 14, _, hne => rfl
    | 15, _, hne => rfl
    | 16, _, hne => rfl
    | 17, _, hne => rfl
    | 18, _, hne => rfl
    | 19, _, hne => rfl
    | 20, _, hne => rfl
    | j + 21, hj, _ => absurd hj (by omega))
theorem aw_pf_mo8 {l : Launch} {E : aw_E} {mi : aw_M} {Z : aw_Zt} {d bc bs pc : Nat} {ls : List (Nat × Value)} {st : List Value} {n : Nat} {h : ah} {t i : Nat} {S : sT} {L : Nat → Int64} {v : Int32} (hd : decode mi.2.1 pc = .ok (.putfield i, 3)) (hf : aw_fp mi.1.cls i 12 20 false .int) (H : is_mo h t S L) (kk : ∀ h' : ah, is_mo h' t (sS 30 S 8 v) L → ah_off h h' t 21 → aw l E mi Z d bc bs (pc + 3) ls st n h') : aw l E mi Z d bc bs pc ls (.int v :: .ref (t) :: st) n h :=
  aw_put hd hf (mo_c0 H) (Nat.le_of_ble_eq_true rfl) rfl rfl (kk _ (mo_s8 H) (ah_off.set (j := 0) _ (by decide)))
theorem mo_s9 {h : ah} {t : Nat} {S : sT} {L : Nat → Int64} {v : Int32} (H : is_mo h t S L) : is_mo (ah_set h (t + 0) (aO 12 [.ref (t + 1), .int (S 30 0), .int (S 30 1), .int (S 30 2), .int (S 30 3), .ref (t + 2), .ref (t + 3), .ref (t + 4), .ref (t + 5), .ref (t + 6), .ref (t + 7), .ref (t + 8), .ref (t + 9), .ref (t + 10), .ref (t + 11), .int (S 30 4), .int (S 30 5), .int (S 30 6), .int (S 30 7), .ref (t + 12), .int (S 30 8), .ref (t + 13), .int v, .ref (t + 14), .ref (t + 15), .ref (t + 16), .ref (t + 17), .ref (t + 18), .long (L 0), .long (L 1), .ref (t + 19), .ref (t + 20), .long (L 2)])) t (sS 30 S 9 v) L := by
  intro j hj
  by_cases hq : j = 0
  · subst hq
    rw [ah_set_eq]; rfl
  · rw [ah_set_ne h _ (by omega), H j hj]
    exact (match j, hj, hq with
    | 0, _, hne => absurd rfl hne
    | 1, _, hne => rfl
    | 2, _, hne => rfl
    | 3, _, hne => rfl
    | 4, _, hne => rfl
    | 5, _, hne => rfl
    | 6, _, hne => rfl
    | 7, _, hne => rfl
    | 8, _, hne => rfl
    | 9, _, hne => rfl
    | 10, _, hne => rfl
    | 11, _, hne => rfl
    | 12, _, hne => rfl
    | 13, _, hne => rfl
    | 14, _, hne => rfl
    | 15, _, hne => rfl
    | 16, _, hne => rfl
    | 17, _, hne => rfl
    | 18, _, hne => rfl
    | 19, _, hne => rfl
    | 20, _, hne => rfl
    | j + 21, hj, _ => absurd hj (by omega))
theorem aw_pf_mo9 {l : Launch} {E : aw_E} {mi : aw_M} {Z : aw_Zt} {d bc bs pc : Nat} {ls : List (Nat × Value)} {st : List Value} {n : Nat} {h : ah} {t i : Nat} {S : sT} {L : Nat → Int64} {v : Int32} (hd : decode mi.2.1 pc = .ok (.putfield i, 3)) (hf : aw_fp mi.1.cls i 12 22 false .int) (H : is_mo h t S L) (kk : ∀ h' : ah, is_mo h' t (sS 30 S 9 v) L → ah_off h h' t 21 → aw l E mi Z d bc bs (pc + 3) ls st n h') : aw l E mi Z d bc bs pc ls (.int v :: .ref (t) :: st) n h :=
  aw_put hd hf (mo_c0 H) (Nat.le_of_ble_eq_true rfl) rfl rfl (kk _ (mo_s9 H) (ah_off.set (j := 0) _ (by decide)))
theorem mo_l0 {h : ah} {t : Nat} {S : sT} {L : Nat → Int64} {v : Int64} (H : is_mo h t S L) : is_mo (ah_set h (t + 0) (aO 12 [.ref (t + 1), .int (S 30 0), .int (S 30 1), .int (S 30 2), .int (S 30 3), .ref (t + 2), .ref (t + 3), .ref (t + 4), .ref (t + 5), .ref (t + 6), .ref (t + 7), .ref (t + 8), .ref (t + 9), .ref (t + 10), .ref (t + 11), .int (S 30 4), .int (S 30 5), .int (S 30 6), .int (S 30 7), .ref (t + 12), .int (S 30 8), .ref (t + 13), .int (S 30 9), .ref (t + 14), .ref (t + 15), .ref (t + 16), .ref (t + 17), .ref (t + 18), .long v, .long (L 1), .ref (t + 19), .ref (t + 20), .long (L 2)])) t (S) (vp_updL L 0 v) := by
  intro j hj
  by_cases hq : j = 0
  · subst hq
    rw [ah_set_eq]; rfl
  · rw [ah_set_ne h _ (by omega), H j hj]
    exact (match j, hj, hq with
    | 0, _, hne => absurd rfl hne
    | 1, _, hne => rfl
    | 2, _, hne => rfl
    | 3, _, hne => rfl
    | 4, _, hne => rfl
    | 5, _, hne => rfl
    | 6, _, hne => rfl
    | 7, _, hne => rfl
    | 8, _, hne => rfl
    | 9, _, hne => rfl
    | 10, _, hne => rfl
    | 11, _, hne => rfl
    | 12, _, hne => rfl
    | 13, _, hne => rfl
    | 14, _, hne => rfl
    | 15, _, hne => rfl
    | 16, _, hne => rfl
    | 17, _, hne => rfl
    | 18, _, hne => rfl
    | 19, _, hne => rfl
    | 20, _, hne => rfl
    | j + 21, hj, _ => absurd hj (by omega))
theorem aw_pl_mo0 {l : Launch} {E : aw_E} {mi : aw_M} {Z : aw_Zt} {d bc bs pc : Nat} {ls : List (Nat × Value)} {st : List Value} {n : Nat} {h : ah} {t i : Nat} {S : sT} {L : Nat → Int64} {v : Int64} (hd : decode mi.2.1 pc = .ok (.putfield i, 3)) (hf : aw_fp mi.1.cls i 12 28 false .long) (H : is_mo h t S L) (kk : ∀ h' : ah, is_mo h' t S (vp_updL L 0 v) → ah_off h h' t 21 → aw l E mi Z d bc bs (pc + 3) ls st n h') : aw l E mi Z d bc bs pc ls (.long v :: .ref (t) :: st) n h :=
  aw_put hd hf (mo_c0 H) (Nat.le_of_ble_eq_true rfl) rfl rfl (kk _ (mo_l0 H) (ah_off.set (j := 0) _ (by decide)))
theorem mo_l1 {h : ah} {t : Nat} {S : sT} {L : Nat → Int64} {v : Int64} (H : is_mo h t S L) : is_mo (ah_set h (t + 0) (aO 12 [.ref (t + 1), .int (S 30 0), .int (S 30 1), .int (S 30 2), .int (S 30 3), .ref (t + 2), .ref (t + 3), .ref (t + 4), .ref (t + 5), .ref (t + 6), .ref (t + 7), .ref (t + 8), .ref (t + 9), .ref (t + 10), .ref (t + 11), .int (S 30 4), .int (S 30 5), .int (S 30 6), .int (S 30 7), .ref (t + 12), .int (S 30 8), .ref (t + 13), .int (S 30 9), .ref (t + 14), .ref (t + 15), .ref (t + 16), .ref (t + 17), .ref (t + 18), .long (L 0), .long v, .ref (t + 19), .ref (t + 20), .long (L 2)])) t (S) (vp_updL L 1 v) := by
  intro j hj
  by_cases hq : j = 0
  · subst hq
    rw [ah_set_eq]; rfl
  · rw [ah_set_ne h _ (by omega), H j hj]
    exact (match j, hj, hq with
    | 0, _, hne => absurd rfl hne
    | 1, _, hne => rfl
    | 2, _, hne => rfl
    | 3, _, hne => rfl
    | 4, _, hne => rfl
    | 5, _, hne => rfl
    | 6, _, hne => rfl
    | 7, _, hne => rfl
    | 8, _, hne => rfl
    | 9, _, hne => rfl
    | 10, _, hne => rfl
    | 11, _, hne => rfl
    | 12, _, hne => rfl
    | 13, _, hne => rfl
    | 14, _, hne => rfl
    | 15, _, hne => rfl
    | 16, _, hne => rfl
    | 17, _, hne => rfl
    | 18, _, hne => rfl
    | 19, _, hne => rfl
    | 20, _, hne => rfl
    | j + 21, hj, _ => absurd hj (by omega))
theorem aw_pl_mo1 {l : Launch} {E : aw_E} {mi : aw_M} {Z : aw_Zt} {d bc bs pc : Nat} {ls : List (Nat × Value)} {st : List Value} {n : Nat} {h : ah} {t i : Nat} {S : sT} {L : Nat → Int64} {v : Int64} (hd : decode mi.2.1 pc = .ok (.putfield i, 3)) (hf : aw_fp mi.1.cls i 12 29 false .long) (H : is_mo h t S L) (kk : ∀ h' : ah, is_mo h' t S (vp_updL L 1 v) → ah_off h h' t 21 → aw l E mi Z d bc bs (pc + 3) ls st n h') : aw l E mi Z d bc bs pc ls (.long v :: .ref (t) :: st) n h :=
  aw_put hd hf (mo_c0 H) (Nat.le_of_ble_eq_true rfl) rfl rfl (kk _ (mo_l1 H) (ah_off.set (j := 0) _ (by decide)))
theorem mo_l2 {h : ah} {t : Nat} {S : sT} {L : Nat → Int64} {v : Int64} (H : is_mo h t S L) : is_mo (ah_set h (t + 0) (aO 12 [.ref (t + 1), .int (S 30 0), .int (S 30 1), .int (S 30 2), .int (S 30 3), .ref (t + 2), .ref (t + 3), .ref (t + 4), .ref (t + 5), .ref (t + 6), .ref (t + 7), .ref (t + 8), .ref (t + 9), .ref (t + 10), .ref (t + 11), .int (S 30 4), .int (S 30 5), .int (S 30 6), .int (S 30 7), .ref (t + 12), .int (S 30 8), .ref (t + 13), .int (S 30 9), .ref (t + 14), .ref (t + 15), .ref (t + 16), .ref (t + 17), .ref (t + 18), .long (L 0), .long (L 1), .ref (t + 19), .ref (t + 20), .long v])) t (S) (vp_updL L 2 v) := by
  intro j hj
  by_cases hq : j = 0
  · subst hq
    rw [ah_set_eq]; rfl
  · rw [ah_set_ne h _ (by omega), H j hj]
    exact (match j, hj, hq with
    | 0, _, hne => absurd rfl hne
    | 1, _, hne => rfl
    | 2, _, hne => rfl
    | 3, _, hne => rfl
    | 4, _, hne => rfl
    | 5, _, hne => rfl
    | 6, _, hne => rfl
    | 7, _, hne => rfl
    | 8, _, hne => rfl
    | 9, _, hne => rfl
    | 10, _, hne => rfl
    | 11, _, hne => rfl
    | 12, _, hne => rfl
    | 13, _, hne => rfl
    | 14, _, hne => rfl
    | 15, _, hne => rfl
    | 16, _, hne => rfl
    | 17, _, hne => rfl
    | 18, _, hne => rfl
    | 19, _, hne => rfl
    | 20, _, hne => rfl
    | j + 21, hj, _ => absurd hj (by omega))
theorem aw_pl_mo2 {l : Launch} {E : aw_E} {mi : aw_M} {Z : aw_Zt} {d bc bs pc : Nat} {ls : List (Nat × Value)} {st : List Value} {n : Nat} {h : ah} {t i : Nat} {S : sT} {L : Nat → Int64} {v : Int64} (hd : decode mi.2.1 pc = .ok (.putfield i, 3)) (hf : aw_fp mi.1.cls i 12 32 false .long) (H : is_mo h t S L) (kk : ∀ h' : ah, is_mo h' t S (vp_updL L 2 v) → ah_off h h' t 21 → aw l E mi Z d bc bs (pc + 3) ls st n h') : aw l E mi Z d bc bs pc ls (.long v :: .ref (t) :: st) n h :=
  aw_put hd hf (mo_c0 H) (Nat.le_of_ble_eq_true rfl) rfl rfl (kk _ (mo_l2 H) (ah_off.set (j := 0) _ (by decide)))
theorem mo_a0 {h : ah} {t : Nat} {S : sT} {L : Nat → Int64} {f : Nat → Int32} (H : is_mo h t S L) : is_mo (ah_set h (t + 1) (aI 3 f)) t (sA S 0 f) L := by
  intro j hj
  by_cases hq : j = 1
  · subst hq
    rw [ah_set_eq]; rfl
  · rw [ah_set_ne h _ (by omega), H j hj]
    exact (match j, hj, hq with
    | 0, _, hne => rfl
    | 1, _, hne => absurd rfl hne
    | 2, _, hne => rfl
    | 3, _, hne => rfl
    | 4, _, hne => rfl
    | 5, _, hne => rfl
    | 6, _, hne => rfl
    | 7, _, hne => rfl
    | 8, _, hne => rfl
    | 9, _, hne => rfl
    | 10, _, hne => rfl
    | 11, _, hne => rfl
    | 12, _, hne => rfl
    | 13, _, hne => rfl
    | 14, _, hne => rfl
    | 15, _, hne => rfl
    | 16, _, hne => rfl
    | 17, _, hne => rfl
    | 18, _, hne => rfl
    | 19, _, hne => rfl
    | 20, _, hne => rfl
    | j + 21, hj, _ => absurd hj (by omega))
theorem aw_ia_mo0 {l : Launch} {E : aw_E} {mi : aw_M} {Z : aw_Zt} {d bc bs pc : Nat} {ls : List (Nat × Value)} {st : List Value} {n : Nat} {h : ah} {t : Nat} {S : sT} {L : Nat → Int64} {i x : Int32} (hd : decode mi.2.1 pc = .ok (.iastore, 1)) (H : is_mo h t S L) (hin : vp_in i 3) (kk : ∀ h' : ah, is_mo h' t (sA S 0 (upd (S 0) i.toNatClampNeg x)) L → ah_off h h' t 21 → aw l E mi Z d bc bs (pc + 1) ls st n h') : aw l E mi Z d bc bs pc ls (.int x :: .int i :: .ref (t + 1) :: st) n h :=
  aw_iast hd (mo_c1 H) hin (kk _ (mo_a0 H) (ah_off.set _ (by decide)))
theorem aw_iN_mo0 {l : Launch} {E : aw_E} {mi : aw_M} {Z : aw_Zt} {d bc bs pc : Nat} {ls : List (Nat × Value)} {st : List Value} {n : Nat} {h : ah} {t m : Nat} {S : sT} {L : Nat → Int64} {i x : Int32} (hd : decode mi.2.1 pc = .ok (.iastore, 1)) (H : is_mo h t S L) (e : i = nI m) (hm : m < 3) (kk : ∀ h' : ah, is_mo h' t (sA S 0 (upd (S 0) m x)) L → ah_off h h' t 21 → aw l E mi Z d bc bs (pc + 1) ls st n h') : aw l E mi Z d bc bs pc ls (.int x :: .int i :: .ref (t + 1) :: st) n h := by
  subst e
  refine aw_ia_mo0 hd H (vp_in_nI hm (by decide)) ?_
  rw [nI_clamp (by omega)]
  exact kk
theorem mo_a1 {h : ah} {t : Nat} {S : sT} {L : Nat → Int64} {f : Nat → Int32} (H : is_mo h t S L) : is_mo (ah_set h (t + 2) (aI 6 f)) t (sA S 1 f) L := by
  intro j hj
  by_cases hq : j = 2
  · subst hq
    rw [ah_set_eq]; rfl
  · rw [ah_set_ne h _ (by omega), H j hj]
    exact (match j, hj, hq with
    | 0, _, hne => rfl
    | 1, _, hne => rfl
    | 2, _, hne => absurd rfl hne
    | 3, _, hne => rfl
    | 4, _, hne => rfl
    | 5, _, hne => rfl
    | 6, _, hne => rfl
    | 7, _, hne => rfl
    | 8, _, hne => rfl
    | 9, _, hne => rfl
    | 10, _, hne => rfl
    | 11, _, hne => rfl
    | 12, _, hne => rfl
    | 13, _, hne => rfl
    | 14, _, hne => rfl
    | 15, _, hne => rfl
    | 16, _, hne => rfl
    | 17, _, hne => rfl
    | 18, _, hne => rfl
    | 19, _, hne => rfl
    | 20, _, hne => rfl
    | j + 21, hj, _ => absurd hj (by omega))
theorem aw_ia_mo1 {l : Launch} {E : aw_E} {mi : aw_M} {Z : aw_Zt} {d bc bs pc : Nat} {ls : List (Nat × Value)} {st : List Value} {n : Nat} {h : ah} {t : Nat} {S : sT} {L : Nat → Int64} {i x : Int32} (hd : decode mi.2.1 pc = .ok (.iastore, 1)) (H : is_mo h t S L) (hin : vp_in i 6) (kk : ∀ h' : ah, is_mo h' t (sA S 1 (upd (S 1) i.toNatClampNeg x)) L → ah_off h h' t 21 → aw l E mi Z d bc bs (pc + 1) ls st n h') : aw l E mi Z d bc bs pc ls (.int x :: .int i :: .ref (t + 2) :: st) n h :=
  aw_iast hd (mo_c2 H) hin (kk _ (mo_a1 H) (ah_off.set _ (by decide)))
theorem aw_iN_mo1 {l : Launch} {E : aw_E} {mi : aw_M} {Z : aw_Zt} {d bc bs pc : Nat} {ls : List (Nat × Value)} {st : List Value} {n : Nat} {h : ah} {t m : Nat} {S : sT} {L : Nat → Int64} {i x : Int32} (hd : decode mi.2.1 pc = .ok (.iastore, 1)) (H : is_mo h t S L) (e : i = nI m) (hm : m < 6) (kk : ∀ h' : ah, is_mo h' t (sA S 1 (upd (S 1) m x)) L → ah_off h h' t 21 → aw l E mi Z d bc bs (pc + 1) ls st n h') : aw l E mi Z d bc bs pc ls (.int x :: .int i :: .ref (t + 2) :: st) n h := by
  subst e
  refine aw_ia_mo1 hd H (vp_in_nI hm (by decide)) ?_
  rw [nI_clamp (by omega)]
  exact kk
theorem mo_a2 {h : ah} {t : Nat} {S : sT} {L : Nat → Int64} {f : Nat → Int32} (H : is_mo h t S L) : is_mo (ah_set h (t + 3) (aI 6 f)) t (sA S 2 f) L := by
  intro j hj
  by_cases hq : j = 3
  · subst hq
    rw [ah_set_eq]; rfl
  · rw [ah_set_ne h _ (by omega), H j hj]
    exact (match j, hj, hq with
    | 0, _, hne => rfl
    | 1, _, hne => rfl
    | 2, _, hne => rfl
    | 3, _, hne => absurd rfl hne
    | 4, _, hne => rfl
    | 5, _, hne => rfl
    | 6, _, hne => rfl
    | 7, _, hne => rfl
    | 8, _, hne => rfl
    | 9, _, hne => rfl
    | 10, _, hne => rfl
    | 11, _, hne => rfl
    | 12, _, hne => rfl
    | 13, _, hne => rfl
    | 14, _, hne => rfl
    | 15, _, hne => rfl
    | 16, _, hne => rfl
    | 17, _, hne => rfl
    | 18, _, hne => rfl
    | 19, _, hne => rfl
    | 20, _, hne => rfl
    | j + 21, hj, _ => absurd hj (by omega))
theorem aw_ia_mo2 {l : Launch} {E : aw_E} {mi : aw_M} {Z : aw_Zt} {d bc bs pc : Nat} {ls : List (Nat × Value)} {st : List Value} {n : Nat} {h : ah} {t : Nat} {S : sT} {L : Nat → Int64} {i x : Int32} (hd : decode mi.2.1 pc = .ok (.iastore, 1)) (H : is_mo h t S L) (hin : vp_in i 6) (kk : ∀ h' : ah, is_mo h' t (sA S 2 (upd (S 2) i.toNatClampNeg x)) L → ah_off h h' t 21 → aw l E mi Z d bc bs (pc + 1) ls st n h') : aw l E mi Z d bc bs pc ls (.int x :: .int i :: .ref (t + 3) :: st) n h :=
  aw_iast hd (mo_c3 H) hin (kk _ (mo_a2 H) (ah_off.set _ (by decide)))
theorem aw_iN_mo2 {l : Launch} {E : aw_E} {mi : aw_M} {Z : aw_Zt} {d bc bs pc : Nat} {ls : List (Nat × Value)} {st : List Value} {n : Nat} {h : ah} {t m : Nat} {S : sT} {L : Nat → Int64} {i x : Int32} (hd : decode mi.2.1 pc = .ok (.iastore, 1)) (H : is_mo h t S L) (e : i = nI m) (hm : m < 6) (kk : ∀ h' : ah, is_mo h' t (sA S 2 (upd (S 2) m x)) L → ah_off h h' t 21 → aw l E mi Z d bc bs (pc + 1) ls st n h') : aw l E mi Z d bc bs pc ls (.int x :: .int i :: .ref (t + 3) :: st) n h := by
  subst e
  refine aw_ia_mo2 hd H (vp_in_nI hm (by decide)) ?_
  rw [nI_clamp (by omega)]
  exact kk
theorem mo_a3 {h : ah} {t : Nat} {S : sT} {L : Nat → Int64} {f : Nat → Int32} (H : is_mo h t S L) : is_mo (ah_set h (t + 4) (aI 6 f)) t (sA S 3 f) L := by
  intro j hj
  by_cases hq : j = 4
  · subst hq
    rw [ah_set_eq]; rfl
  · rw [ah_set_ne h _ (by omega), H j hj]
    exact (match j, hj, hq with
    | 0, _, hne => rfl
    | 1, _, hne => rfl
    | 2, _, hne => rfl
    | 3, _, hne => rfl
    | 4, _, hne => absurd rfl hne
    | 5, _, hne => rfl
    | 6, _, hne => rfl
    | 7, _, hne => rfl
    | 8, _, hne => rfl
    | 9, _, hne => rfl
    | 10, _, hne => rfl
    | 11, _, hne => rfl
    | 12, _, hne => rfl
    | 13, _, hne => rfl
    | 14, _, hne => rfl
    | 15, _, hne => rfl
    | 16, _, hne => rfl
    | 17, _, hne => rfl
    | 18, _, hne => rfl
    | 19, _, hne => rfl
    | 20, _, hne => rfl
    | j + 21, hj, _ => absurd hj (by omega))
theorem aw_ia_mo3 {l : Launch} {E : aw_E} {mi : aw_M} {Z : aw_Zt} {d bc bs pc : Nat} {ls : List (Nat × Value)} {st : List Value} {n : Nat} {h : ah} {t : Nat} {S : sT} {L : Nat → Int64} {i x : Int32} (hd : decode mi.2.1 pc = .ok (.iastore, 1)) (H : is_mo h t S L) (hin : vp_in i 6) (kk : ∀ h' : ah, is_mo h' t (sA S 3 (upd (S 3) i.toNatClampNeg x)) L → ah_off h h' t 21 → aw l E mi Z d bc bs (pc + 1) ls st n h') : aw l E mi Z d bc bs pc ls (.int x :: .int i :: .ref (t + 4) :: st) n h :=
  aw_iast hd (mo_c4 H) hin (kk _ (mo_a3 H) (ah_off.set _ (by decide)))
theorem aw_iN_mo3 {l : Launch} {E : aw_E} {mi : aw_M} {Z : aw_Zt} {d bc bs pc : Nat} {ls : List (Nat × Value)} {st : List Value} {n : Nat} {h : ah} {t m : Nat} {S : sT} {L : Nat → Int64} {i x : Int32} (hd : decode mi.2.1 pc = .ok (.iastore, 1)) (H : is_mo h t S L) (e : i = nI m) (hm : m < 6) (kk : ∀ h' : ah, is_mo h' t (sA S 3 (upd (S 3) m x)) L → ah_off h h' t 21 → aw l E mi Z d bc bs (pc + 1) ls st n h') : aw l E mi Z d bc bs pc ls (.int x :: .int i :: .ref (t + 4) :: st) n h := by
  subst e
  refine aw_ia_mo3 hd H (vp_in_nI hm (by decide)) ?_
  rw [nI_clamp (by omega)]
  exact kk
theorem mo_a4 {h : ah} {t : Nat} {S : sT} {L : Nat → Int64} {f : Nat → Int32} (H : is_mo h t S L) : is_mo (ah_set h (t + 5) (aI 6 f)) t (sA S 4 f) L := by
  intro j hj
  by_cases hq : j = 5
  · subst hq
    rw [ah_set_eq]; rfl
  · rw [ah_set_ne h _ (by omega), H j hj]
    exact (match j, hj, hq with
    | 0, _, hne => rfl
    | 1, _, hne => rfl
    | 2, _, hne => rfl
    | 3, _, hne => rfl
    | 4, _, hne => rfl
    | 5, _, hne => absurd rfl hne
    | 6, _, hne => rfl
    | 7, _, hne => rfl
    | 8, _, hne => rfl
    | 9, _, hne => rfl
    | 10, _, hne => rfl
    | 11, _, hne => rfl
    | 12, _, hne => rfl
    | 13, _, hne => rfl
    | 14, _, hne => rfl
    | 15, _, hne => rfl
    | 16, _, hne => rfl
    | 17, _, hne => rfl
    | 18, _, hne => rfl
    | 19, _, hne => rfl
    | 20, _, hne => rfl
    | j + 21, hj, _ => absurd hj (by omega))
theorem aw_ia_mo4 {l : Launch} {E : aw_E} {mi : aw_M} {Z : aw_Zt} {d bc bs pc : Nat} {ls : List (Nat × Value)} {st : List Value} {n : Nat} {h : ah} {t : Nat} {S : sT} {L : Nat → Int64} {i x : Int32} (hd : decode mi.2.1 pc = .ok (.iastore, 1)) (H : is_mo h t S L) (hin : vp_in i 6) (kk : ∀ h' : ah, is_mo h' t (sA S 4 (upd (S 4) i.toNatClampNeg x)) L → ah_off h h' t 21 → aw l E mi Z d bc bs (pc + 1) ls st n h') : aw l E mi Z d bc bs pc ls (.int x :: .int i :: .ref (t + 5) :: st) n h :=
  aw_iast hd (mo_c5 H) hin (kk _ (mo_a4 H) (ah_off.set _ (by decide)))
theorem aw_iN_mo4 {l : Launch} {E : aw_E} {mi : aw_M} {Z : aw_Zt} {d bc bs pc : Nat} {ls : List (Nat × Value)} {st : List Value} {n : Nat} {h : ah} {t m : Nat} {S : sT} {L : Nat → Int64} {i x : Int32} (hd : decode mi.2.1 pc = .ok (.iastore, 1)) (H : is_mo h t S L) (e : i = nI m) (hm : m < 6) (kk : ∀ h' : ah, is_mo h' t (sA S 4 (upd (S 4) m x)) L → ah_off h h' t 21 → aw l E mi Z d bc bs (pc + 1) ls st n h') : aw l E mi Z d bc bs pc ls (.int x :: .int i :: .ref (t + 5) :: st) n h := by
  subst e
  refine aw_ia_mo4 hd H (vp_in_nI hm (by decide)) ?_
  rw [nI_clamp (by omega)]
  exact kk
theorem mo_a5 {h : ah} {t : Nat} {S : sT} {L : Nat → Int64} {f : Nat → Int32} (H : is_mo h t S L) : is_mo (ah_set h (t + 6) (aI 6 f)) t (sA S 5 f) L := by
  intro j hj
  by_cases hq : j = 6
  · subst hq
    rw [ah_set_eq]; rfl
  · rw [ah_set_ne h _ (by omega), H j hj]
    exact (match j, hj, hq with
    | 0, _, hne => rfl
    | 1, _, hne => rfl
    | 2, _, hne => rfl
    | 3, _, hne => rfl
    | 4, _, hne => rfl
    | 5, _, hne => rfl
    | 6, _, hne => absurd rfl hne
    | 7, _, hne => rfl
    | 8, _, hne => rfl
    | 9, _, hne => rfl
    | 10, _, hne => rfl
    | 11, _, hne => rfl
    | 12, _, hne => rfl
    | 13, _, hne => rfl
    | 14, _, hne => rfl
    | 15, _, hne => rfl
    | 16, _, hne => rfl
    | 17, _, hne => rfl
    | 18, _, hne => rfl
    | 19, _, hne => rfl
    | 20, _, hne => rfl
    | j + 21, hj, _ => absurd hj (by omega))
theorem aw_ia_mo5 {l : Launch} {E : aw_E} {mi : aw_M} {Z : aw_Zt} {d bc bs pc : Nat} {ls : List (Nat × Value)} {st : List Value} {n : Nat} {h : ah} {t : Nat} {S : sT} {L : Nat → Int64} {i x : Int32} (hd : decode mi.2.1 pc = .ok (.iastore, 1)) (H : is_mo h t S L) (hin : vp_in i 6) (kk : ∀ h' : ah, is_mo h' t (sA S 5 (upd (S 5) i.toNatClampNeg x)) L → ah_off h h' t 21 → aw l E mi Z d bc bs (pc + 1) ls st n h') : aw l E mi Z d bc bs pc ls (.int x :: .int i :: .ref (t + 6) :: st) n h :=
  aw_iast hd (mo_c6 H) hin (kk _ (mo_a5 H) (ah_off.set _ (by decide)))
theorem aw_iN_mo5 {l : Launch} {E : aw_E} {mi : aw_M} {Z : aw_Zt} {d bc bs pc : Nat} {ls : List (Nat × Value)} {st : List Value} {n : Nat} {h : ah} {t m : Nat} {S : sT} {L : Nat → Int64} {i x : Int32} (hd : decode mi.2.1 pc = .ok (.iastore, 1)) (H : is_mo h t S L) (e : i = nI m) (hm : m < 6) (kk : ∀ h' : ah, is_mo h' t (sA S 5 (upd (S 5) m x)) L → ah_off h h' t 21 → aw l E mi Z d bc bs (pc + 1) ls st n h') : aw l E mi Z d bc bs pc ls (.int x :: .int i :: .ref (t + 6) :: st) n h := by
  subst e
  refine aw_ia_mo5 hd H (vp_in_nI hm (by decide)) ?_
  rw [nI_clamp (by omega)]
  exact kk
theorem mo_a6 {h : ah} {t : Nat} {S : sT} {L : Nat → Int64} {f : Nat → Int32} (H : is_mo h t S L) : is_mo (ah_set h (t + 7) (aI 6 f)) t (sA S 6 f) L := by
  intro j hj
  by_cases hq : j = 7
  · subst hq
    rw [ah_set_eq]; rfl
  · rw [ah_set_ne h _ (by omega), H j hj]
    exact (match j, hj, hq with
    | 0, _, hne => rfl
    | 1, _, hne => rfl
    | 2, _, hne => rfl
    | 3, _, hne => rfl
    | 4, _, hne => rfl
    | 5, _, hne => rfl
    | 6, _, hne => rfl
    | 7, _, hne => absurd rfl hne
    | 8, _, hne => rfl
    | 9, _, hne => rfl
    | 10, _, hne => rfl
    | 11, _, hne => rfl
    | 12, _, hne => rfl
    | 13, _, hne => rfl
    | 14, _, hne => rfl
    | 15, _, hne => rfl
    | 16, _, hne => rfl
    | 17, _, hne => rfl
    | 18, _, hne => rfl
    | 19, _, hne => rfl
    | 20, _, hne => rfl
    | j + 21, hj, _ => absurd hj (by omega))
theorem aw_ia_mo6 {l : Launch} {E : aw_E} {mi : aw_M} {Z : aw_Zt} {d bc bs pc : Nat} {ls : List (Nat × Value)} {st : List Value} {n : Nat} {h : ah} {t : Nat} {S : sT} {L : Nat → Int64} {i x : Int32} (hd : decode mi.2.1 pc = .ok (.iastore, 1)) (H : is_mo h t S L) (hin : vp_in i 6) (kk : ∀ h' : ah, is_mo h' t (sA S 6 (upd (S 6) i.toNatClampNeg x)) L → ah_off h h' t 21 → aw l E mi Z d bc bs (pc + 1) ls st n h') : aw l E mi Z d bc bs pc ls (.int x :: .int i :: .ref (t + 7) :: st) n h :=
  aw_iast hd (mo_c7 H) hin (kk _ (mo_a6 H) (ah_off.set _ (by decide)))
theorem aw_iN_mo6 {l : Launch} {E : aw_E} {mi : aw_M} {Z : aw_Zt} {d bc bs pc : Nat} {ls : List (Nat × Value)} {st : List Value} {n : Nat} {h : ah} {t m : Nat} {S : sT} {L : Nat → Int64} {i x : Int32} (hd : decode mi.2.1 pc = .ok (.iastore, 1)) (H : is_mo h t S L) (e : i = nI m) (hm : m < 6) (kk : ∀ h' : ah, is_mo h' t (sA S 6 (upd (S 6) m x)) L → ah_off h h' t 21 → aw l E mi Z d bc bs (pc + 1) ls st n h') : aw l E mi Z d bc bs pc ls (.int x :: .int i :: .ref (t + 7) :: st) n h := by
  subst e
  refine aw_ia_mo6 hd H (vp_in_nI hm (by decide)) ?_
  rw [nI_clamp (by omega)]
  exact kk
theorem mo_a7 {h : ah} {t : Nat} {S : sT} {L : Nat → Int64} {f : Nat → Int32} (H : is_mo h t S L) : is_mo (ah_set h (t + 8) (aI 6 f)) t (sA S 7 f) L := by
  intro j hj
  by_cases hq : j = 8
  · subst hq
    rw [ah_set_eq]; rfl
  · rw [ah_set_ne h _ (by omega), H j hj]
    exact (match j, hj, hq with
    | 0, _, hne => rfl
    | 1, _, hne => rfl
    | 2, _, hne => rfl
    | 3, _, hne => rfl
    | 4, _, hne => rfl
    | 5, _, hne => rfl
    | 6, _, hne => rfl
    | 7, _, hne => rfl
    | 8, _, hne => absurd rfl hne
    | 9, _, hne => rfl
    | 10, _, hne => rfl
    | 11, _, hne => rfl
    | 12, _, hne => rfl
    | 13, _, hne => rfl
    | 14, _, hne => rfl
    | 15, _, hne => rfl
    | 16, _, hne => rfl
    | 17, _, hne => rfl
    | 18, _, hne => rfl
    | 19, _, hne => rfl
    | 20, _, hne => rfl
    | j + 21, hj, _ => absurd hj (by omega))
theorem aw_ia_mo7 {l : Launch} {E : aw_E} {mi : aw_M} {Z : aw_Zt} {d bc bs pc : Nat} {ls : List (Nat × Value)} {st : List Value} {n : Nat} {h : ah} {t : Nat} {S : sT} {L : Nat → Int64} {i x : Int32} (hd : decode mi.2.1 pc = .ok (.iastore, 1)) (H : is_mo h t S L) (hin : vp_in i 6) (kk : ∀ h' : ah, is_mo h' t (sA S 7 (upd (S 7) i.toNatClampNeg x)) L → ah_off h h' t 21 → aw l E mi Z d bc bs (pc + 1) ls st n h') : aw l E mi Z d bc bs pc ls (.int x :: .int i :: .ref (t + 8) :: st) n h :=
  aw_iast hd (mo_c8 H) hin (kk _ (mo_a7 H) (ah_off.set _ (by decide)))
theorem aw_iN_mo7 {l : Launch} {E : aw_E} {mi : aw_M} {Z : aw_Zt} {d bc bs pc : Nat} {ls : List (Nat × Value)} {st : List Value} {n : Nat} {h : ah} {t m : Nat} {S : sT} {L : Nat → Int64} {i x : Int32} (hd : decode mi.2.1 pc = .ok (.iastore, 1)) (H : is_mo h t S L) (e : i = nI m) (hm : m < 6) (kk : ∀ h' : ah, is_mo h' t (sA S 7 (upd (S 7) m x)) L → ah_off h h' t 21 → aw l E mi Z d bc bs (pc + 1) ls st n h') : aw l E mi Z d bc bs pc ls (.int x :: .int i :: .ref (t + 8) :: st) n h := by
  subst e
  refine aw_ia_mo7 hd H (vp_in_nI hm (by decide)) ?_
  rw [nI_clamp (by omega)]
  exact kk
theorem mo_a8 {h : ah} {t : Nat} {S : sT} {L : Nat → Int64} {f : Nat → Int32} (H : is_mo h t S L) : is_mo (ah_set h (t + 9) (aI 6 f)) t (sA S 8 f) L := by
  intro j hj
  by_cases hq : j = 9
  · subst hq
    rw [ah_set_eq]; rfl
  · rw [ah_set_ne h _ (by omega), H j hj]
    exact (match j, hj, hq with
    | 0, _, hne => rfl
    | 1, _, hne => rfl
    | 2, _, hne => rfl
    | 3, _, hne => rfl
    | 4, _, hne => rfl
    | 5, _, hne => rfl
    | 6, _, hne => rfl
    | 7, _, hne => rfl
    | 8, _, hne => rfl
    | 9, _, hne => absurd rfl hne
    | 10, _, hne => rfl
    | 11, _, hne => rfl
    | 12, _, hne => rfl
    | 13, _, hne => rfl
    | 14, _, hne => rfl
    | 15, _, hne => rfl
    | 16, _, hne => rfl
    | 17, _, hne => rfl
    | 18, _, hne => rfl
    | 19, _, hne => rfl
    | 20, _, hne => rfl
    | j + 21, hj, _ => absurd hj (by omega))
theorem aw_ia_mo8 {l : Launch} {E : aw_E} {mi : aw_M} {Z : aw_Zt} {d bc bs pc : Nat} {ls : List (Nat × Value)} {st : List Value} {n : Nat} {h : ah} {t : Nat} {S : sT} {L : Nat → Int64} {i x : Int32} (hd : decode mi.2.1 pc = .ok (.iastore, 1)) (H : is_mo h t S L) (hin : vp_in i 6) (kk : ∀ h' : ah, is_mo h' t (sA S 8 (upd (S 8) i.toNatClampNeg x)) L → ah_off h h' t 21 → aw l E mi Z d bc bs (pc + 1) ls st n h') : aw l E mi Z d bc bs pc ls (.int x :: .int i :: .ref (t + 9) :: st) n h :=
  aw_iast hd (mo_c9 H) hin (kk _ (mo_a8 H) (ah_off.set _ (by decide)))
theorem aw_iN_mo8 {l : Launch} {E : aw_E} {mi : aw_M} {Z : aw_Zt} {d bc bs pc : Nat} {ls : List (Nat × Value)} {st : List Value} {n : Nat} {h : ah} {t m : Nat} {S : sT} {L : Nat → Int64} {i x : Int32} (hd : decode mi.2.1 pc = .ok (.iastore, 1)) (H : is_mo h t S L) (e : i = nI m) (hm : m < 6) (kk : ∀ h' : ah, is_mo h' t (sA S 8 (upd (S 8) m x)) L → ah_off h h' t 21 → aw l E mi Z d bc bs (pc + 1) ls st n h') : aw l E mi Z d bc bs pc ls (.int x :: .int i :: .ref (t + 9) :: st) n h := by
  subst e
  refine aw_ia_mo8 hd H (vp_in_nI hm (by decide)) ?_
  rw [nI_clamp (by omega)]
  exact kk
theorem mo_a9 {h : ah} {t : Nat} {S : sT} {L : Nat → Int64} {f : Nat → Int32} (H : is_mo h t S L) : is_mo (ah_set h (t + 10) (aI 6 f)) t (sA S 9 f) L := by
  intro j hj
  by_cases hq : j = 10
  · subst hq
    rw [ah_set_eq]; rfl
  · rw [ah_set_ne h _ (by omega), H j hj]
    exact (match j, hj, hq with
    | 0, _, hne => rfl
    | 1, _, hne => rfl
    | 2, _, hne => rfl
    | 3, _, hne => rfl
    | 4, _, hne => rfl
    | 5, _, hne => rfl
    | 6, _, hne => rfl
    | 7, _, hne => rfl
    | 8, _, hne => rfl
    | 9, _, hne => rfl
    | 10, _, hne => absurd rfl hne
    | 11, _, hne => rfl
    | 12, _, hne => rfl
    | 13, _, hne => rfl
    | 14, _, hne => rfl
    | 15, _, hne => rfl
    | 16, _, hne => rfl
    | 17, _, hne => rfl
    | 18, _, hne => rfl
    | 19, _, hne => rfl
    | 20, _, hne => rfl
    | j + 21, hj, _ => absurd hj (by omega))
theorem aw_ia_mo9 {l : Launch} {E : aw_E} {mi : aw_M} {Z : aw_Zt} {d bc bs pc : Nat} {ls : List (Nat × Value)} {st : List Value} {n : Nat} {h : ah} {t : Nat} {S : sT} {L : Nat → Int64} {i x : Int32} (hd : decode mi.2.1 pc = .ok (.iastore, 1)) (H : is_mo h t S L) (hin : vp_in i 6) (kk : ∀ h' : ah, is_mo h' t (sA S 9 (upd (S 9) i.toNatClampNeg x)) L → ah_off h h' t 21 → aw l E mi Z d bc bs (pc + 1) ls st n h') : aw l E mi Z d bc bs pc ls (.int x :: .int i :: .ref (t + 10) :: st) n h :=
  aw_iast hd (mo_c10 H) hin (kk _ (mo_a9 H) (ah_off.set _ (by decide)))
theorem aw_iN_mo9 {l : Launch} {E : aw_E} {mi : aw_M} {Z : aw_Zt} {d bc bs pc : Nat} {ls : List (Nat × Value)} {st : List Value} {n : Nat} {h : ah} {t m : Nat} {S : sT} {L : Nat → Int64} {i x : Int32} (hd : decode mi.2.1 pc = .ok (.iastore, 1)) (H : is_mo h t S L) (e : i = nI m) (hm : m < 6) (kk : ∀ h' : ah, is_mo h' t (sA S 9 (upd (S 9) m x)) L → ah_off h h' t 21 → aw l E mi Z d bc bs (pc + 1) ls st n h') : aw l E mi Z d bc bs pc ls (.int x :: .int i :: .ref (t + 10) :: st) n h := by
  subst e
  refine aw_ia_mo9 hd H (vp_in_nI hm (by decide)) ?_
  rw [nI_clamp (by omega)]
  exact kk
theorem mo_a10 {h : ah} {t : Nat} {S : sT} {L : Nat → Int64} {f : Nat → Int32} (H : is_mo h t S L) : is_mo (ah_set h (t + 11) (aI 150 f)) t (sA S 10 f) L := by
  intro j hj
  by_cases hq : j = 11
  · subst hq
    rw [ah_set_eq]; rfl
  · rw [ah_set_ne h _ (by omega), H j hj]
    exact (match j, hj, hq with
    | 0, _, hne => rfl
    | 1, _, hne => rfl
    | 2, _, hne => rfl
    | 3, _, hne => rfl
    | 4, _, hne => rfl
    | 5, _, hne => rfl
    | 6, _, hne => rfl
    | 7, _, hne => rfl
    | 8, _, hne => rfl
    | 9, _, hne => rfl
    | 10, _, hne => rfl
    | 11, _, hne => absurd rfl hne
    | 12, _, hne => rfl
    | 13, _, hne => rfl
    | 14, _, hne => rfl
    | 15, _, hne => rfl
    | 16, _, hne => rfl
    | 17, _, hne => rfl
    | 18, _, hne => rfl
    | 19, _, hne => rfl
    | 20, _, hne => rfl
    | j + 21, hj, _ => absurd hj (by omega))
theorem aw_ia_mo10 {l : Launch} {E : aw_E} {mi : aw_M} {Z : aw_Zt} {d bc bs pc : Nat} {ls : List (Nat × Value)} {st : List Value} {n : Nat} {h : ah} {t : Nat} {S : sT} {L : Nat → Int64} {i x : Int32} (hd : decode mi.2.1 pc = .ok (.iastore, 1)) (H : is_mo h t S L) (hin : vp_in i 150) (kk : ∀ h' : ah, is_mo h' t (sA S 10 (upd (S 10) i.toNatClampNeg x)) L → ah_off h h' t 21 → aw l E mi Z d bc bs (pc + 1) ls st n h') : aw l E mi Z d bc bs pc ls (.int x :: .int i :: .ref (t + 11) :: st) n h :=
  aw_iast hd (mo_c11 H) hin (kk _ (mo_a10 H) (ah_off.set _ (by decide)))
theorem aw_iN_mo10 {l : Launch} {E : aw_E} {mi : aw_M} {Z : aw_Zt} {d bc bs pc : Nat} {ls : List (Nat × Value)} {st : List Value} {n : Nat} {h : ah} {t m : Nat} {S : sT} {L : Nat → Int64} {i x : Int32} (hd : decode mi.2.1 pc = .ok (.iastore, 1)) (H : is_mo h t S L) (e : i = nI m) (hm : m < 150) (kk : ∀ h' : ah, is_mo h' t (sA S 10 (upd (S 10) m x)) L → ah_off h h' t 21 → aw l E mi Z d bc bs (pc + 1) ls st n h') : aw l E mi Z d bc bs pc ls (.int x :: .int i :: .ref (t + 11) :: st) n h := by
  subst e
  refine aw_ia_mo10 hd H (vp_in_nI hm (by decide)) ?_
  rw [nI_clamp (by omega)]
  exact kk
theorem mo_a11 {h : ah} {t : Nat} {S : sT} {L : Nat → Int64} {f : Nat → Int32} (H : is_mo h t S L) : is_mo (ah_set h (t + 12) (aI 30 f)) t (sA S 11 f) L := by
  intro j hj
  by_cases hq : j = 12
  · subst hq
    rw [ah_set_eq]; rfl
  · rw [ah_set_ne h _ (by omega), H j hj]
    exact (match j, hj, hq with
    | 0, _, hne => rfl
    | 1, _, hne => rfl
    | 2, _, hne => rfl
    | 3, _, hne => rfl
    | 4, _, hne => rfl
    | 5, _, hne => rfl
    | 6, _, hne => rfl
    | 7, _, hne => rfl
    | 8, _, hne => rfl
    | 9, _, hne => rfl
    | 10, _, hne => rfl
    | 11, _, hne => rfl
    | 12, _, hne => absurd rfl hne
    | 13, _, hne => rfl
    | 14, _, hne => rfl
    | 15, _, hne => rfl
    | 16, _, hne => rfl
    | 17, _, hne => rfl
    | 18, _, hne => rfl
    | 19, _, hne => rfl
    | 20, _, hne => rfl
    | j + 21, hj, _ => absurd hj (by omega))
theorem aw_ia_mo11 {l : Launch} {E : aw_E} {mi : aw_M} {Z : aw_Zt} {d bc bs pc : Nat} {ls : List (Nat × Value)} {st : List Value} {n : Nat} {h : ah} {t : Nat} {S : sT} {L : Nat → Int64} {i x : Int32} (hd : decode mi.2.1 pc = .ok (.iastore, 1)) (H : is_mo h t S L) (hin : vp_in i 30) (kk : ∀ h' : ah, is_mo h' t (sA S 11 (upd (S 11) i.toNatClampNeg x)) L → ah_off h h' t 21 → aw l E mi Z d bc bs (pc + 1) ls st n h') : aw l E mi Z d bc bs pc ls (.int x :: .int i :: .ref (t + 12) :: st) n h :=
  aw_iast hd (mo_c12 H) hin (kk _ (mo_a11 H) (ah_off.set _ (by decide)))
theorem aw_iN_mo11 {l : Launch} {E : aw_E} {mi : aw_M} {Z : aw_Zt} {d bc bs pc : Nat} {ls : List (Nat × Value)} {st : List Value} {n : Nat} {h : ah} {t m : Nat} {S : sT} {L : Nat → Int64} {i x : Int32} (hd : decode mi.2.1 pc = .ok (.iastore, 1)) (H : is_mo h t S L) (e : i = nI m) (hm : m < 30) (kk : ∀ h' : ah, is_mo h' t (sA S 11 (upd (S 11) m x)) L → ah_off h h' t 21 → aw l E mi Z d bc bs (pc + 1) ls st n h') : aw l E mi Z d bc bs pc ls (.int x :: .int i :: .ref (t + 12) :: st) n h := by
  subst e
  refine aw_ia_mo11 hd H (vp_in_nI hm (by decide)) ?_
  rw [nI_clamp (by omega)]
  exact kk
theorem mo_a12 {h : ah} {t : Nat} {S : sT} {L : Nat → Int64} {f : Nat → Int32} (H : is_mo h t S L) : is_mo (ah_set h (t + 13) (aI 112 f)) t (sA S 12 f) L := by
  intro j hj
  by_cases hq : j = 13
  · subst hq
    rw [ah_set_eq]; rfl
  · rw [ah_set_ne h _ (by omega), H j hj]
    exact (match j, hj, hq with
    | 0, _, hne => rfl
    | 1, _, hne => rfl
    | 2, _, hne => rfl
    | 3, _, hne => rfl
    | 4, _, hne => rfl
    | 5, _, hne => rfl
    | 6, _, hne => rfl
    | 7, _, hne => rfl
    | 8, _, hne => rfl
    | 9, _, hne => rfl
    | 10, _, hne => rfl
    | 11, _, hne => rfl
    | 12, _, hne => rfl
    | 13, _, hne => absurd rfl hne
    | 14, _, hne => rfl
    | 15, _, hne => rfl
    | 16, _, hne => rfl
    | 17, _, hne => rfl
    | 18, _, hne => rfl
    | 19, _, hne => rfl
    | 20, _, hne => rfl
    | j + 21, hj, _ => absurd hj (by omega))
theorem aw_ia_mo12 {l : Launch} {E : aw_E} {mi : aw_M} {Z : aw_Zt} {d bc bs pc : Nat} {ls : List (Nat × Value)} {st : List Value} {n : Nat} {h : ah} {t : Nat} {S : sT} {L : Nat → Int64} {i x : Int32} (hd : decode mi.2.1 pc = .ok (.iastore, 1)) (H : is_mo h t S L) (hin : vp_in i 112) (kk : ∀ h' : ah, is_mo h' t (sA S 12 (upd (S 12) i.toNatClampNeg x)) L → ah_off h h' t 21 → aw l E mi Z d bc bs (pc + 1) ls st n h') : aw l E mi Z d bc bs pc ls (.int x :: .int i :: .ref (t + 13) :: st) n h :=
  aw_iast hd (mo_c13 H) hin (kk _ (mo_a12 H) (ah_off.set _ (by decide)))
theorem aw_iN_mo12 {l : Launch} {E : aw_E} {mi : aw_M} {Z : aw_Zt} {d bc bs pc : Nat} {ls : List (Nat × Value)} {st : List Value} {n : Nat} {h : ah} {t m : Nat} {S : sT} {L : Nat → Int64} {i x : Int32} (hd : decode mi.2.1 pc = .ok (.iastore, 1)) (H : is_mo h t S L) (e : i = nI m) (hm : m < 112) (kk : ∀ h' : ah, is_mo h' t (sA S 12 (upd (S 12) m x)) L → ah_off h h' t 21 → aw l E mi Z d bc bs (pc + 1) ls st n h') : aw l E mi Z d bc bs pc ls (.int x :: .int i :: .ref (t + 13) :: st) n h := by
  subst e
  refine aw_ia_mo12 hd H (vp_in_nI hm (by decide)) ?_
  rw [nI_clamp (by omega)]
  exact kk
theorem mo_a13 {h : ah} {t : Nat} {S : sT} {L : Nat → Int64} {f : Nat → Int32} (H : is_mo h t S L) : is_mo (ah_set h (t + 14) (aI 14 f)) t (sA S 13 f) L := by
  intro j hj
  by_cases hq : j = 14
  · subst hq
    rw [ah_set_eq]; rfl
  · rw [ah_set_ne h _ (by omega), H j hj]
    exact (match j, hj, hq with
    | 0, _, hne => rfl
    | 1, _, hne => rfl
    | 2, _, hne => rfl
    | 3, _, hne => rfl
    | 4, _, hne => rfl
    | 5, _, hne => rfl
    | 6, _, hne => rfl
    | 7, _, hne => rfl
    | 8, _, hne => rfl
    | 9, _, hne => rfl
    | 10, _, hne => rfl
    | 11, _, hne => rfl
    | 12, _, hne => rfl
    | 13, _, hne => rfl
    | 14, _, hne => absurd rfl hne
    | 15, _, hne => rfl
    | 16, _, hne => rfl
    | 17, _, hne => rfl
    | 18, _, hne => rfl
    | 19, _, hne => rfl
    | 20, _, hne => rfl
    | j + 21, hj, _ => absurd hj (by omega))
theorem aw_ia_mo13 {l : Launch} {E : aw_E} {mi : aw_M} {Z : aw_Zt} {d bc bs pc : Nat} {ls : List (Nat × Value)} {st : List Value} {n : Nat} {h : ah} {t : Nat} {S : sT} {L : Nat → Int64} {i x : Int32} (hd : decode mi.2.1 pc = .ok (.iastore, 1)) (H : is_mo h t S L) (hin : vp_in i 14) (kk : ∀ h' : ah, is_mo h' t (sA S 13 (upd (S 13) i.toNatClampNeg x)) L → ah_off h h' t 21 → aw l E mi Z d bc bs (pc + 1) ls st n h') : aw l E mi Z d bc bs pc ls (.int x :: .int i :: .ref (t + 14) :: st) n h :=
  aw_iast hd (mo_c14 H) hin (kk _ (mo_a13 H) (ah_off.set _ (by decide)))
theorem aw_iN_mo13 {l : Launch} {E : aw_E} {mi : aw_M} {Z : aw_Zt} {d bc bs pc : Nat} {ls : List (Nat × Value)} {st : List Value} {n : Nat} {h : ah} {t m : Nat} {S : sT} {L : Nat → Int64} {i x : Int32} (hd : decode mi.2.1 pc = .ok (.iastore, 1)) (H : is_mo h t S L) (e : i = nI m) (hm : m < 14) (kk : ∀ h' : ah, is_mo h' t (sA S 13 (upd (S 13) m x)) L → ah_off h h' t 21 → aw l E mi Z d bc bs (pc + 1) ls st n h') : aw l E mi Z d bc bs pc ls (.int x :: .int i :: .ref (t + 14) :: st) n h := by
  subst e
  refine aw_ia_mo13 hd H (vp_in_nI hm (by decide)) ?_
  rw [nI_clamp (by omega)]
  exact kk
theorem mo_a14 {h : ah} {t : Nat} {S : sT} {L : Nat → Int64} {f : Nat → Int32} (H : is_mo h t S L) : is_mo (ah_set h (t + 15) (aI 6 f)) t (sA S 14 f) L := by
  intro j hj
  by_cases hq : j = 15
  · subst hq
    rw [ah_set_eq]; rfl
  · rw [ah_set_ne h _ (by omega), H j hj]
    exact (match j, hj, hq with
    | 0, _, hne => rfl
    | 1, _, hne => rfl
    | 2, _, hne => rfl
    | 3, _, hne => rfl
    | 4, _, hne => rfl
    | 5, _, hne => rfl
    | 6, _, hne => rfl
    | 7, _, hne => rfl
    | 8, _, hne => rfl
    | 9, _, hne => rfl
    | 10, _, hne => rfl
    | 11, _, hne => rfl
    | 12, _, hne => rfl
    | 13, _, hne => rfl
    | 14, _, hne => rfl
    | 15, _, hne => absurd rfl hne
    | 16, _, hne => rfl
    | 17, _, hne => rfl
    | 18, _, hne => rfl
    | 19, _, hne => rfl
    | 20, _, hne => rfl
    | j + 21, hj, _ => absurd hj (by omega))
theorem aw_ia_mo14 {l : Launch} {E : aw_E} {mi : aw_M} {Z : aw_Zt} {d bc bs pc : Nat} {ls : List (Nat × Value)} {st : List Value} {n : Nat} {h : ah} {t : Nat} {S : sT} {L : Nat → Int64} {i x : Int32} (hd : decode mi.2.1 pc = .ok (.iastore, 1)) (H : is_mo h t S L) (hin : vp_in i 6) (kk : ∀ h' : ah, is_mo h' t (sA S 14 (upd (S 14) i.toNatClampNeg x)) L → ah_off h h' t 21 → aw l E mi Z d bc bs (pc + 1) ls st n h') : aw l E mi Z d bc bs pc ls (.int x :: .int i :: .ref (t + 15) :: st) n h :=
  aw_iast hd (mo_c15 H) hin (kk _ (mo_a14 H) (ah_off.set _ (by decide)))
theorem aw_iN_mo14 {l : Launch} {E : aw_E} {mi : aw_M} {Z : aw_Zt} {d bc bs pc : Nat} {ls : List (Nat × Value)} {st : List Value} {n : Nat} {h : ah} {t m : Nat} {S : sT} {L : Nat → Int64} {i x : Int32} (hd : decode mi.2.1 pc = .ok (.iastore, 1)) (H : is_mo h t S L) (e : i = nI m) (hm : m < 6) (kk : ∀ h' : ah, is_mo h' t (sA S 14 (upd (S 14) m x)) L → ah_off h h' t 21 → aw l E mi Z d bc bs (pc + 1) ls st n h') : aw l E mi Z d bc bs pc ls (.int x :: .int i :: .ref (t + 15) :: st) n h := by
  subst e
  refine aw_ia_mo14 hd H (vp_in_nI hm (by decide)) ?_
  rw [nI_clamp (by omega)]
  exact kk
theorem mo_a15 {h : ah} {t : Nat} {S : sT} {L : Nat → Int64} {f : Nat → Int32} (H : is_mo h t S L) : is_mo (ah_set h (t + 16) (aI 6 f)) t (sA S 15 f) L := by
  intro j hj
  by_cases hq : j = 16
  · subst hq
    rw [ah_set_eq]; rfl
  · rw [ah_set_ne h _ (by omega), H j hj]
    exact (match j, hj, hq with
    | 0, _, hne => rfl
    | 1, _, hne => rfl
    | 2, _, hne => rfl
    | 3, _, hne => rfl
    | 4, _, hne => rfl
    | 5, _, hne => rfl
    | 6, _, hne => rfl
    | 7, _, hne => rfl
    | 8, _, hne => rfl
    | 9, _, hne => rfl
    | 10, _, hne => rfl
    | 11, _, hne => rfl
    | 12, _, hne => rfl
    | 13, _, hne => rfl
    | 14, _, hne => rfl
    | 15, _, hne => rfl
    | 16, _, hne => absurd rfl hne
    | 17, _, hne => rfl
    | 18, _, hne => rfl
    | 19, _, hne => rfl
    | 20, _, hne => rfl
    | j + 21, hj, _ => absurd hj (by omega))
theorem aw_ia_mo15 {l : Launch} {E : aw_E} {mi : aw_M} {Z : aw_Zt} {d bc bs pc : Nat} {ls : List (Nat × Value)} {st : List Value} {n : Nat} {h : ah} {t : Nat} {S : sT} {L : Nat → Int64} {i x : Int32} (hd : decode mi.2.1 pc = .ok (.iastore, 1)) (H : is_mo h t S L) (hin : vp_in i 6) (kk : ∀ h' : ah, is_mo h' t (sA S 15 (upd (S 15) i.toNatClampNeg x)) L → ah_off h h' t 21 → aw l E mi Z d bc bs (pc + 1) ls st n h') : aw l E mi Z d bc bs pc ls (.int x :: .int i :: .ref (t + 16) :: st) n h :=
  aw_iast hd (mo_c16 H) hin (kk _ (mo_a15 H) (ah_off.set _ (by decide)))
theorem aw_iN_mo15 {l : Launch} {E : aw_E} {mi : aw_M} {Z : aw_Zt} {d bc bs pc : Nat} {ls : List (Nat × Value)} {st : List Value} {n : Nat} {h : ah} {t m : Nat} {S : sT} {L : Nat → Int64} {i x : Int32} (hd : decode mi.2.1 pc = .ok (.iastore, 1)) (H : is_mo h t S L) (e : i = nI m) (hm : m < 6) (kk : ∀ h' : ah, is_mo h' t (sA S 15 (upd (S 15) m x)) L → ah_off h h' t 21 → aw l E mi Z d bc bs (pc + 1) ls st n h') : aw l E mi Z d bc bs pc ls (.int x :: .int i :: .ref (t + 16) :: st) n h := by
  subst e
  refine aw_ia_mo15 hd H (vp_in_nI hm (by decide)) ?_
  rw [nI_clamp (by omega)]
  exact kk
theorem mo_a16 {h : ah} {t : Nat} {S : sT} {L : Nat → Int64} {f : Nat → Int32} (H : is_mo h t S L) : is_mo (ah_set h (t + 17) (aI 6 f)) t (sA S 16 f) L := by
  intro j hj
  by_cases hq : j = 17
  · subst hq
    rw [ah_set_eq]; rfl
  · rw [ah_set_ne h _ (by omega), H j hj]
    exact (match j, hj, hq with
    | 0, _, hne => rfl
    | 1, _, hne => rfl
    | 2, _, hne => rfl
    | 3, _, hne => rfl
    | 4, _, hne => rfl
    | 5, _, hne => rfl
    | 6, _, hne => rfl
    | 7, _, hne => rfl
    | 8, _, hne => rfl
    | 9, _, hne => rfl
    | 10, _, hne => rfl
    | 11, _, hne => rfl
    | 12, _, hne => rfl
    | 13, _, hne => rfl
    | 14, _, hne => rfl
    | 15, _, hne => rfl
    | 16, _, hne => rfl
    | 17, _, hne => absurd rfl hne
    | 18, _, hne => rfl
    | 19, _, hne => rfl
    | 20, _, hne => rfl
    | j + 21, hj, _ => absurd hj (by omega))
theorem aw_ia_mo16 {l : Launch} {E : aw_E} {mi : aw_M} {Z : aw_Zt} {d bc bs pc : Nat} {ls : List (Nat × Value)} {st : List Value} {n : Nat} {h : ah} {t : Nat} {S : sT} {L : Nat → Int64} {i x : Int32} (hd : decode mi.2.1 pc = .ok (.iastore, 1)) (H : is_mo h t S L) (hin : vp_in i 6) (kk : ∀ h' : ah, is_mo h' t (sA S 16 (upd (S 16) i.toNatClampNeg x)) L → ah_off h h' t 21 → aw l E mi Z d bc bs (pc + 1) ls st n h') : aw l E mi Z d bc bs pc ls (.int x :: .int i :: .ref (t + 17) :: st) n h :=
  aw_iast hd (mo_c17 H) hin (kk _ (mo_a16 H) (ah_off.set _ (by decide)))
theorem aw_iN_mo16 {l : Launch} {E : aw_E} {mi : aw_M} {Z : aw_Zt} {d bc bs pc : Nat} {ls : List (Nat × Value)} {st : List Value} {n : Nat} {h : ah} {t m : Nat} {S : sT} {L : Nat → Int64} {i x : Int32} (hd : decode mi.2.1 pc = .ok (.iastore, 1)) (H : is_mo h t S L) (e : i = nI m) (hm : m < 6) (kk : ∀ h' : ah, is_mo h' t (sA S 16 (upd (S 16) m x)) L → ah_off h h' t 21 → aw l E mi Z d bc bs (pc + 1) ls st n h') : aw l E mi Z d bc bs pc ls (.int x :: .int i :: .ref (t + 17) :: st) n h := by
  subst e
  refine aw_ia_mo16 hd H (vp_in_nI hm (by decide)) ?_
  rw [nI_clamp (by omega)]
  exact kk
theorem mo_a17 {h : ah} {t : Nat} {S : sT} {L : Nat → Int64} {f : Nat → Int32} (H : is_mo h t S L) : is_mo (ah_set h (t + 18) (aI 6 f)) t (sA S 17 f) L := by
  intro j hj
  by_cases hq : j = 18
  · subst hq
    rw [ah_set_eq]; rfl
  · rw [ah_set_ne h _ (by omega), H j hj]
    exact (match j, hj, hq with
    | 0, _, hne => rfl
    | 1, _, hne => rfl
    | 2, _, hne => rfl
    | 3, _, hne => rfl
    | 4, _, hne => rfl
    | 5, _, hne => rfl
    | 6, _, hne => rfl
    | 7, _, hne => rfl
    | 8, _, hne => rfl
    | 9, _, hne => rfl
    | 10, _, hne => rfl
    | 11, _, hne => rfl
    | 12, _, hne => rfl
    | 13, _, hne => rfl
    | 14, _, hne => rfl
    | 15, _, hne => rfl
    | 16, _, hne => rfl
    | 17, _, hne => rfl
    | 18, _, hne => absurd rfl hne
    | 19, _, hne => rfl
    | 20, _, hne => rfl
    | j + 21, hj, _ => absurd hj (by omega))
theorem aw_ia_mo17 {l : Launch} {E : aw_E} {mi : aw_M} {Z : aw_Zt} {d bc bs pc : Nat} {ls : List (Nat × Value)} {st : List Value} {n : Nat} {h : ah} {t : Nat} {S : sT} {L : Nat → Int64} {i x : Int32} (hd : decode mi.2.1 pc = .ok (.iastore, 1)) (H : is_mo h t S L) (hin : vp_in i 6) (kk : ∀ h' : ah, is_mo h' t (sA S 17 (upd (S 17) i.toNatClampNeg x)) L → ah_off h h' t 21 → aw l E mi Z d bc bs (pc + 1) ls st n h') : aw l E mi Z d bc bs pc ls (.int x :: .int i :: .ref (t + 18) :: st) n h :=
  aw_iast hd (mo_c18 H) hin (kk _ (mo_a17 H) (ah_off.set _ (by decide)))
theorem aw_iN_mo17 {l : Launch} {E : aw_E} {mi : aw_M} {Z : aw_Zt} {d bc bs pc : Nat} {ls : List (Nat × Value)} {st : List Value} {n : Nat} {h : ah} {t m : Nat} {S : sT} {L : Nat → Int64} {i x : Int32} (hd : decode mi.2.1 pc = .ok (.iastore, 1)) (H : is_mo h t S L) (e : i = nI m) (hm : m < 6) (kk : ∀ h' : ah, is_mo h' t (sA S 17 (upd (S 17) m x)) L → ah_off h h' t 21 → aw l E mi Z d bc bs (pc + 1) ls st n h') : aw l E mi Z d bc bs pc ls (.int x :: .int i :: .ref (t + 18) :: st) n h := by
  subst e
  refine aw_ia_mo17 hd H (vp_in_nI hm (by decide)) ?_
  rw [nI_clamp (by omega)]
  exact kk
theorem mo_a18 {h : ah} {t : Nat} {S : sT} {L : Nat → Int64} {f : Nat → Int32} (H : is_mo h t S L) : is_mo (ah_set h (t + 19) (aI 360 f)) t (sA S 18 f) L := by
  intro j hj
  by_cases hq : j = 19
  · subst hq
    rw [ah_set_eq]; rfl
  · rw [ah_set_ne h _ (by omega), H j hj]
    exact (match j, hj, hq with
    | 0, _, hne => rfl
    | 1, _, hne => rfl
    | 2, _, hne => rfl
    | 3, _, hne => rfl
    | 4, _, hne => rfl
    | 5, _, hne => rfl
    | 6, _, hne => rfl
    | 7, _, hne => rfl
    | 8, _, hne => rfl
    | 9, _, hne => rfl
    | 10, _, hne => rfl
    | 11, _, hne => rfl
    | 12, _, hne => rfl
    | 13, _, hne => rfl
    | 14, _, hne => rfl
    | 15, _, hne => rfl
    | 16, _, hne => rfl
    | 17, _, hne => rfl
    | 18, _, hne => rfl
    | 19, _, hne => absurd rfl hne
    | 20, _, hne => rfl
    | j + 21, hj, _ => absurd hj (by omega))
theorem aw_ia_mo18 {l : Launch} {E : aw_E} {mi : aw_M} {Z : aw_Zt} {d bc bs pc : Nat} {ls : List (Nat × Value)} {st : List Value} {n : Nat} {h : ah} {t : Nat} {S : sT} {L : Nat → Int64} {i x : Int32} (hd : decode mi.2.1 pc = .ok (.iastore, 1)) (H : is_mo h t S L) (hin : vp_in i 360) (kk : ∀ h' : ah, is_mo h' t (sA S 18 (upd (S 18) i.toNatClampNeg x)) L → ah_off h h' t 21 → aw l E mi Z d bc bs (pc + 1) ls st n h') : aw l E mi Z d bc bs pc ls (.int x :: .int i :: .ref (t + 19) :: st) n h :=
  aw_iast hd (mo_c19 H) hin (kk _ (mo_a18 H) (ah_off.set _ (by decide)))
theorem aw_iN_mo18 {l : Launch} {E : aw_E} {mi : aw_M} {Z : aw_Zt} {d bc bs pc : Nat} {ls : List (Nat × Value)} {st : List Value} {n : Nat} {h : ah} {t m : Nat} {S : sT} {L : Nat → Int64} {i x : Int32} (hd : decode mi.2.1 pc = .ok (.iastore, 1)) (H : is_mo h t S L) (e : i = nI m) (hm : m < 360) (kk : ∀ h' : ah, is_mo h' t (sA S 18 (upd (S 18) m x)) L → ah_off h h' t 21 → aw l E mi Z d bc bs (pc + 1) ls st n h') : aw l E mi Z d bc bs pc ls (.int x :: .int i :: .ref (t + 19) :: st) n h := by
  subst e
  refine aw_ia_mo18 hd H (vp_in_nI hm (by decide)) ?_
  rw [nI_clamp (by omega)]
  exact kk
theorem mo_a19 {h : ah} {t : Nat} {S : sT} {L : Nat → Int64} {f : Nat → Int32} (H : is_mo h t S L) : is_mo (ah_set h (t + 20) (aI 2 f)) t (sA S 19 f) L := by
  intro j hj
  by_cases hq : j = 20
  · subst hq
    rw [ah_set_eq]; rfl
  · rw [ah_set_ne h _ (by omega), H j hj]
    exact (match j, hj, hq with
    | 0, _, hne => rfl
    | 1, _, hne => rfl
    | 2, _, hne => rfl
    | 3, _, hne => rfl
    | 4, _, hne => rfl
    | 5, _, hne => rfl
    | 6, _, hne => rfl
    | 7, _, hne => rfl
    | 8, _, hne => rfl
    | 9, _, hne => rfl
    | 10, _, hne => rfl
    | 11, _, hne => rfl
    | 12, _, hne => rfl
    | 13, _, hne => rfl
    | 14, _, hne => rfl
    | 15, _, hne => rfl
    | 16, _, hne => rfl
    | 17, _, hne => rfl
    | 18, _, hne => rfl
    | 19, _, hne => rfl
    | 20, _, hne => absurd rfl hne
    | j + 21, hj, _ => absurd hj (by omega))
theorem aw_ia_mo19 {l : Launch} {E : aw_E} {mi : aw_M} {Z : aw_Zt} {d bc bs pc : Nat} {ls : List (Nat × Value)} {st : List Value} {n : Nat} {h : ah} {t : Nat} {S : sT} {L : Nat → Int64} {i x : Int32} (hd : decode mi.2.1 pc = .ok (.iastore, 1)) (H : is_mo h t S L) (hin : vp_in i 2) (kk : ∀ h' : ah, is_mo h' t (sA S 19 (upd (S 19) i.toNatClampNeg x)) L → ah_off h h' t 21 → aw l E mi Z d bc bs (pc + 1) ls st n h') : aw l E mi Z d bc bs pc ls (.int x :: .int i :: .ref (t + 20) :: st) n h :=
  aw_iast hd (mo_c20 H) hin (kk _ (mo_a19 H) (ah_off.set _ (by decide)))
theorem aw_iN_mo19 {l : Launch} {E : aw_E} {mi : aw_M} {Z : aw_Zt} {d bc bs pc : Nat} {ls : List (Nat × Value)} {st : List Value} {n : Nat} {h : ah} {t m : Nat} {S : sT} {L : Nat → Int64} {i x : Int32} (hd : decode mi.2.1 pc = .ok (.iastore, 1)) (H : is_mo h t S L) (e : i = nI m) (hm : m < 2) (kk : ∀ h' : ah, is_mo h' t (sA S 19 (upd (S 19) m x)) L → ah_off h h' t 21 → aw l E mi Z d bc bs (pc + 1) ls st n h') : aw l E mi Z d bc bs pc ls (.int x :: .int i :: .ref (t + 20) :: st) n h := by
  subst e
  refine aw_ia_mo19 hd H (vp_in_nI hm (by decide)) ?_
  rw [nI_clamp (by omega)]
  exact kk
