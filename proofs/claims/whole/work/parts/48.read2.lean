/-! TIES: read. Words and items. -/
theorem ite3 {α : Type} {p q r : Prop} [Decidable p] [Decidable q] [Decidable r] (u w : α) : (if p then (if q then (if r then u else w) else w) else w) = if (p ∧ q ∧ r) then u else w := by
  by_cases hp : p <;> by_cases hq : q <;> by_cases hr : r <;> simp [hp, hq, hr]
theorem ite4 {α : Type} {p q r s : Prop} [Decidable p] [Decidable q] [Decidable r] [Decidable s] (u w : α) : (if p then (if q then (if r then (if s then u else w) else w) else w) else w) = if (p ∧ q ∧ r ∧ s) then u else w := by
  by_cases hp : p <;> by_cases hq : q <;> by_cases hr : r <;> by_cases hs : s <;> simp [hp, hq, hr, hs]
theorem all_iff {P : Nat → Prop} [DecidablePred P] : ∀ (k j : Nat), (¬ lpAll P k j = 0 ↔ ∀ i, j ≤ i → i < j + k → P i)
  | 0, j => ⟨fun _ i h1 h2 => absurd h1 (by omega), fun _ => by show ¬ (1 : Int32) = 0; decide⟩
  | k + 1, j => by
    unfold lpAll
    by_cases c : P j
    · rw [if_pos c, all_iff k (j + 1)]
      constructor
      · intro h i h1 h2
        by_cases e : i = j
        · subst e; exact c
        · exact h i (by omega) (by omega)
      · intro h i h1 h2
        exact h i (by omega) (by omega)
    · rw [if_neg c]
      exact ⟨fun q => absurd rfl q, fun q => absurd (q j (by omega) (by omega)) c⟩
section RD2
variable {x : Nat → Int32} {t : Nat}
def wP (x : Nat → Int32) (t s i : Nat) : Prop := pW x t s = kLen.getD i 0 ∧ ∀ j, j < kLen.getD i 0 → x (s + j) = (kByt.getD i []).getD j 0
theorem isW_iff (ht : t ≤ 150) {R : sT} {s : Nat} (h : tok x t R s) {i : Nat} (hi : i < 4) : ¬ rIsW R i = 0 ↔ wP x t s i := by
  obtain ⟨hX, h1, hs, h32, k0, k1, k2, k3, k4⟩ := id h
  have hk := (tok_kind h).2.2.1
  have hl := pW_le x t s
  have hn3 : ∀ i, i < 4 → 3 ≤ kLen.getD i 0 := by decide
  have hn3 := hn3 i hi
  have hn10 := kLen_s i hi
  unfold rIsW wP
  by_cases c : R 10 3 = 1
  · have e2 := (k1 (hk.mp c)).2
    rw [if_pos c, e2, h1, pk_sub (by omega), show s + pW x t s - s = pW x t s by omega]
    by_cases c2 : pW x t s = kLen.getD i 0
    · rw [if_pos (by rw [c2]), all_iff]
      have hb : ∀ j, j < kLen.getD i 0 → rByte R (nI s + nI j) = x (s + j) := fun j hj => by
        rw [nI_add, byte_j hX ht (by omega), pC_lt (by omega)]
      constructor
      · intro q
        exact ⟨c2, fun j hj => by rw [← hb j hj]; exact q j (by omega) (by omega)⟩
      · rintro ⟨-, q⟩ j - hj
        show rByte R (nI s + nI j) = _
        rw [hb j (by omega)]; exact q j (by omega)
    · rw [if_neg (fun z => c2 ((nI_eq (by omega) (by omega)).mp z))]
      exact ⟨fun q => absurd rfl q, fun q => absurd q.1 c2⟩
  · rw [if_neg c]
    refine ⟨fun q => absurd rfl q, fun q => ?_⟩
    exfalso
    apply c
    rw [hk]
    intro z
    have n0 : pW x t s = 0 := by
      unfold pW
      rcases Nat.lt_or_ge s t with y | y
      · obtain ⟨k, hk⟩ : ∃ k, t - s = k + 1 := ⟨t - s - 1, by omega⟩
        rw [hk, pWs, if_pos]
        rw [pC_lt y] at z
        exact z
      · rw [show t - s = 0 by omega]; rfl
    omega
theorem wP_0 {s : Nat} : wP x t s 0 ↔ pW x t s = 4 ∧ x (s + 0) = 103 ∧ x (s + 1) = 111 ∧ x (s + 2) = 108 ∧ x (s + 3) = 100 := by
  constructor
  · rintro ⟨h1, h2⟩
    exact ⟨h1, h2 0 (by decide), h2 1 (by decide), h2 2 (by decide), h2 3 (by decide)⟩
  · rintro ⟨h1, h2, h3, h4, h5⟩
    refine ⟨h1, fun j hj => ?_⟩
    have hj : j < 4 := hj
    rcases (show j = 0 ∨ j = 1 ∨ j = 2 ∨ j = 3 by omega) with rfl | rfl | rfl | rfl
    · exact h2
    · exact h3
    · exact h4
    · exact h5
theorem wP_1 {s : Nat} : wP x t s 1 ↔ pW x t s = 3 ∧ x (s + 0) = 111 ∧ x (s + 1) = 110 ∧ x (s + 2) = 101 := by
  constructor
  · rintro ⟨h1, h2⟩
    exact ⟨h1, h2 0 (by decide), h2 1 (by decide), h2 2 (by decide)⟩
  · rintro ⟨h1, h2, h3, h4⟩
    refine ⟨h1, fun j hj => ?_⟩
    have hj : j < 3 := hj
    rcases (show j = 0 ∨ j = 1 ∨ j = 2 by omega) with rfl | rfl | rfl
    · exact h2
    · exact h3
    · exact h4
theorem wP_3 {s : Nat} : wP x t s 3 ↔ pW x t s = 3 ∧ x (s + 0) = 108 ∧ x (s + 1) = 105 ∧ x (s + 2) = 101 := by
  constructor
  · rintro ⟨h1, h2⟩
    exact ⟨h1, h2 0 (by decide), h2 1 (by decide), h2 2 (by decide)⟩
  · rintro ⟨h1, h2, h3, h4⟩
    refine ⟨h1, fun j hj => ?_⟩
    have hj : j < 3 := hj
    rcases (show j = 0 ∨ j = 1 ∨ j = 2 by omega) with rfl | rfl | rfl
    · exact h2
    · exact h3
    · exact h4
theorem wP_2 {s : Nat} : wP x t s 2 ↔ pW x t s = 5 ∧ (x (s + 0) = 104 ∧ x (s + 1) = 97 ∧ x (s + 2) = 110 ∧ x (s + 3) = 100) ∧ x (s + 4) = 115 := by
  constructor
  · rintro ⟨h1, h2⟩
    exact ⟨h1, ⟨h2 0 (by decide), h2 1 (by decide), h2 2 (by decide), h2 3 (by decide)⟩, h2 4 (by decide)⟩
  · rintro ⟨h1, ⟨h2, h3, h4, h5⟩, h6⟩
    refine ⟨h1, fun j hj => ?_⟩
    have hj : j < 5 := hj
    rcases (show j = 0 ∨ j = 1 ∨ j = 2 ∨ j = 3 ∨ j = 4 by omega) with rfl | rfl | rfl | rfl | rfl
    · exact h2
    · exact h3
    · exact h4
    · exact h5
    · exact h6
theorem pSp_eq (x : Nat → Int32) (a : Nat) (b1 b2 b3 b4 : Int32) : pSp x a b1 b2 b3 b4 = if (x (a + 0) = b1 ∧ x (a + 1) = b2 ∧ x (a + 2) = b3 ∧ x (a + 3) = b4) then 1 else 0 := by
  unfold pSp
  exact ite4 _ _
theorem pWdC_eq (x : Nat → Int32) (a n : Nat) : pWdC x a n = if (nI n = 3 ∧ x (a + 0) = 108 ∧ x (a + 1) = 105 ∧ x (a + 2) = 101) then 3 else -1 := by
  unfold pWdC
  exact ite4 _ _
theorem pWdB_eq (x : Nat → Int32) (a n : Nat) : pWdB x a n = if (nI n = 5 ∧ (x (a + 0) = 104 ∧ x (a + 1) = 97 ∧ x (a + 2) = 110 ∧ x (a + 3) = 100) ∧ x (a + 4) = 115) then 2 else pWdC x a n := by
  unfold pWdB
  rw [pSp_eq]
  by_cases c1 : nI n = 5
  · by_cases c2 : x (a + 0) = 104 ∧ x (a + 1) = 97 ∧ x (a + 2) = 110 ∧ x (a + 3) = 100
    · by_cases c3 : x (a + 4) = 115
      · rw [if_pos c1, if_pos c2, if_neg (by decide), if_pos c3, if_pos ⟨c1, c2, c3⟩]
      · rw [if_pos c1, if_pos c2, if_neg (by decide), if_neg c3, if_neg (fun q => c3 q.2.2)]
    · rw [if_pos c1, if_neg c2, if_pos rfl, if_neg (fun q => c2 q.2.1)]
  · rw [if_neg c1, if_neg (fun q => c1 q.1)]
theorem pWdA_eq (x : Nat → Int32) (a n : Nat) : pWdA x a n = if (nI n = 3 ∧ x (a + 0) = 111 ∧ x (a + 1) = 110 ∧ x (a + 2) = 101) then 1 else pWdB x a n := by
  unfold pWdA
  exact ite4 _ _
theorem pWdN_eq (x : Nat → Int32) (a n : Nat) : pWdN x a n = if (nI n = 4 ∧ x (a + 0) = 103 ∧ x (a + 1) = 111 ∧ x (a + 2) = 108 ∧ x (a + 3) = 100) then 0 else pWdA x a n := by
  unfold pWdN
  rw [pSp_eq]
  by_cases c1 : nI n = 4
  · by_cases c2 : x (a + 0) = 103 ∧ x (a + 1) = 111 ∧ x (a + 2) = 108 ∧ x (a + 3) = 100
    · rw [if_pos c1, if_pos c2, if_neg (by decide), if_pos ⟨c1, c2⟩]
    · rw [if_pos c1, if_neg c2, if_pos rfl, if_neg (fun q => c2 q.2)]
  · rw [if_neg c1, if_neg (fun q => c1 q.1)]
theorem wd_spec (ht : t ≤ 150) {s : Nat} : (wP x t s 0 → pWd x t s = 0) ∧ (wP x t s 1 → pWd x t s = 1) ∧ (wP x t s 2 → pWd x t s = 2) ∧ (wP x t s 3 → pWd x t s = 3) ∧ (¬ wP x t s 0 → ¬ wP x t s 1 → ¬ wP x t s 2 → ¬ wP x t s 3 → pWd x t s = -1) := by
  have hl := pW_le x t s
  rw [wP_0, wP_1, wP_2, wP_3]
  unfold pWd
  rw [pWdN_eq, pWdA_eq, pWdB_eq, pWdC_eq]
  generalize pW x t s = n at hl ⊢
  have e3 : nI n = 3 ↔ n = 3 := nI_eq (b := 3) (by omega) (by omega)
  have e4 : nI n = 4 ↔ n = 4 := nI_eq (b := 4) (by omega) (by omega)
  have e5 : nI n = 5 ↔ n = 5 := nI_eq (b := 5) (by omega) (by omega)
  refine ⟨?_, ?_, ?_, ?_, ?_⟩
  · rintro ⟨hn, h⟩
    rw [if_pos ⟨e4.mpr hn, h⟩]
  · rintro ⟨hn, h⟩
    rw [if_neg (fun q => by have := e4.mp q.1; omega), if_pos ⟨e3.mpr hn, h⟩]
  · rintro ⟨hn, h⟩
    rw [if_neg (fun q => by have := e4.mp q.1; omega), if_neg (fun q => by have := e3.mp q.1; omega), if_pos ⟨e5.mpr hn, h⟩]
  · rintro ⟨hn, h⟩
    rw [if_neg (fun q => by have := e4.mp q.1; omega), if_neg (fun q => absurd (h.1.symm.trans q.2.1) (by decide)), if_neg (fun q => by have := e5.mp q.1; omega), if_pos ⟨e3.mpr hn, h⟩]
  · intro w0 w1 w2 w3
    rw [if_neg (fun q => w0 ⟨e4.mp q.1, q.2⟩), if_neg (fun q => w1 ⟨e3.mp q.1, q.2⟩), if_neg (fun q => w2 ⟨e5.mp q.1, q.2⟩), if_neg (fun q => w3 ⟨e3.mp q.1, q.2⟩)]
def rdR (T : sT) (c : Nat) (li : Int32) (o : Nat → Int32) : Prop := (c ≤ 6 ∧ T 10 0 = nI c ∧ T 10 1 = 0 ∧ T 10 2 = li ∧ T 10 3 = 0 ∧ T 10 4 = 0 ∧ lgood li) ∧ ∀ p, p < c → (T 0 p = o (5 * p) ∧ T 1 p = o (5 * p + 1) ∧ T 2 p = o (5 * p + 2) ∧ T 3 p = o (5 * p + 3) ∧ T 4 p = o (5 * p + 4)) ∧ (0 ≤ (o (5 * p + 1)).toInt ∧ (o (5 * p + 1)).toInt ≤ 12) ∧ (0 ≤ (o (5 * p + 2)).toInt ∧ (o (5 * p + 2)).toInt ≤ 30) ∧ lgood (o (5 * p + 4))
def itR (x : Nat → Int32) (t : Nat) (R' T' : sT) (r : Int32 × PS) : Prop := (¬ r.1 = 0 → R' 10 5 = -1 ∧ tok x t R' (pS x t r.2.1) ∧ rdR T' r.2.2.1 r.2.2.2.1 r.2.2.2.2.2) ∧ (r.1 = 0 → R' 10 5 = nI r.2.1 ∧ rX x t R' ∧ r.2.1 ≤ 200)
theorem itR_bad {R' T' : sT} {a : Nat} (P : Nat × Int32 × Int32 × (Nat → Int32)) (h : R' 10 5 = nI a ∧ rX x t R' ∧ a ≤ 200) : itR x t R' T' (0, a, P) := ⟨fun q => absurd rfl q, fun _ => h⟩
def tnC : Nat → Nat → sT → sT
  | 0, _, R => R
  | k + 1, j, R => tnC k (j + 1) (rTnS R 0 (pBd j))
def vAt : Nat → Nat → sT → Int32
  | 0, j, R => rTnV R 0 (pBd j)
  | i + 1, j, R => vAt i (j + 1) (rTnS R 0 (pBd j))
theorem bad_C : ∀ (k j : Nat) {R : sT}, ¬ R 10 5 = -1 → tnC k j R = R
  | 0, _, _, _ => rfl
  | k + 1, j, R, h => by
    unfold tnC
    rw [(bad_tn h 0 (pBd j)).1]
    exact bad_C k (j + 1) h
theorem nI_ne1 {a : Nat} {v : Int32} (h : v = nI a) (ha : a ≤ 200) : ¬ v = -1 := by rw [h]; exact nI_m1 (by omega)
theorem on_sim (ht : t ≤ 150) {c : Nat} : ∀ (k j : Nat) (R : sT) (a : Nat) (v : Int32) (o : Nat → Int32), tok x t R (pS x t a) → R 10 5 = -1 → ((pOn x t c k j a v o).1 = false → tnC k j R 10 5 = nI (pOn x t c k j a v o).2.1 ∧ rX x t (tnC k j R) ∧ (pOn x t c k j a v o).2.1 ≤ 200) ∧ ((pOn x t c k j a v o).1 = true → tnC k j R 10 5 = -1 ∧ tok x t (tnC k j R) (pS x t (pOn x t c k j a v o).2.1) ∧ (∀ i, i < k → (pOn x t c k j a v o).2.2.2 (5 * c + j + i) = vAt i j R ∧ ¬ iW (vAt i j R) 0 (pBd (j + i)) = 0) ∧ (∀ y, (y < 5 * c + j ∨ 5 * c + j + k ≤ y) → (pOn x t c k j a v o).2.2.2 y = o y))
  | 0, j, R, a, v, o, h, h5 => ⟨(fun q => by cases q), fun _ => ⟨h5, h, fun i hi => absurd hi (by omega), fun _ _ => rfl⟩⟩
  | k + 1, j, R, a, v, o, h, h5 => by
    have e0 : 0 ≤ (0 : Int32).toInt := by decide
    obtain ⟨⟨s1, s2⟩, s3⟩ := tn_sim ht h h5 (lo := 0) (hi := pBd j) e0 v
    unfold pOn
    by_cases c1 : (pNm x t a v 0 (pBd j)).1 = 0
    · rw [if_pos c1]
      obtain ⟨q1, q2, q3⟩ := s2 c1
      have e : tnC (k + 1) j R = rTnS R 0 (pBd j) := bad_C k (j + 1) (nI_ne1 q1 q3)
      rw [e]
      exact ⟨fun _ => ⟨q1, q2, q3⟩, fun q => by cases q⟩
    · rw [if_neg c1]
      obtain ⟨q1, q2⟩ := s1 c1
      have ev := s3 c1
      have hok := (pNm_ok ht c1).2.2
      have ih := on_sim ht (c := c) k (j + 1) (rTnS R 0 (pBd j)) (pNm x t a v 0 (pBd j)).2.1 (pNm x t a v 0 (pBd j)).2.2 (upd o (5 * c + j) (pNm x t a v 0 (pBd j)).2.2) q2 q1
      have e : tnC (k + 1) j R = tnC k (j + 1) (rTnS R 0 (pBd j)) := rfl
      rw [e]
      refine ⟨ih.1, fun q => ?_⟩
      obtain ⟨i1, i2, i3, i4⟩ := ih.2 q
      refine ⟨i1, i2, fun i hi => ?_, fun y hy => ?_⟩
      · cases i with
        | zero =>
          rw [show 5 * c + j + 0 = 5 * c + j from rfl, i4 (5 * c + j) (by omega), pk_us]
          show _ = rTnV R 0 (pBd j) ∧ ¬ iW (rTnV R 0 (pBd j)) 0 (pBd j) = 0
          rw [ev]
          exact ⟨rfl, hok⟩
        | succ i =>
          have := i3 i (by omega)
          rw [show 5 * c + j + (i + 1) = 5 * c + (j + 1) + i by omega, show j + (i + 1) = j + 1 + i by omega]
          exact this
      · rw [i4 y (by omega), pk_un (by omega)]
theorem pbd : pBd 0 = 5 ∧ pBd (0 + 1) = 12 ∧ pBd (0 + 1 + 1) = 30 ∧ pBd (0 + 1 + 1 + 1) = 20 := by decide
theorem o5_eq (R : sT) : o5 R = tnC 4 0 (rStep R) := by
  show rTnS (rTnS (rTnS (rTnS (rStep R) 0 5) 0 12) 0 30) 0 20 = rTnS (rTnS (rTnS (rTnS (rStep R) 0 (pBd 0)) 0 (pBd (0 + 1))) 0 (pBd (0 + 1 + 1))) 0 (pBd (0 + 1 + 1 + 1))
  rw [pbd.1, pbd.2.1, pbd.2.2.1, pbd.2.2.2]
theorem oneT_eq (R T : sT) : rOneT R T = trJoin T (vAt 0 0 (rStep R)) (vAt 1 0 (rStep R)) (vAt 2 0 (rStep R)) (vAt 3 0 (rStep R)) := by
  show trJoin T (rTnV (rStep R) 0 5) (rTnV (rTnS (rStep R) 0 5) 0 12) (rTnV (rTnS (rTnS (rStep R) 0 5) 0 12) 0 30) (rTnV (rTnS (rTnS (rTnS (rStep R) 0 5) 0 12) 0 30) 0 20) = trJoin T (rTnV (rStep R) 0 (pBd 0)) (rTnV (rTnS (rStep R) 0 (pBd 0)) 0 (pBd (0 + 1))) (rTnV (rTnS (rTnS (rStep R) 0 (pBd 0)) 0 (pBd (0 + 1))) 0 (pBd (0 + 1 + 1))) (rTnV (rTnS (rTnS (rTnS (rStep R) 0 (pBd 0)) 0 (pBd (0 + 1))) 0 (pBd (0 + 1 + 1))) 0 (pBd (0 + 1 + 1 + 1)))
  rw [pbd.1, pbd.2.1, pbd.2.2.1, pbd.2.2.2]
theorem join_rd {T : sT} {c : Nat} {li : Int32} {o o' : Nat → Int32} (h : rdR T c li o) (hc : c ≤ 5) {k h' n' p' : Int32} (e0 : o' (5 * c) = k) (e1 : o' (5 * c + 1) = h') (e2 : o' (5 * c + 2) = n') (e3 : o' (5 * c + 3) = p') (eo : ∀ y, y < 5 * c → o' y = o y) (hh : ¬ iW h' 0 12 = 0) (hn : ¬ iW n' 0 30 = 0) : rdR (trJoin T k h' n' p') (c + 1) li (upd o' (5 * c + 4) 0) := by
  obtain ⟨⟨a1, a2, a3, a4, a5, a6, a7⟩, a8⟩ := h
  have ec : (T 10 0).toNatClampNeg = c := by rw [a2]; exact nI_clamp (by omega)
  have i0 : (0 : Int32).toInt = 0 := by decide
  have i12 : (12 : Int32).toInt = 12 := by decide
  have i30 : (30 : Int32).toInt = 30 := by decide
  have l1 := iW_le hh
  have l2 := iW_le hn
  refine ⟨⟨by omega, ?_, a3, a4, a5, a6, a7⟩, fun p hp => ?_⟩
  · show T 10 0 + 1 = nI (c + 1)
    rw [a2]; exact nI_1 c
  · show (upd (T 0) (T 10 0).toNatClampNeg k p = _ ∧ upd (T 1) (T 10 0).toNatClampNeg h' p = _ ∧ upd (T 2) (T 10 0).toNatClampNeg n' p = _ ∧ upd (T 3) (T 10 0).toNatClampNeg p' p = _ ∧ upd (T 4) (T 10 0).toNatClampNeg 0 p = _) ∧ _
    rw [ec]
    by_cases q : p = c
    · subst q
      rw [pk_us, pk_us, pk_us, pk_us, pk_us, pk_us, pk_un (by omega), pk_un (by omega), pk_un (by omega), pk_un (by omega), e0, e1, e2, e3]
      exact ⟨⟨rfl, rfl, rfl, rfl, rfl⟩, ⟨by omega, by omega⟩, ⟨by omega, by omega⟩, lgood0⟩
    · rw [pk_un q, pk_un q, pk_un q, pk_un q, pk_un q, pk_un (by omega), pk_un (by omega), pk_un (by omega), pk_un (by omega), pk_un (by omega), eo _ (by omega), eo _ (by omega), eo _ (by omega), eo _ (by omega), eo _ (by omega)]
      exact a8 p (by omega)
theorem one_sim (ht : t ≤ 150) {R T : sT} {s c : Nat} {li v : Int32} {o : Nat → Int32} (hX : rX x t R) (h5 : R 10 5 = -1) (he : R 10 2 = nI (s + 3)) (hs : s + 3 ≤ t) (hT : rdR T c li o) (hc : c ≤ 5) : itR x t (rOneR R) (rOneT R T) (pOne x t (s + 3, c, li, v, o)) := by
  obtain ⟨t1, t2⟩ := step_tok hX ht he hs
  have os := on_sim ht (c := c) 4 0 (rStep R) (s + 3) v o t1 (t2.trans h5)
  have eR : rOneR R = rTs (tnC 4 0 (rStep R)) := congrArg rTs (o5_eq R)
  rw [eR, oneT_eq]
  show itR x t _ _ (pOneE x t c li (pOn x t c 4 0 (s + 3) v o))
  generalize pOn x t c 4 0 (s + 3) v o = q at os ⊢
  obtain ⟨b, a', v', o'⟩ := q
  cases b with
  | false =>
    obtain ⟨q1, q2, q3⟩ := os.1 rfl
    rw [bad_ts (nI_ne1 q1 q3)]
    exact itR_bad _ ⟨q1, q2, q3⟩
  | true =>
    obtain ⟨q1, q2, q3, q4⟩ := os.2 rfl
    obtain ⟨s1, s2⟩ := ts_sim ht q2 q1
    refine ⟨fun z => ?_, s2⟩
    obtain ⟨r1, r2⟩ := s1 z
    refine ⟨r1, r2, ?_⟩
    have v0 := q3 0 (by omega)
    have v1 := q3 1 (by omega)
    have v2 := q3 2 (by omega)
    have v3 := q3 3 (by omega)
    exact join_rd hT hc v0.1 v1.1 v2.1 v3.1 (fun y hy => q4 y (by omega)) (by have := v1.2; rw [show pBd (0 + 1) = 12 from pbd.2.1] at this; exact this) (by have := v2.2; rw [show pBd (0 + 2) = 30 from pbd.2.2.1] at this; exact this)
theorem tnv_eq {R : sT} {lo hi : Int32} {s : Nat} (h5 : R 10 5 = -1) (h1 : R 10 1 = nI s) (hs : s ≤ 200) (h : rTnS R lo hi 10 5 = -1) : rTnV R lo hi = R 10 4 := by
  have e5 : rFail R 10 5 = nI s := by rw [fail_eq h5 h1]; exact sS_s _ _ _ _
  have hn : ¬ nI s = -1 := nI_m1 (by omega)
  have key : rTn1 R lo hi = R ∨ rTn1 R lo hi = rFail R := by
    unfold rTn1
    by_cases c1 : R 10 3 = 2
    · rw [if_pos c1]
      by_cases c2 : R 10 4 < lo
      · rw [if_pos c2]; exact Or.inr rfl
      · rw [if_neg c2]
        by_cases c3 : R 10 4 ≤ hi
        · rw [if_pos c3]; exact Or.inl rfl
        · rw [if_neg c3]; exact Or.inr rfl
    · rw [if_neg c1]; exact Or.inr rfl
  unfold rTnV
  unfold rTnS at h
  rcases key with e | e
  · rw [e, if_pos h5]
  · rw [e, e5, if_neg hn, e5] at h
    exact absurd h hn
theorem bad_th {last p : Int32} : ∀ (k j : Nat) {R : sT} (b : Int32), ¬ R 10 5 = -1 → rThL last p k j R b = (R, b)
  | 0, _, _, _, _ => rfl
  | k + 1, j, R, b, h => by
    unfold rThL
    rw [if_neg h]
theorem hl_sim (ht : t ≤ 150) {c : Nat} (hc : c ≤ 6) {q0 : Nat} (hq : q0 < c) : ∀ (k km j : Nat) (R : sT) (a : Nat) (v b : Int32), tok x t R a → R 10 5 = -1 → t - a ≤ k → t - a ≤ km → lgood b → ((pHl x t c (nI q0) km a v b).1 = false → (rThL (nI c - 1) (nI q0) k j R b).1 10 5 = nI (pHl x t c (nI q0) km a v b).2.1 ∧ rX x t (rThL (nI c - 1) (nI q0) k j R b).1 ∧ (pHl x t c (nI q0) km a v b).2.1 ≤ 200) ∧ ((pHl x t c (nI q0) km a v b).1 = true → (rThL (nI c - 1) (nI q0) k j R b).1 10 5 = -1 ∧ tok x t (rThL (nI c - 1) (nI q0) k j R b).1 (pS x t (pHl x t c (nI q0) km a v b).2.1) ∧ (rThL (nI c - 1) (nI q0) k j R b).2 = (pHl x t c (nI q0) km a v b).2.2.2 ∧ lgood (rThL (nI c - 1) (nI q0) k j R b).2)
  | k, km, j, R, a, v, b, h, h5, hk, hkm, hb => by
    have h32 : ¬ pC x t a = 32 := h.2.2.2.1
    have fx : pS x t a = a := pS_fix h32
    have hX := h.1
    have h1 : R 10 1 = nI a := h.2.1
    have hat : a ≤ t := h.2.2.1
    by_cases c0 : iW (pC x t a) 48 57 = 0
    · have em : pHl x t c (nI q0) km a v b = (true, a, v, b) := by
        cases km with
        | zero => rfl
        | succ km => rw [pHl, if_pos c0]
      have ec : rThL (nI c - 1) (nI q0) k j R b = (R, b) := by
        cases k with
        | zero => rfl
        | succ k => rw [rThL, if_pos h5, if_neg (fun q => (tok_kind h).1.mp q c0)]
      rw [em, ec]
      refine ⟨(fun q => by cases q), fun _ => ⟨h5, ?_, rfl, hb⟩⟩
      show tok x t R (pS x t a)
      rw [fx]; exact h
    · have hlt : a < t := by
        rcases Nat.lt_or_ge a t with y | y
        · exact y
        · rw [pC_ge y] at c0; exact absurd (by decide) c0
      obtain ⟨k, rfl⟩ : ∃ k', k = k' + 1 := ⟨k - 1, by omega⟩
      obtain ⟨km, rfl⟩ : ∃ k', km = k' + 1 := ⟨km - 1, by omega⟩
      have hk2 := (tok_kind h).1.mpr c0
      have e0 : 0 ≤ (0 : Int32).toInt := by decide
      obtain ⟨⟨s1, s2⟩, s3⟩ := tn_sim0 ht h h5 (lo := 0) (hi := nI c - 1) e0 v
      rw [pHl, rThL, if_neg c0, if_pos h5, if_pos hk2]
      by_cases c1 : R 10 4 = nI q0
      · have e1 : rTn1 R 0 (nI c - 1) = R := by
          unfold rTn1
          rw [if_pos hk2, c1, if_neg (nI_pos (by omega)), if_pos (by rw [fa_le, nIm1 c (by omega), nI_toInt (by omega)]; omega)]
        have c2 : ¬ (pNm x t a v 0 (nI c - 1)).1 = 0 := fun z => by
          obtain ⟨y1, -, y3⟩ := s2 z
          unfold rTnS at y1
          rw [e1, if_pos h5, (step_tok hX ht ((h.2.2.2.2.2.2.1 c0).2.1) (by have := pDg_le x a (t - a) 0 0; omega)).2] at y1
          exact nI_ne1 y1 y3 h5
        have ev := s3 c2
        rw [tnv_eq h5 h1 (by omega) (s1 c2).1, c1] at ev
        rw [if_pos c1, if_neg c2, if_pos ev.symm]
        have e5 : rFail R 10 5 = nI a := by rw [fail_eq h5 h1]; exact sS_s _ _ _ _
        rw [bad_th k (j + 1) b (nI_ne1 e5 (by omega))]
        refine ⟨fun _ => ⟨e5, ?_, by show a ≤ 200; omega⟩, fun q => by cases q⟩
        rw [fail_eq h5 h1]; exact rX_s hX (by decide)
      · rw [if_neg c1]
        by_cases c2 : (pNm x t a v 0 (nI c - 1)).1 = 0
        · rw [if_pos c2]
          obtain ⟨y1, y2, y3⟩ := s2 c2
          rw [bad_th k (j + 1) _ (nI_ne1 y1 y3)]
          exact ⟨fun _ => ⟨y1, y2, y3⟩, fun q => by cases q⟩
        · obtain ⟨y1, y2⟩ := s1 c2
          have ev := s3 c2
          have ev2 := tnv_eq h5 h1 (by omega) y1
          obtain ⟨m1, m2, -⟩ := pNm_ok ht c2
          have m3 := pS_ge x t (pNm x t a v 0 (nI c - 1)).2.1
          obtain ⟨qv, hqv, eqv⟩ := pNm_in ht hc c2
          rw [if_neg c2, if_neg (fun z => c1 (ev2.symm.trans (ev.trans z))), ev]
          refine hl_sim ht hc hq k km (j + 1) _ _ _ _ y2 y1 (by omega) (by omega) ?_
          rw [eqv]
          obtain ⟨kb, hkb, ekb⟩ := hb
          rw [ekb]
          exact lgood_of (hb_or kb hkb qv (by omega))
  termination_by k => k
theorem is_rdc {T : sT} {c q : Nat} (hc : c ≤ 6) (h : T 10 0 = nI c) (hq : q < c) : ¬ trIs T (nI q) = 0 := by
  unfold trIs
  rw [if_neg (nI_pos (by omega)), h, if_neg (fun z => by have := (nI_leI (by omega) (by omega)).mp z; omega), if_neg (by rw [show (6 : Int32) = nI 6 from rfl, nI_leI (by omega) (by omega)]; omega)]
  decide
theorem han_sim (ht : t ≤ 150) {R T : sT} {s c : Nat} {li v : Int32} {o : Nat → Int32} (hX : rX x t R) (h5 : R 10 5 = -1) (he : R 10 2 = nI (s + 5)) (hs : s + 5 ≤ t) (hT : rdR T c li o) : itR x t (rHanR R T) (rHanT R T) (pHn x t (s + 5, c, li, v, o)) := by
  obtain ⟨t1, t2⟩ := step_tok hX ht he hs
  have t2 := t2.trans h5
  have hc := hT.1.1
  have e0 : 0 ≤ (0 : Int32).toInt := by decide
  have ec : T 10 0 = nI c := hT.1.2.1
  unfold rHanR rHanT rHanL rHanP
  rw [ec]
  obtain ⟨⟨s1, s2⟩, s3⟩ := tn_sim ht t1 t2 (lo := 0) (hi := nI c - 1) e0 v
  show itR x t _ _ (pHnN x t c li o (pNm x t (s + 5) v 0 (nI c - 1)))
  have hin := pNm_in (x := x) (a := s + 5) (v := v) ht hc
  generalize pNm x t (s + 5) v 0 (nI c - 1) = r at s1 s2 s3 hin ⊢
  generalize rTnS (rStep R) 0 (nI c - 1) = R2 at s1 s2 ⊢
  unfold pHnN
  by_cases c1 : r.1 = 0
  · obtain ⟨y1, y2, y3⟩ := s2 c1
    rw [if_pos c1, bad_th 150 0 0 (nI_ne1 y1 y3)]
    show itR x t (rTs R2) _ _
    rw [bad_ts (nI_ne1 y1 y3)]
    exact itR_bad _ ⟨y1, y2, y3⟩
  · obtain ⟨y1, y2⟩ := s1 c1
    obtain ⟨q0, hq, eq⟩ := hin c1
    rw [if_neg c1, s3 c1, eq]
    have hl := hl_sim ht hc hq 150 (t - pS x t r.2.1) 0 R2 (pS x t r.2.1) (nI q0) 0 y2 y1 (by omega) (Nat.le_refl _) lgood0
    generalize pHl x t c (nI q0) (t - pS x t r.2.1) (pS x t r.2.1) (nI q0) 0 = w at hl ⊢
    generalize rThL (nI c - 1) (nI q0) 150 0 R2 0 = w2 at hl ⊢
    obtain ⟨b, a', v', bits⟩ := w
    cases b with
    | false =>
      obtain ⟨z1, z2, z3⟩ := hl.1 rfl
      rw [bad_ts (nI_ne1 z1 z3)]
      exact itR_bad _ ⟨z1, z2, z3⟩
    | true =>
      obtain ⟨z1, z2, z3, z4⟩ := hl.2 rfl
      obtain ⟨u1, u2⟩ := ts_sim ht z2 z1
      refine ⟨fun z => ?_, u2⟩
      obtain ⟨r1, r2⟩ := u1 z
      refine ⟨r1, r2, ?_⟩
      rw [z3] at z4 ⊢
      show rdR (trHands T (nI q0) bits) c li (upd o (5 * (nI q0).toNatClampNeg + 4) bits)
      rw [nI_clamp (by omega)]
      unfold trHands
      rw [if_neg (is_rdc hc ec hq), nI_clamp (by omega)]
      obtain ⟨a1, a8⟩ := hT
      refine ⟨a1, fun p hp => ?_⟩
      show (T 0 p = _ ∧ T 1 p = _ ∧ T 2 p = _ ∧ T 3 p = _ ∧ upd (T 4) q0 bits p = _) ∧ _
      obtain ⟨⟨b1, b2, b3, b4, b5⟩, b6, b7, b8⟩ := a8 p hp
      rw [pk_un (show 5 * p ≠ 5 * q0 + 4 by omega), pk_un (show 5 * p + 1 ≠ 5 * q0 + 4 by omega), pk_un (show 5 * p + 2 ≠ 5 * q0 + 4 by omega), pk_un (show 5 * p + 3 ≠ 5 * q0 + 4 by omega)]
      by_cases c2 : p = q0
      · subst c2
        rw [pk_us, pk_us]
        exact ⟨⟨b1, b2, b3, b4, rfl⟩, b6, b7, z4⟩
      · rw [pk_un c2, pk_un (by omega)]
        exact ⟨⟨b1, b2, b3, b4, b5⟩, b6, b7, b8⟩
theorem lie_rd {T : sT} {c : Nat} {li : Int32} {o : Nat → Int32} (hT : rdR T c li o) {q sz : Nat} (hq : q < c) (h1 : 1 ≤ sz) (h4 : sz ≤ 4) : rdR (trLie T (nI q) (nI sz)) c (li ||| (1 <<< (nI q &&& 31))) (pLiO o q (kL (o (5 * q)) (nI sz))) := by
  obtain ⟨⟨a1, a2, a3, a4, a5, a6, a7⟩, a8⟩ := hT
  have hi := is_rdc a1 a2 hq
  obtain ⟨⟨g0, g1, -⟩, ⟨g6, g6'⟩, -⟩ := a8 q hq
  obtain ⟨x', hx', ex⟩ := of_bound (n := 12) g6 (by omega) (by omega)
  obtain ⟨k1, k2⟩ := kL_ok (o (5 * q)) h1 h4
  have eb : trBeh T (nI q) (nI sz) = (if kL (o (5 * q)) (nI sz) ≤ o (5 * q + 1) then o (5 * q + 1) - kL (o (5 * q)) (nI sz) else 0) ∧ 0 ≤ (trBeh T (nI q) (nI sz)).toInt ∧ (trBeh T (nI q) (nI sz)).toInt ≤ 12 := by
    unfold trBeh trG
    rw [if_neg hi, if_neg hi, nI_clamp (by omega), g0, g1, ex]
    generalize (kL (o (5 * q)) (nI sz)).toNatClampNeg = y at k1 k2
    rw [k2]
    obtain ⟨b1, b2, b3⟩ := beh_n x' (by omega) y k1
    refine ⟨b1, ?_⟩
    rw [b3, nI_toInt (by omega)]
    omega
  obtain ⟨e1, e2, e3⟩ := eb
  unfold trLie pLiO
  rw [if_neg hi, nI_clamp (by omega), ← e1, a4]
  generalize trBeh T (nI q) (nI sz) = w at e2 e3 ⊢
  refine ⟨⟨a1, a2, a3, rfl, a5, a6, ?_⟩, fun p hp => ?_⟩
  · obtain ⟨k, hk, ek⟩ := a7
    rw [ek]; exact lgood_of (hb_or k hk q (by omega))
  · show (T 0 p = _ ∧ upd (T 1) q w p = _ ∧ T 2 p = _ ∧ T 3 p = _ ∧ T 4 p = _) ∧ _
    obtain ⟨⟨b1, b2, b3, b4, b5⟩, b6, b7, b8⟩ := a8 p hp
    rw [pk_un (show 5 * p ≠ 5 * q + 1 by omega), pk_un (show 5 * p + 2 ≠ 5 * q + 1 by omega), pk_un (show 5 * p + 3 ≠ 5 * q + 1 by omega), pk_un (show 5 * p + 4 ≠ 5 * q + 1 by omega)]
    by_cases c2 : p = q
    · subst c2
      rw [pk_us, pk_us]
      exact ⟨⟨b1, rfl, b3, b4, b5⟩, ⟨e2, e3⟩, b7, b8⟩
    · rw [pk_un c2, pk_un (by omega)]
      exact ⟨⟨b1, b2, b3, b4, b5⟩, b6, b7, b8⟩
theorem lie_sim (ht : t ≤ 150) {R T : sT} {s c : Nat} {li v : Int32} {o : Nat → Int32} (hX : rX x t R) (h5 : R 10 5 = -1) (he : R 10 2 = nI (s + 3)) (hs : s + 3 ≤ t) (hT : rdR T c li o) : itR x t (rLieR R T) (rLieT R T) (pLi x t (s + 3, c, li, v, o)) := by
  obtain ⟨t1, t2⟩ := step_tok hX ht he hs
  have t2 := t2.trans h5
  have hc := hT.1.1
  have e0 : 0 ≤ (0 : Int32).toInt := by decide
  have e1 : 0 ≤ (1 : Int32).toInt := by decide
  have ec : T 10 0 = nI c := hT.1.2.1
  unfold rLieR rLieT l3 l2
  rw [ec]
  obtain ⟨⟨s1, s2⟩, s3⟩ := tn_sim ht t1 t2 (lo := 0) (hi := nI c - 1) e0 v
  show itR x t _ _ (pLiN x t c li o (pNm x t (s + 3) v 0 (nI c - 1)))
  have hin := pNm_in (x := x) (a := s + 3) (v := v) ht hc
  generalize pNm x t (s + 3) v 0 (nI c - 1) = r at s1 s2 s3 hin ⊢
  generalize rTnS (rStep R) 0 (nI c - 1) = R2 at s1 s2 ⊢
  unfold pLiN
  by_cases c1 : r.1 = 0
  · obtain ⟨y1, y2, y3⟩ := s2 c1
    have hb := nI_ne1 y1 y3
    rw [if_pos c1, (bad_tn hb 1 4).1, bad_ts hb]
    exact itR_bad _ ⟨y1, y2, y3⟩
  · obtain ⟨y1, y2⟩ := s1 c1
    obtain ⟨q0, hq, eq⟩ := hin c1
    rw [if_neg c1, s3 c1, eq]
    obtain ⟨⟨w1, w2⟩, w3⟩ := tn_sim ht y2 y1 (lo := 1) (hi := 4) e1 (nI q0)
    have hok := fun z => (pNm_ok (x := x) (a := r.2.1) (v := nI q0) (lo := 1) (hi := 4) ht z).2.2
    generalize pNm x t r.2.1 (nI q0) 1 4 = r' at w1 w2 w3 hok ⊢
    have ev : ¬ r'.1 = 0 → rTnV R2 1 4 = r'.2.2 := w3
    generalize rTnV R2 1 4 = sz at ev ⊢
    generalize rTnS R2 1 4 = R3 at w1 w2 ⊢
    unfold pLiE
    by_cases c2 : r'.1 = 0
    · obtain ⟨z1, z2, z3⟩ := w2 c2
      have hb := nI_ne1 z1 z3
      rw [if_pos c2, bad_ts hb]
      exact itR_bad _ ⟨z1, z2, z3⟩
    · obtain ⟨z1, z2⟩ := w1 c2
      rw [if_neg c2, ev c2]
      obtain ⟨u1, u2⟩ := ts_sim ht z2 z1
      refine ⟨fun z => ?_, u2⟩
      obtain ⟨r1, r2⟩ := u1 z
      refine ⟨r1, r2, ?_⟩
      have l1 := iW_le (hok c2)
      have i1 : (1 : Int32).toInt = 1 := by decide
      have i4 : (4 : Int32).toInt = 4 := by decide
      obtain ⟨sz', hsz, esz⟩ := of_bound (v := r'.2.2) (n := 4) (by omega) (by omega) (by omega)
      rw [esz, nI_toInt (by omega)] at l1
      show rdR (trLie T (nI q0) r'.2.2) c (li ||| (1 <<< (nI q0 &&& 31))) (pLiO o (nI q0).toNatClampNeg (kL (o (5 * (nI q0).toNatClampNeg)) r'.2.2))
      rw [nI_clamp (by omega), esz]
      exact lie_rd hT hq (by omega) hsz
end RD2
