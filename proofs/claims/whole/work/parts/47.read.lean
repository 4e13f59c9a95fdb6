/-! TIES: read. The class's tokens and the reference's places. -/
def rX (x : Nat → Int32) (t : Nat) (R : sT) : Prop := R 10 0 = nI t ∧ ∀ j, j < t → R 0 j = x j
def nv (x : Nat → Int32) (t s : Nat) : Int32 := if (pDg x s (t - s) 0 0).1 = 1 ∨ (pDg x s (t - s) 0 0).1 = 2 then (pDg x s (t - s) 0 0).2 else -1
def tok (x : Nat → Int32) (t : Nat) (R : sT) (s : Nat) : Prop := rX x t R ∧ R 10 1 = nI s ∧ s ≤ t ∧ ¬ pC x t s = 32 ∧ (pC x t s = -1 → R 10 3 = 0) ∧ (¬ iW (pC x t s) 97 122 = 0 → R 10 3 = 1 ∧ R 10 2 = nI (s + pW x t s)) ∧ (¬ iW (pC x t s) 48 57 = 0 → R 10 3 = 2 ∧ R 10 2 = nI (s + (pDg x s (t - s) 0 0).1) ∧ R 10 4 = nv x t s) ∧ (pC x t s = 59 → R 10 3 = 3 ∧ R 10 2 = nI (s + 1)) ∧ (¬ pC x t s = -1 → iW (pC x t s) 97 122 = 0 → iW (pC x t s) 48 57 = 0 → ¬ pC x t s = 59 → R 10 3 = 4)
def pRn (lo hi : Int32) (x : Nat → Int32) (s : Nat) : Nat → Nat → Nat
  | 0, j => j
  | k + 1, j => if iW (x (s + j)) lo hi = 0 then j else pRn lo hi x s k (j + 1)
theorem pWs_R (x : Nat → Int32) (s : Nat) : ∀ k j, pWs x s k j = pRn 97 122 x s k j
  | 0, _ => rfl
  | k + 1, j => by
    unfold pWs pRn
    rw [pWs_R x s k (j + 1)]
theorem pDg_R (x : Nat → Int32) (s : Nat) : ∀ k j w, (pDg x s k j w).1 = pRn 48 57 x s k j
  | 0, _, _ => rfl
  | k + 1, j, w => by
    unfold pDg pRn
    by_cases c : iW (x (s + j)) 48 57 = 0
    · rw [if_pos c, if_pos c]
    · rw [if_neg c, if_neg c]
      by_cases c2 : 2 ≤ nI j
      · rw [if_pos c2]; exact pDg_R x s k (j + 1) w
      · rw [if_neg c2]; exact pDg_R x s k (j + 1) _
theorem pDg_ge (x : Nat → Int32) (s : Nat) : ∀ k j w, j ≤ (pDg x s k j w).1
  | 0, j, _ => Nat.le_refl j
  | k + 1, j, w => by
    unfold pDg
    by_cases c : iW (x (s + j)) 48 57 = 0
    · rw [if_pos c]; exact Nat.le_refl j
    · rw [if_neg c]
      by_cases c2 : 2 ≤ nI j
      · rw [if_pos c2]; have := pDg_ge x s k (j + 1) w; omega
      · rw [if_neg c2]; have := pDg_ge x s k (j + 1) (10 * w + x (s + j) - 48); omega
theorem pDg_v (x : Nat → Int32) (s k : Nat) (hk : 1 ≤ k) (hd : ¬ iW (x s) 48 57 = 0) : 1 ≤ (pDg x s k 0 0).1 ∧ ((pDg x s k 0 0).1 = 1 → (pDg x s k 0 0).2 = x s - 48) ∧ ((pDg x s k 0 0).1 = 2 → (pDg x s k 0 0).2 = 10 * (x s - 48) + (x (s + 1) - 48)) := by
  obtain ⟨k', rfl⟩ : ∃ k', k = k' + 1 := ⟨k - 1, by omega⟩
  have e0 : (10 : Int32) * 0 + x s - 48 = x s - 48 := by simp
  rw [pDg, show s + 0 = s from rfl, if_neg hd, if_neg (show ¬ (2 : Int32) ≤ nI 0 by decide), e0]
  generalize x s - 48 = w1
  cases k' with
  | zero => exact ⟨Nat.le_refl 1, fun _ => rfl, fun q => absurd (show (1 : Nat) = 2 from q) (by decide)⟩
  | succ k' =>
    rw [pDg]
    by_cases c : iW (x (s + (0 + 1))) 48 57 = 0
    · rw [if_pos c]; exact ⟨Nat.le_refl 1, fun _ => rfl, fun q => absurd (show (1 : Nat) = 2 from q) (by decide)⟩
    · rw [if_neg c, if_neg (show ¬ (2 : Int32) ≤ nI (0 + 1) by decide)]
      have e1 : 10 * w1 + x (s + (0 + 1)) - 48 = 10 * w1 + (x (s + 1) - 48) := by
        rw [Int32.sub_eq_add_neg, Int32.sub_eq_add_neg, Int32.add_assoc]
      rw [e1]
      generalize 10 * w1 + (x (s + 1) - 48) = w2
      have hg := pDg_ge x s k' (0 + 1 + 1) w2
      refine ⟨by omega, fun q => by omega, fun q => ?_⟩
      cases k' with
      | zero => rfl
      | succ k' =>
        rw [pDg] at q ⊢
        by_cases c2 : iW (x (s + (0 + 1 + 1))) 48 57 = 0
        · rw [if_pos c2]
        · rw [if_neg c2, if_pos (show (2 : Int32) ≤ nI (0 + 1 + 1) by decide)] at q
          have := pDg_ge x s k' (0 + 1 + 1 + 1) w2
          omega
section RD
variable {x : Nat → Int32} {t : Nat} {R : sT}
theorem byte_j (h : rX x t R) (ht : t ≤ 150) {j : Nat} (hj : j ≤ 1000) : rByte R (nI j) = pC x t j := by
  unfold rByte pC
  rw [if_neg (nI_pos (by omega)), h.1]
  by_cases c : t ≤ j
  · rw [if_pos c, if_pos ((nI_leI (by omega) (by omega)).mpr c)]
  · rw [if_neg c, if_neg (fun z => c ((nI_leI (by omega) (by omega)).mp z)), if_neg (by rw [show (150 : Int32) = nI 150 from rfl, nI_leI (by omega) (by omega)]; omega), nI_clamp (by omega)]
    exact h.2 j (by omega)
theorem run_sk (h : rX x t R) (ht : t ≤ 150) : ∀ (k j : Nat), j + k ≤ 1000 → rRun R 32 32 k j = pSk x t k j
  | 0, _, _ => rfl
  | k + 1, j, hj => by
    unfold rRun pSk
    rw [byte_j h ht (by omega)]
    by_cases c : pC x t j = 32
    · rw [if_pos c, if_neg (by rw [c]; decide), if_neg (by rw [c]; decide)]
      exact run_sk h ht k (j + 1) (by omega)
    · rw [if_neg c]
      by_cases c1 : pC x t j < 32
      · rw [if_pos c1]
      · rw [if_neg c1, if_pos]
        rw [fa_lt] at c1 ⊢
        rw [fa_eq] at c
        omega
theorem run_g (h : rX x t R) (ht : t ≤ 150) {lo hi : Int32} {s : Nat} : ∀ (k j : Nat), s + j + k = t → rRun R lo hi k (s + j) = s + pRn lo hi x s k j
  | 0, _, _ => rfl
  | k + 1, j, hj => by
    unfold rRun pRn
    rw [byte_j h ht (by omega), pC_lt (by omega)]
    have ih := run_g h ht (lo := lo) (hi := hi) (s := s) k (j + 1) (by omega)
    by_cases c : iW (x (s + j)) lo hi = 0
    · rw [if_pos c]
      by_cases c1 : x (s + j) < lo
      · rw [if_pos c1]
      · rw [if_neg c1, if_pos]
        have := iW_0 c
        rw [fa_lt] at c1 ⊢
        omega
    · have := iW_le c
      rw [if_neg c, if_neg (by rw [fa_lt]; omega), if_neg (by rw [fa_lt]; omega)]
      exact ih
theorem pSk_ne (x : Nat → Int32) (t : Nat) : ∀ (k a : Nat), t ≤ a + k → ¬ pC x t (pSk x t k a) = 32
  | 0, a, h => by
    show ¬ pC x t a = 32
    rw [pC_ge (by omega)]; decide
  | k + 1, a, h => by
    unfold pSk
    by_cases c : pC x t a = 32
    · rw [if_pos c]; exact pSk_ne x t k (a + 1) (by omega)
    · rw [if_neg c]; exact c
theorem pS_ne (x : Nat → Int32) (t a : Nat) : ¬ pC x t (pS x t a) = 32 := pSk_ne x t _ a (by omega)
theorem pSk_fix {x : Nat → Int32} {t a : Nat} (h : ¬ pC x t a = 32) : ∀ k, pSk x t k a = a
  | 0 => rfl
  | k + 1 => by unfold pSk; rw [if_neg h]
theorem pS_fix {x : Nat → Int32} {t a : Nat} (h : ¬ pC x t a = 32) : pS x t a = a := pSk_fix h _
theorem pS_idem (x : Nat → Int32) (t a : Nat) : pS x t (pS x t a) = pS x t a := pS_fix (pS_ne x t a)
theorem rX_s (h : rX x t R) {i : Nat} {v : Int32} (hi : i ≠ 0) : rX x t (sS 10 R i v) := ⟨by rw [sS_i (Ne.symm hi)]; exact h.1, fun j hj => by rw [sS_r (by decide)]; exact h.2 j hj⟩
theorem start_eq (h : rX x t R) (ht : t ≤ 150) {e : Nat} (he : R 10 2 = nI e) (het : e ≤ t) : rStart R = pS x t e ∧ rL R = t := by
  have e1 : rL R = t := by unfold rL; rw [h.1]; exact nI_clamp (by omega)
  have e2 : rE R = e := by unfold rE; rw [he]; exact nI_clamp (by omega)
  refine ⟨?_, e1⟩
  unfold rStart
  rw [e1, e2, run_sk h ht _ _ (by omega)]
  rfl
theorem step_tok (h : rX x t R) (ht : t ≤ 150) {e : Nat} (he : R 10 2 = nI e) (het : e ≤ t) : tok x t (rStep R) (pS x t e) ∧ rStep R 10 5 = R 10 5 := by
  obtain ⟨e1, e2⟩ := start_eq h ht he het
  have hle := pS_le x t e
  have h32 := pS_ne x t e
  have hX1 : rX x t (rSt1 R) := rX_s h (by decide)
  have ef : rFst R = pC x t (pS x t e) := by
    unfold rFst
    rw [e1]; exact byte_j hX1 ht (by omega)
  have i97 : (97 : Int32).toInt = 97 := by decide
  have i122 : (122 : Int32).toInt = 122 := by decide
  have i48 : (48 : Int32).toInt = 48 := by decide
  have i57 : (57 : Int32).toInt = 57 := by decide
  have i59 : (59 : Int32).toInt = 59 := by decide
  have im1 : (-1 : Int32).toInt = -1 := by decide
  unfold rStep
  rw [ef]
  have hO : rFst R = pC x t (pS x t e) → ¬ pC x t (pS x t e) = -1 → iW (pC x t (pS x t e)) 97 122 = 0 → iW (pC x t (pS x t e)) 48 57 = 0 → tok x t (rStO R) (pS x t e) ∧ rStO R 10 5 = R 10 5 := by
    intro _ q1 q2 q3
    unfold rStO
    rw [ef, e1]
    refine ⟨⟨rX_s (rX_s hX1 (by decide)) (by decide), ?_, by omega, h32, fun q => absurd q q1, fun q => absurd q2 q, fun q => absurd q3 q, fun q => ⟨?_, nI_1 _⟩, fun _ _ _ q => ?_⟩, rfl⟩
    · show nI (rStart R) = nI (pS x t e)
      rw [e1]
    · show (if pC x t (pS x t e) = 59 then (3 : Int32) else 4) = 3
      rw [if_pos q]
    · show (if pC x t (pS x t e) = 59 then (3 : Int32) else 4) = 4
      rw [if_neg q]
  have hD : ¬ pC x t (pS x t e) = -1 → iW (pC x t (pS x t e)) 97 122 = 0 → tok x t (rStD R) (pS x t e) ∧ rStD R 10 5 = R 10 5 := by
    intro q1 q2
    unfold rStD
    rw [ef]
    by_cases c1 : pC x t (pS x t e) < 48
    · rw [if_pos c1]; exact hO ef q1 q2 (iW_eq0 (Or.inl ((fa_lt _ _).mp c1)))
    · rw [if_neg c1]
      by_cases c2 : 57 < pC x t (pS x t e)
      · rw [if_pos c2]; exact hO ef q1 q2 (iW_eq0 (Or.inr ((fa_lt _ _).mp c2)))
      · rw [if_neg c2]
        rw [fa_lt] at c1 c2
        have hlt : pS x t e < t := by
          rcases Nat.lt_or_ge (pS x t e) t with c | c
          · exact c
          · exact absurd (pC_ge c) q1
        have q3 : ¬ iW (x (pS x t e)) 48 57 = 0 := by
          rw [← pC_lt (x := x) hlt, iW_eq1 (by omega) (by omega)]; decide
        have hX2 : rX x t (sS 10 (rSt1 R) 3 2) := rX_s hX1 (by decide)
        have hn : rRun (sS 10 (rSt1 R) 3 2) 48 57 (rL R - rStart R) (rStart R) = pS x t e + (pDg x (pS x t e) (t - pS x t e) 0 0).1 := by
          rw [e1, e2, pDg_R]
          exact run_g hX2 ht (s := pS x t e) (t - pS x t e) 0 (by omega)
        have hC1 : rStC1 R = sS 10 (sS 10 (rSt1 R) 3 2) 2 (nI (pS x t e + (pDg x (pS x t e) (t - pS x t e) 0 0).1)) := by
          unfold rStC1
          rw [hn]
        have hX3 : rX x t (rStC1 R) := by rw [hC1]; exact rX_s hX2 (by decide)
        have c10 : rStC1 R 10 1 = nI (pS x t e) := by
          rw [hC1]
          show nI (rStart R) = nI (pS x t e)
          rw [e1]
        have c12 : rStC1 R 10 2 = nI (pS x t e + (pDg x (pS x t e) (t - pS x t e) 0 0).1) := by rw [hC1]; rfl
        have c13 : rStC1 R 10 3 = 2 := by rw [hC1]; rfl
        have c15 : rStC1 R 10 5 = R 10 5 := by rw [hC1]; rfl
        have hle2 := pDg_le x (pS x t e) (t - pS x t e) 0 0
        obtain ⟨v1, v2, v3⟩ := pDg_v x (pS x t e) (t - pS x t e) (by omega) q3
        have hnum : rNum (rStC1 R) (nI (pS x t e)) (nI (pS x t e + (pDg x (pS x t e) (t - pS x t e) 0 0).1)) = nv x t (pS x t e) := by
          unfold rNum nv
          generalize pDg x (pS x t e) (t - pS x t e) 0 0 = r at v1 v2 v3 hle2 ⊢
          rw [pk_sub (by omega), show pS x t e + r.1 - pS x t e = r.1 by omega]
          have b0 : rByte (rStC1 R) (nI (pS x t e)) = x (pS x t e) := by rw [byte_j hX3 ht (by omega), pC_lt hlt]
          have bl : rByte (rStC1 R) (nI (pS x t e + r.1) - 1) = x (pS x t e + r.1 - 1) := by
            rw [nI_pr (by omega), byte_j hX3 ht (by omega), pC_lt (by omega)]
          rw [b0, bl]
          by_cases n1 : r.1 = 1
          · rw [if_pos (by rw [n1]; rfl), if_pos (Or.inl n1), v2 n1, n1]
            rfl
          · rw [if_neg (show ¬ nI r.1 = 1 from fun z => n1 ((nI_eq (b := 1) (by omega) (by omega)).mp z))]
            by_cases n2 : r.1 = 2
            · rw [if_pos (by rw [n2]; rfl), if_pos (Or.inr n2), v3 n2, n2]
              rfl
            · rw [if_neg (show ¬ nI r.1 = 2 from fun z => n2 ((nI_eq (b := 2) (by omega) (by omega)).mp z)), if_neg (by omega)]
        unfold rStC
        rw [c10, c12, hnum]
        refine ⟨⟨rX_s hX3 (by decide), (sS_i (by decide)).trans c10, by omega, h32, fun q => absurd q q1, fun q => absurd q2 q, fun _ => ⟨(sS_i (by decide)).trans c13, (sS_i (by decide)).trans c12, sS_s _ _ _ _⟩, fun q => ?_, fun _ _ q => ?_⟩, (sS_i (by decide)).trans c15⟩
        · rw [fa_eq] at q; omega
        · rw [iW_eq1 (by omega) (by omega)] at q; exact absurd q (by decide)
  by_cases c0 : pC x t (pS x t e) = -1
  · rw [if_pos c0]
    unfold rStA
    rw [e1]
    refine ⟨⟨rX_s (rX_s hX1 (by decide)) (by decide), ?_, by omega, h32, fun _ => rfl, fun q => ?_, fun q => ?_, fun q => ?_, fun q => absurd c0 q⟩, rfl⟩
    · show nI (rStart R) = nI (pS x t e)
      rw [e1]
    · rw [c0] at q; exact absurd (by decide) q
    · rw [c0] at q; exact absurd (by decide) q
    · rw [c0] at q; exact absurd q (by decide)
  · rw [if_neg c0]
    by_cases c1 : pC x t (pS x t e) < 97
    · rw [if_pos c1]; exact hD c0 (iW_eq0 (Or.inl ((fa_lt _ _).mp c1)))
    · rw [if_neg c1]
      by_cases c2 : 122 < pC x t (pS x t e)
      · rw [if_pos c2]; exact hD c0 (iW_eq0 (Or.inr ((fa_lt _ _).mp c2)))
      · rw [if_neg c2]
        rw [fa_lt] at c1 c2
        have hlt : pS x t e < t := by
          rcases Nat.lt_or_ge (pS x t e) t with c | c
          · exact c
          · exact absurd (pC_ge c) c0
        have hX2 : rX x t (sS 10 (rSt1 R) 3 1) := rX_s hX1 (by decide)
        have hn : rRun (sS 10 (rSt1 R) 3 1) 97 122 (rL R - rStart R) (rStart R) = pS x t e + pW x t (pS x t e) := by
          unfold pW
          rw [e1, e2, pWs_R]
          exact run_g hX2 ht (s := pS x t e) (t - pS x t e) 0 (by omega)
        unfold rStB
        rw [hn]
        refine ⟨⟨rX_s hX2 (by decide), ?_, by omega, h32, fun q => absurd q c0, fun _ => ⟨rfl, rfl⟩, fun q => ?_, fun q => ?_, fun _ q => ?_⟩, rfl⟩
        · show nI (rStart R) = nI (pS x t e)
          rw [e1]
        · rw [iW_eq0 (Or.inr (by omega))] at q; exact absurd rfl q
        · rw [fa_eq] at q; omega
        · rw [iW_eq1 (by omega) (by omega)] at q; exact absurd q (by decide)
/-- a step of both: r = 0 a fault at a, else on at a -/
def sim (x : Nat → Int32) (t : Nat) (R : sT) (r : Int32) (a : Nat) : Prop := (¬ r = 0 → R 10 5 = -1 ∧ tok x t R (pS x t a)) ∧ (r = 0 → R 10 5 = nI a ∧ rX x t R ∧ a ≤ 200)
theorem fail_eq (h5 : R 10 5 = -1) {s : Nat} (h1 : R 10 1 = nI s) : rFail R = sS 10 R 5 (nI s) := by
  unfold rFail
  rw [if_pos h5, h1]
theorem fail_bad (h5 : ¬ R 10 5 = -1) : rFail R = R := by
  unfold rFail
  rw [if_neg h5]
theorem bad_tn (h5 : ¬ R 10 5 = -1) (lo hi : Int32) : rTnS R lo hi = R ∧ rTnV R lo hi = 0 := by
  have e : rTn1 R lo hi = R := by
    unfold rTn1
    rw [fail_bad h5]
    by_cases c1 : R 10 3 = 2
    · rw [if_pos c1]
      by_cases c2 : R 10 4 < lo
      · rw [if_pos c2]
      · rw [if_neg c2]
        by_cases c3 : R 10 4 ≤ hi
        · rw [if_pos c3]
        · rw [if_neg c3]
    · rw [if_neg c1]
  unfold rTnS rTnV
  rw [e, if_neg h5, if_neg h5]
  exact ⟨rfl, rfl⟩
theorem bad_ts (h5 : ¬ R 10 5 = -1) : rTs R = R := by
  have e : rTs1 R = R := by
    unfold rTs1
    rw [fail_bad h5]
    by_cases c1 : R 10 3 = 3
    · rw [if_pos c1]
    · rw [if_neg c1]
  unfold rTs
  rw [e, if_neg h5]
theorem tok_kind {s : Nat} (h : tok x t R s) : (R 10 3 = 2 ↔ ¬ iW (pC x t s) 48 57 = 0) ∧ (R 10 3 = 3 ↔ pC x t s = 59) ∧ (R 10 3 = 1 ↔ ¬ iW (pC x t s) 97 122 = 0) ∧ (R 10 3 = 0 ↔ pC x t s = -1) := by
  obtain ⟨hX, h1, hs, h32, k0, k1, k2, k3, k4⟩ := h
  have i97 : (97 : Int32).toInt = 97 := by decide
  have i122 : (122 : Int32).toInt = 122 := by decide
  have i48 : (48 : Int32).toInt = 48 := by decide
  have i57 : (57 : Int32).toInt = 57 := by decide
  have i59 : (59 : Int32).toInt = 59 := by decide
  have im1 : (-1 : Int32).toInt = -1 := by decide
  generalize pC x t s = f at h32 k0 k1 k2 k3 k4 ⊢
  by_cases c0 : f = -1
  · have e := k0 c0
    subst c0
    rw [e]
    decide
  · by_cases c1 : iW f 97 122 = 0
    · by_cases c2 : iW f 48 57 = 0
      · by_cases c3 : f = 59
        · have e := (k3 c3).1
          subst c3
          rw [e]
          decide
        · have e := k4 c0 c1 c2 c3
          rw [e]
          refine ⟨⟨fun q => absurd q (by decide), fun q => absurd c2 q⟩, ⟨fun q => absurd q (by decide), fun q => absurd q c3⟩, ⟨fun q => absurd q (by decide), fun q => absurd c1 q⟩, ⟨fun q => absurd q (by decide), fun q => absurd q c0⟩⟩
      · have e := (k2 c2).1
        have := iW_le c2
        rw [e]
        refine ⟨⟨fun _ => c2, fun _ => rfl⟩, ⟨fun q => absurd q (by decide), fun q => ?_⟩, ⟨fun q => absurd q (by decide), fun q => absurd c1 q⟩, ⟨fun q => absurd q (by decide), fun q => absurd q c0⟩⟩
        rw [fa_eq] at q; omega
    · have e := (k1 c1).1
      have := iW_le c1
      rw [e]
      refine ⟨⟨fun q => absurd q (by decide), fun q => absurd (iW_eq0 (Or.inr (by omega))) q⟩, ⟨fun q => absurd q (by decide), fun q => ?_⟩, ⟨fun _ => c1, fun _ => rfl⟩, ⟨fun q => absurd q (by decide), fun q => absurd q c0⟩⟩
      rw [fa_eq] at q; omega
theorem tn_sim0 (ht : t ≤ 150) {s : Nat} (h : tok x t R s) (h5 : R 10 5 = -1) {lo hi : Int32} (hlo : 0 ≤ lo.toInt) (v : Int32) : sim x t (rTnS R lo hi) (pNm x t s v lo hi).1 (pNm x t s v lo hi).2.1 ∧ (¬ (pNm x t s v lo hi).1 = 0 → rTnV R lo hi = (pNm x t s v lo hi).2.2) := by
  obtain ⟨hX, h1, hs, h32, k0, k1, k2, k3, k4⟩ := id h
  have hk := tok_kind h
  have im1 : (-1 : Int32).toInt = -1 := by decide
  unfold pNm
  rw [pS_fix h32]
  have bad : rTn1 R lo hi = rFail R → rTnS R lo hi = sS 10 R 5 (nI s) := fun e => by
    have e5 : sS 10 R 5 (nI s) 10 5 = nI s := sS_s _ _ _ _
    unfold rTnS
    rw [e, fail_eq h5 h1, e5, if_neg (nI_m1 (by omega))]
  have bsim : rTn1 R lo hi = rFail R → sim x t (rTnS R lo hi) 0 s := fun e => by
    rw [bad e]
    exact ⟨fun q => absurd rfl q, fun _ => ⟨sS_s _ _ _ _, rX_s hX (by decide), by omega⟩⟩
  by_cases c : iW (pC x t s) 48 57 = 0
  · have n0 : pDg x s (t - s) 0 0 = (0, 0) := by
      rcases Nat.lt_or_ge s t with q | q
      · obtain ⟨k, hk⟩ : ∃ k, t - s = k + 1 := ⟨t - s - 1, by omega⟩
        rw [hk, pDg, if_pos]
        rw [pC_lt q] at c
        exact c
      · rw [show t - s = 0 by omega]; rfl
    rw [n0]
    have e : rTn1 R lo hi = rFail R := by
      unfold rTn1
      rw [if_neg (fun q => hk.1.mp q c)]
    exact ⟨bsim e, fun q => absurd rfl q⟩
  · obtain ⟨e3, e2, e4⟩ := k2 c
    have hlt : s < t := by
      rcases Nat.lt_or_ge s t with q | q
      · exact q
      · rw [pC_ge q] at c; exact absurd (by decide) c
    have c' := c
    rw [pC_lt hlt] at c'
    obtain ⟨v1, -, -⟩ := pDg_v x s (t - s) (by omega) c'
    have hle := pDg_le x s (t - s) 0 0
    unfold nv at e4
    generalize pDg x s (t - s) 0 0 = r at v1 hle e2 e4 ⊢
    have i1 : (1 : Int32).toInt = 1 := by decide
    have i2 : (2 : Int32).toInt = 2 := by decide
    have hcn : iW (nI r.1) 1 2 = 0 ↔ ¬ (r.1 = 1 ∨ r.1 = 2) := by
      constructor
      · intro q
        have := iW_0 q
        rw [nI_toInt (by omega)] at this
        omega
      · intro q
        refine iW_eq0 ?_
        rw [nI_toInt (by omega)]
        omega
    unfold pNz
    by_cases cn : iW (nI r.1) 1 2 = 0
    · rw [if_pos cn]
      rw [if_neg (hcn.mp cn)] at e4
      have e : rTn1 R lo hi = rFail R := by
        unfold rTn1
        rw [if_pos e3, e4, if_pos (by rw [fa_lt]; omega)]
      exact ⟨bsim e, fun q => absurd rfl q⟩
    · rw [if_neg cn]
      have hn : r.1 = 1 ∨ r.1 = 2 := Classical.byContradiction (fun q => cn (hcn.mpr q))
      rw [if_pos hn] at e4
      by_cases cv : iW r.2 lo hi = 0
      · rw [if_pos cv]
        have e : rTn1 R lo hi = rFail R := by
          unfold rTn1
          rw [if_pos e3, e4]
          have := iW_0 cv
          by_cases q : r.2 < lo
          · rw [if_pos q]
          · rw [if_neg q, if_neg]
            rw [fa_lt] at q
            rw [fa_le]; omega
        exact ⟨bsim e, fun q => absurd rfl q⟩
      · rw [if_neg cv]
        have e : rTn1 R lo hi = R := by
          unfold rTn1
          have := iW_le cv
          rw [if_pos e3, e4, if_neg (by rw [fa_lt]; omega), if_pos (by rw [fa_le]; omega)]
        have st := step_tok hX ht e2 (by omega)
        unfold rTnS rTnV
        rw [e, if_pos h5, if_pos h5]
        exact ⟨⟨fun _ => ⟨st.2.trans h5, st.1⟩, fun q => absurd (show (1 : Int32) = 0 from q) (by decide)⟩, fun _ => e4⟩
theorem pNm_S (x : Nat → Int32) (t a : Nat) (v lo hi : Int32) : pNm x t a v lo hi = pNm x t (pS x t a) v lo hi := by
  unfold pNm
  rw [pS_idem]
theorem tn_sim (ht : t ≤ 150) {a : Nat} (h : tok x t R (pS x t a)) (h5 : R 10 5 = -1) {lo hi : Int32} (hlo : 0 ≤ lo.toInt) (v : Int32) : sim x t (rTnS R lo hi) (pNm x t a v lo hi).1 (pNm x t a v lo hi).2.1 ∧ (¬ (pNm x t a v lo hi).1 = 0 → rTnV R lo hi = (pNm x t a v lo hi).2.2) := by
  rw [pNm_S]
  exact tn_sim0 ht h h5 hlo v
theorem ts_sim (ht : t ≤ 150) {a : Nat} (h : tok x t R (pS x t a)) (h5 : R 10 5 = -1) : sim x t (rTs R) (pE x t a).1 (pE x t a).2 := by
  have hid : pE x t a = pE x t (pS x t a) := by
    unfold pE
    rw [pS_idem]
  rw [hid]
  have hfx := pS_idem x t a
  generalize pS x t a = s at h hfx ⊢
  obtain ⟨hX, h1, hs, h32, k0, k1, k2, k3, k4⟩ := id h
  have hk := tok_kind h
  unfold pE
  rw [hfx]
  by_cases c : pC x t s = 59
  · rw [if_pos c]
    obtain ⟨e3, e2⟩ := k3 c
    have hlt : s < t := by
      rcases Nat.lt_or_ge s t with q | q
      · exact q
      · rw [pC_ge q] at c; exact absurd c (by decide)
    have e : rTs1 R = R := by
      unfold rTs1
      rw [if_pos e3]
    have st := step_tok hX ht e2 (by omega)
    unfold rTs
    rw [e, if_pos h5]
    exact ⟨fun _ => ⟨st.2.trans h5, st.1⟩, fun q => absurd (show (1 : Int32) = 0 from q) (by decide)⟩
  · rw [if_neg c]
    have e : rTs1 R = sS 10 R 5 (nI s) := by
      unfold rTs1
      rw [if_neg (fun q => c (hk.2.1.mp q)), fail_eq h5 h1]
    have e5 : sS 10 R 5 (nI s) 10 5 = nI s := sS_s _ _ _ _
    unfold rTs
    rw [e, e5, if_neg (nI_m1 (by omega))]
    exact ⟨fun q => absurd rfl q, fun _ => ⟨e5, rX_s hX (by decide), by omega⟩⟩
end RD
