/-! THE TIE between the class and the reference: what is alike in both. -/
def psum (f : Nat → Int32) : Nat → Int
  | 0 => 0
  | k + 1 => psum f k + (f k).toInt
def pgood (M : Nat) (hon pie : Nat → Int32) : Prop := (∀ j, j < M → 0 ≤ (hon j).toInt ∧ (hon j).toInt ≤ 12 ∧ 0 ≤ (pie j).toInt) ∧ psum pie M ≤ 30 * (M : Int)
def lgood (x : Int32) : Prop := ∃ k : Nat, k < 64 ∧ x = nI k
/-- what may be undone, step e -/
def pEq (T S : sT) (M e : Nat) : Prop := T 9 (14 * e + 12) = S 12 (14 * e + 1) ∧ T 9 (14 * e + 13) = S 12 (14 * e) ∧ (∀ j, j < M → T 9 (14 * e + j) = S 12 (14 * e + 2 + j) ∧ T 9 (14 * e + 6 + j) = S 12 (14 * e + 8 + j)) ∧ pgood M (fun j => S 12 (14 * e + 2 + j)) (fun j => S 12 (14 * e + 8 + j)) ∧ lgood (S 12 (14 * e + 1))
def tNum (T S : sT) (M N u : Nat) : Prop := T 10 0 = nI M ∧ S 30 0 = nI M ∧ T 10 1 = S 30 1 ∧ T 10 2 = S 30 2 ∧ T 10 3 = nI N ∧ S 30 3 = nI N ∧ T 10 4 = nI u ∧ S 30 9 = nI u
def tOne (T S : sT) (M : Nat) : Prop := ∀ j, j < M → T 0 j = S 1 j ∧ T 1 j = S 2 j ∧ T 2 j = S 3 j ∧ T 3 j = S 4 j ∧ T 4 j = S 5 j
def tNot (T S : sT) (N : Nat) : Prop := ∀ j, j < N → T 5 j = S 6 j ∧ T 6 j = S 7 j ∧ T 7 j = S 8 j ∧ T 8 j = S 9 j
def tRel (T S : sT) (M N u : Nat) : Prop := (M ≤ 6 ∧ N ≤ 6 ∧ u ≤ 8) ∧ tNum T S M N u ∧ tOne T S M ∧ tNot T S N ∧ (∀ e, e < u → pEq T S M e) ∧ pgood M (S 2) (S 3) ∧ lgood (S 30 2) ∧ ∀ j, j < M → lgood (S 5 j)
def rel (X : sX) (S : sT) (Lm : Nat → Int64) (M N u t : Nat) : Prop :=
  tRel X.2.2.1 S M N u ∧ (t ≤ 150 ∧ X.2.2.2.2.1 10 0 = nI t ∧ S 30 4 = nI t ∧ ∀ j, j < t → X.2.2.2.2.1 0 j = S 10 j ∧ 0 ≤ (S 10 j).toInt) ∧ (X.2.1 0 = Lm 0 ∧ X.2.1 1 = Lm 1) ∧ X.1 10 0 = S 0 0 ∧ X.1 10 1 = S 0 1 ∧ X.1 10 2 = S 0 2
def tieO (F : Int32 × sX) (G : Int32 × sM) (S : sT) : Prop := F.1 = G.1 ∧ (∃ M N u t, rel F.2 G.2.1 G.2.2 M N u t) ∧ G.2.1 18 = S 18 ∧ G.2.1 19 = S 19
def tieL (F : Int64 × sX) (G : Int64 × sM) (S : sT) : Prop := F.1 = G.1 ∧ (∃ M N u t, rel F.2 G.2.1 G.2.2 M N u t) ∧ G.2.1 18 = S 18 ∧ G.2.1 19 = S 19
theorem tieO_of {F : Int32 × sX} {G : Int32 × sM} {S S' : sT} {L' : Nat → Int64} {v : Int32} {X' : sX} {M N u t : Nat} (hF : F = (v, X')) (hG : G = (v, S', L')) (h : rel X' S' L' M N u t) (h18 : S' 18 = S 18) (h19 : S' 19 = S 19) : tieO F G S := by
  subst hF
  subst hG
  exact ⟨rfl, ⟨M, N, u, t, h⟩, h18, h19⟩
theorem nIm1 (M : Nat) (h : M ≤ 100) : (nI M - 1).toInt = (M : Int) - 1 := by
  rcases Nat.eq_zero_or_pos M with e | e
  · subst e; decide
  · rw [nI_pr e, nI_toInt (by omega)]; omega
theorem is_eq {T S : sT} {M N u : Nat} (h : tRel T S M N u) (p : Int32) : trIs T p = mIs S p := by
  obtain ⟨⟨hM, -, -⟩, ⟨h0, h1, -⟩, -⟩ := h
  unfold trIs mIs iW
  rw [h0, h1]
  have e0 : (0 : Int32).toInt = 0 := by decide
  have e6 : (6 : Int32).toInt = 6 := by decide
  have em := nIm1 M (by omega)
  have en : (nI M).toInt = (M : Int) := nI_toInt (by omega)
  by_cases c0 : p < 0
  · rw [if_pos c0, if_pos c0]
  · rw [if_neg c0, if_neg c0]
    by_cases c1 : nI M ≤ p
    · rw [if_pos c1, if_pos (by rw [fa_lt, em]; rw [fa_le, en] at c1; omega)]
    · rw [if_neg c1, if_neg (show ¬ 6 ≤ p by rw [fa_le, e6]; rw [fa_le, en] at c1; omega), if_neg (by rw [fa_lt, em]; rw [fa_le, en] at c1; omega)]
theorem is_ok {S : sT} {M : Nat} (hM : M ≤ 6) (h1 : S 30 0 = nI M) {p : Int32} (h : ¬ mIs S p = 0) : ∃ j : Nat, j < M ∧ p = nI j := by
  have h2 := iW_le (show ¬ iW p 0 (S 30 0 - 1) = 0 from h)
  rw [h1, nIm1 M (by omega)] at h2
  have e0 : (0 : Int32).toInt = 0 := by decide
  obtain ⟨j, hj, e⟩ := vp_in_of (n := M) (x := p) (by rw [vp_in_iff]; omega) (by omega)
  exact ⟨j, hj, e⟩
theorem is_in {S : sT} {M j : Nat} (hM : M ≤ 6) (h1 : S 30 0 = nI M) (hj : j < M) : ¬ mIs S (nI j) = 0 := by
  have e0 : (0 : Int32).toInt = 0 := by decide
  rw [show mIs S (nI j) = 1 from iW_eq1 (by rw [nI_toInt (by omega)]; omega) (by rw [h1, nIm1 M (by omega), nI_toInt (by omega)]; omega)]
  decide
theorem cl_nI {j : Nat} (h : j < 6) : (nI j).toNatClampNeg = j := nI_clamp (by omega)
theorem trG_j {T S : sT} {M N u : Nat} (h : tRel T S M N u) {j : Nat} (hj : j < M) (k : Nat) : trG k T (nI j) = T k j := by
  unfold trG
  rw [is_eq h, if_neg (is_in h.1.1 h.2.1.2.1 hj), cl_nI (by have := h.1.1; omega)]
theorem trLied_j {T S : sT} {M N u : Nat} (h : tRel T S M N u) {j : Nat} (hj : j < M) : trLied T (nI j) = (T 10 2 >>> (nI j &&& 31)) &&& 1 := by
  unfold trLied
  rw [is_eq h, if_neg (is_in h.1.1 h.2.1.2.1 hj)]
theorem ww_eq {T S : sT} {M N u : Nat} (h : tRel T S M N u) {j : Nat} (hj : j < M) (n' : Int32) : trWW T (nI j) n' = mWW S (nI j) n' := by
  obtain ⟨a0, a1, -⟩ := h.2.2.1 j hj
  unfold trWW mWW
  rw [trG_j h hj, trG_j h hj, cl_nI (by have := h.1.1; omega), a0, a1, h.2.1.2.2.1]
theorem own_eq {T S : sT} {M N u : Nat} (h : tRel T S M N u) {j : Nat} (hj : j < M) : trOwn T (nI j) = mOwn S (nI j) := by
  obtain ⟨a0, a1, a2, -⟩ := h.2.2.1 j hj
  unfold trOwn mOwn
  rw [trG_j h hj, ww_eq h hj, cl_nI (by have := h.1.1; omega), a2]
theorem tie_bad {C T A R V S : sT} {L Lm : Nat → Int64} {M N u t : Nat} (h : rel (C, L, T, A, R, V) S Lm M N u t) : tieO (xBad C L T A R V) (mBad S Lm) S := by
  refine tieO_of (M := M) (N := N) (u := u) (t := t) rfl rfl ?_ rfl rfl
  obtain ⟨h1, h2, h3, h4, h5, h6⟩ := h
  exact ⟨h1, h2, h3, congrArg (· + 1) h4, h5, h6⟩
theorem tie_ten {C T A R V S : sT} {L Lm : Nat → Int64} {M N u t : Nat} (h : rel (C, L, T, A, R, V) S Lm M N u t) : tieO (xTen C L T A R V) (mTen S Lm) S := by
  refine tieO_of (M := M) (N := N) (u := u) (t := t) rfl rfl ?_ rfl rfl
  obtain ⟨h1, h2, h3, h4, h5, h6⟩ := h
  exact ⟨h1, h2, h3, congrArg (· + 1) h4, h5, h6⟩
theorem tie_no {C T A R V S : sT} {L Lm : Nat → Int64} {M N u t : Nat} (h : rel (C, L, T, A, R, V) S Lm M N u t) : tieO (xNo C L T A R V) (mNo S Lm) S := by
  refine tieO_of (M := M) (N := N) (u := u) (t := t) rfl rfl ?_ rfl rfl
  obtain ⟨h1, h2, h3, h4, h5, h6⟩ := h
  exact ⟨h1, h2, h3, h4, congrArg (· + 1) h5, h6⟩
theorem tie_ful {C T A R V S : sT} {L Lm : Nat → Int64} {M N u t : Nat} (h : rel (C, L, T, A, R, V) S Lm M N u t) : tieO (xFul C L T A R V) (mFul S Lm) S := by
  refine tieO_of (M := M) (N := N) (u := u) (t := t) rfl rfl ?_ rfl rfl
  obtain ⟨h1, h2, h3, h4, h5, h6⟩ := h
  exact ⟨h1, h2, h3, h4, h5, congrArg (· + 1) h6⟩
theorem pgood0 (f g : Nat → Int32) : pgood 0 f g := ⟨fun j hj => absurd hj (by omega), Int.le_refl _⟩
theorem lgood0 : lgood 0 := ⟨0, by decide, rfl⟩
/-- an answer alone: nothing has changed -/
theorem tie_v {C T A R V S : sT} {L Lm : Nat → Int64} {M N u t : Nat} {v w : Int32} (h : rel (C, L, T, A, R, V) S Lm M N u t) (e : v = w) : tieO (v, C, L, T, A, R, V) (w, S, Lm) S := ⟨e, ⟨M, N, u, t, h⟩, rfl, rfl⟩
theorem tie_vV {C T A R V V' S : sT} {L Lm : Nat → Int64} {M N u t : Nat} {v w : Int32} (h : rel (C, L, T, A, R, V) S Lm M N u t) (e : v = w) : tieO (v, C, L, T, A, R, V') (w, S, Lm) S := ⟨e, ⟨M, N, u, t, h⟩, rfl, rfl⟩
theorem iFirst_eq {f g : Nat → Int32} (h : ∀ j, f j = g j) (w : Int32) (k i : Nat) : iFirst (fun j w => f j < w) w k i = iFirst (fun j w => g j < w) w k i := by
  obtain rfl : f = g := funext h
  rfl
section TIE1
variable {C T A R V S : sT} {L Lm : Nat → Int64} {M N u t : Nat}
theorem tie_gold (h : rel (C, L, T, A, R, V) S Lm M N u t) : tieO (xGold C L T A R V) (mGold S Lm) S := by
  obtain ⟨h1, h2, h3, h4⟩ := h
  have e : T 10 0 = S 30 0 := h1.2.1.1.trans h1.2.1.2.1.symm
  refine ⟨e, ⟨0, 0, 0, t, ?_⟩, rfl, rfl⟩
  exact ⟨⟨⟨by decide, by decide, by decide⟩, ⟨rfl, rfl, rfl, rfl, rfl, rfl, rfl, rfl⟩, fun j hj => absurd hj (by omega), fun j hj => absurd hj (by omega), fun j hj => absurd hj (by omega), pgood0 _ _, lgood0, fun j hj => absurd hj (by omega)⟩, h2, h3, h4⟩
theorem tie_clear (h : rel (C, L, T, A, R, V) S Lm M N u t) : tieO (xClear C L T A R V) (mClear S Lm) S := by
  obtain ⟨h1, ⟨a1, a2, a3, a4⟩, h3, h4⟩ := h
  have e : R 10 0 = S 30 4 := Eq.trans a2 a3.symm
  exact ⟨e, ⟨M, N, u, 0, h1, ⟨by decide, rfl, rfl, fun j hj => absurd hj (by omega)⟩, h3, h4⟩, rfl, rfl⟩
theorem tie_forget (h : rel (C, L, T, A, R, V) S Lm M N u t) : tieO (xForget C L T A R V) (mForget S Lm) S := by
  obtain ⟨⟨⟨b1, b2, b3⟩, ⟨n1, n2, n3, n4, n5, n6, n7, n8⟩, o, -, p, g, l⟩, h2⟩ := h
  have e : T 10 3 = S 30 3 := Eq.trans n5 n6.symm
  exact ⟨e, ⟨M, 0, u, t, ⟨⟨b1, by decide, b3⟩, ⟨n1, n2, n3, n4, rfl, rfl, n7, n8⟩, o, fun j hj => absurd hj (by omega), p, g, l⟩, h2⟩, rfl, rfl⟩
theorem tie_type (h : rel (C, L, T, A, R, V) S Lm M N u t) (c : Int32) : tieO (xType C L T A R V c) (mType S Lm c) S := by
  unfold xType mType
  by_cases c1 : iW c 0 127 = 0
  · rw [if_pos c1, if_pos c1]; exact tie_bad h
  · rw [if_neg c1, if_neg c1]
    obtain ⟨h1, ⟨a1, a2, a3, a4⟩, h3, h4⟩ := id h
    have a2 : R 10 0 = nI t := a2
    have a4 : ∀ j, j < t → R 0 j = S 10 j ∧ 0 ≤ (S 10 j).toInt := a4
    by_cases c2 : S 30 4 = 150
    · rw [if_pos c2, if_neg (by rw [a2, ← a3, c2]; decide)]; exact tie_ful h
    · have ht : t < 150 := by
        rcases Nat.lt_or_ge t 150 with q | q
        · exact q
        · exact absurd (by rw [a3, show t = 150 by omega]; rfl) c2
      have e150 : (150 : Int32).toInt = 150 := by decide
      rw [if_neg c2, if_pos (by rw [a2, fa_lt, nI_toInt (by omega), e150]; omega)]
      have ec : (nI t).toNatClampNeg = t := nI_clamp (by omega)
      refine ⟨by show R 10 0 + 1 = S 30 4 + 1; rw [a2, a3], ⟨M, N, u, t + 1, h1, ⟨by omega, ?_, ?_, ?_⟩, h3, h4⟩, rfl, rfl⟩
      · show R 10 0 + 1 = nI (t + 1)
        rw [a2]; exact nI_1 t
      · show S 30 4 + 1 = nI (t + 1)
        rw [a3]; exact nI_1 t
      · intro j hj
        show upd (R 0) (R 10 0).toNatClampNeg c j = upd (S 10) (S 30 4).toNatClampNeg c j ∧ 0 ≤ (upd (S 10) (S 30 4).toNatClampNeg c j).toInt
        rw [a2, a3, ec]
        by_cases q : j = t
        · subst q
          rw [pk_us, pk_us]
          have k1 := iW_le c1
          have e0 : (0 : Int32).toInt = 0 := by decide
          exact ⟨rfl, by omega⟩
        · rw [pk_un q, pk_un q]; exact a4 j (by omega)
theorem tie_weighs (h : rel (C, L, T, A, R, V) S Lm M N u t) (p m : Int32) : tieO (xWeighs C L T A R V p m) (mWeighs S Lm p m) S := by
  unfold xWeighs mWeighs
  have h1 : tRel T S M N u := h.1
  rw [is_eq h1]
  by_cases c1 : mIs S p = 0
  · rw [if_pos c1, if_pos c1]; exact tie_bad h
  · rw [if_neg c1, if_neg c1]
    by_cases c2 : iW m 0 99 = 0
    · rw [if_pos c2, if_pos c2]; exact tie_bad h
    · rw [if_neg c2, if_neg c2]
      obtain ⟨j, hj, rfl⟩ := is_ok h1.1.1 h1.2.1.2.1 c1
      exact tie_v h (ww_eq h1 hj m)
theorem tie_debt (h : rel (C, L, T, A, R, V) S Lm M N u t) (p w : Int32) : tieO (xDebt C L T A R V p w) (mDebt S Lm p w) S := by
  unfold xDebt mDebt
  have h1 : tRel T S M N u := h.1
  rw [is_eq h1]
  by_cases c1 : mIs S p = 0
  · rw [if_pos c1, if_pos c1]; exact tie_bad h
  · rw [if_neg c1, if_neg c1]
    by_cases c2 : iW w 0 999 = 0
    · rw [if_pos c2, if_pos c2]; exact tie_bad h
    · rw [if_neg c2, if_neg c2]
      obtain ⟨j, hj, rfl⟩ := is_ok h1.1.1 h1.2.1.2.1 c1
      exact tie_v h (iFirst_eq (f := fun i => trWW T (nI j) (nI i)) (g := fun i => mWW S (nI j) (nI i)) (fun i => ww_eq h1 hj (nI i)) w 100 0)
theorem tie_part (h : rel (C, L, T, A, R, V) S Lm M N u t) (w : Int32) : tieL (xPart C L T A R V w) (mPart S Lm w) S := by
  unfold xPart mPart
  obtain ⟨h1, h2, ⟨l0, l1⟩, h4, h5, h6⟩ := id h
  by_cases c1 : w = 0
  · rw [if_pos c1, if_pos c1]; exact ⟨l0, ⟨M, N, u, t, h⟩, rfl, rfl⟩
  · rw [if_neg c1, if_neg c1]
    by_cases c2 : w = 1
    · rw [if_pos c2, if_pos c2]; exact ⟨l1, ⟨M, N, u, t, h⟩, rfl, rfl⟩
    · rw [if_neg c2, if_neg c2]
      exact ⟨rfl, ⟨M, N, u, t, h1, h2, ⟨l0, l1⟩, congrArg (· + 1) h4, h5, h6⟩, rfl, rfl⟩
theorem tie_status (h : rel (C, L, T, A, R, V) S Lm M N u t) (w : Int32) : tieO (xStatus C L T A R V w) (mStatus S Lm w) S := by
  unfold xStatus mStatus
  obtain ⟨h1, h2, h3, h4, h5, h6⟩ := id h
  by_cases c0 : w = 0
  · subst c0; rw [if_pos rfl, if_neg (by decide)]; exact tie_v h h4
  · rw [if_neg c0]
    by_cases c1 : w = 1
    · subst c1; rw [if_pos rfl, if_neg (by decide)]; exact tie_v h h5
    · rw [if_neg c1]
      by_cases c2 : w = 2
      · subst c2; rw [if_pos rfl, if_neg (by decide)]; exact tie_v h h6
      · rw [if_neg c2, if_pos ?_]
        · exact ⟨rfl, ⟨M, N, u, t, h1, h2, h3, congrArg (· + 1) h4, h5, h6⟩, rfl, rfl⟩
        · refine iW_eq0 ?_
          rw [fa_eq] at c0 c1 c2
          have e0 : (0 : Int32).toInt = 0 := by decide
          have e1 : (1 : Int32).toInt = 1 := by decide
          have e2 : (2 : Int32).toInt = 2 := by decide
          omega
end TIE1
