/-! TIES: is, next, two. -/
theorem so_all {T S : sT} {M N u : Nat} (h : tRel T S M N u) (p kd h' : Int32) : ∀ (k j : Nat), j + k = N → mSoL S p kd h' k j 1 = lpAll (fun j => T 5 j = p → kW kd (T 6 j) h' (T 8 j) = T 7 j) k j
  | 0, _, _ => rfl
  | k + 1, j, hj => by
    have z : ∀ (k j : Nat), mSoL S p kd h' k j 0 = 0 := by
      intro k
      induction k with
      | zero => intro j; rfl
      | succ k ih => intro j; unfold mSoL; simp [ih]
    obtain ⟨o1, o2, o3, o4⟩ := h.2.2.2.1 j (by omega)
    have ih := so_all h p kd h' k (j + 1) (by omega)
    unfold mSoL lpAll
    by_cases c1 : kW kd (S 7 j) h' (S 9 j) = S 8 j
    · have cT : kW kd (T 6 j) h' (T 8 j) = T 7 j := by rw [o2, o4, o3]; exact c1
      by_cases c2 : S 6 j = p
      · rw [if_pos c1, if_neg (by decide), if_pos c2, if_neg (by decide), if_pos (fun _ => cT), ih]
      · rw [if_pos c1, if_neg (by decide), if_neg c2, if_pos (fun _ => cT), ih]
    · have cT : ¬ kW kd (T 6 j) h' (T 8 j) = T 7 j := by rw [o2, o4, o3]; exact c1
      rw [if_neg c1, if_neg (by decide)]
      by_cases c2 : S 6 j = p
      · rw [if_pos c2, if_pos rfl, z, if_neg (fun q => cT (q (o1.trans c2)))]
      · rw [if_neg c2, ih, if_pos (fun q => absurd (o1.symm.trans q) c2)]
theorem so_eq {T S : sT} {M N u : Nat} (h : tRel T S M N u) (p kd h' : Int32) : nFit T p kd h' = mSo S p kd h' := by
  have hN := h.1.2.1
  have e1 : (T 10 3).toNatClampNeg = N := by rw [h.2.1.2.2.2.2.1]; exact nI_clamp (by omega)
  have e2 : (S 30 3).toNatClampNeg = N := by rw [h.2.1.2.2.2.2.2.1]; exact nI_clamp (by omega)
  unfold nFit mSo nN
  rw [e1, e2, Nat.min_eq_left hN]
  exact (so_all h p kd h' N 0 (by omega)).symm
theorem or_eq {f g : Nat → Int32} (h : ∀ j, f j = g j) : ∀ (k j : Nat) (a : Int32), lpBits f k j a = lpOr g k j a
  | 0, _, _ => rfl
  | k + 1, j, a => by
    unfold lpBits lpOr
    rw [h j]
    have e0 : a ||| 0 = a := by simp
    by_cases c : g j = 0
    · rw [if_pos c, if_pos c, e0]; exact or_eq h k (j + 1) a
    · rw [if_neg c, if_neg c]; exact or_eq h k (j + 1) _
theorem kinds_eq {T S : sT} {M N u : Nat} (h : tRel T S M N u) {j : Nat} (hj : j < M) : nKinds T (nI j) = mKinds S (nI j) := by
  unfold nKinds mKinds
  refine or_eq (fun i => ?_) 6 0 0
  rw [so_eq h, trG_j h hj, (h.2.2.1 j hj).2.1, cl_nI (by have := h.1.1; omega)]
theorem hons_eq {T S : sT} {M N u : Nat} (h : tRel T S M N u) {j : Nat} (hj : j < M) : nHons T (nI j) = mHons S (nI j) := by
  unfold nHons mHons
  refine or_eq (fun i => ?_) 13 0 0
  rw [so_eq h, trG_j h hj, (h.2.2.1 j hj).1, cl_nI (by have := h.1.1; omega)]
theorem cnt_eq2 (D' h' b n' : Int32) (a : Nat) (ha : ¬ iBit b a = 0) : ∀ (k j : Nat) (c : Int32), aCnt D' b n' h' (kW (nI a) n' h' D') k j c = mAlI D' h' b n' a k j c
  | 0, _, _ => rfl
  | k + 1, j, c => by
    have e0 : c + 0 = c := by simp
    have ha' : ¬ mHas b (nI a) = 0 := fun q => ha ((has_iff _ _).mp q)
    unfold aCnt mAlI
    rw [e0]
    by_cases c1 : iBit b j = 0
    · have c1' := (has_iff b j).mpr c1
      rw [if_pos c1, cnt_eq2 D' h' b n' a ha k (j + 1) c]
      by_cases c2 : kW (nI a) n' h' D' = kW (nI j) n' h' D'
      · rw [if_pos c2, if_neg ha', if_pos c1']
      · rw [if_neg c2, if_neg ha', if_pos c1']
    · have c1' : ¬ mHas b (nI j) = 0 := fun q => c1 ((has_iff _ _).mp q)
      rw [if_neg c1]
      by_cases c2 : kW (nI a) n' h' D' = kW (nI j) n' h' D'
      · rw [if_pos c2.symm, if_pos c2, if_neg ha', if_neg c1', if_neg (by decide), cnt_eq2 D' h' b n' a ha k (j + 1) (c + 1)]
      · rw [if_neg (fun q => c2 q.symm), if_neg c2, if_neg ha', if_neg c1', if_pos rfl, cnt_eq2 D' h' b n' a ha k (j + 1) c]
theorem ali_0 (D' h' b n' : Int32) (a : Nat) (ha : iBit b a = 0) : ∀ (k j : Nat) (c : Int32), mAlI D' h' b n' a k j c = c
  | 0, _, _ => rfl
  | k + 1, j, c => by
    have e0 : c + 0 = c := by simp
    have ha' : mHas b (nI a) = 0 := (has_iff _ _).mpr ha
    unfold mAlI
    rw [e0, if_pos ha', if_pos ha', ali_0 D' h' b n' a ha k (j + 1) c]
    by_cases c2 : kW (nI a) n' h' D' = kW (nI j) n' h' D'
    · rw [if_pos c2]
    · rw [if_neg c2]
theorem cnt_b (D' b n' h' w' : Int32) : ∀ (k j c : Nat), c + k ≤ 100 → ∃ c', c' ≤ c + k ∧ aCnt D' b n' h' w' k j (nI c) = nI c'
  | 0, _, c, _ => ⟨c, by omega, rfl⟩
  | k + 1, j, c, hc => by
    unfold aCnt
    obtain ⟨x, hx, ex⟩ := cnt_b D' b n' h' w' k (j + 1) c (by omega)
    obtain ⟨y, hy, ey⟩ := cnt_b D' b n' h' w' k (j + 1) (c + 1) (by omega)
    by_cases c1 : iBit b j = 0
    · rw [if_pos c1]; exact ⟨x, by omega, ex⟩
    · rw [if_neg c1]
      by_cases c2 : kW (nI j) n' h' D' = w'
      · rw [if_pos c2, nI_1]; exact ⟨y, by omega, ey⟩
      · rw [if_neg c2]; exact ⟨x, by omega, ex⟩
theorem most_eq (D' h' b n' : Int32) : ∀ (k j x : Nat), x ≤ 6 → aMost D' b n' h' k j (nI x) = mAlO D' h' b n' k j (nI x) ∧ ∃ y, y ≤ 6 ∧ aMost D' b n' h' k j (nI x) = nI y
  | 0, _, x, hx => ⟨rfl, x, hx, rfl⟩
  | k + 1, j, x, hx => by
    unfold aMost mAlO
    by_cases c1 : iBit b j = 0
    · rw [if_pos c1, ali_0 D' h' b n' j c1, if_pos (show (0 : Int32) ≤ nI x from nI_pos' (by omega))]
      exact most_eq D' h' b n' k (j + 1) x hx
    · rw [if_neg c1, ← cnt_eq2 D' h' b n' j c1]
      obtain ⟨y, hy, ey⟩ := cnt_b D' b n' h' (kW (nI j) n' h' D') 6 0 0 (by omega)
      rw [show (0 : Int32) = nI 0 from rfl, ey]
      unfold iMax
      by_cases c2 : nI y ≤ nI x
      · rw [if_pos c2, if_neg (Int32.not_lt.mpr c2)]
        exact most_eq D' h' b n' k (j + 1) x hx
      · rw [if_neg c2, if_pos (Int32.not_le.mp c2)]
        exact most_eq D' h' b n' k (j + 1) y (by omega)
theorem alike_eq (D' h' b n' : Int32) : nAlike D' b n' h' = mAlO D' h' b n' 6 0 0 ∧ ∃ y : Nat, y ≤ 6 ∧ nAlike D' b n' h' = nI y := most_eq D' h' b n' 6 0 0 (by omega)
theorem nextL_eq {S : sT} {p b D' h' : Int32} (hA : ∀ n', nAlike D' b n' h' = mAlike S p b n') (hb : ¬ b = 0) : ∀ (k j : Nat) (x : Int32), nBest D' b h' k j x (nAlike D' b x h') = mNextL S p b k j x
  | 0, _, _ => rfl
  | k + 1, j, x => by
    unfold nBest mNextL
    rw [if_neg hb, hA x, hA (nI j)]
    by_cases c : mAlike S p b x ≤ mAlike S p b (nI j)
    · rw [if_pos c, if_pos c, ← hA x]; exact nextL_eq hA hb k (j + 1) x
    · rw [if_neg c, if_neg c, ← hA (nI j)]; exact nextL_eq hA hb k (j + 1) (nI j)
theorem nextW_eq {S : sT} {p b D' h' : Int32} (hD : D' = S 30 1) (hh : h' = S 2 p.toNatClampNeg) : nBestW D' b h' = mNextW S p b := by
  have hA : ∀ n', nAlike D' b n' h' = mAlike S p b n' := fun n' => by rw [hD, hh]; exact (alike_eq _ _ b n').1
  unfold nBestW mNextW
  by_cases hb : b = 0
  · rw [if_pos hb, if_pos hb]
    show (-1 : Int32) = mNextL S p b (19 + 1) 1 (-1)
    rw [mNextL, if_pos hb]
  · rw [if_neg hb, if_neg hb]
    show nBest D' b h' (20 + 1) 0 0 7 = mNextL S p b 20 1 0
    rw [nBest]
    obtain ⟨y, hy, ey⟩ := (alike_eq D' h' b (nI 0)).2
    rw [if_neg (by rw [ey, show (7 : Int32) = nI 7 from rfl, nI_leI (by omega) (by omega)]; omega)]
    exact nextL_eq hA hb 20 1 (nI 0)
theorem mGets_10 (S : sT) (p : Int32) : mGets S p 1 0 = 3 := by
  unfold mGets
  rw [if_neg (by decide), if_pos rfl]
theorem mGets_11 (S : sT) (p : Int32) : mGets S p 1 1 = 1 := by
  unfold mGets
  rw [if_neg (by decide), if_neg (by decide)]
theorem tw_step {S : sT} {a b ta tb : Int32} (ga : ∀ o, mGets S a 0 o = ta) (gb : ∀ o, mGets S b 0 o = tb) (j : Nat) (r l o : Int32) (hl : l = 0 ∨ l = 1) (ho : o = 0 ∨ o = 1) : xTwS ta tb j r l o = mTw1 S a b j r l o := by
  have z : r ||| 0 = r := by simp
  have n1 : ¬ (1 : Int32) = 0 := by decide
  rcases hl with rfl | rfl <;> rcases ho with rfl | rfl
  · unfold xTwS mTw1 mTw2 mTw4 mTw3 iCon
    simp only [ga, gb, mGets_10, mGets_11, z]
    by_cases c1 : ta < 3 <;> by_cases c2 : tb < 3 <;> simp [c1, c2]
  · unfold xTwS mTw1 mTw2 mTw4 mTw3 iCon
    simp only [ga, gb, mGets_10, mGets_11, z]
    by_cases c1 : ta < 1 <;> by_cases c2 : 3 < tb <;> simp [c1, c2, mGets_10, mGets_11, ga, gb]
  · unfold xTwS mTw1 mTw2 mTw4 mTw3 iCon
    simp only [ga, gb, mGets_10, mGets_11, z]
    by_cases c1 : 3 < ta <;> by_cases c2 : tb < 1 <;> simp [c1, c2, mGets_10, mGets_11, ga, gb]
  · unfold xTwS mTw1 mTw2 mTw4 mTw3 iCon
    simp only [ga, gb, mGets_10, mGets_11, z]
    by_cases c1 : 1 < ta <;> by_cases c2 : 1 < tb <;> simp [c1, c2, mGets_10, mGets_11, ga, gb]
theorem tw_L {S : sT} {a b ta tb : Int32} (ga : ∀ o, mGets S a 0 o = ta) (gb : ∀ o, mGets S b 0 o = tb) : ∀ (k j : Nat) (r : Int32), j + k = 4 → xTwL ta tb k j r = mTwL S a b k j r
  | 0, _, _, _ => rfl
  | k + 1, j, r, hj => by
    unfold xTwL mTwL
    rcases (show j = 0 ∨ j = 1 ∨ j = 2 ∨ j = 3 by omega) with rfl | rfl | rfl | rfl
    · rw [if_pos (show nI 0 &&& 1 = 0 by decide), if_pos (show nI 0 &&& 2 = 0 by decide), if_neg (show ¬ iRem (nI 0) 2 = 1 by decide), if_pos (show nI 0 ≤ 1 by decide), tw_step ga gb 0 r 0 0 (Or.inl rfl) (Or.inl rfl)]
      exact tw_L ga gb k (0 + 1) _ (by omega)
    · rw [if_neg (show ¬ nI 1 &&& 1 = 0 by decide), if_pos (show nI 1 &&& 2 = 0 by decide), if_pos (show iRem (nI 1) 2 = 1 by decide), if_pos (show nI 1 ≤ 1 by decide), tw_step ga gb 1 r 1 0 (Or.inr rfl) (Or.inl rfl)]
      exact tw_L ga gb k (1 + 1) _ (by omega)
    · rw [if_pos (show nI 2 &&& 1 = 0 by decide), if_neg (show ¬ nI 2 &&& 2 = 0 by decide), if_neg (show ¬ iRem (nI 2) 2 = 1 by decide), if_neg (show ¬ nI 2 ≤ 1 by decide), tw_step ga gb 2 r 0 1 (Or.inl rfl) (Or.inr rfl)]
      exact tw_L ga gb k (2 + 1) _ (by omega)
    · rw [if_neg (show ¬ nI 3 &&& 1 = 0 by decide), if_neg (show ¬ nI 3 &&& 2 = 0 by decide), if_pos (show iRem (nI 3) 2 = 1 by decide), if_neg (show ¬ nI 3 ≤ 1 by decide), tw_step ga gb 3 r 1 1 (Or.inr rfl) (Or.inr rfl)]
      exact tw_L ga gb k (3 + 1) _ (by omega)
theorem truth_eq {T S : sT} {M N u : Nat} (h : tRel T S M N u) {j : Nat} (hj : j < M) (o : Int32) : mGets S (nI j) 0 o = trTruth T (nI j) := by
  obtain ⟨o0, o1, o2, -⟩ := h.2.2.1 j hj
  unfold mGets trTruth
  rw [if_pos rfl, own_eq h hj, trG_j h hj, trG_j h hj, show (2 : Int32) = nI 2 from rfl, (beh_eq h hj (s := 2) (by omega) (by omega)).1, cl_nI (by have := h.1.1; omega), o0, o2, h.2.1.2.2.1]
theorem iMax0N {m : Nat} (h : m < 2 ^ 31) : iMax 0 (nI m) = nI m := by
  unfold iMax
  rcases Nat.eq_zero_or_pos m with e | e
  · subst e; rw [if_neg (by decide)]; rfl
  · rw [if_pos (by rw [show (0 : Int32) = nI 0 from rfl, nI_ltI (by omega) h]; exact e)]
theorem iMinN {a b : Nat} (ha : a < 2 ^ 31) (hb : b < 2 ^ 31) : iMin (nI a) (nI b) = nI (min a b) := by
  unfold iMin
  by_cases c : b < a
  · rw [if_pos ((nI_ltI hb ha).mpr c), Nat.min_eq_right (by omega)]
  · rw [if_neg (fun q => c ((nI_ltI hb ha).mp q)), Nat.min_eq_left (by omega)]
def aN (x l j : Nat) : Nat := min 12 (x + (j - l))
theorem aft_eq {T S : sT} {M N u : Nat} (h : tRel T S M N u) {i x l : Nat} (hi : i < M) (ex : S 2 i = nI x) (hx : x ≤ 12) (hl : iBit (S 30 2) i = nI l) (hl1 : l ≤ 1) {j : Nat} (hj : j ≤ 100) : trAft T (nI i) (nI j) = nI (aN x l j) := by
  unfold trAft
  rw [trG_j h hi, trLied_j h hi, (h.2.2.1 i hi).2.1, h.2.1.2.2.2.1, ex]
  unfold iBit at hl
  rw [hl]
  have e : iMax 0 (nI j - nI l) = nI (j - l) := by
    rcases Nat.lt_or_ge j l with q | q
    · have hj0 : j = 0 := by omega
      have hl' : l = 1 := by omega
      subst hj0; subst hl'; decide
    · rw [pk_sub q]; exact iMax0N (by omega)
  rw [e, nI_add, show (12 : Int32) = nI 12 from rfl, iMinN (by omega) (by omega)]
  rfl
theorem wh_found {S : sT} {p w : Int32} {f : Int32} (hf : ¬ f = -1) : ∀ (k j : Nat) (h' : Int32), mWhL S p w k j h' f = f
  | 0, _, _ => rfl
  | k + 1, j, h' => by rw [mWhL, if_neg hf]
theorem nI_m1 {j : Nat} (h : j < 2 ^ 31) : ¬ nI j = -1 := by
  rw [fa_eq, nI_toInt h]
  have e : (-1 : Int32).toInt = -1 := by decide
  omega
theorem wh_eq {S : sT} {p w : Int32} {x l : Nat} (hx : x ≤ 12) (hl : l ≤ 1) (hlb : mHas (S 30 2) p = 0 ↔ l = 0) {f : Nat → Int32} (hA : ∀ j, j ≤ 61 → f j = nI (aN x l j)) : ∀ (k j : Nat), j + k = 61 → mWhL S p w k j (nI (aN x l j)) (-1) = iFirst (fun j w => kW (S 1 p.toNatClampNeg) (S 3 p.toNatClampNeg) (f j) (S 30 1 + nI j) < w) w k j
  | 0, _, _ => rfl
  | k + 1, j, hj => by
    unfold mWhL iFirst
    rw [if_pos rfl, hA j (by omega)]
    have adv : iMin 12 (nI (aN x l j) + 1) = nI (min 12 (aN x l j + 1)) := by
      rw [nI_1, show (12 : Int32) = nI 12 from rfl]
      exact iMinN (by omega) (by unfold aN; omega)
    by_cases c : kW (S 1 p.toNatClampNeg) (S 3 p.toNatClampNeg) (nI (aN x l j)) (S 30 1 + nI j) < w
    · rw [if_pos c, if_pos c]
      by_cases c0 : nI j = 0
      · have hj0 : j = 0 := by
          rcases Nat.eq_zero_or_pos j with q | q
          · exact q
          · exact absurd c0 (nI_ne0 q (by omega))
        rw [if_pos c0]
        by_cases c1 : mHas (S 30 2) p = 0
        · have l0 := hlb.mp c1
          rw [if_pos c1, adv, ← wh_eq hx hl hlb hA k (j + 1) (by omega)]
          congr 2
          unfold aN; omega
        · have l1 : l = 1 := by
            rcases Nat.eq_zero_or_pos l with q | q
            · exact absurd (hlb.mpr q) c1
            · omega
          rw [if_neg c1, ← wh_eq hx hl hlb hA k (j + 1) (by omega)]
          congr 2
          unfold aN; omega
      · have hj0 : 0 < j := by
          rcases Nat.eq_zero_or_pos j with q | q
          · subst q; exact absurd rfl c0
          · exact q
        rw [if_neg c0, adv, ← wh_eq hx hl hlb hA k (j + 1) (by omega)]
        congr 2
        unfold aN; omega
    · rw [if_neg c, if_neg c]
      have hf : ¬ nI j = -1 := nI_m1 (by omega)
      by_cases c0 : nI j = 0
      · rw [if_pos c0]
        by_cases c1 : mHas (S 30 2) p = 0
        · rw [if_pos c1]; exact wh_found hf _ _ _
        · rw [if_neg c1]; exact wh_found hf _ _ _
      · rw [if_neg c0]; exact wh_found hf _ _ _
section TIE4
variable {C T A R V S : sT} {L Lm : Nat → Int64} {M N u t : Nat}
theorem tie_is (h : rel (C, L, T, A, R, V) S Lm M N u t) (p w : Int32) : tieO (xIs C L T A R V p w) (mIsF S Lm p w) S := by
  unfold xIs mIsF
  have h1 : tRel T S M N u := h.1
  rw [is_eq h1]
  by_cases c1 : mIs S p = 0
  · rw [if_pos c1, if_pos c1]; exact tie_bad h
  rw [if_neg c1, if_neg c1]
  by_cases c2 : iW w 0 1 = 0
  · rw [if_pos c2, if_pos c2]; exact tie_bad h
  rw [if_neg c2, if_neg c2]
  obtain ⟨j, hj, rfl⟩ := is_ok h1.1.1 h1.2.1.2.1 c1
  by_cases c3 : w = 0
  · rw [if_pos c3, if_pos c3]; exact tie_v h (kinds_eq h1 hj)
  · rw [if_neg c3, if_neg c3]; exact tie_v h (hons_eq h1 hj)
theorem tie_next (h : rel (C, L, T, A, R, V) S Lm M N u t) (p : Int32) : tieO (xNext C L T A R V p) (mNext S Lm p) S := by
  unfold xNext mNext
  have h1 : tRel T S M N u := h.1
  rw [is_eq h1]
  by_cases c1 : mIs S p = 0
  · rw [if_pos c1, if_pos c1]; exact tie_bad h
  rw [if_neg c1, if_neg c1]
  obtain ⟨j, hj, rfl⟩ := is_ok h1.1.1 h1.2.1.2.1 c1
  refine tie_v h ?_
  rw [kinds_eq h1 hj, trG_j h1 hj, (h1.2.2.1 j hj).2.1]
  exact nextW_eq h1.2.1.2.2.1 (by rw [cl_nI (by have := h1.1.1; omega)])
theorem tie_two (h : rel (C, L, T, A, R, V) S Lm M N u t) (a b : Int32) : tieO (xTwo C L T A R V a b) (mTwo S Lm a b) S := by
  have h1 : tRel T S M N u := h.1
  unfold xTwo mTwo
  by_cases c1 : mIs S a = 0
  · rw [if_pos ((x2_iff h1 a b).mpr (Or.inl c1)), if_pos c1]; exact tie_bad h
  by_cases c2 : mIs S b = 0
  · rw [if_pos ((x2_iff h1 a b).mpr (Or.inr (Or.inl c2))), if_neg c1, if_pos c2]; exact tie_bad h
  by_cases c3 : a = b
  · rw [if_pos ((x2_iff h1 a b).mpr (Or.inr (Or.inr c3))), if_neg c1, if_neg c2, if_pos c3]; exact tie_bad h
  rw [if_neg (fun e => by rcases (x2_iff h1 a b).mp e with e | e | e; exact c1 e; exact c2 e; exact c3 e), if_neg c1, if_neg c2, if_neg c3]
  obtain ⟨i, hi, rfl⟩ := is_ok h1.1.1 h1.2.1.2.1 c1
  obtain ⟨j, hj, rfl⟩ := is_ok h1.1.1 h1.2.1.2.1 c2
  exact tie_v h (tw_L (fun o => truth_eq h1 hi o) (fun o => truth_eq h1 hj o) 4 0 0 (by omega))
theorem tie_when (h : rel (C, L, T, A, R, V) S Lm M N u t) (p w : Int32) : tieO (xWhen C L T A R V p w) (mWhenF S Lm p w) S := by
  unfold xWhen mWhenF
  have h1 : tRel T S M N u := h.1
  rw [is_eq h1]
  by_cases c1 : mIs S p = 0
  · rw [if_pos c1, if_pos c1]; exact tie_bad h
  rw [if_neg c1, if_neg c1]
  by_cases c2 : iW w 0 999 = 0
  · rw [if_pos c2, if_pos c2]; exact tie_bad h
  rw [if_neg c2, if_neg c2]
  obtain ⟨i, hi, rfl⟩ := is_ok h1.1.1 h1.2.1.2.1 c1
  have hi6 : i < 6 := by have := h1.1.1; omega
  obtain ⟨x, hx, ex⟩ := hon_of h1 hi
  obtain ⟨o0, o1, o2, -⟩ := h1.2.2.1 i hi
  obtain ⟨l, hl, el⟩ : ∃ l : Nat, l ≤ 1 ∧ iBit (S 30 2) i = nI l := by
    rcases ibit01 (S 30 2) i with e | e
    · exact ⟨0, by omega, e⟩
    · exact ⟨1, by omega, e⟩
  have hlb : mHas (S 30 2) (nI i) = 0 ↔ l = 0 := by
    rw [has_iff, el]
    constructor
    · intro q
      rcases Nat.eq_zero_or_pos l with z | z
      · exact z
      · exact absurd q (nI_ne0 z (by omega))
    · intro q; subst q; rfl
  have k0 := wh_eq (S := S) (p := nI i) (w := w) hx hl hlb (f := fun j => trAft T (nI i) (nI j)) (fun j hj => aft_eq h1 hi ex hx el hl (by omega)) 61 0 (by omega)
  refine tie_v h ?_
  unfold trDays mWhen
  rw [trG_j h1 hi, trG_j h1 hi, o0, o2, h1.2.1.2.2.1, cl_nI hi6, ex]
  rw [cl_nI hi6] at k0
  rw [show nI x = nI (aN x l 0) by unfold aN; congr 1; omega, k0]
end TIE4
