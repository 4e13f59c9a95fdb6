/-! TIES: is, next, two. -/
theorem so_all {T S : sT} {M N u : Nat} (h : tRel T S M N u) (p kd h' : Int32) : ∀ (k j : Nat), j + k = N → mSoL S p kd h' k j 1 = lpAll (fun j => T 5 j = p → kW kd (T 6 j) h' (T 8 j) = T 7 j) k j
  | 0, _, _ => rfl
  | k + 1, j, hj => by
    have z : ∀ (k j : Nat), mSoL S p kd h' k j 0 = 0 := by
      intro k
      induction k with
      | zero => intro j; rfl
      | succ k ih => intro j; unfold mSoL; simp [ih]
    obtain ⟨o1, o2, o3, o4⟩ := h.2.2.2.1 j (by omega)
    have ih := so_all h p kd h' k (j + 1) (by omega)
    unfold mSoL lpAll
    rw [o1, o2, o3, o4]
    by_cases c1 : kW kd (S 7 j) h' (S 9 j) = S 8 j
    · rw [if_pos c1, if_neg (by decide), if_neg (by decide), if_pos (fun _ => c1), ih]
      by_cases c2 : S 6 j = p
      · rw [if_pos c2]
      · rw [if_neg c2]
    · rw [if_neg c1, if_neg (by decide)]
      by_cases c2 : S 6 j = p
      · rw [if_pos c2, if_pos rfl, z, if_neg (fun q => c1 (q c2))]
      · rw [if_neg c2, ih, if_pos (fun q => absurd q c2)]
theorem so_eq {T S : sT} {M N u : Nat} (h : tRel T S M N u) (p kd h' : Int32) : nFit T p kd h' = mSo S p kd h' := by
  have hN := h.1.2.1
  have e1 : (T 10 3).toNatClampNeg = N := by rw [h.2.1.2.2.2.2.1]; exact nI_clamp (by omega)
  have e2 : (S 30 3).toNatClampNeg = N := by rw [h.2.1.2.2.2.2.2.1]; exact nI_clamp (by omega)
  unfold nFit mSo nN
  rw [e1, e2, Nat.min_eq_left hN]
  exact (so_all h p kd h' N 0 (by omega)).symm
theorem or_eq {f g : Nat → Int32} (h : ∀ j, f j = g j) : ∀ (k j : Nat) (a : Int32), lpBits f k j a = lpOr g k j a
  | 0, _, _ => rfl
  | k + 1, j, a => by
    unfold lpBits lpOr
    rw [h j]
    have e0 : a ||| 0 = a := by simp
    by_cases c : g j = 0
    · rw [if_pos c, if_pos c, e0]; exact or_eq h k (j + 1) a
    · rw [if_neg c, if_neg c]; exact or_eq h k (j + 1) _
theorem kinds_eq {T S : sT} {M N u : Nat} (h : tRel T S M N u) {j : Nat} (hj : j < M) : nKinds T (nI j) = mKinds S (nI j) := by
  unfold nKinds mKinds
  refine or_eq (fun i => ?_) 6 0 0
  rw [so_eq h, trG_j h hj, (h.2.2.1 j hj).2.1, cl_nI (by have := h.1.1; omega)]
theorem hons_eq {T S : sT} {M N u : Nat} (h : tRel T S M N u) {j : Nat} (hj : j < M) : nHons T (nI j) = mHons S (nI j) := by
  unfold nHons mHons
  refine or_eq (fun i => ?_) 13 0 0
  rw [so_eq h, trG_j h hj, (h.2.2.1 j hj).1, cl_nI (by have := h.1.1; omega)]
theorem cnt_eq2 (D' h' b n' : Int32) (a : Nat) (ha : ¬ iBit b a = 0) : ∀ (k j : Nat) (c : Int32), aCnt D' b n' h' (kW (nI a) n' h' D') k j c = mAlI D' h' b n' a k j c
  | 0, _, _ => rfl
  | k + 1, j, c => by
    have e0 : c + 0 = c := by simp
    have ha' : ¬ mHas b (nI a) = 0 := fun q => ha ((has_iff _ _).mp q)
    unfold aCnt mAlI
    rw [e0]
    by_cases c1 : iBit b j = 0
    · have c1' := (has_iff b j).mpr c1
      rw [if_pos c1, cnt_eq2 D' h' b n' a ha k (j + 1) c]
      by_cases c2 : kW (nI a) n' h' D' = kW (nI j) n' h' D'
      · rw [if_pos c2, if_neg ha', if_pos c1']
      · rw [if_neg c2, if_neg ha', if_pos c1']
    · have c1' : ¬ mHas b (nI j) = 0 := fun q => c1 ((has_iff _ _).mp q)
      rw [if_neg c1]
      by_cases c2 : kW (nI a) n' h' D' = kW (nI j) n' h' D'
      · rw [if_pos c2.symm, if_pos c2, if_neg ha', if_neg c1', if_neg (by decide), cnt_eq2 D' h' b n' a ha k (j + 1) (c + 1)]
      · rw [if_neg (fun q => c2 q.symm), if_neg c2, if_neg ha', if_neg c1', if_pos rfl, cnt_eq2 D' h' b n' a ha k (j + 1) c]
theorem ali_0 (D' h' b n' : Int32) (a : Nat) (ha : iBit b a = 0) : ∀ (k j : Nat) (c : Int32), mAlI D' h' b n' a k j c = c
  | 0, _, _ => rfl
  | k + 1, j, c => by
    have e0 : c + 0 = c := by simp
    have ha' : mHas b (nI a) = 0 := (has_iff _ _).mpr ha
    unfold mAlI
    rw [e0, if_pos ha', if_pos ha', ali_0 D' h' b n' a ha k (j + 1) c]
    by_cases c2 : kW (nI a) n' h' D' = kW (nI j) n' h' D'
    · rw [if_pos c2]
    · rw [if_neg c2]
theorem cnt_b (D' b n' h' w' : Int32) : ∀ (k j c : Nat), c + k ≤ 100 → ∃ c', c' ≤ c + k ∧ aCnt D' b n' h' w' k j (nI c) = nI c'
  | 0, _, c, _ => ⟨c, by omega, rfl⟩
  | k + 1, j, c, hc => by
    unfold aCnt
    obtain ⟨x, hx, ex⟩ := cnt_b D' b n' h' w' k (j + 1) c (by omega)
    obtain ⟨y, hy, ey⟩ := cnt_b D' b n' h' w' k (j + 1) (c + 1) (by omega)
    by_cases c1 : iBit b j = 0
    · rw [if_pos c1]; exact ⟨x, by omega, ex⟩
    · rw [if_neg c1]
      by_cases c2 : kW (nI j) n' h' D' = w'
      · rw [if_pos c2, nI_1]; exact ⟨y, by omega, ey⟩
      · rw [if_neg c2]; exact ⟨x, by omega, ex⟩
theorem most_eq (D' h' b n' : Int32) : ∀ (k j x : Nat), x ≤ 6 → aMost D' b n' h' k j (nI x) = mAlO D' h' b n' k j (nI x) ∧ ∃ y, y ≤ 6 ∧ aMost D' b n' h' k j (nI x) = nI y
  | 0, _, x, hx => ⟨rfl, x, hx, rfl⟩
  | k + 1, j, x, hx => by
    unfold aMost mAlO
    by_cases c1 : iBit b j = 0
    · rw [if_pos c1, ali_0 D' h' b n' j c1, if_pos (show (0 : Int32) ≤ nI x from nI_pos' (by omega))]
      exact most_eq D' h' b n' k (j + 1) x hx
    · rw [if_neg c1, ← cnt_eq2 D' h' b n' j c1]
      obtain ⟨y, hy, ey⟩ := cnt_b D' b n' h' (kW (nI j) n' h' D') 6 0 0 (by omega)
      rw [show (0 : Int32) = nI 0 from rfl, ey]
      unfold iMax
      by_cases c2 : nI y ≤ nI x
      · rw [if_pos c2, if_neg (Int32.not_lt.mpr c2)]
        exact most_eq D' h' b n' k (j + 1) x hx
      · rw [if_neg c2, if_pos (Int32.not_le.mp c2)]
        exact most_eq D' h' b n' k (j + 1) y (by omega)
