/-! TIES: steps kept and undone, days, lies, copies. -/
theorem of_bound {v : Int32} {n : Nat} (h0 : 0 ≤ v.toInt) (h1 : v.toInt ≤ n) (hn : n < 1000000) : ∃ x : Nat, x ≤ n ∧ v = nI x := by
  obtain ⟨j, hj, e⟩ := vp_in_of (n := n + 1) (x := v) (by rw [vp_in_iff]; omega) (by omega)
  exact ⟨j, by omega, e⟩
theorem pPlace_eq {T : sT} {e q : Nat} {f : Int32} (hT : T 10 4 = nI (e + 1)) (hf : f = nI q) : pPlace T f = nI (14 * e + q) := by
  unfold pPlace
  rw [hT, hf, nI_pred, show (14 : Int32) = nI 14 from rfl, pk_mul, nI_add, Nat.mul_comm]
theorem pPut_eq {T : sT} {e q : Nat} {f v : Int32} (hT : T 10 4 = nI (e + 1)) (he : e ≤ 7) (hf : f = nI q) (hq : q < 14) : pPut T f v = sA T 9 (upd (T 9) (14 * e + q) v) := by
  unfold pPut
  rw [pPlace_eq hT hf, if_neg (nI_pos (by omega)), if_neg (by rw [show (112 : Int32) = nI 112 from rfl, nI_leI (by omega) (by omega)]; omega), nI_clamp (by omega)]
theorem pLast_eq {T : sT} {e q : Nat} {f : Int32} (hT : T 10 4 = nI (e + 1)) (he : e ≤ 7) (hf : f = nI q) (hq : q < 14) : pLast T f = T 9 (14 * e + q) := by
  unfold pLast
  rw [pPlace_eq hT hf, if_neg (nI_pos (by omega)), if_neg (by rw [show (112 : Int32) = nI 112 from rfl, nI_leI (by omega) (by omega)]; omega), nI_clamp (by omega)]
theorem keep6 {e : Nat} (he : e ≤ 7) : ∀ (k j : Nat) (T : sT), j + k = 6 → T 10 4 = nI (e + 1) → (∀ r, r ≠ 9 → trKeep6 k j T r = T r) ∧ (∀ i, (i < 14 * e ∨ 14 * e + 12 ≤ i) → trKeep6 k j T 9 i = T 9 i) ∧ (∀ q, q < j → trKeep6 k j T 9 (14 * e + q) = T 9 (14 * e + q) ∧ trKeep6 k j T 9 (14 * e + 6 + q) = T 9 (14 * e + 6 + q)) ∧ (∀ q, j ≤ q → q < 6 → trKeep6 k j T 9 (14 * e + q) = T 1 q ∧ trKeep6 k j T 9 (14 * e + 6 + q) = T 2 q)
  | 0, j, T, hj, _ => ⟨fun _ _ => rfl, fun _ _ => rfl, fun _ _ => ⟨rfl, rfl⟩, fun q h1 h2 => absurd h1 (by omega)⟩
  | k + 1, j, T, hj, hT => by
    have e1 : pPut T (nI j) (T 1 j) = sA T 9 (upd (T 9) (14 * e + j) (T 1 j)) := pPut_eq hT he rfl (by omega)
    have e2 : pPut (sA T 9 (upd (T 9) (14 * e + j) (T 1 j))) (6 + nI j) (sA T 9 (upd (T 9) (14 * e + j) (T 1 j)) 2 j) = sA (sA T 9 (upd (T 9) (14 * e + j) (T 1 j))) 9 (upd (upd (T 9) (14 * e + j) (T 1 j)) (14 * e + (6 + j)) (T 2 j)) := pPut_eq (T := sA T 9 (upd (T 9) (14 * e + j) (T 1 j))) hT he (by rw [show (6 : Int32) = nI 6 from rfl, nI_add]) (by omega)
    unfold trKeep6
    rw [e1, e2]
    obtain ⟨i1, i2, i3, i4⟩ := keep6 he k (j + 1) (sA (sA T 9 (upd (T 9) (14 * e + j) (T 1 j))) 9 (upd (upd (T 9) (14 * e + j) (T 1 j)) (14 * e + (6 + j)) (T 2 j))) (by omega) hT
    have t9 : ∀ i, sA (sA T 9 (upd (T 9) (14 * e + j) (T 1 j))) 9 (upd (upd (T 9) (14 * e + j) (T 1 j)) (14 * e + (6 + j)) (T 2 j)) 9 i = upd (upd (T 9) (14 * e + j) (T 1 j)) (14 * e + (6 + j)) (T 2 j) i := fun _ => rfl
    refine ⟨fun r hr => (i1 r hr).trans ((va_up_ne _ _ hr).trans (va_up_ne _ _ hr)), fun i hi => (i2 i hi).trans ?_, fun q hq => ⟨(i3 q (by omega)).1.trans ?_, (i3 q (by omega)).2.trans ?_⟩, fun q h1 h2 => ?_⟩
    · rw [t9, pk_un (by omega), pk_un (by omega)]
    · rw [t9, pk_un (by omega), pk_un (by omega)]
    · rw [t9, pk_un (by omega), pk_un (by omega)]
    · by_cases hq : q = j
      · subst hq
        refine ⟨(i3 q (by omega)).1.trans ?_, (i3 q (by omega)).2.trans ?_⟩
        · rw [t9, pk_un (by omega), pk_us]
        · rw [t9, show 14 * e + 6 + q = 14 * e + (6 + q) by omega, pk_us]
      · exact i4 q (by omega) h2
theorem shift9 : ∀ (k j : Nat) (T : sT), 14 ≤ j → (∀ r, r ≠ 9 → pShift k j T r = T r) ∧ (∀ i, (i < j - 14 ∨ j - 14 + k ≤ i) → pShift k j T 9 i = T 9 i) ∧ (∀ i, j - 14 ≤ i → i < j - 14 + k → pShift k j T 9 i = T 9 (i + 14))
  | 0, j, T, _ => ⟨fun _ _ => rfl, fun _ _ => rfl, fun i h1 h2 => absurd h1 (by omega)⟩
  | k + 1, j, T, hj => by
    unfold pShift
    obtain ⟨i1, i2, i3⟩ := shift9 k (j + 1) (sA T 9 (upd (T 9) (j - 14) (T 9 j))) (by omega)
    refine ⟨fun r hr => (i1 r hr).trans (va_up_ne _ _ hr), fun i hi => (i2 i (by omega)).trans (pk_un (by omega)), fun i h1 h2 => ?_⟩
    by_cases q : i = j - 14
    · subst q
      refine (i2 _ (Or.inl (by omega))).trans ?_
      show upd (T 9) (j - 14) (T 9 j) (j - 14) = T 9 (j - 14 + 14)
      rw [pk_us, show j - 14 + 14 = j by omega]
    · refine (i3 i (by omega) (by omega)).trans ?_
      show upd (T 9) (j - 14) (T 9 j) (i + 14) = T 9 (i + 14)
      exact pk_un (by omega)
theorem shift12 : ∀ (k j : Nat) (S : sT), (∀ r, r ≠ 12 → mShift k j S r = S r) ∧ (∀ i, (i < j ∨ j + k ≤ i) → mShift k j S 12 i = S 12 i) ∧ (∀ i, j ≤ i → i < j + k → mShift k j S 12 i = S 12 (i + 14))
  | 0, j, S => ⟨fun _ _ => rfl, fun _ _ => rfl, fun i h1 h2 => absurd h1 (by omega)⟩
  | k + 1, j, S => by
    unfold mShift
    obtain ⟨i1, i2, i3⟩ := shift12 k (j + 1) (sA S 12 (upd (S 12) j (S 12 (j + 14))))
    refine ⟨fun r hr => (i1 r hr).trans (va_up_ne _ _ hr), fun i hi => (i2 i (by omega)).trans (pk_un (by omega)), fun i h1 h2 => ?_⟩
    by_cases q : i = j
    · subst q
      refine (i2 _ (Or.inl (by omega))).trans ?_
      show upd (S 12) i (S 12 (i + 14)) i = S 12 (i + 14)
      rw [pk_us]
    · refine (i3 i (by omega) (by omega)).trans ?_
      show upd (S 12) j (S 12 (j + 14)) (i + 14) = S 12 (i + 14)
      exact pk_un (by omega)
theorem lay_r {r a j : Nat} {S : sT} (h3 : r ≠ 3) : mLay2 r a j (mLay1 r a j S) r = upd (upd (S r) (a + 2 + j) (S 2 j)) (a + 8 + j) (S 3 j) := by
  unfold mLay2 mLay1 sA
  rw [va_up_self, va_up_self, va_up_ne _ _ h3.symm]
theorem lay_x {r a j x : Nat} {S : sT} (hx : x ≠ r) : mLay2 r a j (mLay1 r a j S) x = S x := (va_up_ne _ _ hx).trans (va_up_ne _ _ hx)
theorem layL {r a : Nat} (h2 : r ≠ 2) (h3 : r ≠ 3) : ∀ (k j : Nat) (S : sT), j + k = 6 → (∀ x, x ≠ r → mLayL r a k j S x = S x) ∧ (∀ i, (i < a + 2 ∨ a + 14 ≤ i) → mLayL r a k j S r i = S r i) ∧ (∀ q, q < j → mLayL r a k j S r (a + 2 + q) = S r (a + 2 + q) ∧ mLayL r a k j S r (a + 8 + q) = S r (a + 8 + q)) ∧ (∀ q, j ≤ q → q < 6 → mLayL r a k j S r (a + 2 + q) = S 2 q ∧ mLayL r a k j S r (a + 8 + q) = S 3 q)
  | 0, j, S, hj => ⟨fun _ _ => rfl, fun _ _ => rfl, fun _ _ => ⟨rfl, rfl⟩, fun q h1 h2 => absurd h1 (by omega)⟩
  | k + 1, j, S, hj => by
    unfold mLayL
    obtain ⟨i1, i2, i3, i4⟩ := layL h2 h3 k (j + 1) (mLay2 r a j (mLay1 r a j S)) (by omega)
    rw [lay_r h3] at i2 i3
    rw [lay_x (x := 2) h2.symm, lay_x (x := 3) h3.symm] at i4
    refine ⟨fun x hx => (i1 x hx).trans (lay_x hx), fun i hi => (i2 i hi).trans ?_, fun q hq => ⟨(i3 q (by omega)).1.trans ?_, (i3 q (by omega)).2.trans ?_⟩, fun q h1 h2 => ?_⟩
    · rw [pk_un (by omega), pk_un (by omega)]
    · rw [pk_un (by omega), pk_un (by omega)]
    · rw [pk_un (by omega), pk_un (by omega)]
    · by_cases hq : q = j
      · subst hq
        refine ⟨(i3 q (by omega)).1.trans ?_, (i3 q (by omega)).2.trans ?_⟩
        · rw [pk_un (by omega), pk_us]
        · rw [pk_us]
      · exact i4 q (by omega) h2
theorem lay_spec {r a : Nat} (h2 : r ≠ 2) (h3 : r ≠ 3) (h30 : r ≠ 30) (S : sT) : (∀ x, x ≠ r → mLay r a S x = S x) ∧ (∀ i, (i < a ∨ a + 14 ≤ i) → mLay r a S r i = S r i) ∧ mLay r a S r a = S 30 1 ∧ mLay r a S r (a + 1) = S 30 2 ∧ (∀ q, q < 6 → mLay r a S r (a + 2 + q) = S 2 q ∧ mLay r a S r (a + 8 + q) = S 3 q) := by
  have er : mLayB r a (mLayA r a S) r = upd (upd (S r) a (S 30 1)) (a + 1) (S 30 2) := by
    unfold mLayB mLayA sA
    rw [va_up_self, va_up_self, va_up_ne _ _ h30.symm]
  have ex : ∀ x, x ≠ r → mLayB r a (mLayA r a S) x = S x := fun x hx => (va_up_ne _ _ hx).trans (va_up_ne _ _ hx)
  unfold mLay
  obtain ⟨i1, i2, i3, i4⟩ := layL (r := r) (a := a) h2 h3 6 0 (mLayB r a (mLayA r a S)) (by omega)
  rw [er] at i2
  rw [ex 2 h2.symm, ex 3 h3.symm] at i4
  refine ⟨fun x hx => (i1 x hx).trans (ex x hx), fun i hi => (i2 i (by omega)).trans ?_, (i2 a (by omega)).trans ?_, (i2 (a + 1) (by omega)).trans ?_, fun q hq => i4 q (by omega) hq⟩
  · rw [pk_un (by omega), pk_un (by omega)]
  · rw [pk_un (by omega), pk_us]
  · rw [pk_us]
theorem tak_s {r a j : Nat} {S : sT} (h2 : r ≠ 2) : mTak2 r a j (mTak1 r a j S) 2 = upd (S 2) j (S r (a + 2 + j)) ∧ mTak2 r a j (mTak1 r a j S) 3 = upd (S 3) j (S r (a + 8 + j)) := by
  refine ⟨rfl, ?_⟩
  show upd (S 3) j (va_up S 2 _ r (a + 8 + j)) = _
  rw [va_up_ne _ _ h2]
theorem tak_x {r a j x : Nat} {S : sT} (hx : x ≠ 2) (hy : x ≠ 3) : mTak2 r a j (mTak1 r a j S) x = S x := (va_up_ne _ _ hy).trans (va_up_ne _ _ hx)
theorem takL {r a : Nat} (h2 : r ≠ 2) (h3 : r ≠ 3) : ∀ (k j : Nat) (S : sT), j + k = 6 → (∀ x, x ≠ 2 → x ≠ 3 → mTakL r a k j S x = S x) ∧ (∀ q, q < j → mTakL r a k j S 2 q = S 2 q ∧ mTakL r a k j S 3 q = S 3 q) ∧ (∀ q, j ≤ q → q < 6 → mTakL r a k j S 2 q = S r (a + 2 + q) ∧ mTakL r a k j S 3 q = S r (a + 8 + q))
  | 0, j, S, hj => ⟨fun _ _ _ => rfl, fun _ _ => ⟨rfl, rfl⟩, fun q h1 h2 => absurd h1 (by omega)⟩
  | k + 1, j, S, hj => by
    unfold mTakL
    obtain ⟨i1, i3, i4⟩ := takL h2 h3 k (j + 1) (mTak2 r a j (mTak1 r a j S)) (by omega)
    rw [(tak_s h2).1, (tak_s h2).2] at i3
    rw [tak_x (x := r) h2 h3] at i4
    refine ⟨fun x hx hy => (i1 x hx hy).trans (tak_x hx hy), fun q hq => ⟨(i3 q (by omega)).1.trans (pk_un (by omega)), (i3 q (by omega)).2.trans (pk_un (by omega))⟩, fun q h1 h2 => ?_⟩
    by_cases hq : q = j
    · subst hq
      exact ⟨(i3 q (by omega)).1.trans pk_us, (i3 q (by omega)).2.trans pk_us⟩
    · exact i4 q (by omega) h2
theorem tak_spec {r a : Nat} (h2 : r ≠ 2) (h3 : r ≠ 3) (h30 : r ≠ 30) (S : sT) : (∀ x, x ≠ 2 → x ≠ 3 → x ≠ 30 → mTak r a S x = S x) ∧ (∀ i, i ≠ 1 → i ≠ 2 → mTak r a S 30 i = S 30 i) ∧ mTak r a S 30 1 = S r a ∧ mTak r a S 30 2 = S r (a + 1) ∧ (∀ q, q < 6 → mTak r a S 2 q = S r (a + 2 + q) ∧ mTak r a S 3 q = S r (a + 8 + q)) := by
  have ex : ∀ x, x ≠ 30 → mTakB r a (mTakA r a S) x = S x := fun x hx => (va_up_ne _ _ hx).trans (va_up_ne _ _ hx)
  have e30 : mTakB r a (mTakA r a S) 30 = upd (upd (S 30) 1 (S r a)) 2 (S r (a + 1)) := by
    show upd (upd (S 30) 1 (S r a)) 2 (va_up S 30 _ r (a + 1)) = _
    rw [va_up_ne _ _ h30]
  unfold mTak
  obtain ⟨i1, i3, i4⟩ := takL (r := r) (a := a) h2 h3 6 0 (mTakB r a (mTakA r a S)) (by omega)
  rw [ex r h30] at i4
  refine ⟨fun x hx hy hz => (i1 x hx hy).trans (ex x hz), fun i h1 h2 => ?_, ?_, ?_, fun q hq => i4 q (by omega) hq⟩
  · rw [i1 30 (by decide) (by decide), e30, pk_un h2, pk_un h1]
  · rw [i1 30 (by decide) (by decide), e30, pk_un (by decide), pk_us]
  · rw [i1 30 (by decide) (by decide), e30, pk_us]
theorem back6 {e : Nat} (he : e ≤ 7) : ∀ (k j : Nat) (T : sT), j + k = 6 → T 10 4 = nI (e + 1) → (∀ x, x ≠ 1 → x ≠ 2 → trBack6 k j T x = T x) ∧ (∀ q, q < j → trBack6 k j T 1 q = T 1 q ∧ trBack6 k j T 2 q = T 2 q) ∧ (∀ q, j ≤ q → q < 6 → trBack6 k j T 1 q = T 9 (14 * e + q) ∧ trBack6 k j T 2 q = T 9 (14 * e + 6 + q))
  | 0, j, T, hj, _ => ⟨fun _ _ _ => rfl, fun _ _ => ⟨rfl, rfl⟩, fun q h1 h2 => absurd h1 (by omega)⟩
  | k + 1, j, T, hj, hT => by
    have e1 : pLast T (nI j) = T 9 (14 * e + j) := pLast_eq hT he rfl (by omega)
    have e2 : pLast (sA T 1 (upd (T 1) j (T 9 (14 * e + j)))) (6 + nI j) = T 9 (14 * e + (6 + j)) := pLast_eq (T := sA T 1 (upd (T 1) j (T 9 (14 * e + j)))) hT he (by rw [show (6 : Int32) = nI 6 from rfl, nI_add]) (by omega)
    unfold trBack6
    rw [e1, e2]
    obtain ⟨i1, i3, i4⟩ := back6 he k (j + 1) (sA (sA T 1 (upd (T 1) j (T 9 (14 * e + j)))) 2 (upd (T 2) j (T 9 (14 * e + (6 + j))))) (by omega) hT
    refine ⟨fun x hx hy => (i1 x hx hy).trans ((va_up_ne _ _ hy).trans (va_up_ne _ _ hx)), fun q hq => ⟨(i3 q (by omega)).1.trans (pk_un (by omega)), (i3 q (by omega)).2.trans (pk_un (by omega))⟩, fun q h1 h2 => ?_⟩
    by_cases hq : q = j
    · subst hq
      refine ⟨(i3 q (by omega)).1.trans pk_us, (i3 q (by omega)).2.trans ?_⟩
      show upd (T 2) q (T 9 (14 * e + (6 + q))) q = _
      rw [pk_us, show 14 * e + 6 + q = 14 * e + (6 + q) by omega]
    · exact i4 q (by omega) h2
