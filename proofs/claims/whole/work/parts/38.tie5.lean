/-! TIES: lie, give, day, undo; copies; years. -/
theorem tRel_congrT {T T' S : sT} {M N u : Nat} (h : tRel T S M N u) (h0 : ∀ r, r < 9 → ∀ j, j < 6 → T' r j = T r j) (h9 : ∀ i, i < 112 → T' 9 i = T 9 i) (h10 : ∀ i, i < 5 → T' 10 i = T 10 i) : tRel T' S M N u := by
  obtain ⟨⟨bM, bN, bu⟩, ⟨n1, n2, n3, n4, n5, n6, n7, n8⟩, ho, hn, hp, hg, hl, hh⟩ := h
  refine ⟨⟨bM, bN, bu⟩, ⟨by rw [h10 0 (by omega), n1], n2, by rw [h10 1 (by omega), n3], by rw [h10 2 (by omega), n4], by rw [h10 3 (by omega), n5], n6, by rw [h10 4 (by omega), n7], n8⟩, fun j hj => ?_, fun j hj => ?_, fun e he => ?_, hg, hl, hh⟩
  · rw [h0 0 (by omega) j (by omega), h0 1 (by omega) j (by omega), h0 2 (by omega) j (by omega), h0 3 (by omega) j (by omega), h0 4 (by omega) j (by omega)]
    exact ho j hj
  · rw [h0 5 (by omega) j (by omega), h0 6 (by omega) j (by omega), h0 7 (by omega) j (by omega), h0 8 (by omega) j (by omega)]
    exact hn j hj
  · obtain ⟨p1, p2, p3, p4⟩ := hp e he
    refine ⟨by rw [h9 _ (by omega), p1], by rw [h9 _ (by omega), p2], fun j hj => ?_, p4⟩
    rw [h9 _ (by omega), h9 _ (by omega)]
    exact p3 j hj
theorem tRel_congrS {T S S' : sT} {M N u : Nat} (h : tRel T S M N u) (h0 : ∀ r, 1 ≤ r → r < 10 → ∀ j, j < 6 → S' r j = S r j) (h12 : ∀ i, i < 112 → S' 12 i = S 12 i) (h30 : ∀ i, (i < 4 ∨ i = 9) → S' 30 i = S 30 i) : tRel T S' M N u := by
  obtain ⟨⟨bM, bN, bu⟩, ⟨n1, n2, n3, n4, n5, n6, n7, n8⟩, ho, hn, hp, hg, hl, hh⟩ := h
  refine ⟨⟨bM, bN, bu⟩, ⟨n1, by rw [h30 0 (by omega), n2], by rw [h30 1 (by omega), n3], by rw [h30 2 (by omega), n4], n5, by rw [h30 3 (by omega), n6], n7, by rw [h30 9 (by omega), n8]⟩, fun j hj => ?_, fun j hj => ?_, fun e he => ?_, ?_, by rw [h30 2 (by omega)]; exact hl, fun j hj => by rw [h0 5 (by omega) (by omega) j (by omega)]; exact hh j hj⟩
  · rw [h0 1 (by omega) (by omega) j (by omega), h0 2 (by omega) (by omega) j (by omega), h0 3 (by omega) (by omega) j (by omega), h0 4 (by omega) (by omega) j (by omega), h0 5 (by omega) (by omega) j (by omega)]
    exact ho j hj
  · rw [h0 6 (by omega) (by omega) j (by omega), h0 7 (by omega) (by omega) j (by omega), h0 8 (by omega) (by omega) j (by omega), h0 9 (by omega) (by omega) j (by omega)]
    exact hn j hj
  · obtain ⟨p1, p2, p3, p4, p5⟩ := hp e he
    refine ⟨by rw [h12 _ (by omega), p1], by rw [h12 _ (by omega), p2], fun j hj => ?_, ?_, by rw [h12 _ (by omega)]; exact p5⟩
    · rw [h12 _ (by omega), h12 _ (by omega)]
      exact p3 j hj
    · exact pgood_congr (fun j hj => h12 _ (by omega)) (fun j hj => h12 _ (by omega)) p4
  · exact pgood_congr (fun j hj => h0 2 (by omega) (by omega) j (by omega)) (fun j hj => h0 3 (by omega) (by omega) j (by omega)) hg
theorem trCopy_spec {O : sT} : ∀ (k j : Nat) (T : sT), (∀ r, 5 ≤ r → trCopy O k j T r = T r) ∧ (∀ r, r < 5 → (∀ q, (q < j ∨ j + k ≤ q) → trCopy O k j T r q = T r q) ∧ (∀ q, j ≤ q → q < j + k → trCopy O k j T r q = O r q))
  | 0, j, T => ⟨fun _ _ => rfl, fun r _ => ⟨fun _ _ => rfl, fun q h1 h2 => absurd h1 (by omega)⟩⟩
  | k + 1, j, T => by
    unfold trCopy
    have hr5 : ∀ r, 5 ≤ r → (sA (sA (sA (sA (sA T 0 (upd (T 0) j (O 0 j))) 1 (upd (T 1) j (O 1 j))) 2 (upd (T 2) j (O 2 j))) 3 (upd (T 3) j (O 3 j))) 4 (upd (T 4) j (O 4 j))) r = T r := fun r hr =>
      (va_up_ne _ _ (by omega)).trans ((va_up_ne _ _ (by omega)).trans ((va_up_ne _ _ (by omega)).trans ((va_up_ne _ _ (by omega)).trans (va_up_ne _ _ (by omega)))))
    have hr0 : ∀ r, r < 5 → (sA (sA (sA (sA (sA T 0 (upd (T 0) j (O 0 j))) 1 (upd (T 1) j (O 1 j))) 2 (upd (T 2) j (O 2 j))) 3 (upd (T 3) j (O 3 j))) 4 (upd (T 4) j (O 4 j))) r = upd (T r) j (O r j) := by
      intro r hr
      rcases (show r = 0 ∨ r = 1 ∨ r = 2 ∨ r = 3 ∨ r = 4 by omega) with rfl | rfl | rfl | rfl | rfl <;> rfl
    generalize (sA (sA (sA (sA (sA T 0 (upd (T 0) j (O 0 j))) 1 (upd (T 1) j (O 1 j))) 2 (upd (T 2) j (O 2 j))) 3 (upd (T 3) j (O 3 j))) 4 (upd (T 4) j (O 4 j))) = T1 at hr5 hr0 ⊢
    obtain ⟨i1, i2⟩ := trCopy_spec k (j + 1) T1
    refine ⟨fun r hr => (i1 r hr).trans (hr5 r hr), fun r hr => ⟨fun q hq => ?_, fun q h1 h2 => ?_⟩⟩
    · rw [(i2 r hr).1 q (by omega), hr0 r hr, pk_un (by omega)]
    · by_cases c : q = j
      · subst c
        rw [(i2 r hr).1 q (by omega), hr0 r hr, pk_us]
      · exact (i2 r hr).2 q (by omega) (by omega)
theorem nCopy_spec {O : sT} : ∀ (k j : Nat) (T : sT), (∀ r, (r < 5 ∨ 9 ≤ r) → nCopy O k j T r = T r) ∧ (∀ r, 5 ≤ r → r < 9 → (∀ q, (q < j ∨ j + k ≤ q) → nCopy O k j T r q = T r q) ∧ (∀ q, j ≤ q → q < j + k → nCopy O k j T r q = O r q))
  | 0, j, T => ⟨fun _ _ => rfl, fun r _ _ => ⟨fun _ _ => rfl, fun q h1 h2 => absurd h1 (by omega)⟩⟩
  | k + 1, j, T => by
    unfold nCopy
    have hr5 : ∀ r, (r < 5 ∨ 9 ≤ r) → (sA (sA (sA (sA T 5 (upd (T 5) j (O 5 j))) 6 (upd (T 6) j (O 6 j))) 7 (upd (T 7) j (O 7 j))) 8 (upd (T 8) j (O 8 j))) r = T r := fun r hr =>
      (va_up_ne _ _ (by omega)).trans ((va_up_ne _ _ (by omega)).trans ((va_up_ne _ _ (by omega)).trans (va_up_ne _ _ (by omega))))
    have hr0 : ∀ r, 5 ≤ r → r < 9 → (sA (sA (sA (sA T 5 (upd (T 5) j (O 5 j))) 6 (upd (T 6) j (O 6 j))) 7 (upd (T 7) j (O 7 j))) 8 (upd (T 8) j (O 8 j))) r = upd (T r) j (O r j) := by
      intro r hr hr2
      rcases (show r = 5 ∨ r = 6 ∨ r = 7 ∨ r = 8 by omega) with rfl | rfl | rfl | rfl <;> rfl
    generalize (sA (sA (sA (sA T 5 (upd (T 5) j (O 5 j))) 6 (upd (T 6) j (O 6 j))) 7 (upd (T 7) j (O 7 j))) 8 (upd (T 8) j (O 8 j))) = T1 at hr5 hr0 ⊢
    obtain ⟨i1, i2⟩ := nCopy_spec k (j + 1) T1
    refine ⟨fun r hr => (i1 r hr).trans (hr5 r hr), fun r hr hr2 => ⟨fun q hq => ?_, fun q h1 h2 => ?_⟩⟩
    · rw [(i2 r hr hr2).1 q (by omega), hr0 r hr hr2, pk_un (by omega)]
    · by_cases c : q = j
      · subst c
        rw [(i2 r hr hr2).1 q (by omega), hr0 r hr hr2, pk_us]
      · exact (i2 r hr hr2).2 q (by omega) (by omega)
theorem pCopy_spec {O : sT} : ∀ (k j : Nat) (T : sT), (∀ r, r ≠ 9 → pCopy O k j T r = T r) ∧ (∀ q, (q < j ∨ j + k ≤ q) → pCopy O k j T 9 q = T 9 q) ∧ (∀ q, j ≤ q → q < j + k → pCopy O k j T 9 q = O 9 q)
  | 0, j, T => ⟨fun _ _ => rfl, fun _ _ => rfl, fun q h1 h2 => absurd h1 (by omega)⟩
  | k + 1, j, T => by
    unfold pCopy
    obtain ⟨i1, i2, i3⟩ := pCopy_spec (O := O) k (j + 1) (sA T 9 (upd (T 9) j (O 9 j)))
    have t9 : sA T 9 (upd (T 9) j (O 9 j)) 9 = upd (T 9) j (O 9 j) := va_up_self _ _ _
    rw [t9] at i2
    refine ⟨fun r hr => (i1 r hr).trans (va_up_ne _ _ hr), fun q hq => ?_, fun q h1 h2 => ?_⟩
    · rw [i2 q (by omega), pk_un (by omega)]
    · by_cases c : q = j
      · subst c
        rw [i2 q (by omega), pk_us]
      · exact i3 q (by omega) (by omega)
theorem copy_spec (O T : sT) : (∀ r, r < 9 → ∀ j, j < 6 → trCopyF O T r j = O r j) ∧ (∀ i, i < 112 → trCopyF O T 9 i = O 9 i) ∧ (∀ i, i < 5 → trCopyF O T 10 i = O 10 i) := by
  unfold trCopyF
  obtain ⟨a1, a2⟩ := trCopy_spec (O := O) 6 0 T
  generalize trCopy O 6 0 T = A at a1 a2 ⊢
  unfold nCopyF
  obtain ⟨b1, b2⟩ := nCopy_spec (O := O) 6 0 (sS 10 (sS 10 (sS 10 A 0 (O 10 0)) 1 (O 10 1)) 2 (O 10 2))
  have bA : ∀ r, r ≠ 10 → sS 10 (sS 10 (sS 10 A 0 (O 10 0)) 1 (O 10 1)) 2 (O 10 2) r = A r := fun r hr => by rw [sS_r hr, sS_r hr, sS_r hr]
  have b10 : ∀ i, i < 3 → sS 10 (sS 10 (sS 10 A 0 (O 10 0)) 1 (O 10 1)) 2 (O 10 2) 10 i = O 10 i := by
    intro i hi
    rcases (show i = 0 ∨ i = 1 ∨ i = 2 by omega) with rfl | rfl | rfl
    · rw [sS_i (by decide), sS_i (by decide), sS_s]
    · rw [sS_i (by decide), sS_s]
    · rw [sS_s]
  generalize sS 10 (sS 10 (sS 10 A 0 (O 10 0)) 1 (O 10 1)) 2 (O 10 2) = A2 at b1 b2 bA b10 ⊢
  generalize nCopy O 6 0 A2 = B at b1 b2 ⊢
  unfold pCopyF
  obtain ⟨c1, c2, c3⟩ := pCopy_spec (O := O) 112 0 (sS 10 B 3 (O 10 3))
  generalize pCopy O 112 0 (sS 10 B 3 (O 10 3)) = D at c1 c2 c3 ⊢
  refine ⟨fun r hr j hj => ?_, fun i hi => ?_, fun i hi => ?_⟩
  · rw [sS_r (by omega), c1 r (by omega), sS_r (by omega)]
    by_cases c : r < 5
    · rw [b1 r (by omega), bA r (by omega), (a2 r c).2 j (by omega) (by omega)]
    · rw [(b2 r (by omega) hr).2 j (by omega) (by omega)]
  · rw [sS_r (by omega), c3 i (by omega) (by omega)]
  · by_cases c : i = 4
    · subst c; rw [sS_s]
    · rw [sS_i c, c1 10 (by decide)]
      by_cases c' : i = 3
      · subst c'; rw [sS_s]
      · rw [sS_i c', b1 10 (by omega), b10 i (by omega)]
theorem copy_rel {O T S : sT} {M N u : Nat} (h : tRel O S M N u) : tRel (trCopyF O T) S M N u := by
  obtain ⟨a, b, c⟩ := copy_spec O T
  exact tRel_congrT h a b c
theorem psum_ge {f : Nat → Int32} : ∀ {M : Nat}, (∀ j, j < M → 0 ≤ (f j).toInt) → 0 ≤ psum f M ∧ ∀ j, j < M → (f j).toInt ≤ psum f M
  | 0, _ => ⟨Int.le_refl _, fun j hj => absurd hj (by omega)⟩
  | M + 1, h => by
    obtain ⟨i0, i1⟩ := psum_ge (f := f) (M := M) (fun j hj => h j (by omega))
    have hM := h M (by omega)
    unfold psum
    refine ⟨by omega, fun j hj => ?_⟩
    by_cases c : j = M
    · subst c; omega
    · have := i1 j (by omega); omega
theorem psum_upd {f : Nat → Int32} {v : Int32} {k : Nat} : ∀ {M : Nat}, k < M → psum (upd f k v) M = psum f M - (f k).toInt + v.toInt
  | 0, h => absurd h (by omega)
  | M + 1, h => by
    unfold psum
    by_cases c : k = M
    · subst c; rw [psum_upd_ge (Nat.le_refl _), pk_us]; omega
    · rw [psum_upd (f := f) (v := v) (M := M) (by omega), pk_un (by omega)]; omega
theorem pie_of {T S : sT} {M N u : Nat} (h : tRel T S M N u) {j : Nat} (hj : j < M) : ∃ x : Nat, x ≤ 180 ∧ S 3 j = nI x := by
  have hg := h.2.2.2.2.2.1
  have h1 := (psum_ge (f := S 3) (fun j hj => (hg.1 j hj).2.2)).2 j hj
  have h2 := hg.2
  have hM := h.1.1
  have := hg.1 j hj
  exact of_bound this.2.2 (by omega) (by omega)
theorem give_rel {T S : sT} {M N u : Nat} (h : tRel T S M N u) {a b y : Nat} (ha : a < M) (hb : b < M) (hab : a ≠ b) (hy : y ≤ 99) (hle : nI y ≤ S 3 a) : tRel (trHandOn T (nI a) (nI b) (nI y)) (mGv2 (mGv1 S (nI a) (nI y)) (nI b) (nI y)) M N u ∧ mSame S (mGv2 (mGv1 S (nI a) (nI y)) (nI b) (nI y)) := by
  obtain ⟨⟨bM, bN, bu⟩, hnum, ho, hn, hp, hg, hl, hh⟩ := id h
  obtain ⟨x, hx, ex⟩ := pie_of h ha
  obtain ⟨z, hz, ez⟩ := pie_of h hb
  rw [ex, nI_leI (by omega) (by omega)] at hle
  unfold trHandOn mGv2 mGv1
  rw [is_eq h, is_eq h, if_neg (is_in bM hnum.2.1 ha), if_neg (is_in bM hnum.2.1 hb), cl_nI (show a < 6 by omega), cl_nI (show b < 6 by omega)]
  have eTa : T 2 a = nI x := by rw [(ho a ha).2.2.1, ex]
  have eTb : T 2 b = nI z := by rw [(ho b hb).2.2.1, ez]
  have s3 : sA S 3 (upd (S 3) a (S 3 a - nI y)) 3 = upd (S 3) a (nI (x - y)) := by
    unfold sA
    rw [va_up_self, ex, pk_sub hle]
  rw [s3, eTa, pk_sub hle, pk_un (fun q => hab q.symm), pk_un (fun q => hab q.symm), eTb, ez, nI_add]
  refine ⟨⟨⟨bM, bN, bu⟩, hnum, fun j hj => ?_, hn, hp, ?_, hl, hh⟩, ⟨rfl, rfl, rfl, rfl, rfl⟩⟩
  · obtain ⟨o1, o2, o3, o4, o5⟩ := ho j hj
    refine ⟨o1, o2, ?_, o4, o5⟩
    show upd (upd (T 2) a (nI (x - y))) b (nI (z + y)) j = upd (upd (S 3) a (nI (x - y))) b (nI (z + y)) j
    unfold upd
    by_cases c : j = b
    · rw [if_pos c, if_pos c]
    · rw [if_neg c, if_neg c]
      by_cases c2 : j = a
      · rw [if_pos c2, if_pos c2]
      · rw [if_neg c2, if_neg c2]; exact o3
  · show pgood M (S 2) (upd (upd (S 3) a (nI (x - y))) b (nI (z + y)))
    refine ⟨fun j hj => ?_, ?_⟩
    · have hj' := hg.1 j hj
      by_cases c : j = b
      · subst c; rw [pk_us, nI_toInt (by omega)]; omega
      · rw [pk_un c]
        by_cases c2 : j = a
        · subst c2; rw [pk_us, nI_toInt (by omega)]; omega
        · rw [pk_un c2]; exact hj'
    · have hs := hg.2
      rw [psum_upd hb, psum_upd ha, pk_un (fun q => hab q.symm), ex, ez, nI_toInt (by omega), nI_toInt (by omega), nI_toInt (by omega), nI_toInt (by omega)]
      omega
section TIE3
variable {C T A R V S : sT} {L Lm : Nat → Int64} {M N u t : Nat}
theorem tie_lie (h : rel (C, L, T, A, R, V) S Lm M N u t) (p s : Int32) : tieO (xLie C L T A R V p s) (mLie S Lm u p s) S := by
  have h1 : tRel T S M N u := h.1
  unfold xLie mLie
  rw [is_eq h1]
  by_cases c1 : mIs S p = 0
  · rw [if_pos c1, if_pos c1]; exact tie_bad h
  rw [if_neg c1, if_neg c1]
  by_cases c2 : iW s 1 4 = 0
  · rw [if_pos c2, if_pos c2]; exact tie_bad h
  rw [if_neg c2, if_neg c2]
  obtain ⟨j, hj, rfl⟩ := is_ok h1.1.1 h1.2.1.2.1 c1
  have k2 := iW_le c2
  have e1 : (1 : Int32).toInt = 1 := by decide
  have e4 : (4 : Int32).toInt = 4 := by decide
  obtain ⟨s', hs, rfl⟩ := of_bound (v := s) (n := 4) (by omega) (by omega) (by omega)
  rw [nI_toInt (by omega)] at k2
  obtain ⟨u', r1, r2, -⟩ := keep_rel h1
  obtain ⟨q1, q2⟩ := lie_rel r1 hj (s := s') (by omega) (by omega)
  generalize trLie (trKeep T) (nI j) (nI s') = T' at q1 ⊢
  generalize mLies (mKeep S u) (nI j) (nI s') = S' at q1 q2 ⊢
  refine tie_T h q1 (r2.tr q2) ?_
  rw [trG_j q1 hj, cl_nI (by have := h1.1.1; omega)]
  exact (q1.2.2.1 j hj).2.1
theorem tie_give (h : rel (C, L, T, A, R, V) S Lm M N u t) (p q m : Int32) : tieO (xGive C L T A R V p q m) (mGive S Lm u p q m) S := by
  have h1 : tRel T S M N u := h.1
  obtain ⟨⟨bM, bN, bu⟩, ⟨n1, n2, n3, n4, n5, n6, n7, n8⟩, ho, hn, hp, hg, hl, hh⟩ := id h1
  unfold xGive mGive
  by_cases c1 : mIs S p = 0
  · rw [if_pos ((x2_iff h1 p q).mpr (Or.inl c1)), if_pos c1]; exact tie_bad h
  by_cases c2 : mIs S q = 0
  · rw [if_pos ((x2_iff h1 p q).mpr (Or.inr (Or.inl c2))), if_neg c1, if_pos c2]; exact tie_bad h
  by_cases c3 : p = q
  · rw [if_pos ((x2_iff h1 p q).mpr (Or.inr (Or.inr c3))), if_neg c1, if_neg c2, if_pos c3]; exact tie_bad h
  rw [if_neg (fun e => by rcases (x2_iff h1 p q).mp e with e | e | e; exact c1 e; exact c2 e; exact c3 e), if_neg c1, if_neg c2, if_neg c3]
  by_cases c4 : iW m 1 99 = 0
  · rw [if_pos c4, if_pos c4]; exact tie_bad h
  rw [if_neg c4, if_neg c4]
  obtain ⟨a, ha, rfl⟩ := is_ok bM n2 c1
  obtain ⟨b, hb, rfl⟩ := is_ok bM n2 c2
  obtain ⟨k, hk, ek⟩ := hh a ha
  have eT : trG 4 T (nI a) = nI k := by rw [trG_j h1 ha, (ho a ha).2.2.2.2, ek]
  have eS : S 5 (nI a).toNatClampNeg = nI k := by rw [cl_nI (by omega), ek]
  have eP : trG 2 T (nI a) = S 3 a := by rw [trG_j h1 ha, (ho a ha).2.2.1]
  rw [eT, eS, eP, cl_nI (show a < 6 by omega)]
  have b6 : b < 6 := by omega
  have hab : a ≠ b := fun e => c3 (by rw [e])
  have k4 := iW_le c4
  have e1 : (1 : Int32).toInt = 1 := by decide
  have e99 : (99 : Int32).toInt = 99 := by decide
  obtain ⟨y, hy, rfl⟩ := of_bound (v := m) (n := 99) (by omega) (by omega) (by omega)
  rcases hb_is k hk b b6 with ⟨z1, z2⟩ | ⟨z1, z2⟩
  · rw [if_pos z1, if_pos ((has_iff _ _).mpr z2)]; exact tie_no h
  · have hz : ¬ mHas (nI k) (nI b) = 0 := fun e => by
      have e' := (has_iff _ _).mp e
      unfold iBit at e'
      rw [z2] at e'
      exact absurd e' (by decide)
    rw [if_neg z1, if_neg hz]
    by_cases c5 : nI y ≤ S 3 a
    · rw [if_pos c5, if_pos c5]
      obtain ⟨u', r1, r2, -, r3⟩ := keep_rel h1
      obtain ⟨q1, q2⟩ := give_rel r1 ha hb hab hy (by rw [r3 a]; exact c5)
      generalize trHandOn (trKeep T) (nI a) (nI b) (nI y) = T' at q1 ⊢
      generalize mGv2 (mGv1 (mKeep S u) (nI a) (nI y)) (nI b) (nI y) = S' at q1 q2 ⊢
      refine tie_T h q1 (r2.tr q2) ?_
      rw [trG_j q1 ha]
      exact (q1.2.2.1 a ha).2.2.1
    · rw [if_neg c5, if_neg c5]; exact tie_no h
theorem tie_day (h : rel (C, L, T, A, R, V) S Lm M N u t) : tieO (xDay C L T A R V) (mDay S Lm u) S := by
  have h1 : tRel T S M N u := h.1
  obtain ⟨u', r1, r2, -⟩ := keep_rel h1
  obtain ⟨q1, q2, -⟩ := pass_rel r1
  unfold xDay mDay
  generalize trPassDay (trKeep T) = T' at q1 ⊢
  generalize mPass (mKeep S u) = S' at q1 q2 ⊢
  exact tie_T h q1 (r2.tr q2) q1.2.1.2.2.1
theorem iMax_nI (e : Nat) (he : e ≤ 7) : iMax 0 (nI (e + 1) - 1) = nI e := by
  rw [nI_pred]
  unfold iMax
  rcases Nat.eq_zero_or_pos e with q | q
  · subst q; rw [if_neg (by decide)]; rfl
  · rw [if_pos (by rw [show (0 : Int32) = nI 0 from rfl, nI_ltI (by omega) (by omega)]; exact q)]
theorem back_rel {e : Nat} (h : tRel T S M N (e + 1)) : tRel (trBack T) (mTak 12 (14 * e) (mDn S)) M N e ∧ mSame S (mTak 12 (14 * e) (mDn S)) := by
  obtain ⟨⟨bM, bN, bu⟩, ⟨n1, n2, n3, n4, n5, n6, n7, n8⟩, ho, hn, hp, hg, hl, hh⟩ := id h
  obtain ⟨i1, i2, i3⟩ := back6 (e := e) (by omega) 6 0 T (by omega) n7
  unfold trBack
  rw [if_neg (by rw [n7]; exact nI_ne0 (by omega) (by omega))]
  generalize trBack6 6 0 T = Z at i1 i2 i3 ⊢
  have z10 : Z 10 = T 10 := i1 10 (by decide) (by decide)
  have z9 : Z 9 = T 9 := i1 9 (by decide) (by decide)
  have eL : trBackL Z = sS 10 Z 2 (T 9 (14 * e + 12)) := by
    unfold trBackL
    rw [pLast_eq (T := Z) (e := e) (q := 12) (f := 12) (by rw [z10, n7]) (by omega) rfl (by omega), z9]
  have eD : trBackD (sS 10 Z 2 (T 9 (14 * e + 12))) = sS 10 (sS 10 Z 2 (T 9 (14 * e + 12))) 1 (T 9 (14 * e + 13)) := by
    unfold trBackD
    rw [pLast_eq (T := sS 10 Z 2 (T 9 (14 * e + 12))) (e := e) (q := 13) (f := 13) (by rw [sS_i (by decide), z10, n7]) (by omega) rfl (by omega), sS_r (by decide), z9]
  rw [eL, eD]
  unfold pDropLast
  rw [sS_i (show (4 : Nat) ≠ 1 by decide), sS_i (show (4 : Nat) ≠ 2 by decide), z10, n7, iMax_nI e (by omega)]
  obtain ⟨y1, y2, y3, y4, y5⟩ := tak_spec (r := 12) (a := 14 * e) (by decide) (by decide) (by decide) (mDn S)
  have d12 : mDn S 12 = S 12 := by unfold mDn; exact sS_r (by decide)
  have dr : ∀ r, r ≠ 30 → mDn S r = S r := fun r hr => by unfold mDn; exact sS_r hr
  have d30 : ∀ i, i ≠ 9 → mDn S 30 i = S 30 i := fun i hi => by unfold mDn; exact sS_i hi
  have d9 : mDn S 30 9 = nI e := by unfold mDn; rw [sS_s, n8]; exact nI_pred e
  rw [d12] at y3 y4 y5
  generalize mTak 12 (14 * e) (mDn S) = Y at y1 y2 y3 y4 y5 ⊢
  obtain ⟨p1, p2, p3, p4, p5⟩ := hp e (by omega)
  have tz : ∀ r, r ≠ 10 → sS 10 (sS 10 (sS 10 Z 2 (T 9 (14 * e + 12))) 1 (T 9 (14 * e + 13))) 4 (nI e) r = Z r := fun r hr => by rw [sS_r hr, sS_r hr, sS_r hr]
  have t0 : sS 10 (sS 10 (sS 10 Z 2 (T 9 (14 * e + 12))) 1 (T 9 (14 * e + 13))) 4 (nI e) 10 0 = T 10 0 := by rw [sS_i (by decide), sS_i (by decide), sS_i (by decide), z10]
  have t1 : sS 10 (sS 10 (sS 10 Z 2 (T 9 (14 * e + 12))) 1 (T 9 (14 * e + 13))) 4 (nI e) 10 1 = T 9 (14 * e + 13) := by rw [sS_i (by decide), sS_s]
  have t2 : sS 10 (sS 10 (sS 10 Z 2 (T 9 (14 * e + 12))) 1 (T 9 (14 * e + 13))) 4 (nI e) 10 2 = T 9 (14 * e + 12) := by rw [sS_i (by decide), sS_i (by decide), sS_s]
  have t3 : sS 10 (sS 10 (sS 10 Z 2 (T 9 (14 * e + 12))) 1 (T 9 (14 * e + 13))) 4 (nI e) 10 3 = T 10 3 := by rw [sS_i (by decide), sS_i (by decide), sS_i (by decide), z10]
  have t4 : sS 10 (sS 10 (sS 10 Z 2 (T 9 (14 * e + 12))) 1 (T 9 (14 * e + 13))) 4 (nI e) 10 4 = nI e := sS_s _ _ _ _
  generalize sS 10 (sS 10 (sS 10 Z 2 (T 9 (14 * e + 12))) 1 (T 9 (14 * e + 13))) 4 (nI e) = Q at tz t0 t1 t2 t3 t4 ⊢
  have yr : ∀ r, r ≠ 2 → r ≠ 3 → r ≠ 30 → Y r = S r := fun r h1 h2 h3 => (y1 r h1 h2 h3).trans (dr r h3)
  refine ⟨⟨⟨bM, bN, by omega⟩, ⟨by rw [t0, n1], by rw [y2 0 (by decide) (by decide), d30 0 (by decide), n2], by rw [t1, y3, p2], by rw [t2, y4, p1], by rw [t3, n5], by rw [y2 3 (by decide) (by decide), d30 3 (by decide), n6], t4, by rw [y2 9 (by decide) (by decide), d9]⟩, fun j hj => ?_, fun j hj => ?_, fun e' he' => ?_, ?_, by rw [y4]; exact p5, fun j hj => by rw [yr 5 (by decide) (by decide) (by decide)]; exact hh j hj⟩, ⟨yr 0 (by decide) (by decide) (by decide), yr 10 (by decide) (by decide) (by decide), by rw [y2 4 (by decide) (by decide), d30 4 (by decide)], yr 18 (by decide) (by decide) (by decide), yr 19 (by decide) (by decide) (by decide)⟩⟩
  · obtain ⟨o1, o2, o3, o4, o5⟩ := ho j hj
    rw [tz 0 (by decide), tz 1 (by decide), tz 2 (by decide), tz 3 (by decide), tz 4 (by decide), i1 0 (by decide) (by decide), i1 3 (by decide) (by decide), i1 4 (by decide) (by decide), (i3 j (by omega) (by omega)).1, (i3 j (by omega) (by omega)).2, yr 1 (by decide) (by decide) (by decide), yr 4 (by decide) (by decide) (by decide), yr 5 (by decide) (by decide) (by decide), (y5 j (by omega)).1, (y5 j (by omega)).2]
    exact ⟨o1, (p3 j hj).1, (p3 j hj).2, o4, o5⟩
  · rw [tz 5 (by decide), tz 6 (by decide), tz 7 (by decide), tz 8 (by decide), i1 5 (by decide) (by decide), i1 6 (by decide) (by decide), i1 7 (by decide) (by decide), i1 8 (by decide) (by decide), yr 6 (by decide) (by decide) (by decide), yr 7 (by decide) (by decide) (by decide), yr 8 (by decide) (by decide) (by decide), yr 9 (by decide) (by decide) (by decide)]
    exact hn j hj
  · unfold pEq
    rw [tz 9 (by decide), z9, yr 12 (by decide) (by decide) (by decide)]
    exact hp e' (by omega)
  · exact pgood_congr (fun j hj => (y5 j (by omega)).1) (fun j hj => (y5 j (by omega)).2) p4
theorem tie_undo (h : rel (C, L, T, A, R, V) S Lm M N u t) : tieO (xUndo C L T A R V) (mUndo S Lm u) S := by
  have h1 : tRel T S M N u := h.1
  have e : T 10 4 = S 30 9 := h1.2.1.2.2.2.2.2.2.1.trans h1.2.1.2.2.2.2.2.2.2.symm
  unfold xUndo mUndo
  rw [e]
  by_cases c : S 30 9 = 0
  · rw [if_pos c, if_pos c]; exact tie_no h
  · rw [if_neg c, if_neg c]
    obtain ⟨e', rfl⟩ : ∃ e', u = e' + 1 := by
      rcases Nat.eq_zero_or_pos u with q | q
      · subst q; exact absurd h1.2.1.2.2.2.2.2.2.2 c
      · exact ⟨u - 1, by omega⟩
    obtain ⟨q1, q2⟩ := back_rel h1
    rw [show e' + 1 - 1 = e' from rfl]
    generalize trBack T = T' at q1 ⊢
    generalize mTak 12 (14 * e') (mDn S) = S' at q1 q2 ⊢
    exact tie_T h q1 q2 q1.2.1.2.2.1
end TIE3
