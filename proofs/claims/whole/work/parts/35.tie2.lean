/-! TIES: what is alike stays alike; the small calls. -/
def mSame (S S' : sT) : Prop := S' 0 = S 0 ∧ S' 10 = S 10 ∧ S' 30 4 = S 30 4 ∧ S' 18 = S 18 ∧ S' 19 = S 19
theorem mSame.rf (S : sT) : mSame S S := ⟨rfl, rfl, rfl, rfl, rfl⟩
theorem mSame.tr {S S' S'' : sT} (a : mSame S S') (b : mSame S' S'') : mSame S S'' := ⟨b.1.trans a.1, b.2.1.trans a.2.1, b.2.2.1.trans a.2.2.1, b.2.2.2.1.trans a.2.2.2.1, b.2.2.2.2.trans a.2.2.2.2⟩
theorem tie_T {C T A R V S T' A' V' S' : sT} {L Lm : Nat → Int64} {M N u t M' N' u' : Nat} {v w : Int32} (h : rel (C, L, T, A, R, V) S Lm M N u t) (hT : tRel T' S' M' N' u') (hs : mSame S S') (e : v = w) : tieO (v, C, L, T', A', R, V') (w, S', Lm) S := by
  obtain ⟨h1, ⟨a1, a2, a3, a4⟩, h3, h4, h5, h6⟩ := h
  obtain ⟨s0, s10, s4, s18, s19⟩ := hs
  refine ⟨e, ⟨M', N', u', t, hT, ⟨a1, a2, ?_, ?_⟩, h3, ?_, ?_, ?_⟩, s18, s19⟩
  · show S' 30 4 = nI t
    rw [s4]; exact a3
  · intro j hj
    show R 0 j = S' 10 j ∧ 0 ≤ (S' 10 j).toInt
    rw [s10]; exact a4 j hj
  · show C 10 0 = S' 0 0
    rw [s0]; exact h4
  · show C 10 1 = S' 0 1
    rw [s0]; exact h5
  · show C 10 2 = S' 0 2
    rw [s0]; exact h6
theorem psum_congr {f g : Nat → Int32} : ∀ {M : Nat}, (∀ j, j < M → f j = g j) → psum f M = psum g M
  | 0, _ => rfl
  | M + 1, h => by
    unfold psum
    rw [psum_congr (fun j hj => h j (by omega)), h M (by omega)]
theorem psum_upd_ge {f : Nat → Int32} {v : Int32} {M k : Nat} (h : M ≤ k) : psum (upd f k v) M = psum f M := psum_congr (fun j hj => pk_un (by omega))
theorem pgood_congr {M : Nat} {f f' g g' : Nat → Int32} (hf : ∀ j, j < M → f' j = f j) (hg : ∀ j, j < M → g' j = g j) (h : pgood M f g) : pgood M f' g' :=
  ⟨fun j hj => by rw [hf j hj, hg j hj]; exact h.1 j hj, by rw [psum_congr hg]; exact h.2⟩
theorem lgood_of {x : Int32} (h : x.toNatClampNeg < 64 ∧ x = nI x.toNatClampNeg) : lgood x := ⟨x.toNatClampNeg, h.1, h.2⟩
theorem x2_iff {T S : sT} {M N u : Nat} (h : tRel T S M N u) (p q : Int32) : x2 T p q = 0 ↔ (mIs S p = 0 ∨ mIs S q = 0 ∨ p = q) := by
  unfold x2
  rw [is_eq h, is_eq h]
  by_cases c1 : mIs S p = 0
  · rw [if_pos c1]; exact ⟨fun _ => Or.inl c1, fun _ => rfl⟩
  · rw [if_neg c1]
    by_cases c2 : mIs S q = 0
    · rw [if_pos c2]; exact ⟨fun _ => Or.inr (Or.inl c2), fun _ => rfl⟩
    · rw [if_neg c2]
      by_cases c3 : p = q
      · rw [if_pos c3]; exact ⟨fun _ => Or.inr (Or.inr c3), fun _ => rfl⟩
      · rw [if_neg c3]
        exact ⟨fun e => absurd e (by decide), fun e => by rcases e with e | e | e; exact absurd e c1; exact absurd e c2; exact absurd e c3⟩
theorem hb_is : ∀ k, k < 64 → ∀ b, b < 6 → (nI k &&& ((1 : Int32) <<< (nI b &&& 31)) = 0 ∧ (nI k >>> (nI b &&& 31)) &&& 1 = 0) ∨ (¬ nI k &&& ((1 : Int32) <<< (nI b &&& 31)) = 0 ∧ (nI k >>> (nI b &&& 31)) &&& 1 = 1) := by decide +kernel
theorem hb_1 : ∀ k, k < 64 → ∀ b, b < 6 → nI k ||| ((1 : Int32) <<< (nI b &&& 31)) = (nI k &&& (((1 : Int32) <<< (nI b &&& 31)) ^^^ (-1 : Int32))) ||| ((1 : Int32) <<< (nI b &&& 31)) := by decide +kernel
theorem hb_0 : ∀ k, k < 64 → ∀ b, b < 6 → nI k &&& (((1 : Int32) <<< (nI b &&& 31)) ^^^ (-1 : Int32)) = (nI k &&& (((1 : Int32) <<< (nI b &&& 31)) ^^^ (-1 : Int32))) ||| ((0 : Int32) <<< (nI b &&& 31)) := by decide +kernel
theorem hb_g1 : ∀ k, k < 64 → ∀ b, b < 6 → ((nI k &&& (((1 : Int32) <<< (nI b &&& 31)) ^^^ (-1 : Int32))) ||| ((1 : Int32) <<< (nI b &&& 31))).toNatClampNeg < 64 ∧ ((nI k &&& (((1 : Int32) <<< (nI b &&& 31)) ^^^ (-1 : Int32))) ||| ((1 : Int32) <<< (nI b &&& 31))) = nI ((nI k &&& (((1 : Int32) <<< (nI b &&& 31)) ^^^ (-1 : Int32))) ||| ((1 : Int32) <<< (nI b &&& 31))).toNatClampNeg := by decide +kernel
theorem hb_g0 : ∀ k, k < 64 → ∀ b, b < 6 → ((nI k &&& (((1 : Int32) <<< (nI b &&& 31)) ^^^ (-1 : Int32))) ||| ((0 : Int32) <<< (nI b &&& 31))).toNatClampNeg < 64 ∧ ((nI k &&& (((1 : Int32) <<< (nI b &&& 31)) ^^^ (-1 : Int32))) ||| ((0 : Int32) <<< (nI b &&& 31))) = nI ((nI k &&& (((1 : Int32) <<< (nI b &&& 31)) ^^^ (-1 : Int32))) ||| ((0 : Int32) <<< (nI b &&& 31))).toNatClampNeg := by decide +kernel
theorem hb_or : ∀ k, k < 64 → ∀ b, b < 6 → (nI k ||| ((1 : Int32) <<< (nI b &&& 31))).toNatClampNeg < 64 ∧ (nI k ||| ((1 : Int32) <<< (nI b &&& 31))) = nI (nI k ||| ((1 : Int32) <<< (nI b &&& 31))).toNatClampNeg := by decide +kernel
theorem hands_rel {T S : sT} {M N u : Nat} (h1 : tRel T S M N u) {a : Nat} (ha : a < M) {b b' : Int32} (e : b = b') (hb : lgood b') : tRel (trHands (sS 10 T 4 0) (nI a) b) (sS 30 (sA S 5 (upd (S 5) (nI a).toNatClampNeg b')) 9 0) M N 0 := by
  subst e
  obtain ⟨⟨bM, bN, bu⟩, ⟨n1, n2, n3, n4, n5, n6, n7, n8⟩, ho, hn, hp, hg, hl, hh⟩ := id h1
  have hne : ¬ trIs (sS 10 T 4 0) (nI a) = 0 := by
    show ¬ trIs T (nI a) = 0
    rw [is_eq h1]; exact is_in bM n2 ha
  unfold trHands
  rw [if_neg hne, cl_nI (by omega)]
  refine ⟨⟨bM, bN, by omega⟩, ⟨n1, n2, n3, n4, n5, n6, rfl, rfl⟩, fun j hj => ?_, hn, fun e he => absurd he (by omega), hg, hl, fun j hj => ?_⟩
  · obtain ⟨o1, o2, o3, o4, o5⟩ := ho j hj
    refine ⟨o1, o2, o3, o4, ?_⟩
    show upd (T 4) a b j = upd (S 5) a b j
    unfold upd
    by_cases q : j = a
    · rw [if_pos q, if_pos q]
    · rw [if_neg q, if_neg q]; exact o5
  · show lgood (upd (S 5) a b j)
    by_cases q : j = a
    · subst q; rw [pk_us]; exact hb
    · rw [pk_un q]; exact hh j hj
theorem lpSum_congr {f g : Nat → Int32} : ∀ (k i : Nat) (s : Int32), (∀ j, i ≤ j → j < i + k → f j = g j) → lpSum f k i s = lpSum g k i s
  | 0, _, _, _ => rfl
  | k + 1, i, s, h => by
    unfold lpSum
    rw [h i (by omega) (by omega)]
    exact lpSum_congr k (i + 1) _ (fun j h1 h2 => h j (by omega) (by omega))
theorem bits_eq : ∀ k, k < 64 → iBits (nI k) = mBits (nI k) := by decide +kernel
theorem has_iff (b : Int32) (j : Nat) : mHas b (nI j) = 0 ↔ iBit b j = 0 := by
  unfold mHas iBit
  obtain ⟨k, hk, e⟩ := pk_andE (b >>> (nI j &&& 31)) (m := 1) 1 (by decide)
  rw [e]
  rcases (show k = 0 ∨ k = 1 by omega) with rfl | rfl <;> decide
theorem ibit01 (b : Int32) (j : Nat) : iBit b j = 0 ∨ iBit b j = 1 := by
  unfold iBit
  obtain ⟨k, hk, e⟩ := pk_andE (b >>> (nI j &&& 31)) (m := 1) 1 (by decide)
  rw [e]
  rcases (show k = 0 ∨ k = 1 by omega) with rfl | rfl
  · exact Or.inl rfl
  · exact Or.inr rfl
section TIE2
variable {C T A R V S : sT} {L Lm : Nat → Int64} {M N u t : Nat}
theorem tie_one (h : rel (C, L, T, A, R, V) S Lm M N u t) (k h' n' p' : Int32) : tieO (xOne C L T A R V k h' n' p') (mOne S Lm k h' n' p') S := by
  unfold xOne mOne
  by_cases c1 : iW k 0 5 = 0
  · rw [if_pos c1, if_pos c1]; exact tie_bad h
  rw [if_neg c1, if_neg c1]
  by_cases c2 : iW h' 0 12 = 0
  · rw [if_pos c2, if_pos c2]; exact tie_bad h
  rw [if_neg c2, if_neg c2]
  by_cases c3 : iW n' 0 30 = 0
  · rw [if_pos c3, if_pos c3]; exact tie_bad h
  rw [if_neg c3, if_neg c3]
  by_cases c4 : iW p' 0 20 = 0
  · rw [if_pos c4, if_pos c4]; exact tie_bad h
  rw [if_neg c4, if_neg c4]
  have h1 : tRel T S M N u := h.1
  obtain ⟨⟨bM, bN, bu⟩, ⟨n1, n2, n3, n4, n5, n6, n7, n8⟩, ho, hn, hp, hg, hl, hh⟩ := id h1
  have e6 : (6 : Int32).toInt = 6 := by decide
  by_cases c5 : M = 6
  · subst c5
    rw [if_neg (by rw [n1]; decide), if_pos (show S 30 0 = 6 from n2)]
    exact tie_ful h
  · rw [if_pos (by rw [n1, fa_lt, nI_toInt (by omega)]; omega), if_neg (by rw [n2, fa_eq, nI_toInt (by omega)]; omega)]
    have ec : (nI M).toNatClampNeg = M := nI_clamp (by omega)
    have k2 := iW_le c2
    have k3 := iW_le c3
    have e0 : (0 : Int32).toInt = 0 := by decide
    have e12 : (12 : Int32).toInt = 12 := by decide
    have e30 : (30 : Int32).toInt = 30 := by decide
    refine tie_T (M' := M + 1) (N' := N) (u' := 0) h ?_ ⟨rfl, rfl, rfl, rfl, rfl⟩ (by rw [n1, n2, nI_1, nI_pred])
    refine ⟨⟨by omega, bN, by omega⟩, ⟨?_, ?_, n3, n4, n5, n6, rfl, rfl⟩, fun j hj => ?_, hn, fun e he => absurd he (by omega), ?_, hl, fun j hj => ?_⟩
    · show T 10 0 + 1 = nI (M + 1)
      rw [n1]; exact nI_1 M
    · show S 30 0 + 1 = nI (M + 1)
      rw [n2]; exact nI_1 M
    · show upd (T 0) (T 10 0).toNatClampNeg k j = upd (S 1) (S 30 0).toNatClampNeg k j ∧ upd (T 1) (T 10 0).toNatClampNeg h' j = upd (S 2) (S 30 0).toNatClampNeg h' j ∧ upd (T 2) (T 10 0).toNatClampNeg n' j = upd (S 3) (S 30 0).toNatClampNeg n' j ∧ upd (T 3) (T 10 0).toNatClampNeg p' j = upd (S 4) (S 30 0).toNatClampNeg p' j ∧ upd (T 4) (T 10 0).toNatClampNeg 0 j = upd (S 5) (S 30 0).toNatClampNeg 0 j
      rw [n1, n2, ec]
      by_cases q : j = M
      · subst q; simp only [pk_us, and_self]
      · simp only [pk_un q]; exact ho j (by omega)
    · show pgood (M + 1) (upd (S 2) (S 30 0).toNatClampNeg h') (upd (S 3) (S 30 0).toNatClampNeg n')
      rw [n2, ec]
      refine ⟨fun j hj => ?_, ?_⟩
      · by_cases q : j = M
        · subst q; rw [pk_us, pk_us]; omega
        · rw [pk_un q, pk_un q]; exact hg.1 j (by omega)
      · unfold psum
        rw [psum_upd_ge (Nat.le_refl _), pk_us]
        have := hg.2
        omega
    · show lgood (upd (S 5) (S 30 0).toNatClampNeg 0 j)
      rw [n2, ec]
      by_cases q : j = M
      · subst q; rw [pk_us]; exact lgood0
      · rw [pk_un q]; exact hh j (by omega)
theorem tie_hands (h : rel (C, L, T, A, R, V) S Lm M N u t) (p q i : Int32) : tieO (xHands C L T A R V p q i) (mHands S Lm p q i) S := by
  have h1 : tRel T S M N u := h.1
  obtain ⟨⟨bM, bN, bu⟩, ⟨n1, n2, n3, n4, n5, n6, n7, n8⟩, ho, hn, hp, hg, hl, hh⟩ := id h1
  unfold xHands mHands
  by_cases c1 : mIs S p = 0
  · rw [if_pos ((x2_iff h1 p q).mpr (Or.inl c1)), if_pos c1]; exact tie_bad h
  by_cases c2 : mIs S q = 0
  · rw [if_pos ((x2_iff h1 p q).mpr (Or.inr (Or.inl c2))), if_neg c1, if_pos c2]; exact tie_bad h
  by_cases c3 : p = q
  · rw [if_pos ((x2_iff h1 p q).mpr (Or.inr (Or.inr c3))), if_neg c1, if_neg c2, if_pos c3]; exact tie_bad h
  rw [if_neg (fun e => by rcases (x2_iff h1 p q).mp e with e | e | e; exact c1 e; exact c2 e; exact c3 e), if_neg c1, if_neg c2, if_neg c3]
  by_cases c4 : iW i 0 1 = 0
  · rw [if_pos c4, if_pos c4]; exact tie_bad h
  rw [if_neg c4, if_neg c4]
  obtain ⟨a, ha, rfl⟩ := is_ok bM n2 c1
  obtain ⟨b, hb, rfl⟩ := is_ok bM n2 c2
  obtain ⟨k, hk, ek⟩ := hh a ha
  have eT : trG 4 T (nI a) = nI k := by rw [trG_j h1 ha, (ho a ha).2.2.2.2, ek]
  have eS : S 5 (nI a).toNatClampNeg = nI k := by rw [cl_nI (by omega), ek]
  rw [eT, eS]
  have b6 : b < 6 := by omega
  obtain ⟨c, hc, rfl⟩ := iW01 c4
  rcases (show c = 0 ∨ c = 1 by omega) with rfl | rfl
  · rw [if_neg (show ¬ nI 0 = 1 by decide)]
    rcases hb_is k hk b b6 with ⟨z1, z2⟩ | ⟨z1, z2⟩
    · rw [if_pos z1]
      exact tie_T h (hands_rel h1 ha (hb_0 k hk b b6) (lgood_of (hb_g0 k hk b b6))) ⟨rfl, rfl, rfl, rfl, rfl⟩ z2.symm
    · rw [if_neg z1]
      exact tie_T h (hands_rel h1 ha (hb_0 k hk b b6) (lgood_of (hb_g0 k hk b b6))) ⟨rfl, rfl, rfl, rfl, rfl⟩ z2.symm
  · rw [if_pos (show nI 1 = 1 by decide)]
    rcases hb_is k hk b b6 with ⟨z1, z2⟩ | ⟨z1, z2⟩
    · rw [if_pos z1]
      exact tie_T h (hands_rel h1 ha (hb_1 k hk b b6) (lgood_of (hb_g1 k hk b b6))) ⟨rfl, rfl, rfl, rfl, rfl⟩ z2.symm
    · rw [if_neg z1]
      exact tie_T h (hands_rel h1 ha (hb_1 k hk b b6) (lgood_of (hb_g1 k hk b b6))) ⟨rfl, rfl, rfl, rfl, rfl⟩ z2.symm
theorem tie_of (h : rel (C, L, T, A, R, V) S Lm M N u t) (p w : Int32) : tieO (xOf C L T A R V p w) (mOf S Lm p w) S := by
  have h1 : tRel T S M N u := h.1
  unfold xOf mOf
  rw [is_eq h1]
  by_cases c1 : mIs S p = 0
  · rw [if_pos c1, if_pos c1]; exact tie_bad h
  rw [if_neg c1, if_neg c1]
  obtain ⟨j, hj, rfl⟩ := is_ok h1.1.1 h1.2.1.2.1 c1
  obtain ⟨o1, o2, o3, o4, o5⟩ := h1.2.2.1 j hj
  have hj6 : j < 6 := by have := h1.1.1; omega
  rw [trG_j h1 hj, trG_j h1 hj, trG_j h1 hj, trG_j h1 hj, trG_j h1 hj, trLied_j h1 hj, own_eq h1 hj, cl_nI hj6]
  by_cases w0 : w = 0
  · subst w0; rw [if_pos rfl, if_neg (by decide), if_pos rfl]; exact tie_v h o1
  by_cases w1 : w = 1
  · subst w1; rw [if_neg (by decide), if_pos rfl, if_neg (by decide), if_neg (by decide), if_pos rfl]; exact tie_v h o2
  by_cases w2 : w = 2
  · subst w2; rw [if_neg (by decide), if_neg (by decide), if_pos rfl, if_neg (by decide), if_neg (by decide), if_neg (by decide), if_pos rfl]; exact tie_v h o3
  by_cases w3 : w = 3
  · subst w3; rw [if_neg (by decide), if_neg (by decide), if_neg (by decide), if_pos rfl, if_neg (by decide), if_neg (by decide), if_neg (by decide), if_neg (by decide), if_pos rfl]; exact tie_v h o4
  by_cases w4 : w = 4
  · subst w4; rw [if_neg (by decide), if_neg (by decide), if_neg (by decide), if_neg (by decide), if_pos rfl, if_neg (by decide), if_neg (by decide), if_neg (by decide), if_neg (by decide), if_neg (by decide), if_pos rfl]; exact tie_v h (by rw [h1.2.1.2.2.2.1])
  by_cases w5 : w = 5
  · subst w5; rw [if_neg (by decide), if_neg (by decide), if_neg (by decide), if_neg (by decide), if_neg (by decide), if_pos rfl, if_neg (by decide), if_neg (by decide), if_neg (by decide), if_neg (by decide), if_neg (by decide), if_neg (by decide), if_pos rfl]; exact tie_v h o5
  rw [if_neg w0, if_neg w1, if_neg w2, if_neg w3, if_neg w4, if_neg w5]
  by_cases w6 : w = 6
  · subst w6; rw [if_pos rfl, if_neg (by decide), if_neg (by decide), if_neg (by decide), if_neg (by decide), if_neg (by decide), if_neg (by decide), if_neg (by decide)]; exact tie_v h rfl
  rw [if_neg w6, if_pos ?_]
  · exact tie_bad h
  · refine iW_eq0 ?_
    rw [fa_eq] at w0 w1 w2 w3 w4 w5 w6
    have e0 : (0 : Int32).toInt = 0 := by decide
    have e1 : (1 : Int32).toInt = 1 := by decide
    have e2 : (2 : Int32).toInt = 2 := by decide
    have e3 : (3 : Int32).toInt = 3 := by decide
    have e4 : (4 : Int32).toInt = 4 := by decide
    have e5 : (5 : Int32).toInt = 5 := by decide
    have e6 : (6 : Int32).toInt = 6 := by decide
    omega
theorem allW_eq (h1 : tRel T S M N u) : trAllW T = mAllW S := by
  unfold trAllW mAllW
  rw [h1.2.1.1, h1.2.1.2.1]
  have hM := h1.1.1
  exact lpSum_congr _ _ _ (fun j _ hj => own_eq h1 (by rw [nI_clamp (by omega)] at hj; omega))
theorem allP_eq (h1 : tRel T S M N u) : trAllP T = mAllP S := by
  unfold trAllP mAllP
  rw [h1.2.1.1, h1.2.1.2.1]
  have hM := h1.1.1
  refine lpSum_congr _ _ _ (fun j _ hj => ?_)
  have hj' : j < M := by rw [nI_clamp (by omega)] at hj; omega
  show trG 2 T (nI j) = S 3 j
  rw [trG_j h1 hj']
  exact (h1.2.2.1 j hj').2.2.1
theorem tie_all (h : rel (C, L, T, A, R, V) S Lm M N u t) : tieO (xAll C L T A R V) (mAll S Lm) S := tie_v h (allW_eq h.1)
theorem cnt_eq (h : rel (C, L, T, A, R, V) S Lm M N u t) (w : Int32) : xCnt T R w = mCnt S w := by
  have h1 : tRel T S M N u := h.1
  obtain ⟨⟨bM, bN, bu⟩, ⟨n1, n2, n3, n4, n5, n6, n7, n8⟩, ho, hn, hp, hg, ⟨k, hk, ek⟩, hh⟩ := id h1
  have a2 : R 10 0 = nI t := h.2.1.2.1
  have a3 : S 30 4 = nI t := h.2.1.2.2.1
  unfold xCnt mCnt
  rw [allP_eq h1, n1, n2, n3, n4, n5, n6, n7, n8, a2, a3, ek, bits_eq k hk]
theorem tie_count (h : rel (C, L, T, A, R, V) S Lm M N u t) (w : Int32) : tieO (xCount C L T A R V w) (mCount S Lm w) S := by
  unfold xCount mCount
  by_cases c1 : iW w 0 6 = 0
  · rw [if_pos c1, if_pos c1]; exact tie_bad h
  · rw [if_neg c1, if_neg c1]; exact tie_v h (cnt_eq h w)
theorem tie_note (h : rel (C, L, T, A, R, V) S Lm M N u t) (p m w d' : Int32) : tieO (xNote C L T A R V p m w d') (mNote S Lm p m w d') S := by
  have h1 : tRel T S M N u := h.1
  obtain ⟨⟨bM, bN, bu⟩, ⟨n1, n2, n3, n4, n5, n6, n7, n8⟩, ho, hn, hp, hg, hl, hh⟩ := id h1
  unfold xNote mNote
  rw [is_eq h1]
  by_cases c1 : mIs S p = 0
  · rw [if_pos c1, if_pos c1]; exact tie_bad h
  rw [if_neg c1, if_neg c1]
  by_cases c2 : iW m 0 99 = 0
  · rw [if_pos c2, if_pos c2]; exact tie_bad h
  rw [if_neg c2, if_neg c2]
  by_cases c3 : iW w 0 2000 = 0
  · rw [if_pos c3, if_pos c3]; exact tie_bad h
  rw [if_neg c3, if_neg c3]
  by_cases c4 : iW d' 0 99 = 0
  · rw [if_pos c4, if_pos c4]; exact tie_bad h
  rw [if_neg c4, if_neg c4]
  have e6 : (6 : Int32).toInt = 6 := by decide
  by_cases c5 : N = 6
  · subst c5
    rw [if_neg (by rw [n5]; decide), if_pos (show S 30 3 = 6 from n6)]
    exact tie_ful h
  · rw [if_pos (by rw [n5, fa_lt, nI_toInt (by omega)]; omega), if_neg (by rw [n6, fa_eq, nI_toInt (by omega)]; omega)]
    have ec : (nI N).toNatClampNeg = N := nI_clamp (by omega)
    refine tie_T (M' := M) (N' := N + 1) (u' := u) h ?_ ⟨rfl, rfl, rfl, rfl, rfl⟩ (by rw [n5, n6])
    refine ⟨⟨bM, by omega, bu⟩, ⟨n1, n2, n3, n4, ?_, ?_, n7, n8⟩, ho, fun j hj => ?_, hp, hg, hl, hh⟩
    · show T 10 3 + 1 = nI (N + 1)
      rw [n5]; exact nI_1 N
    · show S 30 3 + 1 = nI (N + 1)
      rw [n6]; exact nI_1 N
    · show upd (T 5) (T 10 3).toNatClampNeg p j = upd (S 6) (S 30 3).toNatClampNeg p j ∧ upd (T 6) (T 10 3).toNatClampNeg m j = upd (S 7) (S 30 3).toNatClampNeg m j ∧ upd (T 7) (T 10 3).toNatClampNeg w j = upd (S 8) (S 30 3).toNatClampNeg w j ∧ upd (T 8) (T 10 3).toNatClampNeg d' j = upd (S 9) (S 30 3).toNatClampNeg d' j
      rw [n5, n6, ec]
      by_cases q : j = N
      · subst q; simp only [pk_us, and_self]
      · simp only [pk_un q]; exact hn j (by omega)
end TIE2
