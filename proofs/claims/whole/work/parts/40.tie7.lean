/-! TIES: winds, digest, years, hire. -/
theorem frac_ok : ∀ (k j a b : Nat), b < k → a < 2 ^ 31 → b < 2 ^ 31 → 0 < a + b → (∃ g : Nat, 0 < g ∧ g < 2 ^ 31 ∧ kFrac k j (lN a) (lN b) = lN g) ∧ gE k (lN a) (lN b)
  | 0, _, _, _, hb, _, _, _ => absurd hb (by omega)
  | k + 1, j, a, b, hb, ha, hb2, h0 => by
    unfold kFrac gE
    by_cases c : b = 0
    · subst c
      have e : lg_cmp (lN 0) 0 = 0 := (lg_cmp_eq _ _).mpr rfl
      rw [if_pos e]
      exact ⟨⟨a, by omega, ha, rfl⟩, fun q => absurd e q⟩
    · have e : ¬ lg_cmp (lN b) 0 = 0 := fun q => by
        have := (lg_cmp_eq _ _).mp q
        rw [show (0 : Int64) = lN 0 from rfl, lN_eq hb2 (by omega)] at this
        exact c this
      have hm : a % b < b := Nat.mod_lt _ (by omega)
      rw [if_neg e, pk_lRem (by omega) (by omega) (by omega)]
      obtain ⟨r1, r2⟩ := frac_ok k (j + 1) b (a % b) (by omega) hb2 (by omega) (by omega)
      exact ⟨r1, fun _ => r2⟩
theorem wi_eq {T S : sT} {M N u : Nat} (h : tRel T S M N u) (w : Int32) {c : Nat} (hc : c ≤ 10) : ∀ (k j s : Nat), j + k = M → ∃ s' : Nat, s' ≤ s + 1800 * k ∧ xWiL T w (nI c) k j (nI s) = nI s' ∧ mWiL S w (nI c) k j (nI s) = nI s'
  | 0, _, s, _ => ⟨s, by omega, rfl, rfl⟩
  | k + 1, j, s, hj => by
    have hjM : j < M := by omega
    unfold xWiL mWiL
    rw [own_eq h hjM, trG_j h hjM, (h.2.2.1 j hjM).2.2.1]
    obtain ⟨x, hx, ex⟩ := pie_of h hjM
    rw [ex]
    by_cases c1 : w ≤ mOwn S (nI j)
    · rw [if_pos c1, show (10 : Int32) = nI 10 from rfl, pk_mul, pk_mul, nI_add, nI_add, Nat.mul_comm x 10]
      obtain ⟨s', h1, h2, h3⟩ := wi_eq h w hc k (j + 1) (s + 10 * x) (by omega)
      exact ⟨s', by omega, h2, h3⟩
    · rw [if_neg c1, show (10 : Int32) = nI 10 from rfl, pk_sub hc, pk_mul, pk_mul, nI_add, nI_add, Nat.mul_comm x (10 - c)]
      obtain ⟨s', h1, h2, h3⟩ := wi_eq h w hc k (j + 1) (s + (10 - c) * x) (by omega)
      have hb : (10 - c) * x ≤ 10 * x := Nat.mul_le_mul_right x (by omega)
      exact ⟨s', by omega, h2, h3⟩
theorem c10 {c : Int32} (h : ¬ iW c 0 10 = 0) : ∃ c' : Nat, c' ≤ 10 ∧ c = nI c' := by
  have h1 := iW_le h
  have e0 : (0 : Int32).toInt = 0 := by decide
  have e10 : (10 : Int32).toInt = 10 := by decide
  exact of_bound (by omega) (by omega) (by omega)
section TIE5
variable {C T A R V S : sT} {L Lm : Nat → Int64} {M N u t : Nat}
theorem wi_fr (h1 : tRel T S M N u) (w : Int32) {c : Int32} (hc : ¬ iW c 0 10 = 0) : xWiL T w c (T 10 0).toNatClampNeg 0 0 = mWiL S w c (S 30 0).toNatClampNeg 0 0 ∧ gE 100 (mWiL S w c (S 30 0).toNatClampNeg 0 0).toInt64 10 ∧ ¬ kFrac 100 0 (mWiL S w c (S 30 0).toNatClampNeg 0 0).toInt64 10 = 0 ∧ ¬ lg_cmp (kFrac 100 0 (mWiL S w c (S 30 0).toNatClampNeg 0 0).toInt64 10) 0 ≤ 0 := by
  obtain ⟨c', hc', rfl⟩ := c10 hc
  have hM := h1.1.1
  obtain ⟨s', a1, a2, a3⟩ := wi_eq h1 w hc' M 0 0 (by omega)
  have e1 : (T 10 0).toNatClampNeg = M := by rw [h1.2.1.1]; exact nI_clamp (by omega)
  have e2 : (S 30 0).toNatClampNeg = M := by rw [h1.2.1.2.1]; exact nI_clamp (by omega)
  rw [e1, e2, show (0 : Int32) = nI 0 from rfl, a2, a3, nI_l (by omega), show (10 : Int64) = lN 10 from rfl]
  obtain ⟨⟨g, g0, g1, g2⟩, g3⟩ := frac_ok 100 0 s' 10 (by omega) (by omega) (by omega) (by omega)
  refine ⟨rfl, g3, ?_, ?_⟩
  · rw [g2, show (0 : Int64) = lN 0 from rfl, lN_eq g1 (by omega)]; omega
  · rw [g2, show nI 0 = 0 from rfl, lg_cmp_le, show (0 : Int64) = lN 0 from rfl, lN_le g1 (by omega)]; omega
theorem tie_winds (h : rel (C, L, T, A, R, V) S Lm M N u t) (w c : Int32) : tieO (xWinds C L T A R V w c) (mWinds S Lm w c) S := by
  unfold xWinds mWinds
  by_cases c1 : iW w 0 999 = 0
  · rw [if_pos c1, if_pos c1]; exact tie_bad h
  rw [if_neg c1, if_neg c1]
  by_cases c2 : iW c 0 10 = 0
  · rw [if_pos c2, if_pos c2]; exact tie_bad h
  rw [if_neg c2, if_neg c2]
  obtain ⟨w1, -, -, w2⟩ := wi_fr h.1 w c2
  rw [w1]
  unfold kFracL mFrac
  rw [if_neg w2]
  obtain ⟨h1, h2, ⟨l0, l1⟩, h4⟩ := h
  generalize (mWiL S w c (S 30 0).toNatClampNeg 0 0).toInt64 / kFrac 100 0 (mWiL S w c (S 30 0).toNatClampNeg 0 0).toInt64 10 = x0
  generalize 10 / kFrac 100 0 (mWiL S w c (S 30 0).toNatClampNeg 0 0).toInt64 10 = x1
  exact ⟨rfl, ⟨M, N, u, t, h1, h2, ⟨rfl, rfl⟩, h4⟩, rfl, rfl⟩
theorem mMx2 (L : Nat → Int64) (v : Int64) : mMx L v 2 = 31 * L 2 + v := pk_uLs
theorem mMxn {L : Nat → Int64} {v : Int64} {i : Nat} (h : i ≠ 2) : mMx L v i = L i := pk_uLn h
theorem dg1 (h : rel (C, L, T, A, R, V) S Lm M N u t) : ∀ (k j : Nat) (K : Nat → Int64), mDg1 S k j K 2 = xDgL T R k j (K 2) ∧ ∀ i, i ≠ 2 → mDg1 S k j K i = K i
  | 0, _, _ => ⟨rfl, fun _ _ => rfl⟩
  | k + 1, j, K => by
    unfold mDg1 xDgL
    obtain ⟨a1, a2⟩ := dg1 h k (j + 1) (mMx K (mCnt S (nI j)).toInt64)
    rw [mMx2] at a1
    rw [cnt_eq h]
    exact ⟨a1, fun i hi => (a2 i hi).trans (mMxn hi)⟩
theorem dg2 (h1 : tRel T S M N u) : ∀ (k j : Nat) (K : Nat → Int64), j + k = M → mDg2 S k j K 2 = trMix T k j (K 2) ∧ ∀ i, i ≠ 2 → mDg2 S k j K i = K i
  | 0, _, _, _ => ⟨rfl, fun _ _ => rfl⟩
  | k + 1, j, K, hj => by
    have hjM : j < M := by omega
    obtain ⟨o0, o1, o2, o3, o4⟩ := h1.2.2.1 j hjM
    unfold mDg2 trMix
    obtain ⟨a1, a2⟩ := dg2 h1 k (j + 1) (mMx (mMx (mMx (mMx (mMx (mMx K (S 1 j).toInt64) (S 2 j).toInt64) (S 3 j).toInt64) (S 4 j).toInt64) (iBit (S 30 2) j).toInt64) (S 5 j).toInt64) (by omega)
    refine ⟨?_, fun i hi => ?_⟩
    · rw [a1, mMx2, mMx2, mMx2, mMx2, mMx2, mMx2, trG_j h1 hjM, trG_j h1 hjM, trG_j h1 hjM, trG_j h1 hjM, trG_j h1 hjM, trLied_j h1 hjM, o0, o1, o2, o3, o4, h1.2.1.2.2.2.1]
      rfl
    · rw [a2 i hi, mMxn hi, mMxn hi, mMxn hi, mMxn hi, mMxn hi, mMxn hi]
theorem dg3 (h1 : tRel T S M N u) : ∀ (k j : Nat) (K : Nat → Int64), j + k = N → mDg3 S k j K 2 = nMix T k j (K 2) ∧ ∀ i, i ≠ 2 → mDg3 S k j K i = K i
  | 0, _, _, _ => ⟨rfl, fun _ _ => rfl⟩
  | k + 1, j, K, hj => by
    obtain ⟨o0, o1, o2, o3⟩ := h1.2.2.2.1 j (by omega)
    unfold mDg3 nMix
    obtain ⟨a1, a2⟩ := dg3 h1 k (j + 1) (mMx (mMx (mMx (mMx K (S 6 j).toInt64) (S 7 j).toInt64) (S 8 j).toInt64) (S 9 j).toInt64) (by omega)
    refine ⟨?_, fun i hi => ?_⟩
    · rw [a1, mMx2, mMx2, mMx2, mMx2, o0, o1, o2, o3]
    · rw [a2 i hi, mMxn hi, mMxn hi, mMxn hi, mMxn hi]
theorem tie_digest (h : rel (C, L, T, A, R, V) S Lm M N u t) : tieL (xDigest C L T A R V) (mDigest S Lm) S := by
  have h1 : tRel T S M N u := h.1
  have hM := h1.1.1
  have hN := h1.1.2.1
  have e1 : (T 10 0).toNatClampNeg = M := by rw [h1.2.1.1]; exact nI_clamp (by omega)
  have e2 : (S 30 0).toNatClampNeg = M := by rw [h1.2.1.2.1]; exact nI_clamp (by omega)
  have e3 : (T 10 3).toNatClampNeg = N := by rw [h1.2.1.2.2.2.2.1]; exact nI_clamp (by omega)
  have e4 : (S 30 3).toNatClampNeg = N := by rw [h1.2.1.2.2.2.2.2.1]; exact nI_clamp (by omega)
  obtain ⟨a1, a2⟩ := dg1 h 7 0 (vp_updL Lm 2 1307)
  obtain ⟨b1, b2⟩ := dg2 h1 M 0 (mDgA S Lm) (by omega)
  obtain ⟨c1, c2⟩ := dg3 h1 N 0 (mDgB S Lm) (by omega)
  have hB : mDgB S Lm = mDg2 S M 0 (mDgA S Lm) := by unfold mDgB; rw [e2]
  have hC : mDgC S Lm = mDg3 S N 0 (mDgB S Lm) := by unfold mDgC; rw [e4]
  have hA : mDgA S Lm = mDg1 S 7 0 (vp_updL Lm 2 1307) := rfl
  have k2 : mDgC S Lm 2 = trMixF T (xDgL T R 7 0 1307) := by
    rw [hC, c1, hB, b1, hA, a1, pk_uLs]
    unfold trMixF nN
    rw [e1, e3, Nat.min_eq_left hN]
  have kn : ∀ i, i ≠ 2 → mDgC S Lm i = Lm i := fun i hi => by
    rw [hC, c2 i hi, hB, b2 i hi, hA, a2 i hi, pk_uLn hi]
  have kE : ∀ i, i ≠ 2 → mDgE (mDgC S Lm) i = Lm i := fun i hi => by
    unfold mDgE
    rw [mMxn hi, mMxn hi, kn i hi]
  obtain ⟨-, h2, ⟨l0, l1⟩, h4⟩ := h
  have l0 : L 0 = Lm 0 := l0
  have l1 : L 1 = Lm 1 := l1
  refine ⟨?_, ⟨M, N, u, t, h1, h2, ⟨?_, ?_⟩, h4⟩, rfl, rfl⟩
  · show 31 * (31 * trMixF T (xDgL T R 7 0 1307) + L 0) + L 1 = mDgE (mDgC S Lm) 2
    unfold mDgE
    rw [mMx2, mMx2, mMxn (by decide), k2, kn 0 (by decide), kn 1 (by decide), l0, l1]
  · show L 0 = mDgE (mDgC S Lm) 0
    rw [kE 0 (by decide), l0]
  · show L 1 = mDgE (mDgC S Lm) 1
    rw [kE 1 (by decide), l1]
end TIE5
-- years
def yFr (S S' : sT) : Prop := (∀ x, x ≠ 2 → x ≠ 30 → S' x = S x) ∧ (∀ i, i ≠ 1 → i ≠ 2 → S' 30 i = S 30 i)
theorem yFr.tr {S S' S'' : sT} (a : yFr S S') (b : yFr S' S'') : yFr S S'' := ⟨fun x h1 h2 => (b.1 x h1 h2).trans (a.1 x h1 h2), fun i h1 h2 => (b.2 i h1 h2).trans (a.2 i h1 h2)⟩
theorem yFr_pass {T S : sT} {M N u : Nat} (h : tRel T S M N u) : yFr S (mPass S) := ⟨(pass_rel h).2.2, fun i h1 h2 => mPass_30 S h1 h2⟩
theorem yFr_lie (S : sT) (p s : Int32) : yFr S (mLies S p s) := ⟨fun x h1 h2 => by unfold mLies; rw [sS_r h2]; exact va_up_ne _ _ h1, fun i h1 h2 => by unfold mLies; rw [sS_i h2]; rfl⟩
theorem yS_in {y : Int64} (h0 : 0 ≤ y.toInt) (h1 : y.toInt < 2147483648) : ∃ k : Nat, k < 5 ∧ yS y = nI k := by
  obtain ⟨k, hk, rfl⟩ := pk_lOf (x := y) (by rw [Int64.lt_iff_toInt_lt]; have : (0 : Int64).toInt = 0 := by decide
                                             omega)
  rw [pk_lT hk] at h1
  refine ⟨k / 1048576 % 5, Nat.mod_lt _ (by omega), ?_⟩
  unfold yS
  rw [show (1048576 : Int64) = lN 1048576 from rfl, show (5 : Int64) = lN 5 from rfl, pk_lDiv hk (by decide) (by decide), pk_lRem (by omega) (by decide) (by decide), lN_i]
theorem yr_rel {M N u : Nat} : ∀ (k j : Nat) (x : Int64) (A S : sT), tRel A S M N u → 0 ≤ x.toInt → x.toInt < 2147483648 → tRel (xYrL k j x A) (mYrL k j x S) M N u ∧ yFr S (mYrL k j x S)
  | 0, _, _, _, _, h, _, _ => ⟨h, ⟨fun _ _ _ => rfl, fun _ _ _ => rfl⟩⟩
  | k + 1, j, x, A, S, h, h0, h1 => by
    obtain ⟨x0, x1⟩ := yX_ok h0 h1
    obtain ⟨s, hs, es⟩ := yS_in x0 x1
    obtain ⟨p, hp, ep⟩ := vp_in_of (yP_in x0 x1) (by decide)
    have hM := h.1.1
    unfold xYrL mYrL
    rw [es, ep]
    generalize yX x = y at x0 x1 ⊢
    by_cases c0 : s = 0
    · subst c0
      rw [if_pos (show nI 0 = 0 from rfl), if_pos (show nI 0 ≤ 0 by decide)]
      obtain ⟨r1, r2⟩ := yr_rel k (j + 1) y _ _ (pass_rel h).1 x0 x1
      exact ⟨r1, (yFr_pass h).tr r2⟩
    · rw [if_neg (nI_ne0 (by omega) (by omega)), if_neg (nI_nle (by omega) (by omega)), h.2.1.2.1]
      by_cases c1 : M ≤ p
      · rw [if_pos ((nI_leI (by omega) (by omega)).mpr c1)]
        have e : trLie A (nI p) (nI s) = A := by
          unfold trLie
          rw [if_pos]
          rw [is_eq h]
          unfold mIs
          refine iW_eq0 (Or.inr ?_)
          rw [h.2.1.2.1, nIm1 M (by omega), nI_toInt (by omega)]
          omega
        rw [e]
        obtain ⟨r1, r2⟩ := yr_rel k (j + 1) y _ _ (pass_rel h).1 x0 x1
        exact ⟨r1, (yFr_pass h).tr r2⟩
      · rw [if_neg (fun q => c1 ((nI_leI (by omega) (by omega)).mp q))]
        have hl := (lie_rel h (j := p) (s := s) (by omega) (by omega) (by omega)).1
        obtain ⟨r1, r2⟩ := yr_rel k (j + 1) y _ _ (pass_rel hl).1 x0 x1
        exact ⟨r1, (yFr_lie S _ _).tr ((yFr_pass hl).tr r2)⟩
section TIE6
variable {C T A R V S : sT} {L Lm : Nat → Int64} {M N u t : Nat}
theorem tie_years (h : rel (C, L, T, A, R, V) S Lm M N u t) (s m : Int32) : tieO (xYears C L T A R V s m) (mYears S Lm s m) S := by
  have h1 : tRel T S M N u := h.1
  unfold xYears mYears
  by_cases c1 : iW s 0 999999 = 0
  · rw [if_pos c1, if_pos c1]; exact tie_bad h
  rw [if_neg c1, if_neg c1]
  by_cases c2 : iW m 0 60 = 0
  · rw [if_pos c2, if_pos c2]; exact tie_bad h
  rw [if_neg c2, if_neg c2]
  unfold mYrE
  have k1 := iW_le c1
  have e0 : (0 : Int32).toInt = 0 := by decide
  have e9 : (999999 : Int32).toInt = 999999 := by decide
  have es : s.toInt64.toInt = s.toInt := by simp
  obtain ⟨y1, y2, y3, y4, y5⟩ := lay_spec (r := 13) (a := 0) (by decide) (by decide) (by decide) S
  have hc : tRel (trCopyF T A) (mLay 13 0 S) M N u := tRel_congrS (copy_rel h1) (fun r q1 q2 j _ => by rw [y1 r (by omega)]) (fun i _ => by rw [y1 12 (by decide)]) (fun i _ => by rw [y1 30 (by decide)])
  obtain ⟨r1, r2, r3⟩ := yr_rel m.toNatClampNeg 0 s.toInt64 _ _ hc (by omega) (by omega)
  rw [show (0 : Nat) + 2 = 2 from rfl, show (0 : Nat) + 8 = 8 from rfl] at y5
  generalize mLay 13 0 S = Y at y1 y2 y3 y4 y5 hc r1 r2 r3 ⊢
  have ev := allW_eq r1
  generalize xYrL m.toNatClampNeg 0 s.toInt64 (trCopyF T A) = A' at r1 ev ⊢
  generalize mYrL m.toNatClampNeg 0 s.toInt64 Y = Y' at r1 r2 r3 ev ⊢
  obtain ⟨z1, z2, z3, z4, z5⟩ := tak_spec (r := 13) (a := 0) (by decide) (by decide) (by decide) Y'
  rw [show (0 : Nat) + 2 = 2 from rfl, show (0 : Nat) + 8 = 8 from rfl] at z5
  have e13 : Y' 13 = Y 13 := r2 13 (by decide) (by decide)
  rw [e13] at z3 z4 z5
  generalize mTak 13 0 Y' = Z at z1 z2 z3 z4 z5 ⊢
  have zr : ∀ x, x ≠ 2 → x ≠ 3 → x ≠ 30 → x ≠ 13 → Z x = S x := fun x q1 q2 q3 q4 => (z1 x q1 q2 q3).trans ((r2 x q1 q3).trans (y1 x q4))
  have z30 : ∀ i, Z 30 i = S 30 i := fun i => by
    by_cases i1 : i = 1
    · subst i1; rw [z3, y3]
    · by_cases i2 : i = 2
      · subst i2; rw [z4]; exact y4
      · rw [z2 i i1 i2, r3 i i1 i2, y1 30 (by decide)]
  refine tie_T h (M' := M) (N' := N) (u' := u) (tRel_congrS h1 (fun r q1 q2 j hj => ?_) (fun i _ => by rw [zr 12 (by decide) (by decide) (by decide) (by decide)]) (fun i _ => z30 i)) ⟨zr 0 (by decide) (by decide) (by decide) (by decide), zr 10 (by decide) (by decide) (by decide) (by decide), z30 4, zr 18 (by decide) (by decide) (by decide) (by decide), zr 19 (by decide) (by decide) (by decide) (by decide)⟩ ev
  by_cases i2 : r = 2
  · subst i2; rw [(z5 j hj).1, (y5 j hj).1]
  · by_cases i3 : r = 3
    · subst i3; rw [(z5 j hj).2, (y5 j hj).2]
    · rw [zr r i2 i3 (by omega) (by omega)]
end TIE6
-- hire
theorem bit_hi : ∀ s, s < 64 → ∀ j, j < 6 → s < 2 ^ j → iBit (nI s) j = 0 := by decide +kernel
theorem sumB_0 {f : Nat → Int32} {b : Int32} : ∀ (k j : Nat) (x : Int32), (∀ i, j ≤ i → i < j + k → iBit b i = 0) → lpSumB f b k j x = x
  | 0, _, _, _ => rfl
  | k + 1, j, x, h => by
    unfold lpSumB
    rw [if_pos (h j (by omega) (by omega))]
    exact sumB_0 k (j + 1) x (fun i h1 h2 => h i (by omega) (by omega))
theorem hiI_eq {S : sT} {n' : Int32} {f g : Nat → Int32} {M s : Nat} (hM : M ≤ 6) (hs : s < 2 ^ M) (hf : ∀ j, j < M → f j = S 4 j) (hg : ∀ j, j < M → g j = mWW S (nI j) n') : ∀ (k j : Nat) (x y : Int32), j + k = 6 → j ≤ M → mHiI S n' (nI s) (M - j) j x y = (lpSumB f (nI s) k j x, lpSumB g (nI s) k j y)
  | k, j, x, y, hk, hj => by
    have h64 : s < 64 := Nat.lt_of_lt_of_le hs (by
      have := Nat.pow_le_pow_right (n := 2) (by omega) hM
      exact this)
    rcases Nat.lt_or_ge j M with q | q
    · obtain ⟨k', rfl⟩ : ∃ k', k = k' + 1 := ⟨k - 1, by omega⟩
      have e : M - j = (M - (j + 1)) + 1 := by omega
      have z : ∀ v : Int32, v + 0 = v := fun v => by simp
      rw [e]
      unfold mHiI lpSumB
      rw [hf j q, hg j q, z, z]
      by_cases c : iBit (nI s) j = 0
      · have c' := (has_iff (nI s) j).mpr c
        rw [if_pos c', if_pos c', if_pos c, if_pos c]
        exact hiI_eq hM hs hf hg k' (j + 1) x y (by omega) (by omega)
      · have c' : ¬ mHas (nI s) (nI j) = 0 := fun r => c ((has_iff (nI s) j).mp r)
        rw [if_neg c', if_neg c', if_neg c, if_neg c]
        exact hiI_eq hM hs hf hg k' (j + 1) _ _ (by omega) (by omega)
    · have e : M - j = 0 := by omega
      have hz : ∀ i, j ≤ i → i < j + k → iBit (nI s) i = 0 := fun i h1 h2 => bit_hi s h64 i (by omega) (Nat.lt_of_lt_of_le hs (Nat.pow_le_pow_right (by omega) (by omega)))
      rw [e, sumB_0 k j x hz, sumB_0 k j y hz]
      rfl
  termination_by k _ _ _ _ _ => k
theorem hiO_eq {T V S : sT} {b n' : Int32} {M : Nat} (e0 : (S 30 0).toNatClampNeg = M) (hI : ∀ s, s < 2 ^ M → mHiI S n' (nI s) M 0 0 0 = (wPay T (nI s), wTog V (nI s))) : ∀ (k j : Nat) (x : Int32), j + k = 2 ^ M → mHiO S b n' k j x (wTog V x) = (wHire T V b k j x, wTog V (wHire T V b k j x))
  | 0, _, _, _ => rfl
  | k + 1, j, x, hj => by
    unfold mHiO wHire
    rw [e0, hI j (by omega)]
    show (if b < wPay T (nI j) then mHiO S b n' k (j + 1) x (wTog V x) else if wTog V (nI j) ≤ wTog V x then mHiO S b n' k (j + 1) x (wTog V x) else mHiO S b n' k (j + 1) (nI j) (wTog V (nI j))) = _
    by_cases c1 : b < wPay T (nI j)
    · rw [if_pos c1, if_pos c1]; exact hiO_eq e0 hI k (j + 1) x (by omega)
    · rw [if_neg c1, if_neg c1]
      by_cases c2 : wTog V (nI j) ≤ wTog V x
      · rw [if_pos c2, if_pos c2]; exact hiO_eq e0 hI k (j + 1) x (by omega)
      · rw [if_neg c2, if_neg c2]; exact hiO_eq e0 hI k (j + 1) (nI j) (by omega)
theorem each_spec {T : sT} {n' : Int32} : ∀ (k j : Nat) (V : sT), (∀ r, r ≠ 0 → wEach T n' k j V r = V r) ∧ (∀ q, (q < j ∨ j + k ≤ q) → wEach T n' k j V 0 q = V 0 q) ∧ (∀ q, j ≤ q → q < j + k → wEach T n' k j V 0 q = if trIs T (nI q) = 0 then -1 else trWW T (nI q) n')
  | 0, j, V => ⟨fun _ _ => rfl, fun _ _ => rfl, fun q h1 h2 => absurd h1 (by omega)⟩
  | k + 1, j, V => by
    unfold wEach
    obtain ⟨i1, i2, i3⟩ := each_spec (T := T) (n' := n') k (j + 1) (sA V 0 (upd (V 0) j (if trIs T (nI j) = 0 then -1 else trWW T (nI j) n')))
    have e : sA V 0 (upd (V 0) j (if trIs T (nI j) = 0 then -1 else trWW T (nI j) n')) 0 = upd (V 0) j (if trIs T (nI j) = 0 then -1 else trWW T (nI j) n') := va_up_self _ _ _
    rw [e] at i2
    refine ⟨fun r hr => (i1 r hr).trans (va_up_ne _ _ hr), fun q hq => ?_, fun q h1 h2 => ?_⟩
    · rw [i2 q (by omega), pk_un (by omega)]
    · by_cases c : q = j
      · subst c
        rw [i2 q (by omega), pk_us]
      · exact i3 q (by omega) (by omega)
theorem heft_j (V : sT) {j : Nat} (hj : j < 6) : wHeft V (nI j) = V 0 j := by
  unfold wHeft
  rw [if_neg (nI_pos (by omega)), if_neg (by rw [show (6 : Int32) = nI 6 from rfl, nI_leI (by omega) (by omega)]; omega), nI_clamp (by omega)]
theorem heft_ww {T S : sT} {M N u : Nat} (h : tRel T S M N u) (V : sT) (n' : Int32) {j : Nat} (hj : j < 6) : wHeft (wEach T n' 6 0 V) (nI j) = if j < M then mWW S (nI j) n' else -1 := by
  have hM := h.1.1
  rw [heft_j _ hj, (each_spec (T := T) (n' := n') 6 0 V).2.2 j (by omega) (by omega), is_eq h]
  by_cases c : j < M
  · rw [if_neg (is_in hM h.2.1.2.1 c), if_pos c, ww_eq h c]
  · rw [if_neg c, if_pos]
    unfold mIs
    refine iW_eq0 (Or.inr ?_)
    rw [h.2.1.2.1, nIm1 M (by omega), nI_toInt (by omega)]
    omega
theorem shl_M : ∀ M, M < 7 → ((1 : Int32) <<< (nI M &&& 31)).toNatClampNeg = 2 ^ M := by decide +kernel
section TIE7
variable {C T A R V S : sT} {L Lm : Nat → Int64} {M N u t : Nat}
theorem hire_eq (h1 : tRel T S M N u) {b n' : Int32} (hb : ¬ b < 0) : mHire S b n' = (wHireF T V b n', wTog (wEach T n' 6 0 V) (wHireF T V b n')) := by
  have hM := h1.1.1
  have e0 : (S 30 0).toNatClampNeg = M := by rw [h1.2.1.2.1]; exact nI_clamp (by omega)
  have hI : ∀ s, s < 2 ^ M → mHiI S n' (nI s) M 0 0 0 = (wPay T (nI s), wTog (wEach T n' 6 0 V) (nI s)) := fun s hs => by
    have := hiI_eq (S := S) (n' := n') (f := fun j => trG 3 T (nI j)) (g := fun j => wHeft (wEach T n' 6 0 V) (nI j)) hM hs (fun j hj => by
      show trG 3 T (nI j) = S 4 j
      rw [trG_j h1 hj]; exact (h1.2.2.1 j hj).2.2.2.1) (fun j hj => by
      show wHeft (wEach T n' 6 0 V) (nI j) = _
      rw [heft_ww h1 V n' (by omega), if_pos hj]) 6 0 0 0 (by omega) (by omega)
    exact this
  have p0 : wPay T (nI 0) = 0 := sumB_0 6 0 0 (fun i _ hi => bit_hi 0 (by omega) i (by omega) (Nat.two_pow_pos i))
  have t0 : wTog (wEach T n' 6 0 V) (nI 0) = 0 := sumB_0 6 0 0 (fun i _ hi => bit_hi 0 (by omega) i (by omega) (Nat.two_pow_pos i))
  unfold mHire wHireF
  rw [h1.2.1.2.1, h1.2.1.1, shl_M M (by omega)]
  obtain ⟨k, hk⟩ : ∃ k, 2 ^ M = k + 1 := ⟨2 ^ M - 1, by have := Nat.two_pow_pos M; omega⟩
  rw [hk]
  have k1 := hiO_eq (T := T) (V := wEach T n' 6 0 V) (b := b) (n' := n') e0 hI k 1 (nI 0) (by omega)
  rw [mHiO, e0, hI 0 (Nat.two_pow_pos M), wHire, p0, t0]
  show (if b < 0 then mHiO S b n' k (0 + 1) 0 (-1) else if (0 : Int32) ≤ -1 then mHiO S b n' k (0 + 1) 0 (-1) else mHiO S b n' k (0 + 1) (nI 0) 0) = _
  rw [if_neg hb, if_neg (by decide), if_neg hb, if_pos (show (0 : Int32) ≤ wTog (wEach T n' 6 0 V) 0 by rw [show (0 : Int32) = nI 0 from rfl, t0]; decide)]
  rw [t0] at k1
  exact k1
theorem tie_hire (h : rel (C, L, T, A, R, V) S Lm M N u t) (b m w : Int32) : tieO (xHire C L T A R V b m w) (mHireF S Lm b m w) S := by
  unfold xHire mHireF
  by_cases c1 : iW b 0 120 = 0
  · rw [if_pos c1, if_pos c1]; exact tie_bad h
  rw [if_neg c1, if_neg c1]
  by_cases c2 : iW m 0 99 = 0
  · rw [if_pos c2, if_pos c2]; exact tie_bad h
  rw [if_neg c2, if_neg c2]
  by_cases c3 : iW w 0 1 = 0
  · rw [if_pos c3, if_pos c3]; exact tie_bad h
  rw [if_neg c3, if_neg c3]
  have k1 := iW_le c1
  have e0 : (0 : Int32).toInt = 0 := by decide
  have hb : ¬ b < 0 := by rw [fa_lt]; omega
  rw [hire_eq (V := V) h.1 hb]
  by_cases c4 : w = 0
  · rw [if_pos c4, if_pos c4]; exact tie_vV h rfl
  · rw [if_neg c4, if_neg c4]; exact tie_vV h rfl
end TIE7
