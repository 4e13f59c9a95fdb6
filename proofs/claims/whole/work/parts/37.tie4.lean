/-! TIES: lie, give, day, undo, copies, years. -/
theorem trKeep_spec {T : sT} {u : Nat} (hu : T 10 4 = nI u) (h8 : u ≤ 8) : ∃ e d : Nat, e ≤ 7 ∧ e + d = u ∧ d ≤ 1 ∧ (d = 1 → e = 7) ∧ (∀ r, r ≠ 9 → r ≠ 10 → trKeep T r = T r) ∧ (∀ i, i ≠ 4 → trKeep T 10 i = T 10 i) ∧ trKeep T 10 4 = nI (e + 1) ∧ (∀ e' i, e' < e → i < 14 → trKeep T 9 (14 * e' + i) = T 9 (14 * (e' + d) + i)) ∧ (∀ q, q < 6 → trKeep T 9 (14 * e + q) = T 1 q ∧ trKeep T 9 (14 * e + 6 + q) = T 2 q) ∧ trKeep T 9 (14 * e + 12) = T 10 2 ∧ trKeep T 9 (14 * e + 13) = T 10 1 := by
  obtain ⟨e, d, he, hed, hd, hd7, o1, o2, o3, o4⟩ : ∃ e d : Nat, e ≤ 7 ∧ e + d = u ∧ d ≤ 1 ∧ (d = 1 → e = 7) ∧ (∀ r, r ≠ 9 → r ≠ 10 → pOpen T r = T r) ∧ (∀ i, i ≠ 4 → pOpen T 10 i = T 10 i) ∧ pOpen T 10 4 = nI (e + 1) ∧ (∀ e' i, e' < e → i < 14 → pOpen T 9 (14 * e' + i) = T 9 (14 * (e' + d) + i)) := by
    by_cases c : u = 8
    · subst c
      obtain ⟨i1, i2, i3⟩ := shift9 98 14 T (by omega)
      refine ⟨7, 1, by omega, by omega, by omega, fun _ => rfl, ?_⟩
      unfold pOpen
      rw [if_pos (by rw [hu]; decide)]
      generalize pShift 98 14 T = Y at i1 i2 i3 ⊢
      refine ⟨fun r hr _ => i1 r hr, fun i _ => by rw [i1 10 (by decide)], by rw [i1 10 (by decide), hu], fun e' i h1 h2 => ?_⟩
      rw [i3 _ (by omega) (by omega)]
      congr 1
      omega
    · refine ⟨u, 0, by omega, by omega, by omega, fun q => absurd q (by omega), ?_⟩
      unfold pOpen
      rw [if_neg (by rw [hu, show (8 : Int32) = nI 8 from rfl, nI_leI (by omega) (by omega)]; omega)]
      refine ⟨fun r _ hr => va_up_ne _ _ hr, fun i hi => pk_un hi, ?_, fun e' i _ _ => rfl⟩
      show T 10 4 + 1 = nI (u + 1)
      rw [hu, nI_1]
  refine ⟨e, d, he, hed, hd, hd7, ?_⟩
  obtain ⟨i1, i2, i3, i4⟩ := keep6 he 6 0 (pOpen T) (by omega) o3
  unfold trKeep
  generalize trKeep6 6 0 (pOpen T) = Z at i1 i2 i3 i4 ⊢
  have k4 : Z 10 4 = nI (e + 1) := by rw [i1 10 (by decide), o3]
  have eL : trKeepL Z = sA Z 9 (upd (Z 9) (14 * e + 12) (Z 10 2)) := pPut_eq (q := 12) k4 he rfl (by omega)
  have eD : trKeepD (sA Z 9 (upd (Z 9) (14 * e + 12) (Z 10 2))) = sA (sA Z 9 (upd (Z 9) (14 * e + 12) (Z 10 2))) 9 (upd (upd (Z 9) (14 * e + 12) (Z 10 2)) (14 * e + 13) (Z 10 1)) := pPut_eq (T := sA Z 9 (upd (Z 9) (14 * e + 12) (Z 10 2))) (q := 13) k4 he rfl (by omega)
  rw [eL, eD]
  have t9 : ∀ i, sA (sA Z 9 (upd (Z 9) (14 * e + 12) (Z 10 2))) 9 (upd (upd (Z 9) (14 * e + 12) (Z 10 2)) (14 * e + 13) (Z 10 1)) 9 i = upd (upd (Z 9) (14 * e + 12) (Z 10 2)) (14 * e + 13) (Z 10 1) i := fun _ => rfl
  have tr : ∀ r, r ≠ 9 → sA (sA Z 9 (upd (Z 9) (14 * e + 12) (Z 10 2))) 9 (upd (upd (Z 9) (14 * e + 12) (Z 10 2)) (14 * e + 13) (Z 10 1)) r = Z r := fun r hr => (va_up_ne _ _ hr).trans (va_up_ne _ _ hr)
  refine ⟨fun r hr hr2 => (tr r hr).trans ((i1 r hr).trans (o1 r hr hr2)), fun i hi => ?_, ?_, fun e' i h1 h2 => ?_, fun q hq => ⟨?_, ?_⟩, ?_, ?_⟩
  · rw [tr 10 (by decide), i1 10 (by decide), o2 i hi]
  · rw [tr 10 (by decide), k4]
  · rw [t9, pk_un (by omega), pk_un (by omega), i2 _ (by omega), o4 e' i h1 h2]
  · rw [t9, pk_un (by omega), pk_un (by omega), (i4 q (by omega) hq).1, o1 1 (by decide) (by decide)]
  · rw [t9, pk_un (by omega), pk_un (by omega), (i4 q (by omega) hq).2, o1 2 (by decide) (by decide)]
  · rw [t9, pk_un (by omega), pk_us, i1 10 (by decide), o2 2 (by decide)]
  · rw [t9, pk_us, i1 10 (by decide), o2 1 (by decide)]
theorem sS_s (r : Nat) (S : sT) (i : Nat) (v : Int32) : sS r S i v r i = v := by
  unfold sS
  rw [va_up_self, pk_us]
theorem sS_i {r : Nat} {S : sT} {i k : Nat} {v : Int32} (h : k ≠ i) : sS r S i v r k = S r k := by
  unfold sS
  rw [va_up_self, pk_un h]
theorem sS_r {r x : Nat} {S : sT} {i : Nat} {v : Int32} (h : x ≠ r) : sS r S i v x = S x := va_up_ne _ _ h
def mKp (S S' : sT) (e d : Nat) : Prop := (∀ r, r ≠ 12 → r ≠ 30 → S' r = S r) ∧ (∀ i, i ≠ 9 → S' 30 i = S 30 i) ∧ S' 30 9 = nI (e + 1) ∧ (∀ e' i, e' < e → i < 14 → S' 12 (14 * e' + i) = S 12 (14 * (e' + d) + i)) ∧ S' 12 (14 * e) = S 30 1 ∧ S' 12 (14 * e + 1) = S 30 2 ∧ (∀ q, q < 6 → S' 12 (14 * e + 2 + q) = S 2 q ∧ S' 12 (14 * e + 8 + q) = S 3 q)
theorem mKp_up {S S0 : sT} {e d a : Nat} (ha : a = 14 * e) (s1 : ∀ r, r ≠ 12 → r ≠ 30 → S0 r = S r) (s2 : ∀ i, i ≠ 9 → S0 30 i = S 30 i) (s3 : S0 30 9 = nI e) (s4 : ∀ e' i, e' < e → i < 14 → S0 12 (14 * e' + i) = S 12 (14 * (e' + d) + i)) : mKp S (mUp (mLay 12 a S0)) e d := by
  obtain ⟨y1, y2, y3, y4, y5⟩ := lay_spec (r := 12) (a := a) (by decide) (by decide) (by decide) S0
  generalize mLay 12 a S0 = Y at y1 y2 y3 y4 y5 ⊢
  subst ha
  refine ⟨fun r h1 h2 => (va_up_ne _ _ h2).trans ((y1 r h1).trans (s1 r h1 h2)), fun i hi => ?_, ?_, fun e' i h1 h2 => ?_, ?_, ?_, fun q hq => ⟨?_, ?_⟩⟩
  · unfold mUp
    rw [sS_i hi, y1 30 (by decide), s2 i hi]
  · unfold mUp
    rw [sS_s, y1 30 (by decide), s3, nI_1]
  · unfold mUp
    rw [sS_r (by decide), y2 _ (by omega), s4 e' i h1 h2]
  · unfold mUp
    rw [sS_r (by decide), y3, s2 1 (by decide)]
  · unfold mUp
    rw [sS_r (by decide), y4, s2 2 (by decide)]
  · unfold mUp
    rw [sS_r (by decide), (y5 q hq).1, s1 2 (by decide) (by decide)]
  · unfold mUp
    rw [sS_r (by decide), (y5 q hq).2, s1 3 (by decide) (by decide)]
theorem mKeep_8 {S : sT} (hu : S 30 9 = nI 8) : mKp S (mUp (mLay 12 98 (mDn (mShift 98 0 S)))) 7 1 := by
  obtain ⟨i1, i2, i3⟩ := shift12 98 0 S
  generalize mShift 98 0 S = Y at i1 i2 i3 ⊢
  refine mKp_up (e := 7) rfl (fun r h1 h2 => (va_up_ne _ _ h2).trans (i1 r h1)) (fun i hi => ?_) ?_ (fun e' i h1 h2 => ?_)
  · unfold mDn
    rw [sS_i hi, i1 30 (by decide)]
  · unfold mDn
    rw [sS_s, i1 30 (by decide), hu]; exact nI_pred 7
  · unfold mDn
    rw [sS_r (by decide), i3 _ (by omega) (by omega)]
    congr 1
    omega
theorem mKeep_spec {S : sT} {u e d : Nat} (hu : S 30 9 = nI u) (he : e ≤ 7) (hed : e + d = u) (hd : d ≤ 1) (hd7 : d = 1 → e = 7) : mKp S (mKeep S u) e d := by
  unfold mKeep
  by_cases c : u = 8
  · rw [if_pos c]
    have hd1 : d = 1 := by omega
    rw [hd7 hd1, hd1]
    exact mKeep_8 (by rw [hu, c])
  · rw [if_neg c]
    have hd0 : d = 0 := by
      rcases Nat.eq_zero_or_pos d with q | q
      · exact q
      · have := hd7 (by omega); omega
    subst hd0
    have : e = u := by omega
    subst this
    exact mKp_up rfl (fun _ _ _ => rfl) (fun _ _ => rfl) hu (fun _ _ _ _ => rfl)
theorem keep_rel {T S : sT} {M N u : Nat} (h : tRel T S M N u) : ∃ u', tRel (trKeep T) (mKeep S u) M N u' ∧ mSame S (mKeep S u) ∧ (∀ j, mKeep S u 5 j = S 5 j) ∧ (∀ j, mKeep S u 3 j = S 3 j) := by
  obtain ⟨⟨bM, bN, bu⟩, ⟨n1, n2, n3, n4, n5, n6, n7, n8⟩, ho, hn, hp, hg, hl, hh⟩ := id h
  obtain ⟨e, d, he, hed, hd, hd7, t1, t2, t3, t4, t5, t6, t7⟩ := trKeep_spec n7 bu
  obtain ⟨s1, s2, s3, s4, s5, s6, s7⟩ := mKeep_spec n8 he hed hd hd7
  refine ⟨e + 1, ⟨⟨bM, bN, by omega⟩, ⟨?_, ?_, ?_, ?_, ?_, ?_, t3, s3⟩, fun j hj => ?_, fun j hj => ?_, fun e' he' => ?_, ?_, ?_, fun j hj => ?_⟩, ⟨s1 0 (by decide) (by decide), s1 10 (by decide) (by decide), s2 4 (by decide), s1 18 (by decide) (by decide), s1 19 (by decide) (by decide)⟩, fun j => by rw [s1 5 (by decide) (by decide)], fun j => by rw [s1 3 (by decide) (by decide)]⟩
  · rw [t2 0 (by decide), n1]
  · rw [s2 0 (by decide), n2]
  · rw [t2 1 (by decide), s2 1 (by decide), n3]
  · rw [t2 2 (by decide), s2 2 (by decide), n4]
  · rw [t2 3 (by decide), n5]
  · rw [s2 3 (by decide), n6]
  · rw [t1 0 (by decide) (by decide), t1 1 (by decide) (by decide), t1 2 (by decide) (by decide), t1 3 (by decide) (by decide), t1 4 (by decide) (by decide), s1 1 (by decide) (by decide), s1 2 (by decide) (by decide), s1 3 (by decide) (by decide), s1 4 (by decide) (by decide), s1 5 (by decide) (by decide)]
    exact ho j hj
  · rw [t1 5 (by decide) (by decide), t1 6 (by decide) (by decide), t1 7 (by decide) (by decide), t1 8 (by decide) (by decide), s1 6 (by decide) (by decide), s1 7 (by decide) (by decide), s1 8 (by decide) (by decide), s1 9 (by decide) (by decide)]
    exact hn j hj
  · by_cases c : e' = e
    · subst c
      refine ⟨by rw [t6, s6, n4], by rw [t7, s5, n3], fun j hj => ?_, ?_, by rw [s6]; exact hl⟩
      · obtain ⟨o1, o2, o3, -⟩ := ho j hj
        rw [(t5 j (by omega)).1, (t5 j (by omega)).2, (s7 j (by omega)).1, (s7 j (by omega)).2]
        exact ⟨o2, o3⟩
      · exact pgood_congr (fun j hj => (s7 j (by omega)).1) (fun j hj => (s7 j (by omega)).2) hg
    · have hlt : e' < e := by omega
      obtain ⟨p1, p2, p3, p4, p5⟩ := hp (e' + d) (by omega)
      have hs : ∀ i, i < 14 → mKeep S u 12 (14 * e' + i) = S 12 (14 * (e' + d) + i) := fun i hi => s4 e' i hlt hi
      have hs2 : ∀ j, j < M → mKeep S u 12 (14 * e' + 2 + j) = S 12 (14 * (e' + d) + 2 + j) := fun j hj => by rw [Nat.add_assoc, Nat.add_assoc]; exact hs (2 + j) (by omega)
      have hs8 : ∀ j, j < M → mKeep S u 12 (14 * e' + 8 + j) = S 12 (14 * (e' + d) + 8 + j) := fun j hj => by rw [Nat.add_assoc, Nat.add_assoc]; exact hs (8 + j) (by omega)
      refine ⟨?_, ?_, fun j hj => ⟨?_, ?_⟩, ?_, ?_⟩
      · rw [t4 e' 12 hlt (by omega), hs 1 (by omega)]; exact p1
      · rw [t4 e' 13 hlt (by omega)]; exact p2.trans (hs 0 (by omega)).symm
      · rw [t4 e' j hlt (by omega), hs2 j hj]; exact (p3 j hj).1
      · rw [Nat.add_assoc, t4 e' (6 + j) hlt (by omega), hs8 j hj, ← Nat.add_assoc]; exact (p3 j hj).2
      · exact pgood_congr hs2 hs8 p4
      · rw [hs 1 (by omega)]; exact p5
  · rw [s1 2 (by decide) (by decide), s1 3 (by decide) (by decide)]; exact hg
  · rw [s2 2 (by decide)]; exact hl
  · rw [s1 5 (by decide) (by decide)]; exact hh j hj
theorem hon_rel {T S : sT} {M N u : Nat} (h : tRel T S M N u) {j : Nat} {v : Int32} (hv0 : 0 ≤ v.toInt) (hv : v.toInt ≤ 12) : tRel (sA T 1 (upd (T 1) j v)) (sA S 2 (upd (S 2) j v)) M N u := by
  obtain ⟨hb, hnum, ho, hn, hp, hg, hl, hh⟩ := id h
  refine ⟨hb, hnum, fun i hi => ?_, hn, hp, ?_, hl, hh⟩
  · obtain ⟨o1, o2, o3⟩ := ho i hi
    refine ⟨o1, ?_, o3⟩
    show upd (T 1) j v i = upd (S 2) j v i
    unfold upd
    by_cases q : i = j
    · rw [if_pos q, if_pos q]
    · rw [if_neg q, if_neg q]; exact o2
  · refine ⟨fun i hi => ?_, hg.2⟩
    show 0 ≤ (upd (S 2) j v i).toInt ∧ (upd (S 2) j v i).toInt ≤ 12 ∧ 0 ≤ (S 3 i).toInt
    have := hg.1 i hi
    by_cases q : i = j
    · subst q; rw [pk_us]; omega
    · rw [pk_un q]; exact this
theorem hon_of {T S : sT} {M N u : Nat} (h : tRel T S M N u) {j : Nat} (hj : j < M) : ∃ x : Nat, x ≤ 12 ∧ S 2 j = nI x := by
  have := h.2.2.2.2.2.1.1 j hj
  exact of_bound this.1 (by omega) (by omega)
theorem kL_ok (k : Int32) {s : Nat} (h1 : 1 ≤ s) (h4 : s ≤ 4) : (kL k (nI s)).toNatClampNeg < 9 ∧ kL k (nI s) = nI (kL k (nI s)).toNatClampNeg := by
  unfold kL
  rcases (show s = 1 ∨ s = 2 ∨ s = 3 ∨ s = 4 by omega) with rfl | rfl | rfl | rfl <;> (repeat' split) <;> decide
theorem beh_n : ∀ x, x < 13 → ∀ y, y < 9 → (iMax 0 (nI x - nI y) = if nI y ≤ nI x then nI x - nI y else 0) ∧ (iMax 0 (nI x - nI y)).toNatClampNeg < 13 ∧ iMax 0 (nI x - nI y) = nI (iMax 0 (nI x - nI y)).toNatClampNeg := by decide +kernel
theorem beh_eq {T S : sT} {M N u : Nat} (h : tRel T S M N u) {j s : Nat} (hj : j < M) (h1 : 1 ≤ s) (h4 : s ≤ 4) : trBeh T (nI j) (nI s) = mBeh S (nI j) (nI s) ∧ 0 ≤ (trBeh T (nI j) (nI s)).toInt ∧ (trBeh T (nI j) (nI s)).toInt ≤ 12 := by
  obtain ⟨o0, o1, -⟩ := h.2.2.1 j hj
  obtain ⟨x, hx, ex⟩ := hon_of h hj
  unfold trBeh mBeh
  rw [trG_j h hj, trG_j h hj, cl_nI (by have := h.1.1; omega), o0, o1, ex]
  obtain ⟨k1, k2⟩ := kL_ok (S 1 j) h1 h4
  generalize (kL (S 1 j) (nI s)).toNatClampNeg = y at k1 k2
  rw [k2]
  obtain ⟨b1, b2, b3⟩ := beh_n x (by omega) y k1
  refine ⟨b1, ?_⟩
  rw [b3, nI_toInt (by omega)]
  omega
theorem lie_rel {T S : sT} {M N u : Nat} (h : tRel T S M N u) {j s : Nat} (hj : j < M) (h1 : 1 ≤ s) (h4 : s ≤ 4) : tRel (trLie T (nI j) (nI s)) (mLies S (nI j) (nI s)) M N u ∧ mSame S (mLies S (nI j) (nI s)) := by
  obtain ⟨b1, b2, b3⟩ := beh_eq h hj h1 h4
  have hj6 : j < 6 := by have := h.1.1; omega
  refine ⟨?_, ⟨rfl, rfl, rfl, rfl, rfl⟩⟩
  unfold trLie mLies
  rw [is_eq h, if_neg (is_in h.1.1 h.2.1.2.1 hj), cl_nI hj6, ← b1, h.2.1.2.2.2.1]
  obtain ⟨hb, ⟨n1, n2, n3, n4, n5⟩, ho, hn, hp, hg, -, hh⟩ := hon_rel h (j := j) b2 b3
  obtain ⟨k, hk, ek⟩ := h.2.2.2.2.2.2.1
  exact ⟨hb, ⟨n1, n2, n3, rfl, n5⟩, ho, hn, hp, hg, by show lgood (S 30 2 ||| _); rw [ek]; exact lgood_of (hb_or k hk j hj6), hh⟩
theorem aft_n : ∀ x, x < 13 → (iMin 12 (nI x + iMax 0 (1 - 0)) = iMin 12 (nI x + 1)) ∧ (iMin 12 (nI x + iMax 0 (1 - 1)) = nI x) ∧ (iMin 12 (nI x + 1)).toNatClampNeg < 13 ∧ iMin 12 (nI x + 1) = nI (iMin 12 (nI x + 1)).toNatClampNeg := by decide +kernel
theorem pass_rel1 {M N u : Nat} : ∀ (k j : Nat) (T S : sT), tRel T S M N u → j + k = M → tRel (trPass k j T) (mPassL k j S) M N u ∧ (∀ x, x ≠ 2 → mPassL k j S x = S x) ∧ (∀ x, x ≠ 1 → trPass k j T x = T x)
  | 0, j, T, S, h, _ => ⟨h, fun _ _ => rfl, fun _ _ => rfl⟩
  | k + 1, j, T, S, h, hj => by
    have hjM : j < M := by omega
    have hj6 : j < 6 := by have := h.1.1; omega
    obtain ⟨x, hx, ex⟩ := hon_of h hjM
    obtain ⟨a1, a2, a3, a4⟩ := aft_n x (by omega)
    have hv : trAft T (nI j) 1 = (if mHas (S 30 2) (nI j) = 0 then iMin 12 (S 2 j + 1) else S 2 j) ∧ 0 ≤ (trAft T (nI j) 1).toInt ∧ (trAft T (nI j) 1).toInt ≤ 12 := by
      unfold trAft
      rw [trG_j h hjM, trLied_j h hjM, (h.2.2.1 j hjM).2.1, h.2.1.2.2.2.1, ex]
      by_cases c : mHas (S 30 2) (nI j) = 0
      · rw [if_pos c]
        have c' : (S 30 2 >>> (nI j &&& 31)) &&& 1 = 0 := (has_iff _ _).mp c
        rw [c', a1]
        refine ⟨rfl, ?_⟩
        rw [a4, nI_toInt (by omega)]
        omega
      · rw [if_neg c]
        have c' : (S 30 2 >>> (nI j &&& 31)) &&& 1 = 1 := (ibit01 (S 30 2) j).resolve_left (fun q => c ((has_iff _ _).mpr q))
        rw [c', a2]
        refine ⟨rfl, ?_⟩
        rw [nI_toInt (by omega)]
        omega
    unfold trPass mPassL
    rw [is_eq h, if_neg (is_in h.1.1 h.2.1.2.1 hjM), ← hv.1]
    obtain ⟨r1, r2, r3⟩ := pass_rel1 k (j + 1) _ _ (hon_rel h (j := j) hv.2.1 hv.2.2) (by omega)
    exact ⟨r1, fun x hx => (r2 x hx).trans (va_up_ne _ _ hx), fun x hx => (r3 x hx).trans (va_up_ne _ _ hx)⟩
theorem pass_rel {T S : sT} {M N u : Nat} (h : tRel T S M N u) : tRel (trPassDay T) (mPass S) M N u ∧ mSame S (mPass S) ∧ (∀ x, x ≠ 2 → x ≠ 30 → mPass S x = S x) := by
  have hM := h.1.1
  obtain ⟨r1, r2, r3⟩ := pass_rel1 M 0 T S h (by omega)
  have e1 : (T 10 0).toNatClampNeg = M := by rw [h.2.1.1]; exact nI_clamp (by omega)
  have e2 : (S 30 0).toNatClampNeg = M := by rw [h.2.1.2.1]; exact nI_clamp (by omega)
  unfold trPassDay mPass mPassE
  rw [e1, e2]
  generalize trPass M 0 T = T1 at r1 r3 ⊢
  generalize mPassL M 0 S = S1 at r1 r2 ⊢
  rw [show T1 10 1 = S1 30 1 from r1.2.1.2.2.1]
  generalize iMin 999 (S1 30 1 + 1) = dd
  refine ⟨?_, ⟨?_, ?_, ?_, ?_, ?_⟩, fun x h1 h2 => (va_up_ne _ _ h2).trans ((va_up_ne _ _ h2).trans (r2 x h1))⟩
  · obtain ⟨hb, ⟨n1, n2, n3, n4, n5⟩, ho, hn, hp, hg, -, hh⟩ := r1
    exact ⟨hb, ⟨n1, n2, rfl, rfl, n5⟩, ho, hn, hp, hg, lgood0, hh⟩
  · exact r2 0 (by decide)
  · exact r2 10 (by decide)
  · exact congrFun (r2 30 (by decide)) 4
  · exact r2 18 (by decide)
  · exact r2 19 (by decide)
