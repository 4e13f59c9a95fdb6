/-! TIES: bag, the rest. -/
theorem near_1 {T V : sT} {a : Int32} : ∀ (k j : Nat), j + k ≤ 6 → (∃ o, j ≤ o ∧ o < j + k ∧ (¬ iBit (trG 4 T a) o = 0 ∧ V 1 o = wFar V a - 1) ∧ (∀ o', j ≤ o' → o' < o → ¬ (¬ iBit (trG 4 T a) o' = 0 ∧ V 1 o' = wFar V a - 1)) ∧ wNear T V a k j = nI o) ∨ ((∀ o, j ≤ o → o < j + k → ¬ (¬ iBit (trG 4 T a) o = 0 ∧ V 1 o = wFar V a - 1)) ∧ wNear T V a k j = a)
  | 0, j, _ => Or.inr ⟨fun o h1 h2 => absurd h1 (by omega), rfl⟩
  | k + 1, j, hj => by
    have ih := near_1 (T := T) (V := V) (a := a) k (j + 1) (by omega)
    have nx : ¬ (¬ iBit (trG 4 T a) j = 0 ∧ V 1 j = wFar V a - 1) → (∃ o, j ≤ o ∧ o < j + (k + 1) ∧ (¬ iBit (trG 4 T a) o = 0 ∧ V 1 o = wFar V a - 1) ∧ (∀ o', j ≤ o' → o' < o → ¬ (¬ iBit (trG 4 T a) o' = 0 ∧ V 1 o' = wFar V a - 1)) ∧ wNear T V a k (j + 1) = nI o) ∨ ((∀ o, j ≤ o → o < j + (k + 1) → ¬ (¬ iBit (trG 4 T a) o = 0 ∧ V 1 o = wFar V a - 1)) ∧ wNear T V a k (j + 1) = a) := fun hn => by
      rcases ih with ⟨o, h1, h2, h3, h4, h5⟩ | ⟨h1, h2⟩
      · refine Or.inl ⟨o, by omega, by omega, h3, fun o' q1 q2 => ?_, h5⟩
        by_cases c : o' = j
        · subst c; exact hn
        · exact h4 o' (by omega) q2
      · refine Or.inr ⟨fun o q1 q2 => ?_, h2⟩
        by_cases c : o = j
        · subst c; exact hn
        · exact h1 o (by omega) (by omega)
    unfold wNear
    rw [far_j V (by omega)]
    by_cases c1 : iBit (trG 4 T a) j = 0
    · rw [if_pos c1]; exact nx (fun q => q.1 c1)
    · rw [if_neg c1]
      by_cases c2 : V 1 j = wFar V a - 1
      · rw [if_pos c2]; exact Or.inl ⟨j, by omega, by omega, ⟨c1, c2⟩, fun o' q1 q2 => absurd q1 (by omega), rfl⟩
      · rw [if_neg c2]; exact nx (fun q => c2 q.2)
theorem near_2 {S : sT} {a : Int32} : ∀ (k : Nat) (x : Int32), (∃ o, o < k ∧ (¬ iBit (S 5 a.toNatClampNeg) o = 0 ∧ S 14 o = S 14 a.toNatClampNeg - 1) ∧ (∀ o', o' < o → ¬ (¬ iBit (S 5 a.toNatClampNeg) o' = 0 ∧ S 14 o' = S 14 a.toNatClampNeg - 1)) ∧ mBgN S a k x = nI o) ∨ ((∀ o, o < k → ¬ (¬ iBit (S 5 a.toNatClampNeg) o = 0 ∧ S 14 o = S 14 a.toNatClampNeg - 1)) ∧ mBgN S a k x = x)
  | 0, x => Or.inr ⟨fun o h => absurd h (by omega), rfl⟩
  | k + 1, x => by
    have nx : ¬ (¬ iBit (S 5 a.toNatClampNeg) k = 0 ∧ S 14 k = S 14 a.toNatClampNeg - 1) → (∃ o, o < k + 1 ∧ (¬ iBit (S 5 a.toNatClampNeg) o = 0 ∧ S 14 o = S 14 a.toNatClampNeg - 1) ∧ (∀ o', o' < o → ¬ (¬ iBit (S 5 a.toNatClampNeg) o' = 0 ∧ S 14 o' = S 14 a.toNatClampNeg - 1)) ∧ mBgN S a k x = nI o) ∨ ((∀ o, o < k + 1 → ¬ (¬ iBit (S 5 a.toNatClampNeg) o = 0 ∧ S 14 o = S 14 a.toNatClampNeg - 1)) ∧ mBgN S a k x = x) := fun hn => by
      rcases near_2 (S := S) (a := a) k x with ⟨o, h1, h2⟩ | ⟨h1, h2⟩
      · exact Or.inl ⟨o, by omega, h2⟩
      · refine Or.inr ⟨fun o q => ?_, h2⟩
        by_cases c : o = k
        · subst c; exact hn
        · exact h1 o (by omega)
    unfold mBgN
    by_cases c1 : mHas (S 5 a.toNatClampNeg) (nI k) = 0
    · rw [if_pos c1]; exact nx (fun q => q.1 ((has_iff _ _).mp c1))
    · rw [if_neg c1]
      have c1' : ¬ iBit (S 5 a.toNatClampNeg) k = 0 := fun e => c1 ((has_iff _ _).mpr e)
      by_cases c2 : S 14 k = S 14 a.toNatClampNeg - 1
      · rw [if_pos c2]
        left
        rcases near_2 (S := S) (a := a) k (nI k) with ⟨o, h1, h2⟩ | ⟨h1, h2⟩
        · exact ⟨o, by omega, h2⟩
        · exact ⟨k, by omega, ⟨c1', c2⟩, fun o' q => h1 o' q, h2⟩
      · rw [if_neg c2]; exact nx (fun q => c2 q.2)
/-- both ways of telling how far -/
def fS (M : Nat) (V S' : sT) : Prop := ∀ r, r < M → (∃ d, d < M ∧ V 1 r = nI d ∧ S' 14 r = nI (d + 1)) ∨ (V 1 r = 99 ∧ S' 14 r = nI 1048576)
section BG4
variable {T S : sT} {M N u : Nat}
theorem near_eq (h : tRel T S M N u) {V S' : sT} (hr : ∀ r, r ≠ 14 → r ≠ 15 → S' r = S r) (hf : fS M V S') {a d : Nat} (ha : a < M) (hd : d < M) (h1 : V 1 a = nI d) (h2 : S' 14 a = nI (d + 1)) : wNear T V (nI a) (tN T) 0 = mBgG S' (nI a) M ∧ ∃ a' d', a' < M ∧ d' < M ∧ wNear T V (nI a) (tN T) 0 = nI a' ∧ V 1 a' = nI d' ∧ S' 14 a' = nI (d' + 1) := by
  have hM := h.1.1
  have hT : tN T = M := by unfold tN; rw [h.2.1.1]; exact nI_clamp (by omega)
  have eB : trG 4 T (nI a) = S' 5 a := by rw [trG_j h ha, (h.2.2.1 a ha).2.2.2.2, hr 5 (by decide) (by decide)]
  have eF : wFar V (nI a) = nI d := (far_j V (by omega)).trans h1
  have hit : ∀ o, o < M → ((¬ iBit (trG 4 T (nI a)) o = 0 ∧ V 1 o = wFar V (nI a) - 1) ↔ (¬ iBit (S' 5 (nI a).toNatClampNeg) o = 0 ∧ S' 14 o = S' 14 (nI a).toNatClampNeg - 1)) := fun o ho => by
    rw [eB, eF, cl_nI (by omega), h2, nI_pred]
    have key : V 1 o = nI d - 1 ↔ S' 14 o = nI d := by
      rcases hf o ho with ⟨e, he, e1, e2⟩ | ⟨e1, e2⟩
      · rw [e1, e2, nI_eq (by omega) (by omega)]
        rcases Nat.eq_zero_or_pos d with c | c
        · subst c
          constructor
          · intro q
            rw [fa_eq, nI_toInt (by omega)] at q
            have : (nI 0 - 1).toInt = -1 := by decide
            omega
          · intro q; omega
        · rw [nI_pr c, nI_eq (by omega) (by omega)]; omega
      · rw [e1, e2, nI_eq (by omega) (by omega)]
        constructor
        · intro q
          exfalso
          rw [fa_eq] at q
          have e99 : (99 : Int32).toInt = 99 := by decide
          rw [e99, nIm1 d (by omega)] at q
          omega
        · intro q; omega
    rw [key]
  have n1 := near_1 (T := T) (V := V) (a := nI a) M 0 (by omega)
  have n2 := near_2 (S := S') (a := nI a) M (-1)
  rw [hT]
  unfold mBgG
  rcases n1 with ⟨o, p1, p2, p3, p4, p5⟩ | ⟨p1, p2⟩
  · have hoM : o < M := by omega
    rcases n2 with ⟨o2, q1, q2, q3, q4⟩ | ⟨q1, q2⟩
    · have : o = o2 := by
        rcases Nat.lt_trichotomy o o2 with c | c | c
        · exact absurd ((hit o hoM).mp p3) (q3 o c)
        · exact c
        · exact absurd ((hit o2 q1).mpr q2) (p4 o2 (by omega) c)
      subst this
      rw [q4, p5, if_neg (nI_m1 (by omega))]
      refine ⟨rfl, ?_⟩
      have p3' := p3.2
      rw [eF] at p3'
      rcases hf o hoM with ⟨e, he, e1, e2⟩ | ⟨e1, e2⟩
      · exact ⟨o, e, hoM, he, rfl, e1, e2⟩
      · exfalso
        rw [e1, fa_eq, nIm1 d (by omega)] at p3'
        have e99 : (99 : Int32).toInt = 99 := by decide
        omega
    · exact absurd ((hit o hoM).mp p3) (q1 o hoM)
  · rcases n2 with ⟨o2, q1, q2, q3, q4⟩ | ⟨q1, q2⟩
    · exact absurd ((hit o2 q1).mpr q2) (p1 o2 (by omega) (by omega))
    · rw [q2, p2, if_pos rfl]
      exact ⟨rfl, a, d, ha, hd, rfl, h1, h2⟩
theorem mBgW_r {r : Nat} (hr : r ≠ 15) : ∀ (k j : Nat) (S : sT) (a : Int32), mBgW M k j S a r = S r
  | 0, _, _, _ => rfl
  | k + 1, j, S, a => by
    unfold mBgW
    rw [mBgW_r hr k]
    exact va_up_ne _ _ hr
theorem mBgW_lo : ∀ (k j : Nat) (S : sT) (a : Int32) (i : Nat), i < j → mBgW M k j S a 15 i = S 15 i
  | 0, _, _, _, _, _ => rfl
  | k + 1, j, S, a, i, hi => by
    unfold mBgW
    rw [mBgW_lo k (j + 1) _ _ i (by omega)]
    show upd (S 15) j a i = S 15 i
    exact pk_un (by omega)
theorem walk_eq (h : tRel T S M N u) {V : sT} : ∀ (k j : Nat) (S' : sT) (a d : Nat), (∀ r, r ≠ 14 → r ≠ 15 → S' r = S r) → fS M V S' → a < M → d < M → V 1 a = nI d → S' 14 a = nI (d + 1) → ∀ i j', i < k → mBgW M k j S' (nI a) 15 (j + i) = wWalk T V i j' (nI a)
  | 0, _, _, _, _, _, _, _, _, _, _, i, _, hi => absurd hi (by omega)
  | k + 1, j, S', a, d, hr, hf, ha, hd, h1, h2, i, j', hi => by
    unfold mBgW
    have e14 : sA S' 15 (upd (S' 15) j (nI a)) 14 = S' 14 := va_up_ne _ _ (by decide)
    have hr2 : ∀ r, r ≠ 14 → r ≠ 15 → sA S' 15 (upd (S' 15) j (nI a)) r = S r := fun r q1 q2 => (va_up_ne _ _ q2).trans (hr r q1 q2)
    have hf2 : fS M V (sA S' 15 (upd (S' 15) j (nI a))) := fun r q => by rw [e14]; exact hf r q
    have e15 : sA S' 15 (upd (S' 15) j (nI a)) 15 j = nI a := by
      show upd (S' 15) j (nI a) j = nI a
      exact pk_us
    generalize sA S' 15 (upd (S' 15) j (nI a)) = S1 at e14 hr2 hf2 e15 ⊢
    obtain ⟨n1, a', d', n2, n3, n4, n5, n6⟩ := near_eq h hr2 hf2 ha hd h1 (by rw [e14]; exact h2)
    rw [← n1, n4]
    rcases Nat.eq_zero_or_pos i with c | c
    · subst c
      rw [mBgW_lo k (j + 1) S1 _ (j + 0) (by omega)]
      exact e15
    · obtain ⟨i', rfl⟩ : ∃ i', i = i' + 1 := ⟨i - 1, by omega⟩
      rw [show j + (i' + 1) = j + 1 + i' by omega, walk_eq h k (j + 1) S1 a' d' hr2 hf2 n2 n3 n5 n6 i' (j' + 1) (by omega)]
      rw [wWalk, n4]
def rch (S : sT) (n' : Int32) (M b a0 : Nat) (w' : Int32) : Prop := ∃ d, dP M b (gG S n' w') (eE S) d a0
theorem pair_lv (h : tRel T S M N u) {n' w' : Int32} {b : Nat} (hb : b < M) {V S' : sT} (hV : hOk S n' M V) (hr : sRw S S') : fS M (wMeas T V (nI b) w') (mStep S' (nI b) n' w' M) ∧ (∀ a0, a0 < M → (rch S n' M b a0 w' ↔ ∃ d, d < M ∧ wMeas T V (nI b) w' 1 a0 = nI d ∧ mStep S' (nI b) n' w' M 14 a0 = nI (d + 1))) := by
  have hM := h.1.1
  obtain ⟨f1, f2⟩ := meas_lv h (n' := n') (w' := w') hb hV
  obtain ⟨g1, g2⟩ := step_lv (n' := n') (w' := w') hM hb hr
  have both : ∀ r, r < M → (∃ d, d < M ∧ Lv M b (gG S n' w') (eE S) d r ∧ wMeas T V (nI b) w' 1 r = nI d ∧ mStep S' (nI b) n' w' M 14 r = nI (d + 1)) ∨ ((∀ d, ¬ dP M b (gG S n' w') (eE S) d r) ∧ wMeas T V (nI b) w' 1 r = 99 ∧ mStep S' (nI b) n' w' M 14 r = nI 1048576) := fun r hr => by
    rcases g2 r hr with ⟨d, hd, hl, hv⟩ | ⟨hn, hv⟩
    · left
      rcases f1 r hr with ⟨d', hd', hl', hv'⟩ | ⟨hn', hv'⟩
      · have := lv_un hl hl'
        subst this
        exact ⟨d, hd, hl, hv', hv⟩
      · exact absurd (dP_le hl.1 (by omega)) hn'
    · right
      rcases f1 r hr with ⟨d', hd', hl', hv'⟩ | ⟨hn', hv'⟩
      · exact absurd hl'.1 (hn d')
      · exact ⟨hn, hv', hv⟩
  refine ⟨fun r hr => ?_, fun a0 ha => ?_⟩
  · rcases both r hr with ⟨d, hd, -, h1, h2⟩ | ⟨-, h1, h2⟩
    · exact Or.inl ⟨d, hd, h1, h2⟩
    · exact Or.inr ⟨h1, h2⟩
  · constructor
    · rintro ⟨d, hp⟩
      rcases both a0 ha with ⟨d', hd, -, h1, h2⟩ | ⟨hn, -⟩
      · exact ⟨d', hd, h1, h2⟩
      · exact absurd hp (hn d)
    · rintro ⟨d, hd, h1, -⟩
      rcases both a0 ha with ⟨d', hd', hl, -⟩ | ⟨-, h3, -⟩
      · exact ⟨d', hl.1⟩
      · rw [h3, show (99 : Int32) = nI 99 from rfl, nI_eq (by omega) (by omega)] at h1
        omega
theorem car_eq (h : tRel T S M N u) {n' : Int32} {a0 b : Nat} (ha : a0 < M) (hb : b < M) : ∀ (k j : Nat) (V S' : sT) (x : Int32), j + k = M → hOk S n' M V → sRw S S' → (x = -1 ∨ rch S n' M b a0 x) → (wCar T (nI a0) (nI b) k j V x).2 = (mBgL (nI a0) (nI b) n' M k j S' x).2 ∧ hOk S n' M (wCar T (nI a0) (nI b) k j V x).1 ∧ sRw S (mBgL (nI a0) (nI b) n' M k j S' x).1 ∧ ((mBgL (nI a0) (nI b) n' M k j S' x).2 = -1 ∨ rch S n' M b a0 (mBgL (nI a0) (nI b) n' M k j S' x).2)
  | 0, _, V, S', x, _, hV, hr, hx => ⟨rfl, hV, hr, hx⟩
  | k + 1, j, V, S', x, hj, hV, hr, hx => by
    have hM := h.1.1
    unfold wCar mBgL
    rw [hV j (by omega), mWW_rw hr]
    generalize mWW S (nI j) n' = y
    by_cases c1 : y ≤ x
    · rw [if_pos c1, if_pos c1]; exact car_eq h ha hb k (j + 1) V S' x (by omega) hV hr hx
    · rw [if_neg c1, if_neg c1]
      obtain ⟨f1, f2⟩ := pair_lv h (n' := n') (w' := y) hb hV hr
      have hV2 : hOk S n' M (wMeas T V (nI b) y) := fun r q => (heft_r (meas_lv h (n' := n') (w' := y) hb hV).2 _).trans (hV r q)
      have hr2 : sRw S (mStep S' (nI b) n' y M) := (step_lv (n' := n') (w' := y) hM hb hr).1
      have e30 : mStep S' (nI b) n' y M 30 0 = nI M := by rw [hr2 30 (by decide)]; exact h.2.1.2.1
      have f2 := f2 a0 ha
      have f1 := f1 a0 ha
      rw [far_j _ (show a0 < 6 by omega), cl_nI (show a0 < 6 by omega), e30]
      generalize wMeas T V (nI b) y = V1 at f1 f2 hV2 ⊢
      generalize mStep S' (nI b) n' y M = S1 at f1 f2 hr2 e30 ⊢
      rcases f1 with ⟨d, hd, e1, e2⟩ | ⟨e1, e2⟩
      · rw [e1, e2, if_neg (by rw [show (99 : Int32) = nI 99 from rfl, nI_leI (by omega) (by omega)]; omega), if_neg (by rw [nI_ltI (by omega) (by omega)]; omega)]
        exact car_eq h ha hb k (j + 1) V1 S1 y (by omega) hV2 hr2 (Or.inr (f2.mpr ⟨d, hd, e1, e2⟩))
      · rw [e1, e2, if_pos (by decide), if_pos (by rw [nI_ltI (by omega) (by omega)]; omega)]
        exact car_eq h ha hb k (j + 1) V1 S1 x (by omega) hV2 hr2 hx
theorem each_ok (h : tRel T S M N u) (V : sT) (n' : Int32) : hOk S n' M (wEach T n' 6 0 V) := fun r hr => by
  rw [heft_ww h V n' (by have := h.1.1; omega), if_pos hr]
/-- what the reference's bag needs -/
theorem bag_sz (h : tRel T S M N u) {p q e : Int32} (hp : ¬ mIs S p = 0) (hq : ¬ mIs S q = 0) (hb : ¬ (mBgB S p q e M).2 = -1) : (mStep (mBgB S p q e M).1 q e (mBgB S p q e M).2 M 14 p.toNatClampNeg).toNatClampNeg ≤ 6 := by
  have hM := h.1.1
  obtain ⟨a0, ha, rfl⟩ := is_ok hM h.2.1.2.1 hp
  obtain ⟨b, hb', rfl⟩ := is_ok hM h.2.1.2.1 hq
  obtain ⟨c1, c2, c3, c4⟩ := car_eq h (n' := e) ha hb' M 0 (wEach T e 6 0 T) S (-1) (by omega) (each_ok h T e) (fun _ _ => rfl) (Or.inl rfl)
  have c4 := c4.resolve_left hb
  obtain ⟨f1, f2⟩ := pair_lv h (n' := e) (w' := (mBgB S (nI a0) (nI b) e M).2) hb' c2 c3
  obtain ⟨d, hd, -, e2⟩ := (f2 a0 ha).mp c4
  rw [cl_nI (by omega)]
  rw [show (mStep (mBgB S (nI a0) (nI b) e M).1 (nI b) e (mBgB S (nI a0) (nI b) e M).2 M 14 a0) = nI (d + 1) from e2, nI_clamp (by omega)]
  omega
end BG4
section TIE9
variable {C T A R V S : sT} {L Lm : Nat → Int64} {M N u t : Nat}
theorem same_45 (h1 : tRel T S M N u) {S' : sT} (hr : ∀ r, r ≠ 14 → r ≠ 15 → r ≠ 16 → r ≠ 17 → S' r = S r) : tRel T S' M N u ∧ mSame S S' := by
  refine ⟨tRel_congrS h1 (fun r q1 q2 j _ => by rw [hr r (by omega) (by omega) (by omega) (by omega)]) (fun i _ => by rw [hr 12 (by decide) (by decide) (by decide) (by decide)]) (fun i _ => by rw [hr 30 (by decide) (by decide) (by decide) (by decide)]), hr 0 (by decide) (by decide) (by decide) (by decide), hr 10 (by decide) (by decide) (by decide) (by decide), by rw [hr 30 (by decide) (by decide) (by decide) (by decide)], hr 18 (by decide) (by decide) (by decide) (by decide), hr 19 (by decide) (by decide) (by decide) (by decide)⟩
theorem tie_bag (h : rel (C, L, T, A, R, V) S Lm M N u t) (p q m i : Int32) : tieO (xBag C L T A R V p q m i) (mBag S Lm M p q m i) S := by
  have h1 : tRel T S M N u := h.1
  have hM := h1.1.1
  unfold xBag mBag
  by_cases c1 : mIs S p = 0
  · rw [if_pos ((x2_iff h1 p q).mpr (Or.inl c1)), if_pos c1]; exact tie_ten h
  by_cases c2 : mIs S q = 0
  · rw [if_pos ((x2_iff h1 p q).mpr (Or.inr (Or.inl c2))), if_neg c1, if_pos c2]; exact tie_ten h
  by_cases c3 : p = q
  · rw [if_pos ((x2_iff h1 p q).mpr (Or.inr (Or.inr c3))), if_neg c1, if_neg c2, if_pos c3]; exact tie_ten h
  rw [if_neg (fun e => by rcases (x2_iff h1 p q).mp e with e | e | e; exact c1 e; exact c2 e; exact c3 e), if_neg c1, if_neg c2, if_neg c3]
  by_cases c4 : iW m 0 99 = 0
  · rw [if_pos c4, if_pos c4]; exact tie_ten h
  rw [if_neg c4, if_neg c4]
  by_cases c5 : -1 ≤ i
  · rw [if_pos c5, if_pos c5]
    obtain ⟨a0, ha, rfl⟩ := is_ok hM h1.2.1.2.1 c1
    obtain ⟨b, hb, rfl⟩ := is_ok hM h1.2.1.2.1 c2
    have hT : tN T = M := by unfold tN; rw [h1.2.1.1]; exact nI_clamp (by omega)
    have eC : wCarry T V (nI a0) (nI b) m = wCar T (nI a0) (nI b) M 0 (wEach T m 6 0 V) (-1) := by unfold wCarry; rw [hT]
    obtain ⟨k1, k2, k3, k4⟩ := car_eq h1 (n' := m) ha hb M 0 (wEach T m 6 0 V) S (-1) (by omega) (each_ok h1 V m) (fun _ _ => rfl) (Or.inl rfl)
    unfold mBgY wCarryS
    rw [eC, k1]
    rw [show mBgB S (nI a0) (nI b) m M = mBgL (nI a0) (nI b) m M M 0 S (-1) from rfl]
    generalize wCar T (nI a0) (nI b) M 0 (wEach T m 6 0 V) (-1) = W at k1 k2 ⊢
    generalize mBgL (nI a0) (nI b) m M M 0 S (-1) = B at k1 k3 k4 ⊢
    obtain ⟨s1, s2⟩ := same_45 h1 (S' := B.1) (fun r q1 _ _ _ => k3 r q1)
    by_cases c6 : B.2 = -1
    · rw [if_pos c6, if_pos c6]; exact tie_T h s1 s2 rfl
    rw [if_neg c6, if_neg c6]
    by_cases c7 : i = -1
    · rw [if_pos c7, if_pos c7]; exact tie_T h s1 s2 rfl
    rw [if_neg c7, if_neg c7]
    have k4 := k4.resolve_left c6
    obtain ⟨f1, f2⟩ := pair_lv h1 (n' := m) (w' := B.2) hb k2 k3
    obtain ⟨d, hd, e1, e2⟩ := (f2 a0 ha).mp k4
    have hr2 : sRw S (mStep B.1 (nI b) m B.2 M) := (step_lv (n' := m) (w' := B.2) hM hb k3).1
    generalize wMeas T W.1 (nI b) B.2 = V1 at f1 e1 ⊢
    generalize mStep B.1 (nI b) m B.2 M = S1 at f1 e2 hr2 ⊢
    unfold mBgZ mBgR wHandAt
    rw [cl_nI (show a0 < 6 by omega), e2, far_j V1 (show a0 < 6 by omega), e1, nI_clamp (by omega)]
    have hr3 : ∀ r, r ≠ 14 → r ≠ 15 → r ≠ 16 → r ≠ 17 → mBgW M (d + 1) 0 S1 (nI a0) r = S r := fun r q1 q2 _ _ => by rw [mBgW_r q2, hr2 r q1]
    obtain ⟨s3, s4⟩ := same_45 h1 hr3
    have hw := walk_eq h1 (V := V1) (d + 1) 0 S1 a0 d (fun r q1 _ => hr2 r q1) f1 ha hd e1 e2
    obtain ⟨i', hi', rfl⟩ : ∃ i' : Nat, i' < 2 ^ 31 ∧ i = nI i' := by
      refine nI_of (fun e => ?_)
      rw [fa_le] at c5
      rw [fa_eq] at c7
      rw [fa_lt] at e
      have em : (-1 : Int32).toInt = -1 := by decide
      have e0 : (0 : Int32).toInt = 0 := by decide
      omega
    rw [nI_clamp hi']
    by_cases c8 : i' ≤ d
    · rw [if_pos ((nI_leI (by omega) (by omega)).mpr c8), if_neg (fun e => by have := (nI_leI (by omega) (by omega)).mp e; omega)]
      refine tie_T h s3 s4 ?_
      have := hw i' 0 (by omega)
      rw [Nat.zero_add] at this
      rw [this, Nat.min_eq_left (by omega)]
    · rw [if_neg (fun e => c8 ((nI_leI (by omega) (by omega)).mp e)), if_pos ((nI_leI (by omega) (by omega)).mpr (by omega))]
      exact tie_T h s3 s4 rfl
  · rw [if_neg c5, if_neg c5]; exact tie_ten h
end TIE9
