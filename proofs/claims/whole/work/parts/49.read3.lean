/-! TIES: read, the rest. -/
section RD3
variable {x : Nat → Int32} {t : Nat}
theorem isW_k {R : sT} {i : Nat} (h : ¬ rIsW R i = 0) : R 10 3 = 1 := by
  refine Classical.byContradiction (fun q => h ?_)
  unfold rIsW
  rw [if_neg q]
theorem wd_len (ht : t ≤ 150) {R : sT} {s : Nat} (h : tok x t R s) {i : Nat} (hi : i < 4) (w : wP x t s i) : R 10 2 = nI (s + kLen.getD i 0) ∧ s + kLen.getD i 0 ≤ t := by
  have h1 := isW_k ((isW_iff ht h hi).mpr w)
  have hk := (tok_kind h).2.2.1.mp h1
  have e := (h.2.2.2.2.2.1 hk).2
  have hl := pW_le x t s
  have hs := h.2.2.1
  rw [w.1] at e hl
  exact ⟨e, by omega⟩
theorem fail_it {R T : sT} {s : Nat} (ht : t ≤ 150) (h : tok x t R s) (h5 : R 10 5 = -1) (P : Nat × Int32 × Int32 × (Nat → Int32)) : itR x t (rFail R) T (0, s, P) := by
  have hs := h.2.2.1
  rw [fail_eq h5 h.2.1]
  exact itR_bad P ⟨sS_s _ _ _ _, rX_s h.1 (by decide), by omega⟩
theorem pG_1 (P : PS) : pItG x t 1 P = pOne x t (P.1 + 3, P.2) := by
  unfold pItG pItD
  rw [if_neg (show ¬ (1 : Int32) = 2 by decide), if_pos rfl]
theorem pG_2 (P : PS) : pItG x t 2 P = pHn x t (P.1 + 5, P.2) := by
  unfold pItG pItD
  rw [if_pos rfl, if_neg (show ¬ (2 : Int32) = 1 by decide), if_pos rfl]
theorem pG_3 (P : PS) : pItG x t 3 P = pLi x t (P.1 + 3, P.2) := by
  unfold pItG pItD
  rw [if_neg (show ¬ (3 : Int32) = 2 by decide), if_neg (show ¬ (3 : Int32) = 1 by decide), if_neg (show ¬ (3 : Int32) = 2 by decide)]
theorem item_sim (ht : t ≤ 150) {R T : sT} {s c : Nat} {li v : Int32} {o : Nat → Int32} (h : tok x t R s) (h5 : R 10 5 = -1) (hT : rdR T c li o) : itR x t (rItem R T).1 (rItem R T).2 (pIt x t (s, c, li, v, o)) := by
  obtain ⟨d0, d1, d2, d3, d4⟩ := wd_spec (x := x) ht (s := s)
  have hc := hT.1.1
  have ec : T 10 0 = nI c := hT.1.2.1
  have i1 := isW_iff ht h (i := 1) (by omega)
  have i2 := isW_iff ht h (i := 2) (by omega)
  have i3 := isW_iff ht h (i := 3) (by omega)
  have z : ∀ i, (¬ rIsW R i = 0 ↔ wP x t s i) → ¬ wP x t s i → rIsW R i = 0 := fun i e q => Classical.byContradiction (fun y => q (e.mp y))
  have ne : ∀ {a b : Int32}, pWd x t s = a → pWd x t s = b → ¬ a = b → False := fun h1 h2 h3 => h3 (h1.symm.trans h2)
  unfold rItem rItem2 pIt
  show itR x t _ _ (pItW x t (pWd x t s) (s, c, li, v, o))
  by_cases w1 : wP x t s 1
  · have e1 := d1 w1
    have n2 : ¬ wP x t s 2 := fun q => ne e1 (d2 q) (by decide)
    have n3 : ¬ wP x t s 3 := fun q => ne e1 (d3 q) (by decide)
    rw [e1]
    unfold pItW
    rw [if_neg (i1.mpr w1), if_neg (show ¬ (1 : Int32) < 1 by decide), if_pos rfl, ec, z 2 i2 n2, z 3 i3 n3, if_pos rfl, if_pos rfl]
    by_cases c6 : c = 6
    · subst c6
      rw [if_pos (show (6 : Int32) ≤ nI 6 by decide), if_pos (show nI 6 = 6 from rfl)]
      exact fail_it ht h h5 _
    · rw [if_neg (by rw [show (6 : Int32) = nI 6 from rfl, nI_leI (by omega) (by omega)]; omega), if_neg (show ¬ nI c = 6 from fun q => c6 ((nI_eq (b := 6) (by omega) (by omega)).mp q))]
      obtain ⟨l1, l2⟩ := wd_len ht h (i := 1) (by omega) w1
      have l1 : R 10 2 = nI (s + 3) := l1
      have l2 : s + 3 ≤ t := l2
      rw [pG_1]
      dsimp only
      exact one_sim ht h.1 h5 l1 l2 hT (by omega)
  · rw [z 1 i1 w1, if_pos rfl]
    by_cases w2 : wP x t s 2
    · have e2 := d2 w2
      rw [e2, if_neg (i2.mpr w2)]
      unfold pItW
      rw [if_neg (show ¬ (2 : Int32) < 1 by decide), if_neg (show ¬ (2 : Int32) = 1 by decide)]
      obtain ⟨l1, l2⟩ := wd_len ht h (i := 2) (by omega) w2
      have l1 : R 10 2 = nI (s + 5) := l1
      have l2 : s + 5 ≤ t := l2
      rw [pG_2]
      dsimp only
      exact han_sim ht h.1 h5 l1 l2 hT
    · rw [z 2 i2 w2, if_pos rfl]
      by_cases w3 : wP x t s 3
      · have e3 := d3 w3
        rw [e3, if_neg (i3.mpr w3)]
        unfold pItW
        rw [if_neg (show ¬ (3 : Int32) < 1 by decide), if_neg (show ¬ (3 : Int32) = 1 by decide)]
        obtain ⟨l1, l2⟩ := wd_len ht h (i := 3) (by omega) w3
        have l1 : R 10 2 = nI (s + 3) := l1
        have l2 : s + 3 ≤ t := l2
        rw [pG_3]
        dsimp only
        exact lie_sim ht h.1 h5 l1 l2 hT
      · rw [z 3 i3 w3, if_pos rfl]
        have e : pWd x t s < 1 := by
          by_cases w0 : wP x t s 0
          · rw [d0 w0]; decide
          · rw [d4 w0 w1 w2 w3]; decide
        unfold pItW
        rw [if_pos e]
        exact fail_it ht h h5 _
theorem items_bad : ∀ (k j : Nat) {R : sT} (T : sT) (n : Int32), ¬ R 10 5 = -1 → rItems k j R T n = ((R, T), n)
  | 0, _, _, _, _, _ => rfl
  | k + 1, j, R, T, n, h => by
    unfold rItems
    rw [if_neg h]
def glR (x : Nat → Int32) (t : Nat) (w : (sT × sT) × Int32) (q : Int32 × PS) : Prop := (0 ≤ q.1 → w.1.1 10 5 = -1 ∧ w.2 = q.1 ∧ rdR w.1.2 q.2.2.1 q.2.2.2.1 q.2.2.2.2.2 ∧ rX x t w.1.1) ∧ (¬ 0 ≤ q.1 → w.1.1 10 5 = nI q.2.1 ∧ q.2.1 ≤ 200 ∧ rX x t w.1.1)
theorem glR_bad {k j : Nat} {R T : sT} {n : Int32} {a : Nat} {P : Nat × Int32 × Int32 × (Nat → Int32)} (h : R 10 5 = nI a ∧ rX x t R ∧ a ≤ 200) : glR x t (rItems k j R T n) (-1, a, P) := by
  rw [items_bad k j T n (nI_ne1 h.1 h.2.2)]
  exact ⟨fun q => absurd (show (0 : Int32) ≤ -1 from q) (by decide), fun _ => ⟨h.1, h.2.2, h.2.1⟩⟩
theorem gl_sim (ht : t ≤ 150) (hx : ∀ j, j < t → 0 ≤ (x j).toInt) : ∀ (k km j : Nat) (R T : sT) (P : PS) (i : Nat), tok x t R P.1 → R 10 5 = -1 → rdR T P.2.1 P.2.2.1 P.2.2.2.2 → t - P.1 ≤ k → t - P.1 ≤ km → i + t ≤ 1000 + P.1 → glR x t (rItems k j R T (nI i)) (pGl x t km P (nI i))
  | k, km, j, R, T, P, i, h, h5, hT, hk, hkm, hi => by
    have hs := h.2.2.1
    rcases Nat.lt_or_ge P.1 t with c | c
    · obtain ⟨k, rfl⟩ : ∃ k', k = k' + 1 := ⟨k - 1, by omega⟩
      obtain ⟨km, rfl⟩ : ∃ k', km = k' + 1 := ⟨km - 1, by omega⟩
      have hne : ¬ R 10 3 = 0 := fun q => by
        have := (tok_kind h).2.2.2.mp q
        rw [pC_lt c, fa_eq] at this
        have im1 : (-1 : Int32).toInt = -1 := by decide
        have := hx P.1 c
        omega
      have hit := item_sim ht (v := P.2.2.2.1) h h5 hT
      obtain ⟨b1, b2, b3, b4⟩ := pIt_b (x := x) ht (P := P) c hT.1.1
      have eP : pIt x t (P.1, P.2.1, P.2.2.1, P.2.2.2.1, P.2.2.2.2) = pIt x t P := rfl
      rw [eP] at hit
      rw [rItems, pGl, if_pos h5, if_neg hne, if_neg (by omega), nI_1]
      by_cases c1 : (pIt x t P).1 = 0
      · rw [if_pos c1]
        exact glR_bad (hit.2 c1)
      · rw [if_neg c1]
        obtain ⟨q1, q2, q3⟩ := hit.1 c1
        have hge := pS_ge x t (pIt x t P).2.1
        have := b4 c1
        exact gl_sim ht hx k km (j + 1) _ _ (pSkP x t (pIt x t P).2) (i + 1) q2 q1 q3 (by show t - pS x t (pIt x t P).2.1 ≤ k; omega) (by show t - pS x t (pIt x t P).2.1 ≤ km; omega) (by show i + 1 + t ≤ 1000 + pS x t (pIt x t P).2.1; omega)
    · have em : pGl x t km P (nI i) = (nI i, P) := by
        cases km with
        | zero => rfl
        | succ km => rw [pGl, if_pos c]
      have ec : rItems k j R T (nI i) = ((R, T), nI i) := by
        cases k with
        | zero => rfl
        | succ k => rw [rItems, if_pos h5, if_pos ((tok_kind h).2.2.2.mpr (pC_ge c))]
      rw [em, ec]
      exact ⟨fun _ => ⟨h5, rfl, hT, h.1⟩, fun q => absurd (nI_pos' (by omega)) q⟩
  termination_by k => k
theorem rd_0 (T : sT) (o : Nat → Int32) : rdR (trEmpty T) 0 0 o := ⟨⟨by omega, rfl, rfl, rfl, rfl, rfl, lgood0⟩, fun p hp => absurd hp (by omega)⟩
theorem read_sim (ht : t ≤ 150) (hx : ∀ j, j < t → 0 ≤ (x j).toInt) {R : sT} (hR : rX x t R) (A : sT) (v : Int32) (o : Nat → Int32) : glR x t (rRead R A) (pGd x t v o) := by
  have hX0 : rX x t (sS 10 (sS 10 R 5 (-1)) 2 0) := rX_s (rX_s hR (by decide)) (by decide)
  obtain ⟨t1, t2⟩ := step_tok hX0 ht (e := 0) (sS_s _ _ _ _) (by omega)
  have t2 : rStep (sS 10 (sS 10 R 5 (-1)) 2 0) 10 5 = -1 := t2
  obtain ⟨d0, d1, d2, d3, d4⟩ := wd_spec (x := x) ht (s := pS x t 0)
  unfold rRead rBeg
  generalize rStep (sS 10 (sS 10 R 5 (-1)) 2 0) = R1 at t1 t2 ⊢
  have i0 := isW_iff ht t1 (i := 0) (by omega)
  unfold rTg pGd
  by_cases w0 : wP x t (pS x t 0) 0
  · rw [if_neg (i0.mpr w0), if_pos (d0 w0)]
    obtain ⟨l1, l2⟩ := wd_len ht t1 (i := 0) (by omega) w0
    obtain ⟨u1, u2⟩ := step_tok t1.1 ht l1 l2
    obtain ⟨s1, s2⟩ := ts_sim ht u1 (u2.trans t2)
    have e4 : pS x t 0 + kLen.getD 0 0 = pS x t 0 + 4 := rfl
    rw [e4] at s1 s2
    generalize pE x t (pS x t 0 + 4) = e at s1 s2 ⊢
    unfold pGE
    by_cases c : e.1 = 0
    · rw [if_pos c]
      exact glR_bad (s2 c)
    · rw [if_neg c]
      obtain ⟨q1, q2⟩ := s1 c
      have hle := pS_le x t e.2
      exact gl_sim ht hx 150 (t - pS x t e.2) 0 _ _ (pSkP x t (e.2, (0, 0, 0, v, o).2)) 1 q2 q1 (rd_0 A o) (by omega) (Nat.le_refl _) (by omega)
  · have e0 : rIsW R1 0 = 0 := Classical.byContradiction (fun y => w0 (i0.mp y))
    have ne : ¬ pWd x t (pS x t 0) = 0 := by
      by_cases w1 : wP x t (pS x t 0) 1
      · rw [d1 w1]; decide
      · by_cases w2 : wP x t (pS x t 0) 2
        · rw [d2 w2]; decide
        · by_cases w3 : wP x t (pS x t 0) 3
          · rw [d3 w3]; decide
          · rw [d4 w0 w1 w2 w3]; decide
    rw [if_pos e0, if_neg ne]
    have hs := t1.2.2.1
    refine glR_bad ?_
    rw [fail_eq t2 t1.2.1]
    exact ⟨sS_s _ _ _ _, rX_s t1.1 (by decide), by omega⟩
end RD3
-- what the reference lays
theorem rdA_spec : ∀ (k j : Nat) (S : sT), S 30 0 = nI j → j + k ≤ 6 → S 30 9 = 0 → mRdA k j S 30 0 = nI (j + k) ∧ mRdA k j S 30 9 = 0 ∧ (∀ i, i ≠ 0 → i ≠ 9 → mRdA k j S 30 i = S 30 i) ∧ (∀ r, (r < 1 ∨ 5 < r) → r ≠ 30 → mRdA k j S r = S r) ∧ (∀ q, q < j → ∀ r, 1 ≤ r → r < 5 → mRdA k j S r q = S r q) ∧ (∀ q, j ≤ q → q < j + k → mRdA k j S 1 q = S 11 (5 * q) ∧ mRdA k j S 2 q = S 11 (5 * q + 1) ∧ mRdA k j S 3 q = S 11 (5 * q + 2) ∧ mRdA k j S 4 q = S 11 (5 * q + 3))
  | 0, j, S, h0, _, h9 => ⟨h0, h9, fun _ _ _ => rfl, fun _ _ _ => rfl, fun _ _ _ _ _ => rfl, fun q h1 h2 => absurd h1 (by omega)⟩
  | k + 1, j, S, h0, hj, h9 => by
    unfold mRdA
    have ec : (S 30 0).toNatClampNeg = j := by rw [h0]; exact nI_clamp (by omega)
    have a0 : mAdd S (S 11 (5 * j)) (S 11 (5 * j + 1)) (S 11 (5 * j + 2)) (S 11 (5 * j + 3)) 30 0 = nI (j + 1) := by
      show S 30 0 + 1 = nI (j + 1)
      rw [h0]; exact nI_1 j
    have a9 : mAdd S (S 11 (5 * j)) (S 11 (5 * j + 1)) (S 11 (5 * j + 2)) (S 11 (5 * j + 3)) 30 9 = 0 := rfl
    have a3 : ∀ i, i ≠ 0 → i ≠ 9 → mAdd S (S 11 (5 * j)) (S 11 (5 * j + 1)) (S 11 (5 * j + 2)) (S 11 (5 * j + 3)) 30 i = S 30 i := fun i h1 h2 => by
      unfold mAdd
      rw [sS_i h2, sS_i h1]; rfl
    have ar : ∀ r, (r < 1 ∨ 5 < r) → r ≠ 30 → mAdd S (S 11 (5 * j)) (S 11 (5 * j + 1)) (S 11 (5 * j + 2)) (S 11 (5 * j + 3)) r = S r := fun r h1 h2 => by
      unfold mAdd
      rw [sS_r h2, sS_r h2]
      exact (va_up_ne _ _ (by omega)).trans ((va_up_ne _ _ (by omega)).trans ((va_up_ne _ _ (by omega)).trans ((va_up_ne _ _ (by omega)).trans (va_up_ne _ _ (by omega)))))
    have a1 : mAdd S (S 11 (5 * j)) (S 11 (5 * j + 1)) (S 11 (5 * j + 2)) (S 11 (5 * j + 3)) 1 = upd (S 1) j (S 11 (5 * j)) := by rw [← ec]; rfl
    have a2 : mAdd S (S 11 (5 * j)) (S 11 (5 * j + 1)) (S 11 (5 * j + 2)) (S 11 (5 * j + 3)) 2 = upd (S 2) j (S 11 (5 * j + 1)) := by rw [← ec]; rfl
    have a4 : mAdd S (S 11 (5 * j)) (S 11 (5 * j + 1)) (S 11 (5 * j + 2)) (S 11 (5 * j + 3)) 3 = upd (S 3) j (S 11 (5 * j + 2)) := by rw [← ec]; rfl
    have a5 : mAdd S (S 11 (5 * j)) (S 11 (5 * j + 1)) (S 11 (5 * j + 2)) (S 11 (5 * j + 3)) 4 = upd (S 4) j (S 11 (5 * j + 3)) := by rw [← ec]; rfl
    generalize mAdd S (S 11 (5 * j)) (S 11 (5 * j + 1)) (S 11 (5 * j + 2)) (S 11 (5 * j + 3)) = S1 at a0 a9 a3 ar a1 a2 a4 a5 ⊢
    obtain ⟨i1, i2, i3, i4, i5, i6⟩ := rdA_spec k (j + 1) S1 a0 (by omega) a9
    have e11 : S1 11 = S 11 := ar 11 (by omega) (by decide)
    rw [e11] at i6
    refine ⟨by rw [i1]; congr 1; omega, i2, fun i h1 h2 => (i3 i h1 h2).trans (a3 i h1 h2), fun r h1 h2 => (i4 r h1 h2).trans (ar r h1 h2), fun q hq r h1 h2 => ?_, fun q h1 h2 => ?_⟩
    · rw [i5 q (by omega) r h1 h2]
      rcases (show r = 1 ∨ r = 2 ∨ r = 3 ∨ r = 4 by omega) with rfl | rfl | rfl | rfl
      · rw [a1, pk_un (by omega)]
      · rw [a2, pk_un (by omega)]
      · rw [a4, pk_un (by omega)]
      · rw [a5, pk_un (by omega)]
    · by_cases c : q = j
      · subst c
        rw [i5 q (by omega) 1 (by omega) (by omega), i5 q (by omega) 2 (by omega) (by omega), i5 q (by omega) 3 (by omega) (by omega), i5 q (by omega) 4 (by omega) (by omega), a1, a2, a4, a5, pk_us, pk_us, pk_us, pk_us]
        exact ⟨rfl, rfl, rfl, rfl⟩
      · exact i6 q (by omega) (by omega)
theorem rdB_spec : ∀ (k j : Nat) (S : sT), (∀ r, r ≠ 5 → mRdB k j S r = S r) ∧ (∀ q, q < j → mRdB k j S 5 q = S 5 q) ∧ (∀ q, j ≤ q → q < j + k → mRdB k j S 5 q = S 11 (5 * q + 4))
  | 0, j, S => ⟨fun _ _ => rfl, fun _ _ => rfl, fun q h1 h2 => absurd h1 (by omega)⟩
  | k + 1, j, S => by
    unfold mRdB
    have e1 : ∀ r, r ≠ 5 → sA S 5 (upd (S 5) j (S 11 (5 * j + 4))) r = S r := fun r hr => va_up_ne _ _ hr
    have e2 : sA S 5 (upd (S 5) j (S 11 (5 * j + 4))) 5 = upd (S 5) j (S 11 (5 * j + 4)) := va_up_self _ _ _
    generalize sA S 5 (upd (S 5) j (S 11 (5 * j + 4))) = S1 at e1 e2 ⊢
    obtain ⟨i1, i2, i3⟩ := rdB_spec k (j + 1) S1
    refine ⟨fun r hr => (i1 r hr).trans (e1 r hr), fun q hq => ?_, fun q h1 h2 => ?_⟩
    · rw [i2 q (by omega), e2, pk_un (by omega)]
    · by_cases c : q = j
      · subst c; rw [i2 q (by omega), e2, pk_us]
      · rw [i3 q (by omega) (by omega), e1 11 (by decide)]
theorem psum_le30 {f : Nat → Int32} : ∀ {M : Nat}, (∀ j, j < M → (f j).toInt ≤ 30) → psum f M ≤ 30 * (M : Int)
  | 0, _ => by show (0 : Int) ≤ _; omega
  | M + 1, h => by
    unfold psum
    have h1 := psum_le30 (f := f) (M := M) (fun j hj => h j (by omega))
    have h2 := h M (by omega)
    omega
theorem rdS_spec {A' B : sT} {P : PS} (h : rdR A' P.2.1 P.2.2.1 P.2.2.2.2) : tRel A' (mRdS B P) P.2.1 0 0 ∧ mSame B (mRdS B P) := by
  obtain ⟨a, c, li, v, o⟩ := P
  obtain ⟨⟨g1, g2, g3, g4, g5, g6, g7⟩, g8⟩ := h
  have g1 : c ≤ 6 := g1
  have g2 : A' 10 0 = nI c := g2
  have g4 : A' 10 2 = li := g4
  show tRel A' (mRdC (mRdB c 0 (mRdA c 0 (mBegin (mP B a c li v o))))) c 0 0 ∧ mSame B (mRdC (mRdB c 0 (mRdA c 0 (mBegin (mP B a c li v o)))))
  have m11 : mBegin (mP B a c li v o) 11 = o := rfl
  have m7 : mBegin (mP B a c li v o) 30 7 = li := rfl
  have m1 : mBegin (mP B a c li v o) 30 1 = 0 := rfl
  have m3 : mBegin (mP B a c li v o) 30 3 = 0 := rfl
  have m4 : mBegin (mP B a c li v o) 30 4 = B 30 4 := rfl
  have mr : ∀ r, r ≠ 30 → r ≠ 11 → mBegin (mP B a c li v o) r = B r := fun r h1 h2 => by
    unfold mBegin
    rw [sS_r h1, sS_r h1, sS_r h1, sS_r h1, sS_r h1]
    exact mP_rr h1 h2
  obtain ⟨i1, i2, i3, i4, -, i6⟩ := rdA_spec c 0 (mBegin (mP B a c li v o)) rfl (by omega) rfl
  generalize mBegin (mP B a c li v o) = S0 at m11 m7 m1 m3 m4 mr i1 i2 i3 i4 i6 ⊢
  rw [m11] at i6
  have e11 : mRdA c 0 S0 11 = o := (i4 11 (by omega) (by decide)).trans m11
  generalize mRdA c 0 S0 = S1 at i1 i2 i3 i4 i6 e11 ⊢
  obtain ⟨b1, -, b3⟩ := rdB_spec c 0 S1
  rw [e11] at b3
  generalize mRdB c 0 S1 = S2 at b1 b3 ⊢
  have r30 : S2 30 = S1 30 := b1 30 (by decide)
  have f : ∀ r, r ≠ 30 → mRdC S2 r = S2 r := fun r hr => by unfold mRdC; exact sS_r hr
  have f30 : ∀ i, i ≠ 2 → mRdC S2 30 i = S2 30 i := fun i hi => by unfold mRdC; exact sS_i hi
  have f2 : mRdC S2 30 2 = li := by
    unfold mRdC
    rw [sS_s, r30, i3 7 (by decide) (by decide), m7]
  generalize mRdC S2 = S3 at f f30 f2 ⊢
  have w1 : ∀ r, 1 ≤ r → r < 5 → S3 r = S1 r := fun r h1 h2 => (f r (by omega)).trans (b1 r (by omega))
  have wr : ∀ r, (r < 1 ∨ 5 < r) → r ≠ 30 → r ≠ 11 → S3 r = B r := fun r h1 h2 h3 => (f r h2).trans ((b1 r (by omega)).trans ((i4 r h1 h2).trans (mr r h2 h3)))
  have n0 : S3 30 0 = nI c := by rw [f30 0 (by decide), r30, i1, Nat.zero_add]
  have n1 : S3 30 1 = 0 := by rw [f30 1 (by decide), r30, i3 1 (by decide) (by decide), m1]
  have n3 : S3 30 3 = 0 := by rw [f30 3 (by decide), r30, i3 3 (by decide) (by decide), m3]
  have n9 : S3 30 9 = 0 := by rw [f30 9 (by decide), r30, i2]
  have n4 : S3 30 4 = B 30 4 := by rw [f30 4 (by decide), r30, i3 4 (by decide) (by decide), m4]
  have row : ∀ q, q < c → S3 1 q = o (5 * q) ∧ S3 2 q = o (5 * q + 1) ∧ S3 3 q = o (5 * q + 2) ∧ S3 4 q = o (5 * q + 3) ∧ S3 5 q = o (5 * q + 4) := fun q hq => by
    obtain ⟨p1, p2, p3, p4⟩ := i6 q (by omega) (by omega)
    rw [w1 1 (by omega) (by omega), w1 2 (by omega) (by omega), w1 3 (by omega) (by omega), w1 4 (by omega) (by omega), f 5 (by decide), b3 q (by omega) (by omega)]
    exact ⟨p1, p2, p3, p4, rfl⟩
  refine ⟨⟨⟨g1, by omega, by omega⟩, ⟨g2, n0, g3.trans n1.symm, g4.trans f2.symm, g5, n3, g6, n9⟩, fun j hj => ?_, fun j hj => absurd hj (by omega), fun e he => absurd he (by omega), ⟨fun j hj => ?_, ?_⟩, by rw [f2]; exact g7, fun j hj => ?_⟩, wr 0 (by omega) (by decide) (by decide), wr 10 (by omega) (by decide) (by decide), n4, wr 18 (by omega) (by decide) (by decide), wr 19 (by omega) (by decide) (by decide)⟩
  · obtain ⟨p1, p2, p3, p4, p5⟩ := row j hj
    obtain ⟨⟨q1, q2, q3, q4, q5⟩, -⟩ := g8 j hj
    rw [p1, p2, p3, p4, p5]
    exact ⟨q1, q2, q3, q4, q5⟩
  · obtain ⟨p1, p2, p3, p4, p5⟩ := row j hj
    obtain ⟨-, q6, q7, -⟩ := g8 j hj
    rw [p2, p3]
    exact ⟨q6.1, q6.2, q7.1⟩
  · refine psum_le30 (fun j hj => ?_)
    rw [(row j hj).2.2.1]
    exact (g8 j hj).2.2.1.2
  · rw [(row j hj).2.2.2.2]
    exact (g8 j hj).2.2.2
section TIE11
variable {C T A R V S : sT} {L Lm : Nat → Int64} {M N u t : Nat}
theorem tie_read (h : rel (C, L, T, A, R, V) S Lm M N u t) : tieO (xRead C L T A R V) (mRead S Lm t) S := by
  obtain ⟨h1, ⟨a1, a2, a3, a4⟩, h3, h4, h5, h6⟩ := id h
  have h1 : tRel T S M N u := h1
  have a2 : R 10 0 = nI t := a2
  have a4 : ∀ j, j < t → R 0 j = S 10 j ∧ 0 ≤ (S 10 j).toInt := a4
  have rs := read_sim (x := S 10) a1 (fun j hj => (a4 j hj).2) ⟨a2, fun j hj => (a4 j hj).1⟩ A (S 30 8) (S 11)
  unfold xRead mRead
  generalize rRead R A = w at rs ⊢
  generalize pGd (S 10) t (S 30 8) (S 11) = q at rs ⊢
  unfold mRdZ
  by_cases c : 0 ≤ q.1
  · obtain ⟨r1, r2, r3, r4⟩ := rs.1 c
    obtain ⟨d1, d2⟩ := rdS_spec (B := S) r3
    rw [if_pos c, r1, if_pos (by decide)]
    obtain ⟨s0, s10, s4, s18, s19⟩ := d2
    refine ⟨r2, ⟨q.2.2.1, 0, 0, t, copy_rel d1, ⟨a1, r4.1, s4.trans a3, fun j hj => ?_⟩, h3, ?_, ?_, ?_⟩, s18, s19⟩
    · show w.1.1 0 j = mRdS S q.2 10 j ∧ 0 ≤ (mRdS S q.2 10 j).toInt
      rw [s10]
      exact ⟨r4.2 j hj, (a4 j hj).2⟩
    · show C 10 0 = mRdS S q.2 0 0
      rw [s0]; exact h4
    · show C 10 1 = mRdS S q.2 0 1
      rw [s0]; exact h5
    · show C 10 2 = mRdS S q.2 0 2
      rw [s0]; exact h6
  · obtain ⟨r1, r2, r4⟩ := rs.2 c
    rw [if_neg c, r1, if_neg (nI_pos (by omega))]
    have er : ∀ r, r ≠ 30 → r ≠ 11 → mQ S q.2 r = S r := fun r q1 q2 => mP_rr q1 q2
    have e30 : ∀ i, (i < 5 ∨ 8 < i) → mQ S q.2 30 i = S 30 i := fun i hi => by
      show upd (upd (upd (upd (S 30) 5 _) 6 _) 7 _) 8 _ i = S 30 i
      rw [pk_un (by omega), pk_un (by omega), pk_un (by omega), pk_un (by omega)]
    refine ⟨rfl, ⟨M, N, u, t, tRel_congrS (S' := mQ S q.2) h1 (fun r q1 q2 j _ => by rw [er r (by omega) (by omega)]) (fun i _ => by rw [er 12 (by decide) (by decide)]) (fun i hi => e30 i (by omega)), ⟨a1, r4.1, (e30 4 (by omega)).trans a3, fun j hj => ?_⟩, h3, ?_, ?_, ?_⟩, er 18 (by decide) (by decide), er 19 (by decide) (by decide)⟩
    · show w.1.1 0 j = mQ S q.2 10 j ∧ 0 ≤ (mQ S q.2 10 j).toInt
      rw [er 10 (by decide) (by decide)]
      exact ⟨r4.2 j hj, (a4 j hj).2⟩
    · show C 10 0 = mQ S q.2 0 0
      rw [er 0 (by decide) (by decide)]; exact h4
    · show C 10 1 = mQ S q.2 0 1
      rw [er 0 (by decide) (by decide)]; exact h5
    · show C 10 2 = mQ S q.2 0 2
      rw [er 0 (by decide) (by decide)]; exact h6
end TIE11
