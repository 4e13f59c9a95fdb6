/-! TIES: images. -/
theorem upd_at {f : Nat → Int32} {k i : Nat} {x : Int32} (h : i = k) : upd f k x i = x := by subst h; exact pk_us
def sr (c : Nat) : Nat := if c = 0 then 1 else c + 3
theorem im6_1 (a j : Nat) (S : sT) : (∀ r, r ≠ 18 → (mImR a j 53 9 (mImR a j 47 8 (mImR a j 41 7 (mImR a j 35 6 (mImR a j 29 5 (mImR a j 23 4 (mImR a j 17 1 S))))))) r = S r) ∧ (mImR a j 53 9 (mImR a j 47 8 (mImR a j 41 7 (mImR a j 35 6 (mImR a j 29 5 (mImR a j 23 4 (mImR a j 17 1 S))))))) 18 = (upd (upd (upd (upd (upd (upd (upd (S 18) (180 * a + 17 + j) (S 1 j)) (180 * a + 23 + j) (S 4 j)) (180 * a + 29 + j) (S 5 j)) (180 * a + 35 + j) (S 6 j)) (180 * a + 41 + j) (S 7 j)) (180 * a + 47 + j) (S 8 j)) (180 * a + 53 + j) (S 9 j)) :=
  ⟨fun r hr => (va_up_ne _ _ hr).trans ((va_up_ne _ _ hr).trans ((va_up_ne _ _ hr).trans ((va_up_ne _ _ hr).trans ((va_up_ne _ _ hr).trans ((va_up_ne _ _ hr).trans (va_up_ne _ _ hr)))))), rfl⟩
theorem im6 (a : Nat) : ∀ (k j : Nat) (S : sT), j + k = 6 → (∀ r, r ≠ 18 → mIm6 a k j S r = S r) ∧ (∀ i, (i < 180 * a + 17 ∨ 180 * a + 59 ≤ i) → mIm6 a k j S 18 i = S 18 i) ∧ (∀ c q, c < 7 → q < j → mIm6 a k j S 18 (180 * a + 17 + 6 * c + q) = S 18 (180 * a + 17 + 6 * c + q)) ∧ (∀ c q, c < 7 → j ≤ q → q < 6 → mIm6 a k j S 18 (180 * a + 17 + 6 * c + q) = S (sr c) q)
  | 0, j, S, hj => ⟨fun _ _ => rfl, fun _ _ => rfl, fun _ _ _ _ => rfl, fun c q _ h1 h2 => absurd h1 (by omega)⟩
  | k + 1, j, S, hj => by
    unfold mIm6
    obtain ⟨e1, e2⟩ := im6_1 a j S
    generalize (mImR a j 53 9 (mImR a j 47 8 (mImR a j 41 7 (mImR a j 35 6 (mImR a j 29 5 (mImR a j 23 4 (mImR a j 17 1 S))))))) = T1 at e1 e2 ⊢
    obtain ⟨i1, i2, i3, i4⟩ := im6 a k (j + 1) T1 (by omega)
    refine ⟨fun r hr => (i1 r hr).trans (e1 r hr), fun i hi => ?_, fun c q hc hq => ?_, fun c q hc h1 h2 => ?_⟩
    · rw [i2 i hi, e2, pk_un (by omega), pk_un (by omega), pk_un (by omega), pk_un (by omega), pk_un (by omega), pk_un (by omega), pk_un (by omega)]
    · rw [i3 c q hc (by omega), e2, pk_un (by omega), pk_un (by omega), pk_un (by omega), pk_un (by omega), pk_un (by omega), pk_un (by omega), pk_un (by omega)]
    · by_cases cq : q = j
      · subst cq
        rw [i3 c q hc (by omega), e2]
        rcases (show c = 0 ∨ c = 1 ∨ c = 2 ∨ c = 3 ∨ c = 4 ∨ c = 5 ∨ c = 6 by omega) with rfl | rfl | rfl | rfl | rfl | rfl | rfl
        · rw [pk_un (by omega), pk_un (by omega), pk_un (by omega), pk_un (by omega), pk_un (by omega), pk_un (by omega)]; exact upd_at (by omega)
        · rw [pk_un (by omega), pk_un (by omega), pk_un (by omega), pk_un (by omega), pk_un (by omega)]; exact upd_at (by omega)
        · rw [pk_un (by omega), pk_un (by omega), pk_un (by omega), pk_un (by omega)]; exact upd_at (by omega)
        · rw [pk_un (by omega), pk_un (by omega), pk_un (by omega)]; exact upd_at (by omega)
        · rw [pk_un (by omega), pk_un (by omega)]; exact upd_at (by omega)
        · rw [pk_un (by omega)]; exact upd_at (by omega)
        · exact upd_at (by omega)
      · rw [i4 c q hc (by omega) h2]
        have hs : sr c ≠ 18 := by unfold sr; split <;> omega
        rw [e1 _ hs]
theorem imL (a : Nat) : ∀ (k j : Nat) (S : sT), (∀ r, r ≠ 18 → mImL a k j S r = S r) ∧ (∀ i, (i < 180 * a + 59 + j ∨ 180 * a + 59 + j + k ≤ i) → mImL a k j S 18 i = S 18 i) ∧ (∀ q, j ≤ q → q < j + k → mImL a k j S 18 (180 * a + 59 + q) = S 12 q)
  | 0, j, S => ⟨fun _ _ => rfl, fun _ _ => rfl, fun q h1 h2 => absurd h1 (by omega)⟩
  | k + 1, j, S => by
    unfold mImL
    have e1 : ∀ r, r ≠ 18 → mImR a j 59 12 S r = S r := fun r hr => va_up_ne _ _ hr
    have e2 : mImR a j 59 12 S 18 = upd (S 18) (180 * a + 59 + j) (S 12 j) := rfl
    generalize mImR a j 59 12 S = T1 at e1 e2 ⊢
    obtain ⟨i1, i2, i3⟩ := imL a k (j + 1) T1
    refine ⟨fun r hr => (i1 r hr).trans (e1 r hr), fun i hi => ?_, fun q h1 h2 => ?_⟩
    · rw [i2 i (by omega), e2, pk_un (by omega)]
    · by_cases cq : q = j
      · subst cq
        rw [i2 _ (by omega), e2, pk_us]
      · rw [i3 q (by omega) (by omega), e1 12 (by decide)]
def pic (f : Nat → Int32) (B : Nat) : sT := fun r i => if r = 30 then (if i = 0 then f B else if i = 3 then f (B + 1) else if i = 9 then f (B + 2) else if i = 1 then f (B + 3) else f (B + 4)) else if r = 12 then f (B + 59 + i) else if r = 2 then f (B + 5 + i) else if r = 3 then f (B + 11 + i) else if r = 1 then f (B + 17 + i) else f (B + 17 + 6 * (r - 3) + i)
theorem pic_c {f f' : Nat → Int32} {B : Nat} (h : ∀ i, B ≤ i → i < B + 171 → f' i = f i) : (∀ r, 1 ≤ r → r < 10 → ∀ j, j < 6 → pic f' B r j = pic f B r j) ∧ (∀ i, i < 112 → pic f' B 12 i = pic f B 12 i) ∧ (∀ i, (i < 4 ∨ i = 9) → pic f' B 30 i = pic f B 30 i) := by
  refine ⟨fun r h1 h2 j hj => ?_, fun i hi => h _ (by omega) (by omega), fun i hi => ?_⟩
  · unfold pic
    rw [if_neg (show ¬ r = 30 by omega), if_neg (show ¬ r = 12 by omega), if_neg (show ¬ r = 30 by omega), if_neg (show ¬ r = 12 by omega)]
    rw [h (B + 5 + j) (by omega) (by omega), h (B + 11 + j) (by omega) (by omega), h (B + 17 + j) (by omega) (by omega)]
    by_cases c : r = 1
    · rw [if_pos c, if_pos c]
    · by_cases c2 : r = 2
      · rw [if_pos c2, if_pos c2]
      · by_cases c3 : r = 3
        · rw [if_neg c2, if_pos c3, if_neg c2, if_pos c3]
        · rw [h (B + 17 + 6 * (r - 3) + j) (by omega) (by omega)]
  · unfold pic
    rw [if_pos rfl, if_pos rfl, h B (by omega) (by omega), h (B + 1) (by omega) (by omega), h (B + 2) (by omega) (by omega), h (B + 3) (by omega) (by omega), h (B + 4) (by omega) (by omega)]
theorem img_H (a : Nat) (S : sT) : mIm3 a (mIm2 a (mIm1 a (mIm0 a S))) 18 = upd (upd (upd (S 18) (180 * a) (S 30 0)) (180 * a + 1) (S 30 3)) (180 * a + 2) (S 30 9) ∧ mIm3 a (mIm2 a (mIm1 a (mIm0 a S))) 19 = upd (S 19) a 1 ∧ ∀ r, r ≠ 18 → r ≠ 19 → mIm3 a (mIm2 a (mIm1 a (mIm0 a S))) r = S r :=
  ⟨rfl, rfl, fun r h1 h2 => (va_up_ne _ _ h1).trans ((va_up_ne _ _ h1).trans ((va_up_ne _ _ h1).trans (va_up_ne _ _ h2)))⟩
theorem img_ag (a : Nat) (S : sT) : (∀ r, 1 ≤ r → r < 10 → ∀ j, j < 6 → pic (mImg S a 18) (180 * a) r j = S r j) ∧ (∀ i, i < 112 → pic (mImg S a 18) (180 * a) 12 i = S 12 i) ∧ (∀ i, (i < 4 ∨ i = 9) → pic (mImg S a 18) (180 * a) 30 i = S 30 i) ∧ (∀ i, (i < 180 * a ∨ 180 * a + 171 ≤ i) → mImg S a 18 i = S 18 i) ∧ mImg S a 19 = upd (S 19) a 1 ∧ ∀ r, r ≠ 18 → r ≠ 19 → mImg S a r = S r := by
  unfold mImg mImH
  obtain ⟨x1, x2, x3⟩ := img_H a S
  generalize mIm3 a (mIm2 a (mIm1 a (mIm0 a S))) = H0 at x1 x2 x3 ⊢
  obtain ⟨y1, y2, y3, y4, y5⟩ := lay_spec (r := 18) (a := 180 * a + 3) (by decide) (by decide) (by decide) H0
  generalize mLay 18 (180 * a + 3) H0 = H1 at y1 y2 y3 y4 y5 ⊢
  obtain ⟨z1, z2, -, z4⟩ := im6 a 6 0 H1 (by omega)
  generalize mIm6 a 6 0 H1 = H2 at z1 z2 z4 ⊢
  obtain ⟨w1, w2, w3⟩ := imL a 112 0 H2
  generalize mImL a 112 0 H2 = F at w1 w2 w3 ⊢
  have rv : ∀ c q, c < 7 → q < 6 → F 18 (180 * a + 17 + 6 * c + q) = S (sr c) q := fun c q hc hq => by
    have hs : sr c ≠ 18 ∧ sr c ≠ 19 := by unfold sr; constructor <;> (split <;> omega)
    rw [w2 _ (by omega), z4 c q hc (by omega) hq, y1 _ hs.1, x3 _ hs.1 hs.2]
  have lo : ∀ i, i < 180 * a + 17 → F 18 i = H1 18 i := fun i hi => by rw [w2 i (by omega), z2 i (by omega)]
  refine ⟨fun r h1 h2 j hj => ?_, fun i hi => ?_, fun i hi => ?_, fun i hi => ?_, ?_, fun r h1 h2 => ?_⟩
  · rcases (show r = 1 ∨ r = 2 ∨ r = 3 ∨ r = 4 ∨ r = 5 ∨ r = 6 ∨ r = 7 ∨ r = 8 ∨ r = 9 by omega) with rfl | rfl | rfl | rfl | rfl | rfl | rfl | rfl | rfl
    · exact rv 0 j (by omega) hj
    · show F 18 (180 * a + 3 + 2 + j) = S 2 j
      rw [lo _ (by omega), (y5 j hj).1, x3 2 (by decide) (by decide)]
    · show F 18 (180 * a + 3 + 8 + j) = S 3 j
      rw [lo _ (by omega), (y5 j hj).2, x3 3 (by decide) (by decide)]
    · exact rv 1 j (by omega) hj
    · exact rv 2 j (by omega) hj
    · exact rv 3 j (by omega) hj
    · exact rv 4 j (by omega) hj
    · exact rv 5 j (by omega) hj
    · exact rv 6 j (by omega) hj
  · show F 18 (180 * a + 59 + i) = S 12 i
    rw [w3 i (by omega) (by omega), z1 12 (by decide), y1 12 (by decide), x3 12 (by decide) (by decide)]
  · rcases (show i = 0 ∨ i = 1 ∨ i = 2 ∨ i = 3 ∨ i = 9 by omega) with rfl | rfl | rfl | rfl | rfl
    · show F 18 (180 * a) = S 30 0
      rw [lo _ (by omega), y2 _ (by omega), x1, pk_un (by omega), pk_un (by omega), pk_us]
    · show F 18 (180 * a + 3) = S 30 1
      rw [lo _ (by omega), y3, x3 30 (by decide) (by decide)]
    · show F 18 (180 * a + 3 + 1) = S 30 2
      rw [lo _ (by omega), y4, x3 30 (by decide) (by decide)]
    · show F 18 (180 * a + 1) = S 30 3
      rw [lo _ (by omega), y2 _ (by omega), x1, pk_un (by omega), pk_us]
    · show F 18 (180 * a + 2) = S 30 9
      rw [lo _ (by omega), y2 _ (by omega), x1, pk_us]
  · rw [w2 i (by omega), z2 i (by omega), y2 i (by omega), x1, pk_un (by omega), pk_un (by omega), pk_un (by omega)]
  · rw [w1 19 (by decide), z1 19 (by decide), y1 19 (by decide), x2]
  · rw [w1 r h1, z1 r h1, y1 r h1, x3 r h1 h2]
theorem fr6_1 (a j : Nat) (S : sT) : (∀ r, r ≠ 1 → (r < 4 ∨ 9 < r) → (mFrR a j 53 9 (mFrR a j 47 8 (mFrR a j 41 7 (mFrR a j 35 6 (mFrR a j 29 5 (mFrR a j 23 4 (mFrR a j 17 1 S))))))) r = S r) ∧ (∀ c, c < 7 → (mFrR a j 53 9 (mFrR a j 47 8 (mFrR a j 41 7 (mFrR a j 35 6 (mFrR a j 29 5 (mFrR a j 23 4 (mFrR a j 17 1 S))))))) (sr c) = upd (S (sr c)) j (S 18 (180 * a + 17 + 6 * c + j))) := by
  refine ⟨fun r h1 h2 => (va_up_ne _ _ (by omega)).trans ((va_up_ne _ _ (by omega)).trans ((va_up_ne _ _ (by omega)).trans ((va_up_ne _ _ (by omega)).trans ((va_up_ne _ _ (by omega)).trans ((va_up_ne _ _ (by omega)).trans (va_up_ne _ _ h1)))))), fun c hc => ?_⟩
  rcases (show c = 0 ∨ c = 1 ∨ c = 2 ∨ c = 3 ∨ c = 4 ∨ c = 5 ∨ c = 6 by omega) with rfl | rfl | rfl | rfl | rfl | rfl | rfl <;> rfl
theorem sr_ne (c : Nat) (hc : c < 7) : sr c ≠ 18 ∧ sr c ≠ 12 ∧ sr c ≠ 30 ∧ sr c ≠ 2 ∧ sr c ≠ 3 ∧ sr c < 10 := by
  unfold sr
  split <;> omega
theorem fr6 (a : Nat) : ∀ (k j : Nat) (S : sT), j + k = 6 → (∀ r, r ≠ 1 → (r < 4 ∨ 9 < r) → mFr6 a k j S r = S r) ∧ (∀ c q, c < 7 → q < j → mFr6 a k j S (sr c) q = S (sr c) q) ∧ (∀ c q, c < 7 → j ≤ q → q < 6 → mFr6 a k j S (sr c) q = S 18 (180 * a + 17 + 6 * c + q))
  | 0, j, S, hj => ⟨fun _ _ _ => rfl, fun _ _ _ _ => rfl, fun c q _ h1 h2 => absurd h1 (by omega)⟩
  | k + 1, j, S, hj => by
    unfold mFr6
    obtain ⟨e1, e2⟩ := fr6_1 a j S
    generalize (mFrR a j 53 9 (mFrR a j 47 8 (mFrR a j 41 7 (mFrR a j 35 6 (mFrR a j 29 5 (mFrR a j 23 4 (mFrR a j 17 1 S))))))) = T1 at e1 e2 ⊢
    obtain ⟨i1, i3, i4⟩ := fr6 a k (j + 1) T1 (by omega)
    refine ⟨fun r h1 h2 => (i1 r h1 h2).trans (e1 r h1 h2), fun c q hc hq => ?_, fun c q hc h1 h2 => ?_⟩
    · rw [i3 c q hc (by omega), e2 c hc, pk_un (by omega)]
    · by_cases cq : q = j
      · subst cq
        rw [i3 c q hc (by omega), e2 c hc, pk_us]
      · rw [i4 c q hc (by omega) h2, e1 18 (by decide) (by omega)]
theorem frL (a : Nat) : ∀ (k j : Nat) (S : sT), (∀ r, r ≠ 12 → mFrL a k j S r = S r) ∧ (∀ i, (i < j ∨ j + k ≤ i) → mFrL a k j S 12 i = S 12 i) ∧ (∀ q, j ≤ q → q < j + k → mFrL a k j S 12 q = S 18 (180 * a + 59 + q))
  | 0, j, S => ⟨fun _ _ => rfl, fun _ _ => rfl, fun q h1 h2 => absurd h1 (by omega)⟩
  | k + 1, j, S => by
    unfold mFrL
    have e1 : ∀ r, r ≠ 12 → mFrR a j 59 12 S r = S r := fun r hr => va_up_ne _ _ hr
    have e2 : mFrR a j 59 12 S 12 = upd (S 12) j (S 18 (180 * a + 59 + j)) := rfl
    generalize mFrR a j 59 12 S = T1 at e1 e2 ⊢
    obtain ⟨i1, i2, i3⟩ := frL a k (j + 1) T1
    refine ⟨fun r hr => (i1 r hr).trans (e1 r hr), fun i hi => ?_, fun q h1 h2 => ?_⟩
    · rw [i2 i (by omega), e2, pk_un (by omega)]
    · by_cases cq : q = j
      · subst cq
        rw [i2 _ (by omega), e2, pk_us]
      · rw [i3 q (by omega) (by omega), e1 18 (by decide)]
theorem frm_H (a : Nat) (S : sT) : mFr3 a (mFr2 a (mFr1 a S)) 30 = upd (upd (upd (S 30) 0 (S 18 (180 * a))) 3 (S 18 (180 * a + 1))) 9 (S 18 (180 * a + 2)) ∧ ∀ r, r ≠ 30 → mFr3 a (mFr2 a (mFr1 a S)) r = S r :=
  ⟨rfl, fun r h1 => (va_up_ne _ _ h1).trans ((va_up_ne _ _ h1).trans (va_up_ne _ _ h1))⟩
theorem frm_ag (a : Nat) (S : sT) : (∀ r, 1 ≤ r → r < 10 → ∀ j, j < 6 → mFrm S a r j = pic (S 18) (180 * a) r j) ∧ (∀ i, i < 112 → mFrm S a 12 i = pic (S 18) (180 * a) 12 i) ∧ (∀ i, (i < 4 ∨ i = 9) → mFrm S a 30 i = pic (S 18) (180 * a) 30 i) ∧ mSame S (mFrm S a) := by
  unfold mFrm mFrH
  obtain ⟨x1, x3⟩ := frm_H a S
  generalize mFr3 a (mFr2 a (mFr1 a S)) = H0 at x1 x3 ⊢
  obtain ⟨y1, y2, y3, y4, y5⟩ := tak_spec (r := 18) (a := 180 * a + 3) (by decide) (by decide) (by decide) H0
  rw [x3 18 (by decide)] at y3 y4 y5
  generalize mTak 18 (180 * a + 3) H0 = H1 at y1 y2 y3 y4 y5 ⊢
  obtain ⟨z1, -, z4⟩ := fr6 a 6 0 H1 (by omega)
  generalize mFr6 a 6 0 H1 = H2 at z1 z4 ⊢
  obtain ⟨w1, w2, w3⟩ := frL a 112 0 H2
  generalize mFrL a 112 0 H2 = F at w1 w2 w3 ⊢
  have h18 : H1 18 = S 18 := (y1 18 (by decide) (by decide) (by decide)).trans (x3 18 (by decide))
  have rv : ∀ c q, c < 7 → q < 6 → F (sr c) q = S 18 (180 * a + 17 + 6 * c + q) := fun c q hc hq => by
    rw [w1 _ (sr_ne c hc).2.1, z4 c q hc (by omega) hq, h18]
  have ot : ∀ r, r ≠ 1 → (r < 4 ∨ 9 < r) → r ≠ 2 → r ≠ 3 → r ≠ 30 → r ≠ 12 → F r = S r := fun r h1 h2 h3 h4 h5 h6 => by
    rw [w1 r h6, z1 r h1 h2, y1 r h3 h4 h5, x3 r h5]
  have h30 : ∀ i, F 30 i = H1 30 i := fun i => by rw [w1 30 (by decide), z1 30 (by decide) (by omega)]
  refine ⟨fun r h1 h2 j hj => ?_, fun i hi => ?_, fun i hi => ?_, ot 0 (by decide) (by omega) (by decide) (by decide) (by decide) (by decide), ot 10 (by decide) (by omega) (by decide) (by decide) (by decide) (by decide), ?_, ot 18 (by decide) (by omega) (by decide) (by decide) (by decide) (by decide), ot 19 (by decide) (by omega) (by decide) (by decide) (by decide) (by decide)⟩
  · rcases (show r = 1 ∨ r = 2 ∨ r = 3 ∨ r = 4 ∨ r = 5 ∨ r = 6 ∨ r = 7 ∨ r = 8 ∨ r = 9 by omega) with rfl | rfl | rfl | rfl | rfl | rfl | rfl | rfl | rfl
    · exact rv 0 j (by omega) hj
    · show F 2 j = S 18 (180 * a + 3 + 2 + j)
      rw [w1 2 (by decide), z1 2 (by decide) (by omega), (y5 j hj).1]
    · show F 3 j = S 18 (180 * a + 3 + 8 + j)
      rw [w1 3 (by decide), z1 3 (by decide) (by omega), (y5 j hj).2]
    · exact rv 1 j (by omega) hj
    · exact rv 2 j (by omega) hj
    · exact rv 3 j (by omega) hj
    · exact rv 4 j (by omega) hj
    · exact rv 5 j (by omega) hj
    · exact rv 6 j (by omega) hj
  · show F 12 i = S 18 (180 * a + 59 + i)
    rw [w3 i (by omega) (by omega), z1 18 (by decide) (by omega), h18]
  · rcases (show i = 0 ∨ i = 1 ∨ i = 2 ∨ i = 3 ∨ i = 9 by omega) with rfl | rfl | rfl | rfl | rfl
    · show F 30 0 = S 18 (180 * a)
      rw [h30, y2 0 (by decide) (by decide), x1, pk_un (by omega), pk_un (by omega), pk_us]
    · show F 30 1 = S 18 (180 * a + 3)
      rw [h30, y3]
    · show F 30 2 = S 18 (180 * a + 3 + 1)
      rw [h30, y4]
    · show F 30 3 = S 18 (180 * a + 1)
      rw [h30, y2 3 (by decide) (by decide), x1, pk_un (by omega), pk_us]
    · show F 30 9 = S 18 (180 * a + 2)
      rw [h30, y2 9 (by decide) (by decide), x1, pk_us]
  · rw [h30, y2 4 (by decide) (by decide), x1, pk_un (by omega), pk_un (by omega), pk_un (by omega)]
/-- the images: g where the class has them, Im what they hold -/
def iRel (g : Nat → Option Nat) (Im : Nat → sT) (S : sT) : Prop := ∀ a, a < 2 → (g a = none → S 19 a = 0) ∧ (∀ s, g a = some s → ¬ S 19 a = 0 ∧ ∃ M N u, tRel (Im a) (pic (S 18) (180 * a)) M N u)
theorem iRel.of {g : Nat → Option Nat} {Im : Nat → sT} {S S' : sT} (h : iRel g Im S) (h18 : S' 18 = S 18) (h19 : S' 19 = S 19) : iRel g Im S' := fun a ha => by
  rw [h18, h19]; exact h a ha
theorem iRel_img {g : Nat → Option Nat} {Im : Nat → sT} {T S : sT} {M N u : Nat} (h : iRel g Im S) (h1 : tRel T S M N u) {a : Nat} (s : Nat) (I : sT) : iRel (va_up g a (some s)) (va_up Im a (trCopyF T I)) (mImg S a) := by
  obtain ⟨x1, x2, x3, x4, x5, x6⟩ := img_ag a S
  intro b hb
  by_cases c : b = a
  · subst c
    rw [va_up_self, va_up_self, x5]
    refine ⟨fun q => absurd q (by simp), fun s' _ => ⟨by rw [pk_us]; decide, M, N, u, ?_⟩⟩
    exact tRel_congrS (copy_rel h1) x1 x2 x3
  · rw [va_up_ne _ _ c, va_up_ne _ _ c, x5, pk_un c]
    refine ⟨(h b hb).1, fun s' hs => ⟨((h b hb).2 s' hs).1, ?_⟩⟩
    obtain ⟨M', N', u', q⟩ := ((h b hb).2 s' hs).2
    obtain ⟨p1, p2, p3⟩ := pic_c (f := S 18) (f' := mImg S a 18) (B := 180 * b) (fun i h1 h2 => x4 i (by omega))
    exact ⟨M', N', u', tRel_congrS q p1 p2 p3⟩
section TIE8
variable {C T A R V S : sT} {L Lm : Nat → Int64} {M N u t : Nat}
theorem tie_img (h : rel (C, L, T, A, R, V) S Lm M N u t) {a : Nat} : rel (C, L, T, A, R, V) (mImg S a) Lm M N u t := by
  obtain ⟨x1, x2, x3, x4, x5, x6⟩ := img_ag a S
  obtain ⟨h1, ⟨a1, a2, a3, a4⟩, h3, h4, h5, h6⟩ := h
  have e30 : mImg S a 30 = S 30 := x6 30 (by decide) (by decide)
  have e0 : mImg S a 0 = S 0 := x6 0 (by decide) (by decide)
  refine ⟨tRel_congrS h1 (fun r q1 q2 j _ => by rw [x6 r (by omega) (by omega)]) (fun i _ => by rw [x6 12 (by decide) (by decide)]) (fun i _ => by rw [e30]), ⟨a1, a2, ?_, ?_⟩, h3, ?_, ?_, ?_⟩
  · rw [e30]; exact a3
  · intro j hj
    rw [x6 10 (by decide) (by decide)]; exact a4 j hj
  · rw [e0]; exact h4
  · rw [e0]; exact h5
  · rw [e0]; exact h6
theorem tie_frm (h : rel (C, L, T, A, R, V) S Lm M N u t) {a : Nat} {I : sT} {M' N' u' : Nat} (hI : tRel I (pic (S 18) (180 * a)) M' N' u') : tieO (1, C, L, trCopyF I T, A, R, V) (1, mFrm S a, Lm) S := by
  obtain ⟨x1, x2, x3, x4⟩ := frm_ag a S
  exact tie_T h (tRel_congrS (copy_rel hI) x1 x2 x3) x4 rfl
end TIE8
