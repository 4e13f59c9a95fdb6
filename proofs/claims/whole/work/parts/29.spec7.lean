/-! THE REFERENCE'S READER, on places: x the text, t its length, a where it stands, c people read, li who lied, v the number, o what was read of each. -/
abbrev PS : Type := Nat × Nat × Int32 × Int32 × (Nat → Int32)
def mP (B : sT) (a c : Nat) (li v : Int32) (o : Nat → Int32) : sT := sA (sA B 30 (upd (upd (upd (upd (B 30) 5 (nI a)) 6 (nI c)) 7 li) 8 v)) 11 o
def mQ (B : sT) (P : PS) : sT := mP B P.1 P.2.1 P.2.2.1 P.2.2.2.1 P.2.2.2.2
theorem mP_row30 (B : sT) (a c : Nat) (li v : Int32) (o : Nat → Int32) : mP B a c li v o 30 = upd (upd (upd (upd (B 30) 5 (nI a)) 6 (nI c)) 7 li) 8 v := rfl
theorem mP_ext {B S : sT} {a c : Nat} {li v : Int32} {o : Nat → Int32} (h30 : ∀ i, S 30 i = mP B a c li v o 30 i) (h11 : S 11 = o) (hr : ∀ r, r ≠ 30 → r ≠ 11 → S r = B r) : S = mP B a c li v o := by
  funext r
  by_cases h1 : r = 30
  · subst h1; funext i; exact h30 i
  · by_cases h2 : r = 11
    · subst h2; exact h11
    · rw [hr r h1 h2]
      show B r = va_up (va_up B 30 _) 11 _ r
      rw [va_up_ne _ _ h2, va_up_ne _ _ h1]
theorem mP_rr {B : sT} {a c : Nat} {li v : Int32} {o : Nat → Int32} {r : Nat} (h1 : r ≠ 30) (h2 : r ≠ 11) : mP B a c li v o r = B r := by
  show va_up (va_up B 30 _) 11 _ r = B r
  rw [va_up_ne _ _ h2, va_up_ne _ _ h1]
theorem mP_a {B : sT} {a a' c : Nat} {li v x : Int32} {o : Nat → Int32} (hx : x = nI a') : sS 30 (mP B a c li v o) 5 x = mP B a' c li v o := by
  subst hx
  refine mP_ext (fun i => ?_) rfl (fun r h1 h2 => (va_up_ne _ _ h1).trans (mP_rr h1 h2))
  show upd (upd (upd (upd (upd (B 30) 5 (nI a)) 6 (nI c)) 7 li) 8 v) 5 (nI a') i = upd (upd (upd (upd (B 30) 5 (nI a')) 6 (nI c)) 7 li) 8 v i
  unfold upd
  by_cases h5 : i = 5
  · subst h5; rfl
  · simp only [if_neg h5]
theorem mP_c {B : sT} {a c c' : Nat} {li v x : Int32} {o : Nat → Int32} (hx : x = nI c') : sS 30 (mP B a c li v o) 6 x = mP B a c' li v o := by
  subst hx
  refine mP_ext (fun i => ?_) rfl (fun r h1 h2 => (va_up_ne _ _ h1).trans (mP_rr h1 h2))
  show upd (upd (upd (upd (upd (B 30) 5 (nI a)) 6 (nI c)) 7 li) 8 v) 6 (nI c') i = upd (upd (upd (upd (B 30) 5 (nI a)) 6 (nI c')) 7 li) 8 v i
  unfold upd
  by_cases h5 : i = 6
  · subst h5; rfl
  · simp only [if_neg h5]
theorem mP_l {B : sT} {a c : Nat} {li v x : Int32} {o : Nat → Int32} : sS 30 (mP B a c li v o) 7 x = mP B a c x v o := by
  refine mP_ext (fun i => ?_) rfl (fun r h1 h2 => (va_up_ne _ _ h1).trans (mP_rr h1 h2))
  show upd (upd (upd (upd (upd (B 30) 5 (nI a)) 6 (nI c)) 7 li) 8 v) 7 x i = upd (upd (upd (upd (B 30) 5 (nI a)) 6 (nI c)) 7 x) 8 v i
  unfold upd
  by_cases h5 : i = 7
  · subst h5; rfl
  · simp only [if_neg h5]
theorem mP_v {B : sT} {a c : Nat} {li v x : Int32} {o : Nat → Int32} : sS 30 (mP B a c li v o) 8 x = mP B a c li x o := by
  refine mP_ext (fun i => ?_) rfl (fun r h1 h2 => (va_up_ne _ _ h1).trans (mP_rr h1 h2))
  show upd (upd (upd (upd (upd (B 30) 5 (nI a)) 6 (nI c)) 7 li) 8 v) 8 x i = upd (upd (upd (upd (B 30) 5 (nI a)) 6 (nI c)) 7 li) 8 x i
  unfold upd
  by_cases h5 : i = 8
  · subst h5; rfl
  · simp only [if_neg h5]
theorem mP_o {B : sT} {a c : Nat} {li v : Int32} {o o' : Nat → Int32} : sA (mP B a c li v o) 11 o' = mP B a c li v o' := by
  refine mP_ext (fun i => rfl) rfl (fun r h1 h2 => (va_up_ne _ _ h2).trans (mP_rr h1 h2))
theorem is_moP {h : ah} {m : Nat} {S S' : sT} {L : Nat → Int64} (e : S = S') (H : is_mo h m S L) : is_mo h m S' L := e ▸ H
theorem le_ta {x : Int32} {t a : Nat} (ht : x = nI t) (h6 : t ≤ 150) (ha : a ≤ 1000) : x ≤ nI a ↔ t ≤ a := by
  rw [ht]
  exact nI_leI (by omega) (by omega)
theorem iW_le {x lo hi : Int32} (h : ¬ iW x lo hi = 0) : lo.toInt ≤ x.toInt ∧ x.toInt ≤ hi.toInt := by
  unfold iW at h
  by_cases h1 : x < lo
  · rw [if_pos h1] at h; exact absurd rfl h
  · rw [if_neg h1] at h
    by_cases h2 : hi < x
    · rw [if_pos h2] at h; exact absurd rfl h
    · rw [fa_lt] at h1 h2; omega
theorem iW_0 {x lo hi : Int32} (h : iW x lo hi = 0) : x.toInt < lo.toInt ∨ hi.toInt < x.toInt := by
  unfold iW at h
  by_cases h1 : x < lo
  · rw [fa_lt] at h1; exact Or.inl h1
  · rw [if_neg h1] at h
    by_cases h2 : hi < x
    · rw [fa_lt] at h2; exact Or.inr h2
    · rw [if_neg h2] at h; exact absurd h (by decide)
theorem iW_eq0 {x lo hi : Int32} (h : x.toInt < lo.toInt ∨ hi.toInt < x.toInt) : iW x lo hi = 0 := by
  unfold iW
  by_cases h1 : x < lo
  · rw [if_pos h1]
  · rw [if_neg h1]
    refine if_pos ?_
    rw [fa_lt] at h1 ⊢
    omega
theorem iW_eq1 {x lo hi : Int32} (h1 : lo.toInt ≤ x.toInt) (h2 : x.toInt ≤ hi.toInt) : iW x lo hi = 1 := by
  unfold iW
  rw [if_neg (by rw [fa_lt]; omega), if_neg (by rw [fa_lt]; omega)]
theorem nar01 {x : Int32} (h : x = 0 ∨ x = 1) : narrow .boolean (.int x) = .int x := by
  rcases h with rfl | rfl <;> rfl
section PR
variable (x : Nat → Int32) (t : Nat)
def pC (a : Nat) : Int32 := if t ≤ a then -1 else x a
def pSk : Nat → Nat → Nat
  | 0, a => a
  | k + 1, a => if pC x t a = 32 then pSk k (a + 1) else a
def pS (a : Nat) : Nat := pSk x t (t - a) a
def pWs (a : Nat) : Nat → Nat → Nat
  | 0, j => j
  | k + 1, j => if iW (x (a + j)) 97 122 = 0 then j else pWs a k (j + 1)
def pW (a : Nat) : Nat := pWs x a (t - a) 0
def pSp (a : Nat) (b1 b2 b3 b4 : Int32) : Int32 := if x (a + 0) = b1 then (if x (a + 1) = b2 then (if x (a + 2) = b3 then (if x (a + 3) = b4 then 1 else 0) else 0) else 0) else 0
def pWdC (a n : Nat) : Int32 := if nI n = 3 then (if x (a + 0) = 108 then (if x (a + 1) = 105 then (if x (a + 2) = 101 then 3 else -1) else -1) else -1) else -1
def pWdB (a n : Nat) : Int32 := if nI n = 5 then (if pSp x a 104 97 110 100 = 0 then pWdC x a n else if x (a + 4) = 115 then 2 else pWdC x a n) else pWdC x a n
def pWdA (a n : Nat) : Int32 := if nI n = 3 then (if x (a + 0) = 111 then (if x (a + 1) = 110 then (if x (a + 2) = 101 then 1 else pWdB x a n) else pWdB x a n) else pWdB x a n) else pWdB x a n
def pWdN (a n : Nat) : Int32 := if nI n = 4 then (if pSp x a 103 111 108 100 = 0 then pWdA x a n else 0) else pWdA x a n
def pWd (a : Nat) : Int32 := pWdN x a (pW x t a)
def pDg (a : Nat) : Nat → Nat → Int32 → Nat × Int32
  | 0, j, w => (j, w)
  | k + 1, j, w => if iW (x (a + j)) 48 57 = 0 then (j, w) else if 2 ≤ nI j then pDg a k (j + 1) w else pDg a k (j + 1) (10 * w + x (a + j) - 48)
def pNz (s : Nat) (v lo hi : Int32) (r : Nat × Int32) : Int32 × Nat × Int32 := if iW (nI r.1) 1 2 = 0 then (0, s, v) else if iW r.2 lo hi = 0 then (0, s, v) else (1, s + r.1, r.2)
def pNm (a : Nat) (v lo hi : Int32) : Int32 × Nat × Int32 := pNz (pS x t a) v lo hi (pDg x (pS x t a) (t - pS x t a) 0 0)
def pE (a : Nat) : Int32 × Nat := if pC x t (pS x t a) = 59 then (1, pS x t a + 1) else (0, pS x t a)
def pBd (j : Nat) : Int32 := if nI j = 0 then 5 else if nI j = 1 then 12 else if nI j = 2 then 30 else 20
def pOn (c : Nat) : Nat → Nat → Nat → Int32 → (Nat → Int32) → Bool × Nat × Int32 × (Nat → Int32)
  | 0, _, a, v, o => (true, a, v, o)
  | k + 1, j, a, v, o => if (pNm x t a v 0 (pBd j)).1 = 0 then (false, (pNm x t a v 0 (pBd j)).2.1, (pNm x t a v 0 (pBd j)).2.2, o) else pOn c k (j + 1) (pNm x t a v 0 (pBd j)).2.1 (pNm x t a v 0 (pBd j)).2.2 (upd o (5 * c + j) (pNm x t a v 0 (pBd j)).2.2)
def pOneE (c : Nat) (li : Int32) (r : Bool × Nat × Int32 × (Nat → Int32)) : Int32 × PS := cond r.1 ((pE x t r.2.1).1, ((pE x t r.2.1).2, c + 1, li, r.2.2.1, upd r.2.2.2 (5 * c + 4) 0)) (0, (r.2.1, c, li, r.2.2.1, r.2.2.2))
def pOne (P : PS) : Int32 × PS := pOneE x t P.2.1 P.2.2.1 (pOn x t P.2.1 4 0 P.1 P.2.2.2.1 P.2.2.2.2)
def pHl (c : Nat) (p : Int32) : Nat → Nat → Int32 → Int32 → Bool × Nat × Int32 × Int32
  | 0, a, v, s => (true, a, v, s)
  | k + 1, a, v, s => if iW (pC x t a) 48 57 = 0 then (true, a, v, s) else if (pNm x t a v 0 (nI c - 1)).1 = 0 then (false, (pNm x t a v 0 (nI c - 1)).2.1, (pNm x t a v 0 (nI c - 1)).2.2, s) else if (pNm x t a v 0 (nI c - 1)).2.2 = p then (false, a, (pNm x t a v 0 (nI c - 1)).2.2, s) else pHl c p k (pS x t (pNm x t a v 0 (nI c - 1)).2.1) (pNm x t a v 0 (nI c - 1)).2.2 (s ||| (1 <<< ((pNm x t a v 0 (nI c - 1)).2.2 &&& 31)))
def pHnE (c : Nat) (li : Int32) (o : Nat → Int32) (p : Int32) (r : Bool × Nat × Int32 × Int32) : Int32 × PS := cond r.1 ((pE x t r.2.1).1, ((pE x t r.2.1).2, c, li, r.2.2.1, upd o (5 * p.toNatClampNeg + 4) r.2.2.2)) (0, (r.2.1, c, li, r.2.2.1, o))
def pHnN (c : Nat) (li : Int32) (o : Nat → Int32) (r : Int32 × Nat × Int32) : Int32 × PS := if r.1 = 0 then (0, (r.2.1, c, li, r.2.2, o)) else pHnE x t c li o r.2.2 (pHl x t c r.2.2 (t - pS x t r.2.1) (pS x t r.2.1) r.2.2 0)
def pHn (P : PS) : Int32 × PS := pHnN x t P.2.1 P.2.2.1 P.2.2.2.2 (pNm x t P.1 P.2.2.2.1 0 (nI P.2.1 - 1))
def pLiO (o : Nat → Int32) (q : Nat) (b : Int32) : Nat → Int32 := upd o (5 * q + 1) (if b ≤ o (5 * q + 1) then o (5 * q + 1) - b else 0)
def pLiE (c : Nat) (li : Int32) (o : Nat → Int32) (p : Int32) (r : Int32 × Nat × Int32) : Int32 × PS := if r.1 = 0 then (0, (r.2.1, c, li, r.2.2, o)) else ((pE x t r.2.1).1, ((pE x t r.2.1).2, c, li ||| (1 <<< (p &&& 31)), r.2.2, pLiO o p.toNatClampNeg (kL (o (5 * p.toNatClampNeg)) r.2.2)))
def pLiN (c : Nat) (li : Int32) (o : Nat → Int32) (r : Int32 × Nat × Int32) : Int32 × PS := if r.1 = 0 then (0, (r.2.1, c, li, r.2.2, o)) else pLiE x t c li o r.2.2 (pNm x t r.2.1 r.2.2 1 4)
def pLi (P : PS) : Int32 × PS := pLiN x t P.2.1 P.2.2.1 P.2.2.2.2 (pNm x t P.1 P.2.2.2.1 0 (nI P.2.1 - 1))
def pItD (w : Int32) (P : PS) : Int32 × PS := if w = 1 then pOne x t P else if w = 2 then pHn x t P else pLi x t P
def pItG (w : Int32) (P : PS) : Int32 × PS := if w = 2 then pItD x t w (P.1 + 5, P.2) else pItD x t w (P.1 + 3, P.2)
def pItW (w : Int32) (P : PS) : Int32 × PS := if w < 1 then (0, P) else if w = 1 then (if nI P.2.1 = 6 then (0, P) else pItG x t w P) else pItG x t w P
def pIt (P : PS) : Int32 × PS := pItW x t (pWd x t P.1) P
def pSkP (P : PS) : PS := (pS x t P.1, P.2)
def pGl : Nat → PS → Int32 → Int32 × PS
  | 0, P, i => (i, P)
  | k + 1, P, i => if t ≤ P.1 then (i, P) else if (pIt x t P).1 = 0 then (-1, (pIt x t P).2) else pGl k (pSkP x t (pIt x t P).2) (i + 1)
def pGE (P : PS) (e : Int32 × Nat) : Int32 × PS := if e.1 = 0 then (-1, (e.2, P.2)) else pGl x t (t - pS x t e.2) (pSkP x t (e.2, P.2)) 1
def pGd (v : Int32) (o : Nat → Int32) : Int32 × PS := if pWd x t (pS x t 0) = 0 then pGE x t (0, 0, 0, v, o) (pE x t (pS x t 0 + 4)) else (-1, (pS x t 0, 0, 0, v, o))
end PR
theorem pC_ge {x : Nat → Int32} {t a : Nat} (h : t ≤ a) : pC x t a = -1 := if_pos h
theorem pC_lt {x : Nat → Int32} {t a : Nat} (h : a < t) : pC x t a = x a := if_neg (by omega)
theorem pSk_ge (x : Nat → Int32) (t : Nat) : ∀ k a, a ≤ pSk x t k a
  | 0, a => Nat.le_refl a
  | k + 1, a => by
    unfold pSk
    by_cases h : pC x t a = 32
    · rw [if_pos h]; exact Nat.le_trans (Nat.le_succ a) (pSk_ge x t k (a + 1))
    · rw [if_neg h]; exact Nat.le_refl a
theorem pSk_le (x : Nat → Int32) (t : Nat) : ∀ k a, pSk x t k a ≤ a + k
  | 0, a => Nat.le_refl a
  | k + 1, a => by
    unfold pSk
    by_cases h : pC x t a = 32
    · rw [if_pos h]; have := pSk_le x t k (a + 1); omega
    · rw [if_neg h]; omega
theorem pS_ge (x : Nat → Int32) (t a : Nat) : a ≤ pS x t a := pSk_ge x t _ a
theorem pS_le (x : Nat → Int32) (t a : Nat) : pS x t a ≤ a + (t - a) := pSk_le x t _ a
theorem pWs_le (x : Nat → Int32) (a : Nat) : ∀ k j, pWs x a k j ≤ j + k
  | 0, j => Nat.le_refl j
  | k + 1, j => by
    unfold pWs
    by_cases h : iW (x (a + j)) 97 122 = 0
    · rw [if_pos h]; omega
    · rw [if_neg h]; have := pWs_le x a k (j + 1); omega
theorem pW_le (x : Nat → Int32) (t a : Nat) : pW x t a ≤ t - a := by
  have := pWs_le x a (t - a) 0
  unfold pW
  omega
theorem pDg_le (x : Nat → Int32) (a : Nat) : ∀ k j w, (pDg x a k j w).1 ≤ j + k
  | 0, j, _ => Nat.le_refl j
  | k + 1, j, w => by
    unfold pDg
    by_cases h : iW (x (a + j)) 48 57 = 0
    · rw [if_pos h]; show j ≤ _; omega
    · rw [if_neg h]
      by_cases h2 : 2 ≤ nI j
      · rw [if_pos h2]; have := pDg_le x a k (j + 1) w; omega
      · rw [if_neg h2]; have := pDg_le x a k (j + 1) (10 * w + x (a + j) - 48); omega
theorem pNm_ok {x : Nat → Int32} {t a : Nat} {v lo hi : Int32} (ht : t ≤ 150) (h : ¬ (pNm x t a v lo hi).1 = 0) : a < (pNm x t a v lo hi).2.1 ∧ (pNm x t a v lo hi).2.1 ≤ t ∧ ¬ iW (pNm x t a v lo hi).2.2 lo hi = 0 := by
  have hs := pS_ge x t a
  have hd := pDg_le x (pS x t a) (t - pS x t a) 0 0
  unfold pNm at h ⊢
  generalize pDg x (pS x t a) (t - pS x t a) 0 0 = r at h hd ⊢
  unfold pNz at h ⊢
  by_cases h1 : iW (nI r.1) 1 2 = 0
  · rw [if_pos h1] at h; exact absurd rfl h
  · rw [if_neg h1] at h ⊢
    have hn := iW_le h1
    rw [nI_toInt (by omega)] at hn
    have e1 : (1 : Int32).toInt = 1 := by decide
    by_cases h2 : iW r.2 lo hi = 0
    · rw [if_pos h2] at h; exact absurd rfl h
    · rw [if_neg h2]
      refine ⟨?_, ?_, h2⟩
      · show a < pS x t a + r.1; omega
      · show pS x t a + r.1 ≤ t; omega
theorem pNm_le {x : Nat → Int32} {t a : Nat} {v lo hi : Int32} (ht : t ≤ 150) (ha : a ≤ 200) : (pNm x t a v lo hi).2.1 ≤ 200 := by
  by_cases h : (pNm x t a v lo hi).1 = 0
  · have hs := pS_le x t a
    unfold pNm at h ⊢
    generalize pDg x (pS x t a) (t - pS x t a) 0 0 = r at h ⊢
    unfold pNz at h ⊢
    by_cases h1 : iW (nI r.1) 1 2 = 0
    · rw [if_pos h1]; show pS x t a ≤ 200; omega
    · rw [if_neg h1] at h ⊢
      by_cases h2 : iW r.2 lo hi = 0
      · rw [if_pos h2]; show pS x t a ≤ 200; omega
      · rw [if_neg h2] at h; exact absurd (show (1 : Int32) = 0 from h) (by decide)
  · have := (pNm_ok ht h).2.1; omega
theorem pE_le {x : Nat → Int32} {t a : Nat} (ht : t ≤ 150) (ha : a ≤ 200) : (pE x t a).2 ≤ 200 := by
  have hs := pS_le x t a
  unfold pE
  by_cases h : pC x t (pS x t a) = 59
  · rw [if_pos h]
    show pS x t a + 1 ≤ 200
    rcases Nat.lt_or_ge (pS x t a) t with q | q
    · omega
    · rw [pC_ge q] at h; exact absurd h (by decide)
  · rw [if_neg h]
    show pS x t a ≤ 200
    omega
theorem pE_ge (x : Nat → Int32) (t a : Nat) : a ≤ (pE x t a).2 := by
  have hs := pS_ge x t a
  unfold pE
  by_cases h : pC x t (pS x t a) = 59
  · rw [if_pos h]; show a ≤ pS x t a + 1; omega
  · rw [if_neg h]; exact hs
theorem pE_01 (x : Nat → Int32) (t a : Nat) : (pE x t a).1 = 0 ∨ (pE x t a).1 = 1 := by
  unfold pE
  by_cases h : pC x t (pS x t a) = 59
  · rw [if_pos h]; exact Or.inr rfl
  · rw [if_neg h]; exact Or.inl rfl
theorem pNm_in {x : Nat → Int32} {t a c : Nat} {v : Int32} (ht : t ≤ 150) (hc : c ≤ 6) (h : ¬ (pNm x t a v 0 (nI c - 1)).1 = 0) : ∃ q : Nat, q < c ∧ (pNm x t a v 0 (nI c - 1)).2.2 = nI q := by
  obtain ⟨-, -, h3⟩ := pNm_ok ht h
  generalize (pNm x t a v 0 (nI c - 1)).2.2 = y at h3 ⊢
  have h4 := iW_le h3
  have e0 : (0 : Int32).toInt = 0 := by decide
  rcases Nat.eq_zero_or_pos c with e | e
  · subst e
    have e1 : (nI 0 - 1).toInt = -1 := by decide
    omega
  · rw [nI_pr e, nI_toInt (by omega)] at h4
    obtain ⟨q, hq, e⟩ := vp_in_of (n := c) (x := y) (by rw [vp_in_iff]; omega) (by omega)
    exact ⟨q, hq, e⟩
theorem pNm_ge {x : Nat → Int32} {t a : Nat} {v lo hi : Int32} : a ≤ (pNm x t a v lo hi).2.1 := by
  have hs := pS_ge x t a
  unfold pNm
  generalize pDg x (pS x t a) (t - pS x t a) 0 0 = r
  unfold pNz
  by_cases h1 : iW (nI r.1) 1 2 = 0
  · rw [if_pos h1]; exact hs
  · rw [if_neg h1]
    by_cases h2 : iW r.2 lo hi = 0
    · rw [if_pos h2]; exact hs
    · rw [if_neg h2]; show a ≤ pS x t a + r.1; omega
theorem pOn_b {x : Nat → Int32} {t c : Nat} (ht : t ≤ 150) : ∀ (k j a : Nat) (v : Int32) (o : Nat → Int32), a ≤ 200 → a ≤ (pOn x t c k j a v o).2.1 ∧ (pOn x t c k j a v o).2.1 ≤ 200
  | 0, _, a, _, _, ha => ⟨Nat.le_refl a, ha⟩
  | k + 1, j, a, v, o, ha => by
    have h1 := pNm_ge (x := x) (t := t) (a := a) (v := v) (lo := 0) (hi := pBd j)
    have h2 := pNm_le (x := x) (v := v) (lo := 0) (hi := pBd j) ht ha
    unfold pOn
    by_cases h : (pNm x t a v 0 (pBd j)).1 = 0
    · rw [if_pos h]; exact ⟨h1, h2⟩
    · rw [if_neg h]
      have h3 := pOn_b (x := x) (c := c) ht k (j + 1) (pNm x t a v 0 (pBd j)).2.1 (pNm x t a v 0 (pBd j)).2.2 (upd o (5 * c + j) (pNm x t a v 0 (pBd j)).2.2) h2
      exact ⟨Nat.le_trans h1 h3.1, h3.2⟩
theorem pOne_b {x : Nat → Int32} {t : Nat} (ht : t ≤ 150) {P : PS} (ha : P.1 ≤ 200) (hc : P.2.1 ≤ 5) : P.1 ≤ (pOne x t P).2.1 ∧ (pOne x t P).2.1 ≤ 200 ∧ (pOne x t P).2.2.1 ≤ 6 := by
  have h := pOn_b (x := x) (c := P.2.1) ht 4 0 P.1 P.2.2.2.1 P.2.2.2.2 ha
  unfold pOne
  generalize pOn x t P.2.1 4 0 P.1 P.2.2.2.1 P.2.2.2.2 = r at h ⊢
  obtain ⟨b, a, v, o⟩ := r
  have h1 := pE_ge x t a
  have h2 := pE_le (x := x) (a := a) ht h.2
  have h3 : P.1 ≤ a := h.1
  cases b
  · exact ⟨h.1, h.2, by show P.2.1 ≤ 6; omega⟩
  · exact ⟨Nat.le_trans h3 h1, h2, by show P.2.1 + 1 ≤ 6; omega⟩
theorem pHl_b {x : Nat → Int32} {t c : Nat} {p : Int32} (ht : t ≤ 150) : ∀ (k a : Nat) (v s : Int32), a ≤ 200 → a ≤ (pHl x t c p k a v s).2.1 ∧ (pHl x t c p k a v s).2.1 ≤ 200
  | 0, a, _, _, ha => ⟨Nat.le_refl a, ha⟩
  | k + 1, a, v, s, ha => by
    have h1 := pNm_ge (x := x) (t := t) (a := a) (v := v) (lo := 0) (hi := nI c - 1)
    have h2 := pNm_le (x := x) (v := v) (lo := 0) (hi := nI c - 1) ht ha
    unfold pHl
    by_cases g : iW (pC x t a) 48 57 = 0
    · rw [if_pos g]; exact ⟨Nat.le_refl a, ha⟩
    · rw [if_neg g]
      by_cases h : (pNm x t a v 0 (nI c - 1)).1 = 0
      · rw [if_pos h]; exact ⟨h1, h2⟩
      · rw [if_neg h]
        by_cases q : (pNm x t a v 0 (nI c - 1)).2.2 = p
        · rw [if_pos q]; exact ⟨Nat.le_refl a, ha⟩
        · rw [if_neg q]
          have h4 := pS_ge x t (pNm x t a v 0 (nI c - 1)).2.1
          have h5 := pS_le x t (pNm x t a v 0 (nI c - 1)).2.1
          have h3 := pHl_b (x := x) (c := c) (p := p) ht k (pS x t (pNm x t a v 0 (nI c - 1)).2.1) (pNm x t a v 0 (nI c - 1)).2.2 (s ||| (1 <<< ((pNm x t a v 0 (nI c - 1)).2.2 &&& 31))) (by omega)
          exact ⟨by omega, h3.2⟩
theorem pHn_b {x : Nat → Int32} {t : Nat} (ht : t ≤ 150) {P : PS} (ha : P.1 ≤ 200) : P.1 ≤ (pHn x t P).2.1 ∧ (pHn x t P).2.1 ≤ 200 ∧ (pHn x t P).2.2.1 = P.2.1 := by
  have h1 := pNm_ge (x := x) (t := t) (a := P.1) (v := P.2.2.2.1) (lo := 0) (hi := nI P.2.1 - 1)
  have h2 := pNm_le (x := x) (v := P.2.2.2.1) (lo := 0) (hi := nI P.2.1 - 1) ht ha
  unfold pHn
  generalize pNm x t P.1 P.2.2.2.1 0 (nI P.2.1 - 1) = r at h1 h2 ⊢
  unfold pHnN
  by_cases h : r.1 = 0
  · rw [if_pos h]; exact ⟨h1, h2, rfl⟩
  · rw [if_neg h]
    have h4 := pS_ge x t r.2.1
    have h5 := pS_le x t r.2.1
    have h3 := pHl_b (x := x) (c := P.2.1) (p := r.2.2) ht (t - pS x t r.2.1) (pS x t r.2.1) r.2.2 0 (by omega)
    generalize pHl x t P.2.1 r.2.2 (t - pS x t r.2.1) (pS x t r.2.1) r.2.2 0 = u at h3 ⊢
    obtain ⟨b, a, v, o⟩ := u
    have h6 := pE_ge x t a
    have h7 := pE_le (x := x) (a := a) ht h3.2
    have h8 : pS x t r.2.1 ≤ a := h3.1
    cases b
    · exact ⟨by show P.1 ≤ a; omega, h3.2, rfl⟩
    · exact ⟨by show P.1 ≤ (pE x t a).2; omega, h7, rfl⟩
theorem pLi_b {x : Nat → Int32} {t : Nat} (ht : t ≤ 150) {P : PS} (ha : P.1 ≤ 200) : P.1 ≤ (pLi x t P).2.1 ∧ (pLi x t P).2.1 ≤ 200 ∧ (pLi x t P).2.2.1 = P.2.1 := by
  have h1 := pNm_ge (x := x) (t := t) (a := P.1) (v := P.2.2.2.1) (lo := 0) (hi := nI P.2.1 - 1)
  have h2 := pNm_le (x := x) (v := P.2.2.2.1) (lo := 0) (hi := nI P.2.1 - 1) ht ha
  unfold pLi
  generalize pNm x t P.1 P.2.2.2.1 0 (nI P.2.1 - 1) = r at h1 h2 ⊢
  unfold pLiN
  by_cases h : r.1 = 0
  · rw [if_pos h]; exact ⟨h1, h2, rfl⟩
  · rw [if_neg h]
    have h3 := pNm_ge (x := x) (t := t) (a := r.2.1) (v := r.2.2) (lo := 1) (hi := 4)
    have h4 := pNm_le (x := x) (v := r.2.2) (lo := 1) (hi := 4) ht h2
    generalize pNm x t r.2.1 r.2.2 1 4 = u at h3 h4 ⊢
    unfold pLiE
    by_cases g : u.1 = 0
    · rw [if_pos g]; exact ⟨by show P.1 ≤ u.2.1; omega, h4, rfl⟩
    · rw [if_neg g]
      have h6 := pE_ge x t u.2.1
      have h7 := pE_le (x := x) (a := u.2.1) ht h4
      exact ⟨by show P.1 ≤ (pE x t u.2.1).2; omega, h7, rfl⟩
theorem pItD_b {x : Nat → Int32} {t : Nat} (ht : t ≤ 150) {w : Int32} {P : PS} (ha : P.1 ≤ 200) (hc : P.2.1 ≤ 6) (hw : w = 1 → P.2.1 ≤ 5) : P.1 ≤ (pItD x t w P).2.1 ∧ (pItD x t w P).2.1 ≤ 200 ∧ (pItD x t w P).2.2.1 ≤ 6 := by
  unfold pItD
  by_cases h : w = 1
  · rw [if_pos h]; exact pOne_b ht ha (hw h)
  · rw [if_neg h]
    by_cases h2 : w = 2
    · rw [if_pos h2]; obtain ⟨q1, q2, q3⟩ := pHn_b (x := x) ht (P := P) ha; exact ⟨q1, q2, by omega⟩
    · rw [if_neg h2]; obtain ⟨q1, q2, q3⟩ := pLi_b (x := x) ht (P := P) ha; exact ⟨q1, q2, by omega⟩
theorem pIt_b {x : Nat → Int32} {t : Nat} (ht : t ≤ 150) {P : PS} (ha : P.1 < t) (hc : P.2.1 ≤ 6) : P.1 ≤ (pIt x t P).2.1 ∧ (pIt x t P).2.1 ≤ 200 ∧ (pIt x t P).2.2.1 ≤ 6 ∧ (¬ (pIt x t P).1 = 0 → P.1 < (pIt x t P).2.1) := by
  unfold pIt
  generalize pWd x t P.1 = w
  unfold pItW
  have hG : (w = 1 → P.2.1 ≤ 5) → P.1 < (pItG x t w P).2.1 ∧ (pItG x t w P).2.1 ≤ 200 ∧ (pItG x t w P).2.2.1 ≤ 6 := by
    intro hw
    unfold pItG
    by_cases h2 : w = 2
    · rw [if_pos h2]
      obtain ⟨q1, q2, q3⟩ := pItD_b (x := x) ht (w := w) (P := (P.1 + 5, P.2)) (by show P.1 + 5 ≤ 200; omega) hc hw
      have q1' : P.1 + 5 ≤ (pItD x t w (P.1 + 5, P.2)).2.1 := q1
      exact ⟨by omega, q2, q3⟩
    · rw [if_neg h2]
      obtain ⟨q1, q2, q3⟩ := pItD_b (x := x) ht (w := w) (P := (P.1 + 3, P.2)) (by show P.1 + 3 ≤ 200; omega) hc hw
      have q1' : P.1 + 3 ≤ (pItD x t w (P.1 + 3, P.2)).2.1 := q1
      exact ⟨by omega, q2, q3⟩
  by_cases h1 : w < 1
  · rw [if_pos h1]; exact ⟨Nat.le_refl _, by show P.1 ≤ 200; omega, hc, fun q => absurd rfl q⟩
  · rw [if_neg h1]
    by_cases h2 : w = 1
    · rw [if_pos h2]
      by_cases h3 : nI P.2.1 = 6
      · rw [if_pos h3]; exact ⟨Nat.le_refl _, by show P.1 ≤ 200; omega, hc, fun q => absurd rfl q⟩
      · rw [if_neg h3]
        obtain ⟨q1, q2, q3⟩ := hG (fun _ => by
          rcases Nat.lt_or_ge P.2.1 6 with q | q
          · omega
          · exact absurd (by rw [show P.2.1 = 6 by omega]; rfl) h3)
        exact ⟨by omega, q2, q3, fun _ => q1⟩
    · rw [if_neg h2]
      obtain ⟨q1, q2, q3⟩ := hG (fun q => absurd q h2)
      exact ⟨by omega, q2, q3, fun _ => q1⟩
theorem pIt_01 (x : Nat → Int32) (t : Nat) (P : PS) : ((pIt x t P).1 = 0 ∨ (pIt x t P).1 = 1) ∧ ∀ w Q, ((pItD x t w Q).1 = 0 ∨ (pItD x t w Q).1 = 1) := by
  have hO : ∀ Q, (pOne x t Q).1 = 0 ∨ (pOne x t Q).1 = 1 := by
    intro Q
    unfold pOne
    generalize pOn x t Q.2.1 4 0 Q.1 Q.2.2.2.1 Q.2.2.2.2 = r
    obtain ⟨b, a, v, o⟩ := r
    cases b
    · exact Or.inl rfl
    · exact pE_01 x t a
  have hH : ∀ Q, (pHn x t Q).1 = 0 ∨ (pHn x t Q).1 = 1 := by
    intro Q
    unfold pHn
    generalize pNm x t Q.1 Q.2.2.2.1 0 (nI Q.2.1 - 1) = r
    unfold pHnN
    by_cases h : r.1 = 0
    · rw [if_pos h]; exact Or.inl rfl
    · rw [if_neg h]
      generalize pHl x t Q.2.1 r.2.2 (t - pS x t r.2.1) (pS x t r.2.1) r.2.2 0 = u
      obtain ⟨b, a, v, o⟩ := u
      cases b
      · exact Or.inl rfl
      · exact pE_01 x t a
  have hL : ∀ Q, (pLi x t Q).1 = 0 ∨ (pLi x t Q).1 = 1 := by
    intro Q
    unfold pLi
    generalize pNm x t Q.1 Q.2.2.2.1 0 (nI Q.2.1 - 1) = r
    unfold pLiN
    by_cases h : r.1 = 0
    · rw [if_pos h]; exact Or.inl rfl
    · rw [if_neg h]
      generalize pNm x t r.2.1 r.2.2 1 4 = u
      unfold pLiE
      by_cases g : u.1 = 0
      · rw [if_pos g]; exact Or.inl rfl
      · rw [if_neg g]; exact pE_01 x t u.2.1
  have hD : ∀ w Q, ((pItD x t w Q).1 = 0 ∨ (pItD x t w Q).1 = 1) := by
    intro w Q
    unfold pItD
    by_cases h : w = 1
    · rw [if_pos h]; exact hO Q
    · rw [if_neg h]
      by_cases h2 : w = 2
      · rw [if_pos h2]; exact hH Q
      · rw [if_neg h2]; exact hL Q
  refine ⟨?_, hD⟩
  unfold pIt
  generalize pWd x t P.1 = w
  unfold pItW
  have hG : ((pItG x t w P).1 = 0 ∨ (pItG x t w P).1 = 1) := by
    unfold pItG
    by_cases h2 : w = 2
    · rw [if_pos h2]; exact hD _ _
    · rw [if_neg h2]; exact hD _ _
  by_cases h1 : w < 1
  · rw [if_pos h1]; exact Or.inl rfl
  · rw [if_neg h1]
    by_cases h2 : w = 1
    · rw [if_pos h2]
      by_cases h3 : nI P.2.1 = 6
      · rw [if_pos h3]; exact Or.inl rfl
      · rw [if_neg h3]; exact hG
    · rw [if_neg h2]; exact hG
theorem pOne_01 (x : Nat → Int32) (t : Nat) (Q : PS) : (pOne x t Q).1 = 0 ∨ (pOne x t Q).1 = 1 := by
  have h := (pIt_01 x t Q).2 1 Q
  unfold pItD at h
  rw [if_pos rfl] at h
  exact h
theorem pHn_01 (x : Nat → Int32) (t : Nat) (Q : PS) : (pHn x t Q).1 = 0 ∨ (pHn x t Q).1 = 1 := by
  have h := (pIt_01 x t Q).2 2 Q
  unfold pItD at h
  rw [if_neg (by decide), if_pos rfl] at h
  exact h
theorem pLi_01 (x : Nat → Int32) (t : Nat) (Q : PS) : (pLi x t Q).1 = 0 ∨ (pLi x t Q).1 = 1 := by
  have h := (pIt_01 x t Q).2 3 Q
  unfold pItD at h
  rw [if_neg (by decide), if_neg (by decide)] at h
  exact h
theorem le_tj {x : Int32} {t a j : Nat} (ht : x = nI t) (h6 : t ≤ 150) (ha : a + j ≤ 1000) : x ≤ nI a + nI j ↔ t ≤ a + j := by
  rw [nI_add]
  exact le_ta ht h6 ha
theorem pOn_f {x : Nat → Int32} {t c k j a : Nat} {v b : Int32} {o : Nat → Int32} {R : Bool × Nat × Int32 × (Nat → Int32)} (h : R = pOn x t c (k + 1) j a v o) (hb : pBd j = b) (h1 : (pNm x t a v 0 b).1 = 0) : R = (false, (pNm x t a v 0 b).2.1, (pNm x t a v 0 b).2.2, o) := by
  subst hb
  rw [h, pOn]
  exact if_pos h1
theorem pOn_g {x : Nat → Int32} {t c k j a : Nat} {v b : Int32} {o : Nat → Int32} {R : Bool × Nat × Int32 × (Nat → Int32)} (h : R = pOn x t c (k + 1) j a v o) (hb : pBd j = b) (h1 : ¬ (pNm x t a v 0 b).1 = 0) : R = pOn x t c k (j + 1) (pNm x t a v 0 b).2.1 (pNm x t a v 0 b).2.2 (upd o (5 * c + j) (pNm x t a v 0 b).2.2) := by
  subst hb
  rw [h, pOn]
  exact if_neg h1
theorem mP_0 {S : sT} : sS 30 (sS 30 (sS 30 S 5 0) 6 0) 7 0 = mP S 0 0 0 (S 30 8) (S 11) := by
  refine mP_ext (fun i => ?_) rfl (fun r h1 h2 => (va_up_ne _ _ h1).trans ((va_up_ne _ _ h1).trans (va_up_ne _ _ h1)))
  show upd (upd (upd (S 30) 5 0) 6 0) 7 0 i = upd (upd (upd (upd (S 30) 5 (nI 0)) 6 (nI 0)) 7 0) 8 (S 30 8) i
  unfold upd
  by_cases h8 : i = 8
  · subst h8; rfl
  · rw [if_neg h8]; rfl
def mRdA : Nat → Nat → sT → sT
  | 0, _, S => S
  | k + 1, j, S => mRdA k (j + 1) (mAdd S (S 11 (5 * j)) (S 11 (5 * j + 1)) (S 11 (5 * j + 2)) (S 11 (5 * j + 3)))
def mRdB : Nat → Nat → sT → sT
  | 0, _, S => S
  | k + 1, j, S => mRdB k (j + 1) (sA S 5 (upd (S 5) j (S 11 (5 * j + 4))))
def mRdC (S : sT) : sT := sS 30 S 2 (S 30 7)
def mRdS (B : sT) (P : PS) : sT := mRdC (mRdB P.2.1 0 (mRdA P.2.1 0 (mBegin (mQ B P))))
def mRdZ (B : sT) (L : Nat → Int64) (r : Int32 × PS) : Int32 × sM := if 0 ≤ r.1 then (r.1, mRdS B r.2, L) else (-10 - nI r.2.1, mQ B r.2, L)
def mRead (S : sT) (L : Nat → Int64) (t : Nat) : Int32 × sM := mRdZ S L (pGd (S 10) t (S 30 8) (S 11))
theorem mBegin_m (S : sT) : mBegin S 30 0 = nI 0 := rfl
theorem pGl_b {x : Nat → Int32} {t : Nat} (ht : t ≤ 150) : ∀ (k : Nat) (P : PS) (i : Int32), P.1 ≤ 200 → P.2.1 ≤ 6 → (pGl x t k P i).2.1 ≤ 200 ∧ (pGl x t k P i).2.2.1 ≤ 6
  | 0, P, _, ha, hc => ⟨ha, hc⟩
  | k + 1, P, i, ha, hc => by
    unfold pGl
    by_cases h1 : t ≤ P.1
    · rw [if_pos h1]; exact ⟨ha, hc⟩
    · rw [if_neg h1]
      obtain ⟨q1, q2, q3, q4⟩ := pIt_b (x := x) ht (P := P) (by omega) hc
      by_cases h2 : (pIt x t P).1 = 0
      · rw [if_pos h2]; exact ⟨q2, q3⟩
      · rw [if_neg h2]
        refine pGl_b ht k _ _ ?_ q3
        have := pS_le x t (pIt x t P).2.1
        show pS x t (pIt x t P).2.1 ≤ 200
        omega
theorem pGd_b {x : Nat → Int32} {t : Nat} (ht : t ≤ 150) (v : Int32) (o : Nat → Int32) : (pGd x t v o).2.1 ≤ 200 ∧ (pGd x t v o).2.2.1 ≤ 6 := by
  have h0 := pS_le x t 0
  unfold pGd
  by_cases h : pWd x t (pS x t 0) = 0
  · rw [if_pos h]
    have h1 := pE_le (x := x) (a := pS x t 0 + 4) ht (by omega)
    generalize pE x t (pS x t 0 + 4) = e at h1 ⊢
    unfold pGE
    by_cases g : e.1 = 0
    · rw [if_pos g]; exact ⟨h1, Nat.zero_le _⟩
    · rw [if_neg g]
      refine pGl_b ht _ _ _ ?_ (Nat.zero_le _)
      have := pS_le x t e.2
      show pS x t e.2 ≤ 200
      omega
  · rw [if_neg h]
    exact ⟨by show pS x t 0 ≤ 200; omega, Nat.zero_le _⟩
