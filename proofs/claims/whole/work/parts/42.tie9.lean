/-! TIES: bag. Levels: dP d r: from r to q in d steps or fewer, through good hands. -/
def dP (M q : Nat) (G : Nat → Prop) (E : Nat → Nat → Prop) : Nat → Nat → Prop
  | 0, r => r = q ∧ G q
  | d + 1, r => dP M q G E d r ∨ (G r ∧ ∃ o, o < M ∧ E r o ∧ dP M q G E d o)
def Lv (M q : Nat) (G : Nat → Prop) (E : Nat → Nat → Prop) (d r : Nat) : Prop := dP M q G E d r ∧ ∀ d', d' < d → ¬ dP M q G E d' r
noncomputable def cntP (P : Nat → Prop) : Nat → Nat
  | 0 => 0
  | k + 1 => cntP P k + @ite Nat (P k) (Classical.propDecidable (P k)) 1 0
theorem cnt_le (P : Nat → Prop) : ∀ k, cntP P k ≤ k
  | 0 => Nat.le_refl 0
  | k + 1 => by
    have := cnt_le P k
    unfold cntP
    by_cases h : P k
    · rw [if_pos h]; omega
    · rw [if_neg h]; omega
theorem cnt_mono {P Q : Nat → Prop} : ∀ k, (∀ i, i < k → P i → Q i) → cntP P k ≤ cntP Q k
  | 0, _ => Nat.le_refl 0
  | k + 1, h => by
    have := cnt_mono k (fun i hi => h i (by omega))
    unfold cntP
    by_cases hp : P k
    · rw [if_pos hp, if_pos (h k (by omega) hp)]; omega
    · rw [if_neg hp]; omega
theorem cnt_lt {P Q : Nat → Prop} : ∀ k, (∀ i, i < k → P i → Q i) → (∃ i, i < k ∧ Q i ∧ ¬ P i) → cntP P k + 1 ≤ cntP Q k
  | 0, _, h => by obtain ⟨i, hi, -⟩ := h; omega
  | k + 1, h, ⟨i, hi, hq, hp⟩ => by
    unfold cntP
    by_cases c : i = k
    · subst c
      have := cnt_mono i (fun j hj => h j (by omega))
      rw [if_neg hp, if_pos hq]; omega
    · have := cnt_lt k (fun j hj => h j (by omega)) ⟨i, by omega, hq, hp⟩
      by_cases hp' : P k
      · rw [if_pos hp', if_pos (h k (by omega) hp')]; omega
      · rw [if_neg hp']; omega
section LV
variable {M q : Nat} {G : Nat → Prop} {E : Nat → Nat → Prop}
theorem dP_mono {d r : Nat} (h : dP M q G E d r) : ∀ k, dP M q G E (d + k) r
  | 0 => h
  | k + 1 => Or.inl (dP_mono h k)
theorem dP_le {d d' r : Nat} (h : dP M q G E d r) (hd : d ≤ d') : dP M q G E d' r := by
  have := dP_mono h (d' - d)
  rwa [show d + (d' - d) = d' by omega] at this
theorem lv_cnt : ∀ (d r : Nat), r < M → Lv M q G E d r → d + 1 ≤ cntP (dP M q G E d) M
  | 0, r, hr, h => by
    have := cnt_lt (P := fun _ => False) (Q := dP M q G E 0) M (fun _ _ f => f.elim) ⟨r, hr, h.1, id⟩
    omega
  | d + 1, r, hr, ⟨h1, h2⟩ => by
    have nd : ¬ dP M q G E d r := h2 d (by omega)
    rcases id h1 with h3 | ⟨hg, o, ho, he, hd⟩
    · exact absurd h3 nd
    · have lo : Lv M q G E d o := ⟨hd, fun d' hd' k => h2 (d' + 1) (by omega) (Or.inr ⟨hg, o, ho, he, k⟩)⟩
      have ih := lv_cnt d o ho lo
      have := cnt_lt (P := dP M q G E d) (Q := dP M q G E (d + 1)) M (fun i _ hp => Or.inl hp) ⟨r, hr, h1, nd⟩
      omega
theorem lvl_lt {d r : Nat} (hr : r < M) (h : Lv M q G E d r) : d < M := by
  have h1 := lv_cnt d r hr h
  have h2 := cnt_le (dP M q G E d) M
  omega
theorem lv_ex {d r : Nat} (h : dP M q G E d r) : ∃ d0, d0 ≤ d ∧ Lv M q G E d0 r := by
  obtain ⟨k, hk, hl⟩ := pk_least (fun d => dP M q G E d r) ⟨d, h⟩
  refine ⟨k, ?_, hk, hl⟩
  rcases Nat.lt_or_ge d k with c | c
  · exact absurd h (hl d c)
  · exact c
theorem lv_un {d d' r : Nat} (h : Lv M q G E d r) (h' : Lv M q G E d' r) : d = d' := by
  rcases Nat.lt_trichotomy d d' with c | c | c
  · exact absurd h.1 (h'.2 d c)
  · exact c
  · exact absurd h'.1 (h.2 d' c)
end LV
def gG (S : sT) (n' w' : Int32) : Nat → Prop := fun r => ¬ mWW S (nI r) n' < w'
def eE (S : sT) : Nat → Nat → Prop := fun r o => ¬ iBit (S 5 r) o = 0
-- the class
theorem far_j (V : sT) {j : Nat} (hj : j < 6) : wFar V (nI j) = V 1 j := by
  unfold wFar
  rw [if_neg (nI_pos (by omega)), if_neg (by rw [show (6 : Int32) = nI 6 from rfl, nI_leI (by omega) (by omega)]; omega), nI_clamp (by omega)]
theorem heft_r {V V' : sT} (h : V' 0 = V 0) (r : Int32) : wHeft V' r = wHeft V r := by
  unfold wHeft
  rw [h]
theorem wTo_iff {T V : sT} {r dd : Int32} : ∀ (k j : Nat), j + k ≤ 6 → (¬ wTo T V r dd k j = 0 ↔ ∃ o, j ≤ o ∧ o < j + k ∧ ¬ iBit (trG 4 T r) o = 0 ∧ V 1 o = dd)
  | 0, j, _ => ⟨fun h => absurd rfl h, fun ⟨o, h1, h2, _⟩ => absurd h1 (by omega)⟩
  | k + 1, j, hj => by
    have ih := wTo_iff (T := T) (V := V) (r := r) (dd := dd) k (j + 1) (by omega)
    have up : (∃ o, j + 1 ≤ o ∧ o < j + 1 + k ∧ ¬ iBit (trG 4 T r) o = 0 ∧ V 1 o = dd) → ∃ o, j ≤ o ∧ o < j + (k + 1) ∧ ¬ iBit (trG 4 T r) o = 0 ∧ V 1 o = dd := fun ⟨o, h1, h2, h3⟩ => ⟨o, by omega, by omega, h3⟩
    unfold wTo
    rw [far_j V (by omega)]
    by_cases c1 : iBit (trG 4 T r) j = 0
    · rw [if_pos c1]
      refine ⟨fun h => up (ih.mp h), fun ⟨o, h1, h2, h3, h4⟩ => ih.mpr ⟨o, ?_, by omega, h3, h4⟩⟩
      rcases Nat.lt_or_ge j o with c | c
      · omega
      · have : o = j := by omega
        subst this; exact absurd c1 h3
    · rw [if_neg c1]
      by_cases c2 : V 1 j = dd
      · rw [if_pos c2]
        exact ⟨fun _ => ⟨j, by omega, by omega, c1, c2⟩, fun _ => by decide⟩
      · rw [if_neg c2]
        refine ⟨fun h => up (ih.mp h), fun ⟨o, h1, h2, h3, h4⟩ => ih.mpr ⟨o, ?_, by omega, h3, h4⟩⟩
        rcases Nat.lt_or_ge j o with c | c
        · omega
        · have : o = j := by omega
          subst this; exact absurd h4 c2
def cnd (T V0 : sT) (w' s : Int32) (M i : Nat) : Prop := ¬ wHeft V0 (nI i) < w' ∧ ∃ o, o < M ∧ ¬ iBit (trG 4 T (nI i)) o = 0 ∧ V0 1 o = s - 1
def pN (T V0 : sT) (w' s : Int32) (M i : Nat) (v : Int32) : Prop := (V0 1 i = 99 ∧ cnd T V0 w' s M i ∧ v = s) ∨ (¬ (V0 1 i = 99 ∧ cnd T V0 w' s M i) ∧ v = V0 1 i)
theorem rnd {T V0 : sT} {w' s : Int32} {M : Nat} (hT : tN T = M) (hM : M ≤ 6) (hs : ¬ s = s - 1) (h9 : ¬ 99 = s - 1) : ∀ (k j : Nat) (V : sT), j + k = 6 → V 0 = V0 0 → (∀ i, j ≤ i → i < 6 → V 1 i = V0 1 i) → (∀ i, i < j → pN T V0 w' s M i (V 1 i)) → mI3 T w' s k j V 0 = V0 0 ∧ ∀ i, i < 6 → pN T V0 w' s M i (mI3 T w' s k j V 1 i)
  | 0, j, V, hj, h0, _, hp => ⟨h0, fun i hi => hp i (by omega)⟩
  | k + 1, j, V, hj, h0, hv, hp => by
    have heq : ∀ o, o < 6 → (V 1 o = s - 1 ↔ V0 1 o = s - 1) := fun o ho => by
      rcases Nat.lt_or_ge o j with c | c
      · rcases hp o c with ⟨a1, -, a3⟩ | ⟨-, a2⟩
        · rw [a1, a3]; exact ⟨fun e => absurd e hs, fun e => absurd e h9⟩
        · rw [a2]
      · rw [hv o c ho]
    have hto : ¬ wTo T V (nI j) (s - 1) (tN T) 0 = 0 ↔ ∃ o, o < M ∧ ¬ iBit (trG 4 T (nI j)) o = 0 ∧ V0 1 o = s - 1 := by
      rw [hT, wTo_iff M 0 (by omega)]
      constructor
      · rintro ⟨o, -, h2, h3, h4⟩
        exact ⟨o, by omega, h3, (heq o (by omega)).mp h4⟩
      · rintro ⟨o, h2, h3, h4⟩
        exact ⟨o, by omega, by omega, h3, (heq o (by omega)).mpr h4⟩
    have hj6 : j < 6 := by omega
    have ej : V 1 j = V0 1 j := hv j (by omega) hj6
    have keep : ¬ (V0 1 j = 99 ∧ cnd T V0 w' s M j) → mI3 T w' s k (j + 1) V 0 = V0 0 ∧ ∀ i, i < 6 → pN T V0 w' s M i (mI3 T w' s k (j + 1) V 1 i) := fun hn =>
      rnd hT hM hs h9 k (j + 1) V (by omega) h0 (fun i h1 h2 => hv i (by omega) h2) (fun i hi => by
        by_cases c : i = j
        · subst c; exact Or.inr ⟨hn, ej⟩
        · exact hp i (by omega))
    unfold mI3
    by_cases c1 : V 1 j = 99
    · rw [if_pos c1, heft_r h0]
      by_cases c2 : wHeft V0 (nI j) < w'
      · rw [if_pos c2]; exact keep (fun q => q.2.1 c2)
      · rw [if_neg c2]
        by_cases c3 : wTo T V (nI j) (s - 1) (tN T) 0 = 0
        · rw [if_pos c3]; exact keep (fun q => (hto.mpr q.2.2) c3)
        · rw [if_neg c3]
          refine rnd hT hM hs h9 k (j + 1) (sA V 1 (upd (V 1) j s)) (by omega) h0 (fun i h1 h2 => ?_) (fun i hi => ?_)
          · show upd (V 1) j s i = V0 1 i
            rw [pk_un (by omega)]; exact hv i (by omega) h2
          · show pN T V0 w' s M i (upd (V 1) j s i)
            by_cases c : i = j
            · subst c; rw [pk_us]; exact Or.inl ⟨ej.symm.trans c1, ⟨c2, hto.mp c3⟩, rfl⟩
            · rw [pk_un c]; exact hp i (by omega)
    · rw [if_neg c1]; exact keep (fun q => c1 (ej.trans q.1))
theorem mI1_spec {q w' : Int32} : ∀ (k j : Nat) (V : sT), (∀ r, r ≠ 1 → mI1 q w' k j V r = V r) ∧ (∀ i, (i < j ∨ j + k ≤ i) → mI1 q w' k j V 1 i = V 1 i) ∧ (∀ i, j ≤ i → i < j + k → mI1 q w' k j V 1 i = if nI i = q then (if wHeft V q < w' then 99 else 0) else 99)
  | 0, j, V => ⟨fun _ _ => rfl, fun _ _ => rfl, fun i h1 h2 => absurd h1 (by omega)⟩
  | k + 1, j, V => by
    unfold mI1
    generalize hx : (if nI j = q then (if wHeft V q < w' then (99 : Int32) else 0) else 99) = x
    obtain ⟨i1, i2, i3⟩ := mI1_spec (q := q) (w' := w') k (j + 1) (sA V 1 (upd (V 1) j x))
    have e : sA V 1 (upd (V 1) j x) 1 = upd (V 1) j x := va_up_self _ _ _
    rw [e] at i2
    refine ⟨fun r hr => (i1 r hr).trans (va_up_ne _ _ hr), fun i hi => ?_, fun i h1 h2 => ?_⟩
    · rw [i2 i (by omega), pk_un (by omega)]
    · by_cases c : i = j
      · subst c; rw [i2 i (by omega), pk_us, hx]
      · rw [i3 i (by omega) (by omega), heft_r (V := V) (V' := sA V 1 (upd (V 1) j x)) rfl]
section BG2
variable {T S : sT} {M N u : Nat}
def fI (S : sT) (n' w' : Int32) (M q : Nat) (V : sT) (s : Nat) : Prop := ∀ r, r < M → (∃ d, d ≤ s ∧ Lv M q (gG S n' w') (eE S) d r ∧ V 1 r = nI d) ∨ (¬ dP M q (gG S n' w') (eE S) s r ∧ V 1 r = 99)
def hOk (S : sT) (n' : Int32) (M : Nat) (V : sT) : Prop := ∀ r, r < M → wHeft V (nI r) = mWW S (nI r) n'
theorem rnd_lv (h : tRel T S M N u) {n' w' : Int32} {q : Nat} {V0 : sT} {s : Nat} (hs : s + 1 ≤ 5) (hV : hOk S n' M V0) (hI : fI S n' w' M q V0 s) : fI S n' w' M q (mI3 T w' (nI (s + 1)) 6 0 V0) (s + 1) ∧ mI3 T w' (nI (s + 1)) 6 0 V0 0 = V0 0 := by
  have hM := h.1.1
  have hT : tN T = M := by unfold tN; rw [h.2.1.1]; exact nI_clamp (by omega)
  have e1 : nI (s + 1) - 1 = nI s := nI_pred s
  have ne99 : ∀ d, d ≤ 5 → ¬ nI d = 99 := fun d hd => by
    rw [show (99 : Int32) = nI 99 from rfl, nI_eq (by omega) (by omega)]; omega
  obtain ⟨r0, r1⟩ := rnd (T := T) (V0 := V0) (w' := w') (s := nI (s + 1)) hT hM (by rw [e1, nI_eq (by omega) (by omega)]; omega) (by rw [e1]; exact fun e => ne99 s (by omega) e.symm) 6 0 V0 (by omega) rfl (fun _ _ _ => rfl) (fun i hi => absurd hi (by omega))
  refine ⟨fun r hr => ?_, r0⟩
  have hr6 : r < 6 := by omega
  have hE : trG 4 T (nI r) = S 5 r := by rw [trG_j h hr]; exact (h.2.2.1 r hr).2.2.2.2
  have lvl : ∀ o, o < M → (V0 1 o = nI s ↔ Lv M q (gG S n' w') (eE S) s o) := fun o ho => by
    rcases hI o ho with ⟨d, hd, hl, hv⟩ | ⟨hn, hv⟩
    · constructor
      · intro e
        rw [hv, nI_eq (by omega) (by omega)] at e
        subst e; exact hl
      · intro e
        rw [lv_un e hl]; exact hv
    · constructor
      · intro e
        rw [hv] at e
        exact absurd e.symm (ne99 s (by omega))
      · intro e
        exact absurd e.1 hn
  have hc : cnd T V0 w' (nI (s + 1)) M r ↔ gG S n' w' r ∧ ∃ o, o < M ∧ eE S r o ∧ Lv M q (gG S n' w') (eE S) s o := by
    unfold cnd
    rw [hV r hr, hE, e1]
    constructor
    · rintro ⟨a1, o, a2, a3, a4⟩
      exact ⟨a1, o, a2, a3, (lvl o a2).mp a4⟩
    · rintro ⟨a1, o, a2, a3, a4⟩
      exact ⟨a1, o, a2, a3, (lvl o a2).mpr a4⟩
  rcases r1 r hr6 with ⟨a1, a2, a3⟩ | ⟨a1, a2⟩
  · left
    have hn : ¬ dP M q (gG S n' w') (eE S) s r := by
      rcases hI r hr with ⟨d, hd, hl, hv⟩ | ⟨hn, hv⟩
      · rw [hv] at a1; exact absurd a1 (ne99 d (by omega))
      · exact hn
    obtain ⟨b1, o, b2, b3, b4⟩ := hc.mp a2
    refine ⟨s + 1, by omega, ⟨Or.inr ⟨b1, o, b2, b3, b4.1⟩, fun d' hd' k => hn (dP_le k (by omega))⟩, a3⟩
  · rcases hI r hr with ⟨d, hd, hl, hv⟩ | ⟨hn, hv⟩
    · exact Or.inl ⟨d, by omega, hl, a2.trans hv⟩
    · right
      refine ⟨fun k => ?_, a2.trans hv⟩
      rcases k with k | ⟨b1, o, b2, b3, b4⟩
      · exact hn k
      · obtain ⟨d0, hd0, l0⟩ := lv_ex b4
        rcases Nat.lt_or_ge d0 s with c | c
        · exact hn (dP_le (d := d0 + 1) (Or.inr ⟨b1, o, b2, b3, l0.1⟩) (by omega))
        · have : d0 = s := by omega
          subst this
          exact a1 ⟨hv, hc.mpr ⟨b1, o, b2, b3, l0⟩⟩
theorem rnds_lv (h : tRel T S M N u) {n' w' : Int32} {q : Nat} : ∀ (k j : Nat) (V : sT), j + k = 5 → hOk S n' M V → fI S n' w' M q V j → fI S n' w' M q (mI2 T w' k (j + 1) V) 5 ∧ mI2 T w' k (j + 1) V 0 = V 0
  | 0, j, V, hj, _, hI => by
    have : j = 5 := by omega
    subst this
    exact ⟨hI, rfl⟩
  | k + 1, j, V, hj, hV, hI => by
    obtain ⟨r1, r2⟩ := rnd_lv h (by omega) hV hI
    obtain ⟨q1, q2⟩ := rnds_lv h k (j + 1) (mI3 T w' (nI (j + 1)) 6 0 V) (by omega) (fun r hr => (heft_r r2 _).trans (hV r hr)) r1
    unfold mI2
    exact ⟨q1, q2.trans r2⟩
theorem meas_lv (h : tRel T S M N u) {n' w' : Int32} {b : Nat} (hb : b < M) {V : sT} (hV : hOk S n' M V) : fI S n' w' M b (wMeas T V (nI b) w') 5 ∧ wMeas T V (nI b) w' 0 = V 0 := by
  have hM := h.1.1
  obtain ⟨i1, -, i3⟩ := mI1_spec (q := nI b) (w' := w') 6 0 V
  have e0 : mI1 (nI b) w' 6 0 V 0 = V 0 := i1 0 (by decide)
  have hI : fI S n' w' M b (mI1 (nI b) w' 6 0 V) 0 := fun r hr => by
    rw [i3 r (by omega) (by omega), hV b hb]
    by_cases c : r = b
    · subst c
      rw [if_pos rfl]
      by_cases c2 : mWW S (nI r) n' < w'
      · rw [if_pos c2]; exact Or.inr ⟨fun k => k.2 c2, rfl⟩
      · rw [if_neg c2]; exact Or.inl ⟨0, by omega, ⟨⟨rfl, c2⟩, fun d hd => absurd hd (by omega)⟩, rfl⟩
    · rw [if_neg (by rw [nI_eq (by omega) (by omega)]; exact c)]
      exact Or.inr ⟨fun k => c k.1, rfl⟩
  unfold wMeas
  obtain ⟨q1, q2⟩ := rnds_lv h 5 0 (mI1 (nI b) w' 6 0 V) (by omega) (fun r hr => (heft_r e0 _).trans (hV r hr)) hI
  exact ⟨q1, q2.trans e0⟩
end BG2
-- the reference
section BG3
variable {S : sT} {M q : Nat} {n' w' : Int32}
def sOK (S : sT) (n' w' : Int32) (M q : Nat) (S' : sT) : Prop := ∀ r, r < 6 → ∃ x : Nat, S' 14 r = nI x ∧ x ≤ 1048576 ∧ (x < 1048576 → 1 ≤ x ∧ dP M q (gG S n' w') (eE S) (x - 1) r)
def sUp (S' : sT) (r b : Nat) : Prop := ∃ x : Nat, S' 14 r = nI x ∧ x ≤ b
def sRw (S S' : sT) : Prop := ∀ r, r ≠ 14 → S' r = S r
theorem sUp_w {S' : sT} {r b c : Nat} (h : sUp S' r b) (hc : b ≤ c) : sUp S' r c := by
  obtain ⟨x, h1, h2⟩ := h
  exact ⟨x, h1, by omega⟩
theorem mWW_rw {S' : sT} (h : sRw S S') (p m : Int32) : mWW S' p m = mWW S p m := by
  unfold mWW
  rw [h 1 (by decide), h 2 (by decide), h 30 (by decide)]
/-- one step of the inner loop -/
def stp (n' w' : Int32) (a j : Nat) (S' : sT) : sT := if mHas (S' 5 a) (nI j) = 0 then mStY S' a j 0 else if mWW S' (nI a) n' < w' then mStY S' a j 0 else mStY S' a j 1
theorem stp_1 {a j : Nat} (ha : a < 6) (hj : j < M) (hM : M ≤ 6) {S' : sT} (hr : sRw S S') (ho : sOK S n' w' M q S') : sRw S (stp n' w' a j S') ∧ sOK S n' w' M q (stp n' w' a j S') ∧ (∀ r, r ≠ a → stp n' w' a j S' 14 r = S' 14 r) ∧ (∀ b, sUp S' a b → sUp (stp n' w' a j S') a b) ∧ (eE S a j → gG S n' w' a → ∀ b, sUp S' j b → sUp (stp n' w' a j S') a (b + 1)) := by
  have same : ∀ v, v = S' 14 a → sRw S (sA S' 14 (upd (S' 14) a v)) ∧ sOK S n' w' M q (sA S' 14 (upd (S' 14) a v)) ∧ (∀ r, r ≠ a → sA S' 14 (upd (S' 14) a v) 14 r = S' 14 r) ∧ (∀ b, sUp S' a b → sUp (sA S' 14 (upd (S' 14) a v)) a b) := by
    intro v hv
    have e : ∀ r, sA S' 14 (upd (S' 14) a v) 14 r = S' 14 r := fun r => by
      show upd (S' 14) a v r = S' 14 r
      by_cases c : r = a
      · subst c; rw [pk_us, hv]
      · rw [pk_un c]
    refine ⟨fun r h1 => (va_up_ne _ _ h1).trans (hr r h1), fun r h1 => by rw [e r]; exact ho r h1, fun r _ => e r, fun b hb => ?_⟩
    unfold sUp
    rw [e a]; exact hb
  unfold stp
  rw [hr 5 (by decide), mWW_rw hr]
  by_cases c1 : mHas (S 5 a) (nI j) = 0
  · rw [if_pos c1]
    unfold mStY
    rw [if_pos rfl]
    obtain ⟨s1, s2, s3, s4⟩ := same (S' 14 a) rfl
    exact ⟨s1, s2, s3, s4, fun he => absurd ((has_iff _ _).mp c1) he⟩
  · rw [if_neg c1]
    by_cases c2 : mWW S (nI a) n' < w'
    · rw [if_pos c2]
      unfold mStY
      rw [if_pos rfl]
      obtain ⟨s1, s2, s3, s4⟩ := same (S' 14 a) rfl
      exact ⟨s1, s2, s3, s4, fun _ hg => absurd c2 hg⟩
    · rw [if_neg c2]
      unfold mStY
      rw [if_neg (by decide)]
      obtain ⟨x, x1, x2, x3⟩ := ho a ha
      obtain ⟨y, y1, y2, y3⟩ := ho j (by omega)
      rw [x1, y1, nI_1, iMinN (by omega) (by omega)]
      refine ⟨fun r h1 => (va_up_ne _ _ h1).trans (hr r h1), fun r h1 => ?_, fun r h1 => ?_, fun b hb => ?_, fun _ _ b hb => ?_⟩
      · show ∃ z : Nat, upd (S' 14) a (nI (min x (y + 1))) r = nI z ∧ _
        by_cases c : r = a
        · subst c
          rw [pk_us]
          refine ⟨min x (y + 1), rfl, by omega, fun hz => ?_⟩
          rcases Nat.lt_or_ge (y + 1) x with k | k
          · rw [Nat.min_eq_right (by omega)]
            obtain ⟨z1, z2⟩ := y3 (by omega)
            refine ⟨by omega, ?_⟩
            rw [show y + 1 - 1 = (y - 1) + 1 by omega]
            exact Or.inr ⟨c2, j, hj, fun e => c1 ((has_iff _ _).mpr e), z2⟩
          · rw [Nat.min_eq_left k] at hz ⊢
            exact x3 hz
        · rw [pk_un c]; exact ho r h1
      · show upd (S' 14) a _ r = S' 14 r
        exact pk_un h1
      · obtain ⟨x', e1, e2⟩ := hb
        refine ⟨min x (y + 1), pk_us, ?_⟩
        obtain ⟨z, z1, z2, -⟩ := ho a ha
        have hx : x ≤ b := by
          rw [x1] at e1
          have := congrArg Int32.toInt e1
          rw [nI_toInt (by omega)] at this
          by_cases k : x' < 2 ^ 31
          · rw [nI_toInt k] at this; omega
          · omega
        omega
      · obtain ⟨x', e1, e2⟩ := hb
        refine ⟨min x (y + 1), pk_us, ?_⟩
        have hy : y ≤ b := by
          rw [y1] at e1
          have := congrArg Int32.toInt e1
          rw [nI_toInt (by omega)] at this
          by_cases k : x' < 2 ^ 31
          · rw [nI_toInt k] at this; omega
          · omega
        omega
theorem stC {a : Nat} (ha : a < 6) (hM : M ≤ 6) : ∀ (k j : Nat) (S' : sT), j + k = M → sRw S S' → sOK S n' w' M q S' → sRw S (mStC n' w' a k j S') ∧ sOK S n' w' M q (mStC n' w' a k j S') ∧ (∀ r, r ≠ a → mStC n' w' a k j S' 14 r = S' 14 r) ∧ (∀ b, sUp S' a b → sUp (mStC n' w' a k j S') a b) ∧ (∀ o, j ≤ o → o < M → eE S a o → gG S n' w' a → ∀ b, sUp S' o b → sUp (mStC n' w' a k j S') a (b + 1))
  | 0, j, S', hj, hr, ho => ⟨hr, ho, fun _ _ => rfl, fun _ h => h, fun o h1 h2 => absurd h1 (by omega)⟩
  | k + 1, j, S', hj, hr, ho => by
    obtain ⟨s1, s2, s3, s4, s5⟩ := stp_1 (n' := n') (w' := w') ha (show j < M by omega) hM hr ho
    obtain ⟨i1, i2, i3, i4, i5⟩ := stC ha hM k (j + 1) (stp n' w' a j S') (by omega) s1 s2
    have e : mStC n' w' a (k + 1) j S' = mStC n' w' a k (j + 1) (stp n' w' a j S') := rfl
    rw [e]
    refine ⟨i1, i2, fun r h => (i3 r h).trans (s3 r h), fun b hb => i4 b (s4 b hb), fun o h1 h2 he hg b hb => ?_⟩
    by_cases c : o = j
    · subst c; exact i4 _ (s5 he hg b hb)
    · refine i5 o (by omega) h2 he hg b ?_
      by_cases c2 : o = a
      · subst c2; exact s4 b hb
      · unfold sUp
        rw [s3 o c2]; exact hb
theorem stB (hM : M ≤ 6) : ∀ (k j : Nat) (S' : sT), j + k = M → sRw S S' → sOK S n' w' M q S' → sRw S (mStB n' w' M k j S') ∧ sOK S n' w' M q (mStB n' w' M k j S') ∧ (∀ r b, sUp S' r b → sUp (mStB n' w' M k j S') r b) ∧ (∀ a o, j ≤ a → a < M → o < M → eE S a o → gG S n' w' a → ∀ b, sUp S' o b → sUp (mStB n' w' M k j S') a (b + 1))
  | 0, j, S', hj, hr, ho => ⟨hr, ho, fun _ _ h => h, fun a o h1 h2 => absurd h1 (by omega)⟩
  | k + 1, j, S', hj, hr, ho => by
    obtain ⟨s1, s2, s3, s4, s5⟩ := stC (n' := n') (w' := w') (a := j) (by omega) hM M 0 S' (by omega) hr ho
    unfold mStB
    generalize mStC n' w' j M 0 S' = S1 at s1 s2 s3 s4 s5 ⊢
    obtain ⟨i1, i2, i3, i4⟩ := stB hM k (j + 1) S1 (by omega) s1 s2
    have mono : ∀ r b, sUp S' r b → sUp S1 r b := fun r b hb => by
      by_cases c : r = j
      · subst c; exact s4 b hb
      · unfold sUp
        rw [s3 r c]; exact hb
    refine ⟨i1, i2, fun r b hb => i3 r b (mono r b hb), fun a o h1 h2 h3 he hg b hb => ?_⟩
    by_cases c : a = j
    · subst c; exact i3 _ _ (s5 o (by omega) h3 he hg b hb)
    · exact i4 a o (by omega) h2 h3 he hg b (mono o b hb)
def cI (S : sT) (n' w' : Int32) (M q : Nat) (S' : sT) (t : Nat) : Prop := ∀ r, r < M → ∀ d, d ≤ t → dP M q (gG S n' w') (eE S) d r → sUp S' r (d + 1)
theorem stA (hM : M ≤ 6) : ∀ (k j t : Nat) (S' : sT), sRw S S' → sOK S n' w' M q S' → cI S n' w' M q S' t → sRw S (mStA n' w' M k j S') ∧ sOK S n' w' M q (mStA n' w' M k j S') ∧ cI S n' w' M q (mStA n' w' M k j S') (t + k)
  | 0, j, t, S', hr, ho, hc => ⟨hr, ho, hc⟩
  | k + 1, j, t, S', hr, ho, hc => by
    obtain ⟨s1, s2, s3, s4⟩ := stB (n' := n') (w' := w') hM M 0 S' (by omega) hr ho
    unfold mStA
    generalize mStB n' w' M M 0 S' = S1 at s1 s2 s3 s4 ⊢
    have c1 : cI S n' w' M q S1 (t + 1) := fun r hr d hd hp => by
      rcases Nat.lt_or_ge t d with c | c
      · have : d = t + 1 := by omega
        subst this
        rcases hp with hp | ⟨b1, o, b2, b3, b4⟩
        · exact s3 _ _ (sUp_w (hc r hr t (by omega) hp) (by omega))
        · exact s4 r o (by omega) hr b2 b3 b1 _ (hc o b2 t (by omega) b4)
      · exact s3 _ _ (hc r hr d c hp)
    have ih := stA hM k (j + 1) (t + 1) S1 s1 s2 c1
    rw [show t + (k + 1) = t + 1 + k by omega]
    exact ih
theorem st1_spec : ∀ (k j : Nat) (S : sT), (∀ i, (i < j ∨ j + k ≤ i) → mSt1 k j S 14 i = S 14 i) ∧ (∀ i, j ≤ i → i < j + k → mSt1 k j S 14 i = 1048576)
  | 0, j, S => ⟨fun _ _ => rfl, fun i h1 h2 => absurd h1 (by omega)⟩
  | k + 1, j, S => by
    unfold mSt1
    obtain ⟨i1, i2⟩ := st1_spec k (j + 1) (sA S 14 (upd (S 14) j 1048576))
    have e : sA S 14 (upd (S 14) j 1048576) 14 = upd (S 14) j 1048576 := va_up_self _ _ _
    rw [e] at i1
    refine ⟨fun i hi => ?_, fun i h1 h2 => ?_⟩
    · rw [i1 i (by omega), pk_un (by omega)]
    · by_cases c : i = j
      · subst c; rw [i1 i (by omega), pk_us]
      · exact i2 i (by omega) (by omega)
theorem step_lv (hM : M ≤ 6) (hq : q < M) {S' : sT} (hr : sRw S S') : sRw S (mStep S' (nI q) n' w' M) ∧ ∀ r, r < M → (∃ d, d < M ∧ Lv M q (gG S n' w') (eE S) d r ∧ mStep S' (nI q) n' w' M 14 r = nI (d + 1)) ∨ ((∀ d, ¬ dP M q (gG S n' w') (eE S) d r) ∧ mStep S' (nI q) n' w' M 14 r = nI 1048576) := by
  obtain ⟨-, t2⟩ := st1_spec 6 0 S'
  have r1 : sRw S (mSt1 6 0 S') := fun r h1 => (mSt1_r h1 6 0 S').trans (hr r h1)
  unfold mStep
  generalize mSt1 6 0 S' = S1 at t2 r1 ⊢
  have k2 : sRw S (mSt2 S1 (nI q) n' w') ∧ sOK S n' w' M q (mSt2 S1 (nI q) n' w') ∧ cI S n' w' M q (mSt2 S1 (nI q) n' w') 0 := by
    unfold mSt2
    rw [mWW_rw r1, nI_clamp (by omega)]
    by_cases c : mWW S (nI q) n' < w'
    · rw [if_pos c]
      refine ⟨r1, fun r h1 => ⟨1048576, t2 r (by omega) (by omega), by omega, fun k => absurd k (by omega)⟩, fun r hr d hd hp => ?_⟩
      have : d = 0 := by omega
      subst this
      exact absurd c hp.2
    · rw [if_neg c]
      refine ⟨fun r h1 => (va_up_ne _ _ h1).trans (r1 r h1), fun r h1 => ?_, fun r hr d hd hp => ?_⟩
      · show ∃ z : Nat, upd (S1 14) q 1 r = nI z ∧ _
        by_cases c2 : r = q
        · subst c2
          rw [pk_us]
          exact ⟨1, rfl, by omega, fun _ => ⟨by omega, rfl, c⟩⟩
        · rw [pk_un c2]
          exact ⟨1048576, t2 r (by omega) (by omega), by omega, fun k => absurd k (by omega)⟩
      · have : d = 0 := by omega
        subst this
        obtain ⟨e, -⟩ := hp
        subst e
        exact ⟨1, pk_us, by omega⟩
  obtain ⟨a1, a2, a3⟩ := stA (n' := n') (w' := w') hM (M - 1) 1 0 _ k2.1 k2.2.1 k2.2.2
  generalize mStA n' w' M (M - 1) 1 (mSt2 S1 (nI q) n' w') = Z at a1 a2 a3 ⊢
  refine ⟨a1, fun r hr => ?_⟩
  obtain ⟨x, x1, x2, x3⟩ := a2 r (by omega)
  have up : ∀ d, Lv M q (gG S n' w') (eE S) d r → x ≤ d + 1 := fun d hl => by
    have hd := lvl_lt hr hl
    obtain ⟨x', e1, e2⟩ := a3 r hr d (by omega) hl.1
    rw [x1, nI_eq (by omega) (by omega)] at e1
    omega
  rcases Nat.lt_or_ge x 1048576 with c | c
  · left
    obtain ⟨y1, y2⟩ := x3 c
    obtain ⟨d0, hd0, l0⟩ := lv_ex y2
    have := up d0 l0
    refine ⟨d0, lvl_lt hr l0, l0, ?_⟩
    rw [x1]; congr 1; omega
  · right
    refine ⟨fun d hp => ?_, by rw [x1]; congr 1; omega⟩
    obtain ⟨d0, -, l0⟩ := lv_ex hp
    have h1 := up d0 l0
    have h2 := lvl_lt hr l0
    omega
end BG3
