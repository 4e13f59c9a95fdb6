/-! TIES: shelves, the reference's loop. -/
theorem rv_le (W : Nat → Nat → Nat) (M : Nat) : ∀ (k : Nat) (l : List Nat), rv W M k l ≤ 1000000
  | 0, _ => Nat.le_refl _
  | _ + 1, [] => Nat.zero_le _
  | k + 1, b :: l => Nat.le_trans (Nat.min_le_right _ _) (rv_le W M k l)
theorem gl_j {l : List Nat} {j : Nat} (h : j < l.length) : l.drop j = gl l j :: l.drop (j + 1) := by
  rw [List.drop_eq_getElem_cons h]
  congr 1
  unfold gl
  simp [h]
theorem rv_drop (W : Nat → Nat → Nat) {M k j : Nat} {l : List Nat} (hj : j + (k + 1) = M) (hl : l.length = M) : rv W M (k + 1) (l.drop j) = min (W j (gl l j)) (rv W M k (l.drop (j + 1))) := by
  rw [gl_j (by omega)]
  show min (W (M - (k + 1)) (gl l j)) (rv W M k (l.drop (j + 1))) = _
  rw [show M - (k + 1) = j by omega]
theorem fo_n (v : List Nat → Nat) (l : List Nat) (P : List (List Nat)) : fo v (l :: P) none = fo v P (some (v l, l)) := by rw [fo]
theorem fo_s (v : List Nat → Nat) (l : List Nat) (P : List (List Nat)) (X : Nat) (B : List Nat) : fo v (l :: P) (some (X, B)) = fo v P (if v l ≤ X then some (X, B) else some (v l, l)) := by rw [fo]
section SH4
variable {T S : sT} {M N u : Nat}
theorem mWW_r2 {S' : sT} (hr : ∀ r, r ≠ 16 → r ≠ 17 → S' r = S r) (p m : Int32) : mWW S' p m = mWW S p m := by
  unfold mWW
  rw [hr 1 (by decide) (by decide), hr 2 (by decide) (by decide), hr 30 (by decide) (by decide)]
theorem shY_1 (h : tRel T S M N u) {a c : Nat} (ha : a ≤ 20) (hc : c ≤ 9) {S' : sT} (hr : ∀ r, r ≠ 16 → r ≠ 17 → S' r = S r) {l : List Nat} (hl : rho M S' (gl l)) {j : Nat} (hj : j < M) : mWW S' (nI j) (nI a + nI c * S' 16 j) = nI (wF S a c j (gl l j)) ∧ wF S a c j (gl l j) ≤ 2000 := by
  obtain ⟨e1, e2⟩ := hl j hj
  rw [e1, pk_mul, nI_add, mWW_r2 hr]
  exact wF_eq h ha hc hj e2
theorem shY_n (h : tRel T S M N u) {a c : Nat} (ha : a ≤ 20) (hc : c ≤ 9) {S' : sT} (hr : ∀ r, r ≠ 16 → r ≠ 17 → S' r = S r) {l : List Nat} (hl : rho M S' (gl l)) (hn : l.length = M) : ∀ (k j y : Nat), j + k = M → y ≤ 1000000 → mShY S' (nI a) (nI c) k j (nI y) = nI (min y (rv (wF S a c) M k (l.drop j)))
  | 0, j, y, _, hy => by
    show nI y = nI (min y 1000000)
    rw [Nat.min_eq_left hy]
  | k + 1, j, y, hj, hy => by
    unfold mShY
    obtain ⟨e1, e2⟩ := shY_1 h ha hc hr hl (j := j) (by omega)
    rw [e1, iMinN (by omega) (by omega), shY_n h ha hc hr hl hn k (j + 1) _ (by omega) (Nat.le_trans (Nat.min_le_left _ _) hy), rv_drop _ hj hn, Nat.min_assoc]
theorem shY_0 (h : tRel T S M N u) (hM : 1 ≤ M) {a c : Nat} (ha : a ≤ 20) (hc : c ≤ 9) {S' : sT} (hr : ∀ r, r ≠ 16 → r ≠ 17 → S' r = S r) {l : List Nat} (hl : rho M S' (gl l)) (hn : l.length = M) : mShY S' (nI a) (nI c) M 0 1048576 = nI (rv (wF S a c) M M l) := by
  obtain ⟨k, hk⟩ : ∃ k, M = k + 1 := ⟨M - 1, by omega⟩
  obtain ⟨e1, e2⟩ := shY_1 h ha hc hr hl (j := 0) (by omega)
  have e3 := shY_n h ha hc hr hl hn k 1 (wF S a c 0 (gl l 0)) (by omega) (by omega)
  have e4 := rv_drop (wF S a c) (M := M) (k := k) (j := 0) (l := l) (by omega) hn
  rw [List.drop_zero, ← hk] at e4
  rw [e4, ← e3]
  have e5 : mShY S' (nI a) (nI c) M 0 1048576 = mShY S' (nI a) (nI c) (k + 1) 0 1048576 := by rw [← hk]
  rw [e5, mShY, e1, show (1048576 : Int32) = nI 1048576 from rfl, iMinN (by omega) (by omega), Nat.min_eq_right (by omega)]
theorem shC_y {y x : Int32} (h : y ≤ x) : ∀ (k j : Nat) (S : sT), mShC y x k j S = S
  | 0, _, _ => rfl
  | k + 1, j, S => by unfold mShC; rw [if_pos h]
theorem shC_n {y x : Int32} (h : ¬ y ≤ x) : ∀ (k j : Nat) (S : sT), (∀ i, (i < j ∨ j + k ≤ i) → mShC y x k j S 17 i = S 17 i) ∧ (∀ i, j ≤ i → i < j + k → mShC y x k j S 17 i = S 16 i)
  | 0, j, S => ⟨fun _ _ => rfl, fun i h1 h2 => absurd h1 (by omega)⟩
  | k + 1, j, S => by
    unfold mShC
    rw [if_neg h]
    obtain ⟨i1, i2⟩ := shC_n h k (j + 1) (sA S 17 (upd (S 17) j (S 16 j)))
    have e : sA S 17 (upd (S 17) j (S 16 j)) 17 = upd (S 17) j (S 16 j) := va_up_self _ _ _
    rw [e] at i1
    refine ⟨fun i hi => ?_, fun i h1 h2 => ?_⟩
    · rw [i1 i (by omega), pk_un (by omega)]
    · by_cases c : i = j
      · subst c; rw [i1 i (by omega), pk_us]
      · rw [i2 i (by omega) (by omega)]; rfl
def xr (M : Nat) (S : sT) (x : Int32) : Option (Nat × List Nat) → Prop
  | none => x = -1
  | some (X, B) => x = nI X ∧ X ≤ 1000000 ∧ ∀ i, i < M → S 17 i = nI (gl B i)
theorem shB_n (h : tRel T S M N u) (hM : 1 ≤ M) {a c : Nat} (ha : a ≤ 20) (hc : c ≤ 9) {S' : sT} (hr : ∀ r, r ≠ 16 → r ≠ 17 → S' r = S r) {l : List Nat} (hl : rho M S' (gl l)) (hn : l.length = M) {x : Int32} {o : Option (Nat × List Nat)} (hx : xr M S' x o) (P : List (List Nat)) : ∃ X B, xr M (mShB S' (nI a) (nI c) x M) (mShX S' (nI a) (nI c) x M) (some (X, B)) ∧ fo (rv (wF S a c) M M) (l :: P) o = fo (rv (wF S a c) M M) P (some (X, B)) := by
  have hv := rv_le (wF S a c) M M l
  unfold mShB mShX
  rw [shY_0 h hM ha hc hr hl hn]
  generalize hz : rv (wF S a c) M M l = z at hv ⊢
  have cop : ¬ nI z ≤ x → ∀ i, i < M → mShC (nI z) x M 0 S' 17 i = nI (gl l i) := fun hq i hi => by
    rw [(shC_n hq M 0 S').2 i (by omega) (by omega)]; exact (hl i hi).1
  cases o with
  | none =>
    have hx : x = -1 := hx
    have hq : ¬ nI z ≤ x := by
      rw [hx, fa_le, nI_toInt (by omega)]
      have : (-1 : Int32).toInt = -1 := by decide
      omega
    refine ⟨z, l, ⟨if_neg hq, hv, cop hq⟩, ?_⟩
    rw [fo_n, hz]
  | some o =>
    obtain ⟨X, B⟩ := o
    obtain ⟨x1, x2, x3⟩ := hx
    rw [fo_s, hz]
    by_cases c : z ≤ X
    · have hq : nI z ≤ x := by rw [x1]; exact (nI_leI (by omega) (by omega)).mpr c
      refine ⟨X, B, ⟨(if_pos hq).trans x1, x2, fun i hi => by rw [shC_y hq]; exact x3 i hi⟩, ?_⟩
      rw [if_pos c]
    · have hq : ¬ nI z ≤ x := fun e => by
        rw [x1] at e
        exact c ((nI_leI (by omega) (by omega)).mp e)
      refine ⟨z, l, ⟨if_neg hq, hv, cop hq⟩, ?_⟩
      rw [if_neg c]
theorem shL_n (h : tRel T S M N u) (hM : 1 ≤ M) {a c : Nat} (ha : a ≤ 20) (hc : c ≤ 9) : ∀ (P : List (List Nat)) (l : List Nat) (S' : sT) (x : Int32) (o : Option (Nat × List Nat)) (F : Nat), chk M (l :: P) = true → rho M S' (gl l) → (∀ r, r ≠ 16 → r ≠ 17 → S' r = S r) → xr M S' x o → (l :: P).length ≤ F → ∃ X B, fo (rv (wF S a c) M M) (l :: P) o = some (X, B) ∧ (mShL (nI a) (nI c) M F S' x).2 = nI X ∧ (∀ i, i < M → (mShL (nI a) (nI c) M F S' x).1 17 i = nI (gl B i)) ∧ (∀ r, r ≠ 16 → r ≠ 17 → (mShL (nI a) (nI c) M F S' x).1 r = S r)
  | P, l, S', x, o, F, hk, hl, hr, hx, hF => by
    have hlen : (l :: P).length = P.length + 1 := rfl
    obtain ⟨F', rfl⟩ : ∃ F', F = F' + 1 := ⟨F - 1, by omega⟩
    have hn : l.length = M := by
      have : okL M l = true := by
        cases P with
        | nil =>
          unfold chk at hk
          rw [Bool.and_eq_true] at hk
          exact hk.1
        | cons l' P =>
          unfold chk at hk
          rw [Bool.and_eq_true] at hk
          exact hk.1
      unfold okL at this
      rw [Bool.and_eq_true] at this
      exact Nat.eq_of_beq_eq_true this.1
    obtain ⟨X, B, b1, b2⟩ := shB_n h hM ha hc hr hl hn hx P
    rw [b2]
    have hr1 : ∀ r, r ≠ 17 → mShB S' (nI a) (nI c) x M r = S' r := fun r q => by unfold mShB; rw [mShC_r q]
    have hl1 : rho M (mShB S' (nI a) (nI c) x M) (gl l) := fun i hi => by rw [hr1 16 (by decide)]; exact hl i hi
    unfold mShL
    generalize mShB S' (nI a) (nI c) x M = S1 at b1 hr1 hl1 ⊢
    generalize mShX S' (nI a) (nI c) x M = x1 at b1 ⊢
    obtain ⟨n1, n2⟩ := nx_rho hM hl1
    cases P with
    | nil =>
      unfold chk at hk
      rw [Bool.and_eq_true] at hk
      rw [n1 (Nat.eq_of_beq_eq_true hk.2), if_pos rfl]
      exact ⟨X, B, rfl, b1.1, b1.2.2, fun r q1 q2 => (hr1 r q2).trans (hr r q1 q2)⟩
    | cons l' P =>
      unfold chk at hk
      simp only [Bool.and_eq_true] at hk
      obtain ⟨m1, m2⟩ := n2 (Nat.lt_of_lt_of_le (Nat.zero_lt_succ 0) (Nat.le_of_ble_eq_true hk.2.1))
      rw [if_neg (by rw [m1]; decide)]
      have hr2 : ∀ r, r ≠ 16 → (mNx S1 M).2 r = S1 r := fun r q => mNx_r q S1 M
      generalize (mNx S1 M).2 = S2 at m2 hr2 ⊢
      refine shL_n h hM ha hc P l' S2 x1 (some (X, B)) F' hk.2.2.2 (fun i hi => ?_) (fun r q1 q2 => (hr2 r q1).trans ((hr1 r q2).trans (hr r q1 q2))) ⟨b1.1, b1.2.1, fun i hi => by rw [hr2 17 (by decide)]; exact b1.2.2 i hi⟩ ?_
      · have := m2 i hi
        rw [eqL_of hk.2.2.1 i hi] at this
        exact this
      · have : (l :: l' :: P).length = (l' :: P).length + 1 := rfl
        omega
  termination_by P => P.length
theorem shI_spec : ∀ (k j : Nat) (S : sT), (∀ i, (i < j ∨ j + k ≤ i) → mShI k j S 16 i = S 16 i) ∧ (∀ i, j ≤ i → i < j + k → mShI k j S 16 i = nI i)
  | 0, j, S => ⟨fun _ _ => rfl, fun i h1 h2 => absurd h1 (by omega)⟩
  | k + 1, j, S => by
    unfold mShI
    obtain ⟨i1, i2⟩ := shI_spec k (j + 1) (sA S 16 (upd (S 16) j (nI j)))
    have e : sA S 16 (upd (S 16) j (nI j)) 16 = upd (S 16) j (nI j) := va_up_self _ _ _
    rw [e] at i1
    refine ⟨fun i hi => ?_, fun i h1 h2 => ?_⟩
    · rw [i1 i (by omega), pk_un (by omega)]
    · by_cases c : i = j
      · subst c; rw [i1 i (by omega), pk_us]
      · exact i2 i (by omega) (by omega)
theorem shI_rho {M : Nat} (hM : M ≤ 6) {l : List Nat} (hl : ∀ i, i < M → gl l i = i) (S : sT) : rho M (mShI M 0 S) (gl l) := fun i hi => by
  rw [(shI_spec M 0 S).2 i (by omega) (by omega), hl i hi]
  exact ⟨rfl, by omega⟩
/-- what the reference's shelves needs -/
theorem shel_E (h : tRel T S M N u) (a c : Int32) : ¬ mShI M 0 S 30 0 ≤ 0 → mShE a c M 720 (mShI M 0 S) (-1) := by
  intro hne
  have hM := h.1.1
  have e30 : mShI M 0 S 30 0 = nI M := by rw [mShI_r (by decide)]; exact h.2.1.2.1
  have hM1 : 1 ≤ M := by
    rcases Nat.eq_zero_or_pos M with q | q
    · exfalso
      apply hne
      rw [e30, q]; decide
    · exact q
  obtain ⟨l, P, -, l2, l3, l4⟩ := chk_all hM1 hM
  exact shE hM1 P l _ (-1) 720 l3 (shI_rho hM l2 S) l4
theorem shel_Z (h : tRel T S M N u) (hM1 : 1 ≤ M) {a c : Nat} (ha : a ≤ 20) (hc : c ≤ 9) : (mShL (nI a) (nI c) M 720 (mShI M 0 S) (-1)).2 = nI (gN (wF S a c) M M 0) ∧ (∀ i, i < M → (mShL (nI a) (nI c) M 720 (mShI M 0 S) (-1)).1 17 i = nI (gl (gr (wF S a c) M (gN (wF S a c) M M 0) M 0) i)) ∧ (∀ r, r ≠ 16 → r ≠ 17 → (mShL (nI a) (nI c) M 720 (mShI M 0 S) (-1)).1 r = S r) := by
  have hM := h.1.1
  obtain ⟨l, P, l1, l2, l3, l4⟩ := chk_all hM1 hM
  obtain ⟨X, B, x1, x2, x3, x4⟩ := shL_n h hM1 ha hc P l (mShI M 0 S) (-1) none 720 l3 (shI_rho hM l2 S) (fun r q1 _ => mShI_r q1 M 0 S) rfl l4
  rw [fo_lex (by omega) l1] at x1
  have e := Option.some.inj x1
  have e1 : gN (wF S a c) M M 0 = X := congrArg Prod.fst e
  have e2 : gr (wF S a c) M (gN (wF S a c) M M 0) M 0 = B := congrArg Prod.snd e
  rw [e1, ← e1, e2, e1]
  exact ⟨x2, x3, x4⟩
theorem shel_V (h : tRel T S M N u) {a c : Nat} (ha : a ≤ 20) (hc : c ≤ 9) (V : sT) : (∀ r b, r < M → b < M → wShel T V (nI a) (nI c) M 3 (r * 6 + b) = nI (wF S a c r b) ∧ wF S a c r b ≤ 2000) ∧ (∀ s, s < 2 ^ M → wShel T V (nI a) (nI c) M 2 s = nI (gN (wF S a c) M (M - pc s) s)) := by
  have hM := h.1.1
  have hW : ∀ r b, r < M → b < M → wB1 T (nI a) (nI c) 6 0 V 3 (r * 6 + b) = nI (wF S a c r b) ∧ wF S a c r b ≤ 2000 := fun r b hr hb => by
    rw [(wB1_spec (T := T) (a := nI a) (c := nI c) 6 0 V).2 r b (by omega) (by omega) (by omega), ww_eq h hr, pk_mul, nI_add, Nat.mul_comm b c]
    exact wF_eq h ha hc hr (by omega)
  unfold wShel
  obtain ⟨d1, d2⟩ := shel_dp hM hW (2 ^ M) (wB1 T (nI a) (nI c) 6 0 V) (Nat.le_refl _) rfl (fun s h1 h2 => absurd h1 (by omega))
  rw [d1]
  exact ⟨hW, d2⟩
end SH4
section TIE10
variable {C T A R V S : sT} {L Lm : Nat → Int64} {M N u t : Nat}
theorem tie_shel1 (h : rel (C, L, T, A, R, V) S Lm M N u t) {a c : Nat} (ha : a ≤ 20) (hc : c ≤ 9) {p : Int32} (hp : p = -1 ∨ ∃ j, j < M ∧ p = nI j) : tieO (xShelOk C L T A R V (nI a) (nI c) p M) (mShA Lm (mShZ S (nI a) (nI c) M 720) p) S := by
  have h1 : tRel T S M N u := h.1
  have hM := h1.1.1
  have e30 : mShI M 0 S 30 0 = nI M := by rw [mShI_r (by decide)]; exact h1.2.1.2.1
  unfold xShelOk mShA mShZ
  rcases Nat.eq_zero_or_pos M with q | q
  · subst q
    rw [e30, if_pos (show nI 0 ≤ 0 by decide)]
    obtain ⟨s1, s2⟩ := same_45 h1 (S' := mShI 0 0 S) (fun r _ _ q1 _ => mShI_r q1 0 0 S)
    rcases hp with hp | ⟨j, hj, -⟩
    · subst hp
      rw [if_pos rfl, if_pos rfl, if_pos (show nI 0 = 0 from rfl)]
      show tieO _ (if mShI 0 0 S 30 0 = 0 then (0, mShI 0 0 S, Lm) else (-1, mShI 0 0 S, Lm)) S
      rw [if_pos (show mShI 0 0 S 30 0 = 0 from e30)]
      exact tie_T h s1 s2 rfl
    · omega
  · rw [e30, if_neg (nI_nle q (by omega))]
    obtain ⟨z1, z2, z3⟩ := shel_Z h1 q ha hc
    obtain ⟨v1, v2⟩ := shel_V h1 ha hc V
    generalize mShL (nI a) (nI c) M 720 (mShI M 0 S) (-1) = Z at z1 z2 z3 ⊢
    generalize wShel T V (nI a) (nI c) M = V' at v1 v2 ⊢
    obtain ⟨s1, s2⟩ := same_45 h1 (S' := Z.1) (fun r _ _ q1 q2 => z3 r q1 q2)
    have v0 : V' 2 0 = nI (gN (wF S a c) M M 0) := by
      have := v2 0 (Nat.two_pow_pos M)
      rw [show pc 0 = 0 from rfl, Nat.sub_zero] at this
      exact this
    rcases hp with hp | ⟨j, hj, hp⟩
    · subst hp
      rw [if_pos rfl, if_pos rfl, if_neg (nI_ne0 q (by omega)), z3 30 (by decide) (by decide), h1.2.1.2.1, if_neg (nI_ne0 q (by omega)), show wLight V' 0 = V' 2 0 from light_j V' (s := 0) (by omega), v0, z1]
      exact tie_T h s1 s2 rfl
    · subst hp
      rw [if_neg (nI_m1 (by omega)), if_neg (nI_m1 (by omega)), nI_clamp (by omega), h1.2.1.1, Nat.min_eq_left (by omega), z2 j hj]
      refine tie_T h s1 s2 ?_
      exact bagOf_n hM v1 v2 v0 (gN_le M 0) j M 0 0 0 (by omega) (Nat.two_pow_pos M) (by rw [show pc 0 = 0 from rfl]; omega) (Nat.le_refl _)
theorem tie_shelves (h : rel (C, L, T, A, R, V) S Lm M N u t) (a c p : Int32) : tieO (xShelves C L T A R V a c p M) (mShelves S Lm M 720 a c p) S := by
  have h1 : tRel T S M N u := h.1
  unfold xShelves mShelves
  by_cases c1 : iW a 0 20 = 0
  · rw [if_pos c1, if_pos c1]; exact tie_ten h
  rw [if_neg c1, if_neg c1]
  by_cases c2 : iW c 0 9 = 0
  · rw [if_pos c2, if_pos c2]; exact tie_ten h
  rw [if_neg c2, if_neg c2]
  have k1 := iW_le c1
  have k2 := iW_le c2
  have e0 : (0 : Int32).toInt = 0 := by decide
  have e20 : (20 : Int32).toInt = 20 := by decide
  have e9 : (9 : Int32).toInt = 9 := by decide
  obtain ⟨a', ha, rfl⟩ := of_bound (v := a) (n := 20) (by omega) (by omega) (by omega)
  obtain ⟨c', hc, rfl⟩ := of_bound (v := c) (n := 9) (by omega) (by omega) (by omega)
  by_cases c3 : p = -1
  · rw [if_pos c3, if_pos c3]; exact tie_shel1 h ha hc (Or.inl c3)
  rw [if_neg c3, if_neg c3, is_eq h1]
  by_cases c4 : mIs S p = 0
  · rw [if_pos c4, if_pos c4]; exact tie_ten h
  rw [if_neg c4, if_neg c4]
  exact tie_shel1 h ha hc (Or.inr (is_ok h1.1.1 h1.2.1.2.1 c4))
end TIE10
