/-! TIES: shelves, the rest. -/
theorem kW_n (k d : Int32) {n x : Nat} (hn : n ≤ 99) (hx : x ≤ 12) : ∃ y : Nat, y ≤ 2000 ∧ kW k (nI n) (nI x) d = nI y := by
  have hp : n * x ≤ 99 * 12 := Nat.mul_le_mul hn hx
  have e1 : nI n * 12 = nI (n * 12) := pk_mul n 12
  have e2 : nI n * nI x = nI (n * x) := pk_mul n x
  have e3 : nI (n * x) / 2 = nI (n * x / 2) := pk_div (d := 2) (by omega) (by omega) (by omega)
  have e4 : nI (n * x) + nI n = nI (n * x + n) := nI_add _ _
  unfold kW
  rw [e1, e2, e3, e4]
  by_cases c1 : k = 1
  · rw [if_pos c1]; exact ⟨n * 12, by omega, rfl⟩
  rw [if_neg c1]
  by_cases c2 : k = 2
  · rw [if_pos c2]; exact ⟨n * x / 2, by omega, rfl⟩
  rw [if_neg c2]
  by_cases c3 : k = 3
  · rw [if_pos c3]; exact ⟨n * x + n, by omega, rfl⟩
  rw [if_neg c3]
  by_cases c4 : k = 4
  · rw [if_pos c4]
    by_cases c6 : iRem d 3 = 0
    · rw [if_pos c6]; exact ⟨0, by omega, rfl⟩
    · rw [if_neg c6]; exact ⟨n * x / 2, by omega, rfl⟩
  rw [if_neg c4]
  by_cases c5 : k = 5
  · rw [if_pos c5, show (60 : Int32) = nI 60 from rfl, iMinN (by omega) (by omega)]; exact ⟨_, by omega, rfl⟩
  rw [if_neg c5]
  exact ⟨n * x, by omega, rfl⟩
/-- what the bag b weighs with r -/
def wF (S : sT) (a c : Nat) (r b : Nat) : Nat := (mWW S (nI r) (nI (a + c * b))).toNatClampNeg
theorem wF_eq {T S : sT} {M N u : Nat} (h : tRel T S M N u) {a c r b : Nat} (ha : a ≤ 20) (hc : c ≤ 9) (hr : r < M) (hb : b < 6) : mWW S (nI r) (nI (a + c * b)) = nI (wF S a c r b) ∧ wF S a c r b ≤ 2000 := by
  have hp : c * b ≤ 9 * 5 := Nat.mul_le_mul hc (by omega)
  obtain ⟨x, hx, ex⟩ := hon_of h hr
  unfold wF mWW
  rw [cl_nI (by have := h.1.1; omega), ex]
  obtain ⟨y, hy, ey⟩ := kW_n (S 1 r) (S 30 1) (n := a + c * b) (x := x) (by omega) hx
  rw [ey, nI_clamp (by omega)]
  exact ⟨rfl, hy⟩
-- the class
theorem wB2_spec {T : sT} {a c r : Int32} {i : Nat} : ∀ (k j : Nat) (V : sT), (∀ x, x ≠ 3 → wB2 T a c r k j i V x = V x) ∧ (∀ q, (q < i * 6 + j ∨ i * 6 + j + k ≤ q) → wB2 T a c r k j i V 3 q = V 3 q) ∧ (∀ q, j ≤ q → q < j + k → wB2 T a c r k j i V 3 (i * 6 + q) = trWW T r (a + nI q * c))
  | 0, j, V => ⟨fun _ _ => rfl, fun _ _ => rfl, fun q h1 h2 => absurd h1 (by omega)⟩
  | k + 1, j, V => by
    unfold wB2
    obtain ⟨i1, i2, i3⟩ := wB2_spec (T := T) (a := a) (c := c) (r := r) (i := i) k (j + 1) (sA V 3 (upd (V 3) (i * 6 + j) (trWW T r (a + nI j * c))))
    have e : sA V 3 (upd (V 3) (i * 6 + j) (trWW T r (a + nI j * c))) 3 = upd (V 3) (i * 6 + j) (trWW T r (a + nI j * c)) := va_up_self _ _ _
    rw [e] at i2
    refine ⟨fun x hx => (i1 x hx).trans (va_up_ne _ _ hx), fun q hq => ?_, fun q h1 h2 => ?_⟩
    · rw [i2 q (by omega), pk_un (by omega)]
    · by_cases cq : q = j
      · subst cq; rw [i2 _ (by omega), pk_us]
      · exact i3 q (by omega) (by omega)
theorem wB1_spec {T : sT} {a c : Int32} : ∀ (k j : Nat) (V : sT), (∀ q, q < j * 6 → wB1 T a c k j V 3 q = V 3 q) ∧ (∀ i q, j ≤ i → i < j + k → q < 6 → wB1 T a c k j V 3 (i * 6 + q) = trWW T (nI i) (a + nI q * c))
  | 0, j, V => ⟨fun _ _ => rfl, fun i q h1 h2 => absurd h1 (by omega)⟩
  | k + 1, j, V => by
    unfold wB1
    obtain ⟨-, s2, s3⟩ := wB2_spec (T := T) (a := a) (c := c) (r := nI j) (i := j) 6 0 V
    generalize wB2 T a c (nI j) 6 0 j V = V1 at s2 s3 ⊢
    obtain ⟨i1, i2⟩ := wB1_spec (T := T) (a := a) (c := c) k (j + 1) V1
    refine ⟨fun q hq => ?_, fun i q h1 h2 h3 => ?_⟩
    · rw [i1 q (by omega), s2 q (by omega)]
    · by_cases ci : i = j
      · subst ci
        rw [i1 _ (by omega), s3 q (by omega) (by omega)]
      · exact i2 i q (by omega) (by omega) h3
theorem light_j (V : sT) {s : Nat} (hs : s < 64) : wLight V (nI s) = V 2 s := by
  unfold wLight
  rw [if_neg (nI_pos (by omega)), if_neg (by rw [show (64 : Int32) = nI 64 from rfl, nI_leI (by omega) (by omega)]; omega), nI_clamp (by omega)]
theorem bag_j (V : sT) {r b : Nat} (hr : r < 6) (hb : b < 6) : wBag V (nI r) (nI b) = V 3 (r * 6 + b) := by
  have e : nI r * 6 + nI b = nI (r * 6 + b) := by rw [show (6 : Int32) = nI 6 from rfl, pk_mul, nI_add]
  unfold wBag
  rw [e, if_neg (nI_pos (by omega)), if_neg (by rw [show (36 : Int32) = nI 36 from rfl, nI_leI (by omega) (by omega)]; omega), nI_clamp (by omega)]
theorem bestL_n {V : sT} {s M : Nat} {f : Nat → Nat} (hs : s < 64) (hM : M ≤ 6) (hf : ∀ b, b < M → bt s b = 0 → wLW V (nI s) (nI b) = nI (f b) ∧ f b ≤ 1000000) : ∀ (k j x : Nat), j + k ≤ M → x ≤ 1000000 → wBestL V (nI s) k j (nI x) = nI (bst f s k j x)
  | 0, _, _, _, _ => rfl
  | k + 1, j, x, hj, hx => by
    unfold wBestL bst
    by_cases c : bt s j = 0
    · obtain ⟨f1, f2⟩ := hf j (by omega) c
      rw [if_pos ((bt_0 hs (by omega)).mpr c), if_pos c, f1]
      have e : iMax (nI x) (nI (f j)) = nI (max x (f j)) := by
        unfold iMax
        rcases Nat.lt_or_ge x (f j) with q | q
        · rw [if_pos ((nI_ltI (by omega) (by omega)).mpr q), Nat.max_eq_right (by omega)]
        · rw [if_neg (fun z => by have := (nI_ltI (by omega) (by omega)).mp z; omega), Nat.max_eq_left q]
      rw [e]
      exact bestL_n hs hM hf k (j + 1) _ (by omega) (Nat.max_le.mpr ⟨hx, f2⟩)
    · rw [if_neg (fun z => c ((bt_0 hs (by omega)).mp z)), if_neg c]
      exact bestL_n hs hM hf k (j + 1) x (by omega) hx
theorem bestL_m {V : sT} {s M : Nat} {f : Nat → Nat} (hs : s < 64) (hM : M ≤ 6) (hf : ∀ b, b < M → bt s b = 0 → wLW V (nI s) (nI b) = nI (f b) ∧ f b ≤ 1000000) : ∀ (k j : Nat), j + k ≤ M → (∃ b, j ≤ b ∧ b < j + k ∧ bt s b = 0) → wBestL V (nI s) k j (-1) = nI (bst f s k j 0)
  | 0, _, _, h => by obtain ⟨b, h1, h2, -⟩ := h; omega
  | k + 1, j, hj, h => by
    unfold wBestL bst
    by_cases c : bt s j = 0
    · obtain ⟨f1, f2⟩ := hf j (by omega) c
      rw [if_pos ((bt_0 hs (by omega)).mpr c), if_pos c, f1]
      have e : iMax (-1) (nI (f j)) = nI (max 0 (f j)) := by
        unfold iMax
        rw [if_pos (by rw [fa_lt, nI_toInt (by omega)]; have : (-1 : Int32).toInt = -1 := by decide
                       omega), Nat.zero_max]
      rw [e]
      exact bestL_n hs hM hf k (j + 1) _ (by omega) (Nat.max_le.mpr ⟨by omega, f2⟩)
    · rw [if_neg (fun z => c ((bt_0 hs (by omega)).mp z)), if_neg c]
      obtain ⟨b, h1, h2, h3⟩ := h
      refine bestL_m hs hM hf k (j + 1) (by omega) ⟨b, ?_, by omega, h3⟩
      rcases Nat.lt_or_ge j b with q | q
      · omega
      · have : b = j := by omega
        subst this; exact absurd h3 c
theorem bestL_f {V : sT} {s M : Nat} (hs : s < 64) (hM : M ≤ 6) (hf : ∀ b, b < M → ¬ bt s b = 0) : ∀ (k j : Nat) (x : Int32), j + k ≤ M → wBestL V (nI s) k j x = x
  | 0, _, _, _ => rfl
  | k + 1, j, x, hj => by
    unfold wBestL
    rw [if_neg (fun z => hf j (by omega) ((bt_0 hs (by omega)).mp z))]
    exact bestL_f hs hM hf k (j + 1) x (by omega)
section SH3
variable {W : Nat → Nat → Nat} {M : Nat}
theorem lw_n (hM : M ≤ 6) {V : sT} (hW : ∀ r b, r < M → b < M → V 3 (r * 6 + b) = nI (W r b) ∧ W r b ≤ 2000) {s k b : Nat} (hs : s < 2 ^ M) (hk : pc s + (k + 1) = M) (hb : b < M) (h0 : bt s b = 0) (hV : V 2 (s + 2 ^ b) = nI (gN W M k (s + 2 ^ b))) : wLW V (nI s) (nI b) = nI (min (W (M - (k + 1)) b) (gN W M k (s + 2 ^ b))) := by
  have h64 := pow64b (show M < 7 by omega)
  have h5 := bt_5 M (by omega) s hs b hb h0
  unfold wLW
  rw [bt_3 s (by omega), bt_2 s (by omega) b (by omega) h0, bag_j V (by omega) (by omega), light_j V (by omega), hV, show M - (k + 1) = pc s by omega]
  obtain ⟨w1, w2⟩ := hW (pc s) b (by omega) hb
  have := gN_le (W := W) (M := M) k (s + 2 ^ b)
  rw [w1, iMinN (by omega) (by omega)]
theorem shel_dp (hM : M ≤ 6) {V0 : sT} (hW : ∀ r b, r < M → b < M → V0 3 (r * 6 + b) = nI (W r b) ∧ W r b ≤ 2000) : ∀ (k : Nat) (V : sT), k ≤ 2 ^ M → V 3 = V0 3 → (∀ s, k ≤ s → s < 2 ^ M → V 2 s = nI (gN W M (M - pc s) s)) → wShelL (nI (2 ^ M) - 1) M k V 3 = V0 3 ∧ ∀ s, s < 2 ^ M → wShelL (nI (2 ^ M) - 1) M k V 2 s = nI (gN W M (M - pc s) s)
  | 0, V, _, h3, h2 => ⟨h3, fun s hs => h2 s (by omega) hs⟩
  | k + 1, V, hk, h3, h2 => by
    have h64 := pow64b (show M < 7 by omega)
    have h0 := Nat.two_pow_pos M
    unfold wShelL
    have key : wBestL V (nI k) M 0 (if nI k = nI (2 ^ M) - 1 then 1000000 else -1) = nI (gN W M (M - pc k) k) := by
      have h7 := bt_7 M (by omega) k (by omega)
      rw [nI_pr (by omega)]
      have hke : nI k = nI (2 ^ M - 1) ↔ k = 2 ^ M - 1 := nI_eq (by omega) (by omega)
      by_cases c : pc k = M
      · have h8 := (bt_8 M (by omega) k (by omega)).mp c
        rw [if_pos (hke.mpr (by omega)), bestL_f (by omega) hM (bt_9 M (by omega) k (by omega) c) M 0 _ (by omega), c, Nat.sub_self]
        rfl
      · have h8 : ¬ k + 1 = 2 ^ M := fun e => c ((bt_8 M (by omega) k (by omega)).mpr e)
        obtain ⟨k', hk'⟩ : ∃ k', M - pc k = k' + 1 := ⟨M - pc k - 1, by omega⟩
        rw [if_neg (fun z => by have := hke.mp z; omega), hk']
        unfold gN
        refine bestL_m (by omega) hM (fun b hb hb0 => ?_) M 0 (by omega) ?_
        · have h4 := bt_4 k (by omega) b (by omega) hb0
          have h5 := bt_5 M (by omega) k (by omega) b hb hb0
          refine ⟨lw_n hM (V := V) (by rw [h3]; exact hW) (by omega) (by omega) hb hb0 ?_, Nat.le_trans (Nat.min_le_right _ _) (gN_le k' _)⟩
          rw [h2 (k + 2 ^ b) (by have := Nat.two_pow_pos b; omega) h5, h4, show M - (pc k + 1) = k' by omega]
        · refine Classical.byContradiction (fun q => bt_6 M (by omega) k (by omega) (by omega) (fun b hb hb0 => q ⟨b, by omega, by omega, hb0⟩))
    rw [key]
    have ep : ∀ x, wPutL V (nI k) x = sA V 2 (upd (V 2) k x) := fun x => by
      unfold wPutL
      rw [if_neg (nI_pos (by omega)), if_neg (by rw [show (64 : Int32) = nI 64 from rfl, nI_leI (by omega) (by omega)]; omega), nI_clamp (by omega)]
    rw [ep]
    refine shel_dp hM hW k _ (by omega) ((va_up_ne _ _ (by decide)).trans h3) (fun s h1 hs => ?_)
    show upd (V 2) k _ s = _
    by_cases c : s = k
    · subst c; rw [pk_us]
    · rw [pk_un c]; exact h2 s (by omega) hs
theorem first_n (hM : M ≤ 6) {V : sT} (hW : ∀ r b, r < M → b < M → V 3 (r * 6 + b) = nI (W r b) ∧ W r b ≤ 2000) (h2 : ∀ s, s < 2 ^ M → V 2 s = nI (gN W M (M - pc s) s)) {s k t : Nat} (hs : s < 2 ^ M) (hk : pc s + (k + 1) = M) (ht : V 2 0 = nI t) (ht2 : t ≤ 1000000) : ∀ (n j : Nat), j + n = M → wFirst V (nI s) n j = match fB (okB W M t k s) n j with | none => 0 | some b => nI b
  | 0, _, _ => rfl
  | n + 1, j, hj => by
    have h64 := pow64b (show M < 7 by omega)
    unfold wFirst fB
    have ih := first_n hM hW h2 hs hk ht ht2 n (j + 1) (by omega)
    by_cases c : bt s j = 0
    · have h4 := bt_4 s (by omega) j (by omega) c
      have h5 := bt_5 M (by omega) s hs j (by omega) c
      have hg := gN_le (W := W) (M := M) k (s + 2 ^ j)
      rw [if_pos ((bt_0 (by omega) (by omega)).mpr c), lw_n hM hW hs hk (by omega) c (by rw [h2 _ h5, h4, show M - (pc s + 1) = k by omega]), show (0 : Int32) = nI 0 from rfl, light_j V (by omega), ht]
      by_cases c2 : t ≤ min (W (M - (k + 1)) j) (gN W M k (s + 2 ^ j))
      · have eo : okB W M t k s j = true := by
          unfold okB
          simp only [Bool.and_eq_true, decide_eq_true_eq]
          exact ⟨c, c2⟩
        rw [if_pos eo, if_neg (fun z => by have := (nI_ltI (by omega) (by omega)).mp z; omega)]
      · have eo : ¬ okB W M t k s j = true := by
          unfold okB
          simp only [Bool.and_eq_true, decide_eq_true_eq]
          exact fun q => c2 q.2
        rw [if_neg eo, if_pos ((nI_ltI (by omega) (by omega)).mpr (by omega))]
        exact ih
    · have eo : ¬ okB W M t k s j = true := by
        unfold okB
        simp only [Bool.and_eq_true, decide_eq_true_eq]
        exact fun q => c q.1
      rw [if_neg (fun z => c ((bt_0 (by omega) (by omega)).mp z)), if_neg eo]
      exact ih
theorem bagOf_n (hM : M ≤ 6) {V : sT} (hW : ∀ r b, r < M → b < M → V 3 (r * 6 + b) = nI (W r b) ∧ W r b ≤ 2000) (h2 : ∀ s, s < 2 ^ M → V 2 s = nI (gN W M (M - pc s) s)) {t : Nat} (ht : V 2 0 = nI t) (ht2 : t ≤ 1000000) : ∀ (n k s j : Nat) (tk : Int32), n + 1 ≤ k → s < 2 ^ M → pc s + k = M → t ≤ gN W M k s → wBagOf V (nI M) (n + 1) j (nI s) tk = nI ((gr W M t k s).getD n 0)
  | n, k, s, j, tk, hn, hs, hk, hg => by
    obtain ⟨k', rfl⟩ : ∃ k', k = k' + 1 := ⟨k - 1, by omega⟩
    have h64 := pow64b (show M < 7 by omega)
    obtain ⟨b, o1, o2, o3, o4, o5⟩ := ok_ex (show M < 7 by omega) hs hk hg
    have ef : wFirst V (nI s) (nI M).toNatClampNeg 0 = nI b := by
      rw [nI_clamp (by omega), first_n hM hW h2 hs hk ht ht2 M 0 (by omega), o1]
    have eg : gr W M t (k' + 1) s = b :: gr W M t k' (s + 2 ^ b) := by rw [gr, o1]
    unfold wBagOf
    rw [ef, eg, bt_2 s (by omega) b (by omega) o3]
    cases n with
    | zero => rfl
    | succ n =>
      rw [bagOf_n hM hW h2 ht ht2 n k' (s + 2 ^ b) (j + 1) _ (by omega) (bt_5 M (by omega) s hs b o2 o3) (by rw [bt_4 s (by omega) b (by omega) o3]; omega) o5]
      rfl
end SH3
-- the reference
def rho (M : Nat) (S : sT) (f : Nat → Nat) : Prop := ∀ i, i < M → S 16 i = nI (f i) ∧ f i < 6
theorem nK_eq {M : Nat} {S : sT} {f : Nat → Nat} (h : rho M S f) : ∀ k, k < M → nbK (S 16) k = nK f k
  | 0, _ => rfl
  | k + 1, hk => by
    unfold nbK nK
    obtain ⟨a1, a2⟩ := h k (by omega)
    obtain ⟨b1, b2⟩ := h (k + 1) hk
    rw [a1, b1, nK_eq h k (by omega)]
    by_cases c : f k ≤ f (k + 1)
    · rw [if_pos c, if_pos ((nI_leI (by omega) (by omega)).mpr c)]
    · rw [if_neg c, if_neg (fun z => c ((nI_leI (by omega) (by omega)).mp z))]
theorem nJ_eq {M : Nat} {S : sT} {f : Nat → Nat} (h : rho M S f) {i : Nat} (hi : i < M) : ∀ j, j ≤ M → nbJ (S 16) i j = nJ f i j
  | 0, _ => rfl
  | j + 1, hj => by
    unfold nbJ nJ
    obtain ⟨a1, a2⟩ := h i hi
    obtain ⟨b1, b2⟩ := h j (by omega)
    rw [a1, b1, nJ_eq h hi j (by omega)]
    by_cases c : f i ≤ f j
    · rw [if_pos c, if_pos ((nI_leI (by omega) (by omega)).mpr c)]
    · rw [if_neg c, if_neg (fun z => c ((nI_leI (by omega) (by omega)).mp z))]
theorem sw_rho {M : Nat} {S : sT} {f : Nat → Nat} (h : rho M S f) {x y : Nat} (hx : x < M) (hy : y < M) : rho M (mSw S x y) (swN f x y) := fun i hi => by
  show upd (upd (S 16) x (S 16 y)) y (S 16 x) i = nI (swN f x y i) ∧ swN f x y i < 6
  unfold swN updN upd
  by_cases c : i = y
  · rw [if_pos c, if_pos c]; exact h x hx
  · rw [if_neg c, if_neg c]
    by_cases c2 : i = x
    · rw [if_pos c2, if_pos c2]; exact h y hy
    · rw [if_neg c2, if_neg c2]; exact h i hi
theorem rv_rho {M : Nat} : ∀ (k x y : Nat) (S : sT) (f : Nat → Nat), rho M S f → y < M → rho M (mRv k x y S) (rvN k x y f)
  | 0, _, _, _, _, h, _ => h
  | k + 1, x, y, S, f, h, hy => by
    unfold mRv rvN
    by_cases c : y ≤ x
    · rw [if_pos c, if_pos c]; exact h
    · rw [if_neg c, if_neg c]; exact rv_rho k (x + 1) (y - 1) _ _ (sw_rho h (by omega) hy) (by omega)
theorem nx_rho {M : Nat} (hM : 1 ≤ M) {S : sT} {f : Nat → Nat} (h : rho M S f) : (nK f (M - 1) = 0 → mNx S M = (0, S)) ∧ (0 < nK f (M - 1) → (mNx S M).1 = 1 ∧ rho M (mNx S M).2 (nxF M f)) := by
  have e := nK_eq h (M - 1) (by omega)
  unfold mNx
  rw [e]
  refine ⟨fun c => if_pos c, fun c => ?_⟩
  have hle := nbK_le (S 16) (M - 1)
  rw [e] at hle
  rw [if_neg (by omega)]
  refine ⟨rfl, ?_⟩
  have eJ := nJ_eq h (i := nK f (M - 1) - 1) (by omega) M (Nat.le_refl M)
  have hJ := nbJ_lt (S 16) (nK f (M - 1) - 1) M (by omega)
  show rho M (mNxS S M (nK f (M - 1))) (nxF M f)
  unfold mNxS nxF
  rw [eJ] at hJ ⊢
  exact rv_rho 6 _ (M - 1) _ _ (sw_rho h (by omega) hJ) (by omega)
theorem shE {M : Nat} (hM : 1 ≤ M) {a c : Int32} : ∀ (P : List (List Nat)) (l : List Nat) (S : sT) (x : Int32) (F : Nat), chk M (l :: P) = true → rho M S (gl l) → (l :: P).length ≤ F → mShE a c M F S x
  | P, l, S, x, F, hc, hr, hF => by
    have hlen : (l :: P).length = P.length + 1 := rfl
    obtain ⟨F', rfl⟩ : ∃ F', F = F' + 1 := ⟨F - 1, by omega⟩
    have hr2 : rho M (mShB S a c x M) (gl l) := fun i hi => by
      unfold mShB
      rw [mShC_r (by decide)]; exact hr i hi
    obtain ⟨n1, n2⟩ := nx_rho hM hr2
    unfold mShE
    intro hne
    cases P with
    | nil =>
      unfold chk at hc
      rw [Bool.and_eq_true] at hc
      rw [n1 (Nat.eq_of_beq_eq_true hc.2)] at hne
      exact absurd rfl hne
    | cons l' P =>
      unfold chk at hc
      simp only [Bool.and_eq_true] at hc
      obtain ⟨m1, m2⟩ := n2 (Nat.lt_of_lt_of_le (Nat.zero_lt_succ 0) (Nat.le_of_ble_eq_true hc.2.1))
      refine shE hM P l' _ _ F' hc.2.2.2 (fun i hi => ?_) ?_
      · have := m2 i hi
        rw [eqL_of hc.2.2.1 i hi] at this
        exact this
      · have : (l :: l' :: P).length = (l' :: P).length + 1 := rfl
        omega
  termination_by P => P.length
