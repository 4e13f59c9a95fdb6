/-! TIES: shelves. Orders of bags as lists, the best of them by sets. -/
def bt (s b : Nat) : Nat := s / 2 ^ b % 2
def pc (s : Nat) : Nat := s % 2 + s / 2 % 2 + s / 4 % 2 + s / 8 % 2 + s / 16 % 2 + s / 32 % 2
theorem bt_1 : ∀ s, s < 64 → ∀ b, b < 6 → iBit (nI s) b = nI (bt s b) := by decide +kernel
theorem bt_2 : ∀ s, s < 64 → ∀ b, b < 6 → bt s b = 0 → nI s ||| ((1 : Int32) <<< (nI b &&& 31)) = nI (s + 2 ^ b) := by decide +kernel
theorem bt_3 : ∀ s, s < 64 → iBits (nI s) = nI (pc s) := by decide +kernel
theorem bt_4 : ∀ s, s < 64 → ∀ b, b < 6 → bt s b = 0 → pc (s + 2 ^ b) = pc s + 1 := by decide +kernel
theorem bt_5 : ∀ M, M < 7 → ∀ s, s < 2 ^ M → ∀ b, b < M → bt s b = 0 → s + 2 ^ b < 2 ^ M := by decide +kernel
theorem bt_6 : ∀ M, M < 7 → ∀ s, s < 2 ^ M → pc s < M → ¬ ∀ b, b < M → ¬ bt s b = 0 := by decide +kernel
theorem bt_7 : ∀ M, M < 7 → ∀ s, s < 2 ^ M → pc s ≤ M := by decide +kernel
theorem bt_8 : ∀ M, M < 7 → ∀ s, s < 2 ^ M → (pc s = M ↔ s + 1 = 2 ^ M) := by decide +kernel
theorem bt_9 : ∀ M, M < 7 → ∀ s, s < 2 ^ M → pc s = M → ∀ b, b < M → ¬ bt s b = 0 := by decide +kernel
theorem pow64b {M : Nat} (h : M < 7) : 2 ^ M ≤ 64 := Nat.pow_le_pow_right (n := 2) (by omega) (show M ≤ 6 by omega)
theorem bt_0 {s b : Nat} (hs : s < 64) (hb : b < 6) : iBit (nI s) b = 0 ↔ bt s b = 0 := by
  rw [bt_1 s hs b hb]
  have h : bt s b < 2 := Nat.mod_lt _ (by omega)
  constructor
  · intro e
    rcases Nat.eq_zero_or_pos (bt s b) with c | c
    · exact c
    · exact absurd e (nI_ne0 c (by omega))
  · intro e; rw [e]; rfl
def bst (f : Nat → Nat) (s : Nat) : Nat → Nat → Nat → Nat
  | 0, _, x => x
  | k + 1, j, x => bst f s k (j + 1) (if bt s j = 0 then max x (f j) else x)
theorem bst_gx (f : Nat → Nat) (s : Nat) : ∀ (k j x : Nat), x ≤ bst f s k j x
  | 0, _, x => Nat.le_refl x
  | k + 1, j, x => by
    unfold bst
    by_cases c : bt s j = 0
    · rw [if_pos c]; exact Nat.le_trans (Nat.le_max_left _ _) (bst_gx f s k (j + 1) _)
    · rw [if_neg c]; exact bst_gx f s k (j + 1) x
theorem bst_ge (f : Nat → Nat) (s : Nat) : ∀ (k j x b : Nat), j ≤ b → b < j + k → bt s b = 0 → f b ≤ bst f s k j x
  | 0, _, _, _, h1, h2, _ => absurd h1 (by omega)
  | k + 1, j, x, b, h1, h2, h3 => by
    unfold bst
    by_cases c : b = j
    · subst c
      rw [if_pos h3]; exact Nat.le_trans (Nat.le_max_right _ _) (bst_gx f s k (b + 1) _)
    · exact bst_ge f s k (j + 1) _ b (by omega) (by omega) h3
theorem bst_ex (f : Nat → Nat) (s : Nat) : ∀ (k j x : Nat), bst f s k j x = x ∨ ∃ b, j ≤ b ∧ b < j + k ∧ bt s b = 0 ∧ bst f s k j x = f b
  | 0, _, _ => Or.inl rfl
  | k + 1, j, x => by
    unfold bst
    by_cases c : bt s j = 0
    · rw [if_pos c]
      rcases bst_ex f s k (j + 1) (max x (f j)) with e | ⟨b, h1, h2, h3, h4⟩
      · rcases Nat.le_total x (f j) with q | q
        · rw [e, Nat.max_eq_right q]; exact Or.inr ⟨j, by omega, by omega, c, rfl⟩
        · rw [e, Nat.max_eq_left q]; exact Or.inl rfl
      · exact Or.inr ⟨b, by omega, by omega, h3, h4⟩
    · rw [if_neg c]
      rcases bst_ex f s k (j + 1) x with e | ⟨b, h1, h2, h3, h4⟩
      · exact Or.inl e
      · exact Or.inr ⟨b, by omega, by omega, h3, h4⟩
theorem bst_le {f : Nat → Nat} {B : Nat} (hf : ∀ b, f b ≤ B) (s : Nat) : ∀ (k j x : Nat), x ≤ B → bst f s k j x ≤ B
  | 0, _, _, h => h
  | k + 1, j, x, h => by
    unfold bst
    refine bst_le hf s k (j + 1) _ ?_
    by_cases c : bt s j = 0
    · rw [if_pos c]; exact Nat.max_le.mpr ⟨h, hf j⟩
    · rw [if_neg c]; exact h
def catB (g : Nat → List (List Nat)) : Nat → Nat → List (List Nat)
  | 0, _ => []
  | k + 1, j => g j ++ catB g k (j + 1)
def fB (ok : Nat → Bool) : Nat → Nat → Option Nat
  | 0, _ => none
  | k + 1, j => if ok j = true then some j else fB ok k (j + 1)
theorem fB_some (ok : Nat → Bool) : ∀ (k j b : Nat), fB ok k j = some b → j ≤ b ∧ b < j + k ∧ ok b = true
  | 0, _, _, h => by cases h
  | k + 1, j, b, h => by
    unfold fB at h
    by_cases c : ok j = true
    · rw [if_pos c] at h
      have e : j = b := Option.some.inj h
      subst e; exact ⟨by omega, by omega, c⟩
    · rw [if_neg c] at h
      obtain ⟨h1, h2, h3⟩ := fB_some ok k (j + 1) b h
      exact ⟨by omega, by omega, h3⟩
theorem fB_ex (ok : Nat → Bool) : ∀ (k j : Nat), (∃ b, j ≤ b ∧ b < j + k ∧ ok b = true) → ∃ b, fB ok k j = some b
  | 0, _, h => by obtain ⟨b, h1, h2, -⟩ := h; omega
  | k + 1, j, h => by
    unfold fB
    by_cases c : ok j = true
    · rw [if_pos c]; exact ⟨j, rfl⟩
    · rw [if_neg c]
      obtain ⟨b, h1, h2, h3⟩ := h
      refine fB_ex ok k (j + 1) ⟨b, ?_, by omega, h3⟩
      rcases Nat.lt_or_ge j b with q | q
      · omega
      · have : b = j := by omega
        subst this; exact absurd h3 c
theorem catB_find {g : Nat → List (List Nat)} {p : List Nat → Bool} {ok : Nat → Bool} {hh : Nat → List Nat} : ∀ (k j : Nat), (∀ b, j ≤ b → b < j + k → (g b).find? p = if ok b = true then some (hh b) else none) → (catB g k j).find? p = (fB ok k j).map hh
  | 0, _, _ => rfl
  | k + 1, j, h => by
    unfold catB fB
    rw [List.find?_append, h j (by omega) (by omega), catB_find k (j + 1) (fun b h1 h2 => h b (by omega) (by omega))]
    by_cases c : ok j = true
    · rw [if_pos c, if_pos c]; rfl
    · rw [if_neg c, if_neg c]; rfl
theorem catB_mem {g : Nat → List (List Nat)} {l : List Nat} : ∀ (k j : Nat), l ∈ catB g k j → ∃ b, j ≤ b ∧ b < j + k ∧ l ∈ g b
  | 0, _, h => by cases h
  | k + 1, j, h => by
    unfold catB at h
    rcases List.mem_append.mp h with h | h
    · exact ⟨j, by omega, by omega, h⟩
    · obtain ⟨b, h1, h2, h3⟩ := catB_mem k (j + 1) h
      exact ⟨b, by omega, by omega, h3⟩
def lexP (M : Nat) : Nat → Nat → List (List Nat)
  | 0, _ => [[]]
  | k + 1, s => catB (fun b => if bt s b = 0 then (lexP M k (s + 2 ^ b)).map (fun l => b :: l) else []) M 0
section SH
variable (W : Nat → Nat → Nat) (M : Nat)
def rv : Nat → List Nat → Nat
  | 0, _ => 1000000
  | _ + 1, [] => 0
  | k + 1, b :: l => min (W (M - (k + 1)) b) (rv k l)
def gN : Nat → Nat → Nat
  | 0, _ => 1000000
  | k + 1, s => bst (fun b => min (W (M - (k + 1)) b) (gN k (s + 2 ^ b))) s M 0 0
def okB (t k s : Nat) (b : Nat) : Bool := decide (bt s b = 0) && decide (t ≤ min (W (M - (k + 1)) b) (gN W M k (s + 2 ^ b)))
def gr (t : Nat) : Nat → Nat → List Nat
  | 0, _ => []
  | k + 1, s => match fB (okB W M t k s) M 0 with
    | none => []
    | some b => b :: gr t k (s + 2 ^ b)
end SH
section SH2
variable {W : Nat → Nat → Nat} {M : Nat}
theorem gN_le : ∀ (k s : Nat), gN W M k s ≤ 1000000
  | 0, _ => Nat.le_refl _
  | k + 1, s => by
    unfold gN
    exact bst_le (fun b => Nat.le_trans (Nat.min_le_right _ _) (gN_le k _)) s M 0 0 (by omega)
theorem lex_rv : ∀ (k s : Nat) (l : List Nat), l ∈ lexP M k s → rv W M k l ≤ gN W M k s
  | 0, _, _, _ => Nat.le_refl _
  | k + 1, s, l, h => by
    unfold lexP at h
    obtain ⟨b, h1, h2, h3⟩ := catB_mem M 0 h
    by_cases c : bt s b = 0
    · rw [if_pos c] at h3
      obtain ⟨l', h4, rfl⟩ := List.mem_map.mp h3
      have ih := lex_rv k (s + 2 ^ b) l' h4
      unfold rv gN
      refine Nat.le_trans ?_ (bst_ge _ s M 0 0 b h1 h2 c)
      show min (W (M - (k + 1)) b) (rv W M k l') ≤ min (W (M - (k + 1)) b) (gN W M k (s + 2 ^ b))
      omega
    · rw [if_neg c] at h3; cases h3
theorem ok_ex (hM : M < 7) {k s t : Nat} (hs : s < 2 ^ M) (hk : pc s + (k + 1) = M) (ht : t ≤ gN W M (k + 1) s) : ∃ b, fB (okB W M t k s) M 0 = some b ∧ b < M ∧ bt s b = 0 ∧ t ≤ W (M - (k + 1)) b ∧ t ≤ gN W M k (s + 2 ^ b) := by
  have hex : ∃ b, 0 ≤ b ∧ b < 0 + M ∧ okB W M t k s b = true := by
    unfold gN at ht
    rcases bst_ex (fun b => min (W (M - (k + 1)) b) (gN W M k (s + 2 ^ b))) s M 0 0 with e | ⟨b, h1, h2, h3, h4⟩
    · obtain ⟨b, hb, hb0⟩ : ∃ b, b < M ∧ bt s b = 0 := by
        refine Classical.byContradiction (fun q => bt_6 M hM s hs (by omega) (fun b hb hb0 => q ⟨b, hb, hb0⟩))
      refine ⟨b, by omega, by omega, ?_⟩
      unfold okB
      rw [e] at ht
      simp only [Bool.and_eq_true, decide_eq_true_eq]
      exact ⟨hb0, by omega⟩
    · refine ⟨b, by omega, by omega, ?_⟩
      unfold okB
      simp only [Bool.and_eq_true, decide_eq_true_eq]
      rw [h4] at ht
      exact ⟨h3, ht⟩
  obtain ⟨b, hb⟩ := fB_ex _ M 0 hex
  obtain ⟨h1, h2, h3⟩ := fB_some _ M 0 b hb
  unfold okB at h3
  simp only [Bool.and_eq_true, decide_eq_true_eq] at h3
  exact ⟨b, hb, by omega, h3.1, by omega, by omega⟩
theorem lex_find (hM : M < 7) {t : Nat} : ∀ (k s : Nat), s < 2 ^ M → pc s + k = M → t ≤ gN W M k s → (lexP M k s).find? (fun l => decide (t ≤ rv W M k l)) = some (gr W M t k s)
  | 0, s, _, _, ht => by
    unfold lexP
    have e : decide (t ≤ rv W M 0 []) = true := decide_eq_true ht
    rw [List.find?_cons, e]
    rfl
  | k + 1, s, hs, hk, ht => by
    obtain ⟨b0, o1, o2, o3, o4, o5⟩ := ok_ex hM hs hk ht
    have key : ∀ b, 0 ≤ b → b < 0 + M → ((if bt s b = 0 then (lexP M k (s + 2 ^ b)).map (fun l => b :: l) else []) : List (List Nat)).find? (fun l => decide (t ≤ rv W M (k + 1) l)) = if okB W M t k s b = true then some (b :: gr W M t k (s + 2 ^ b)) else none := by
      intro b _ hb
      have h64 := pow64b hM
      by_cases c : bt s b = 0
      · rw [if_pos c, List.find?_map]
        by_cases c2 : t ≤ min (W (M - (k + 1)) b) (gN W M k (s + 2 ^ b))
        · have eo : okB W M t k s b = true := by
            unfold okB
            simp only [Bool.and_eq_true, decide_eq_true_eq]
            exact ⟨c, c2⟩
          rw [if_pos eo]
          have ef : ((fun l => decide (t ≤ rv W M (k + 1) l)) ∘ fun l => b :: l) = fun l => decide (t ≤ rv W M k l) := by
            funext l
            show decide (t ≤ min (W (M - (k + 1)) b) (rv W M k l)) = decide (t ≤ rv W M k l)
            by_cases c3 : t ≤ rv W M k l
            · rw [decide_eq_true c3, decide_eq_true (by omega)]
            · rw [decide_eq_false c3, decide_eq_false (by omega)]
          rw [ef, lex_find hM k (s + 2 ^ b) (bt_5 M hM s hs b (by omega) c) (by rw [bt_4 s (by omega) b (by omega) c]; omega) (by omega)]
          rfl
        · have eo : ¬ okB W M t k s b = true := by
            unfold okB
            simp only [Bool.and_eq_true, decide_eq_true_eq]
            exact fun q => c2 q.2
          rw [if_neg eo]
          have en : (lexP M k (s + 2 ^ b)).find? ((fun l => decide (t ≤ rv W M (k + 1) l)) ∘ fun l => b :: l) = none := by
            rw [List.find?_eq_none]
            intro l hl
            have hv := lex_rv (W := W) k (s + 2 ^ b) l hl
            show ¬ decide (t ≤ min (W (M - (k + 1)) b) (rv W M k l)) = true
            rw [decide_eq_true_eq]
            omega
          rw [en]; rfl
      · have eo : ¬ okB W M t k s b = true := by
          unfold okB
          simp only [Bool.and_eq_true, decide_eq_true_eq]
          exact fun q => c q.1
        rw [if_neg c, if_neg eo]; rfl
    unfold lexP
    have e : gr W M t (k + 1) s = b0 :: gr W M t k (s + 2 ^ b0) := by rw [gr, o1]
    rw [catB_find M 0 key, o1, e]
    rfl
end SH2
-- the best of a list, the first one
def fo (v : List Nat → Nat) : List (List Nat) → Option (Nat × List Nat) → Option (Nat × List Nat)
  | [], o => o
  | l :: P, none => fo v P (some (v l, l))
  | l :: P, some (X, B) => fo v P (if v l ≤ X then some (X, B) else some (v l, l))
theorem fo_spec (v : List Nat → Nat) : ∀ (P : List (List Nat)) (X : Nat) (B : List Nat), ∃ X' B', fo v P (some (X, B)) = some (X', B') ∧ X ≤ X' ∧ (∀ l ∈ P, v l ≤ X') ∧ ((X' = X ∧ B' = B) ∨ (X < X' ∧ P.find? (fun l => decide (X' ≤ v l)) = some B'))
  | [], X, B => ⟨X, B, rfl, Nat.le_refl X, (fun l h => absurd h List.not_mem_nil), Or.inl ⟨rfl, rfl⟩⟩
  | l :: P, X, B => by
    unfold fo
    by_cases c : v l ≤ X
    · rw [if_pos c]
      obtain ⟨X', B', h1, h2, h3, h4⟩ := fo_spec v P X B
      refine ⟨X', B', h1, h2, fun m hm => ?_, ?_⟩
      · rcases List.mem_cons.mp hm with rfl | hm
        · omega
        · exact h3 m hm
      · rcases h4 with h4 | ⟨h4, h5⟩
        · exact Or.inl h4
        · refine Or.inr ⟨h4, ?_⟩
          rw [List.find?_cons, decide_eq_false (by omega)]
          exact h5
    · rw [if_neg c]
      obtain ⟨X', B', h1, h2, h3, h4⟩ := fo_spec v P (v l) l
      refine ⟨X', B', h1, by omega, fun m hm => ?_, Or.inr ⟨by omega, ?_⟩⟩
      · rcases List.mem_cons.mp hm with rfl | hm
        · exact h2
        · exact h3 m hm
      · rcases h4 with ⟨h4, h5⟩ | ⟨h4, h5⟩
        · subst h4; subst h5
          rw [List.find?_cons, decide_eq_true (Nat.le_refl _)]
        · rw [List.find?_cons, decide_eq_false (by omega)]
          exact h5
theorem fo_first (v : List Nat → Nat) (l : List Nat) (P : List (List Nat)) : ∃ X' B', fo v (l :: P) none = some (X', B') ∧ (∀ m ∈ l :: P, v m ≤ X') ∧ (l :: P).find? (fun m => decide (X' ≤ v m)) = some B' := by
  obtain ⟨X', B', h1, h2, h3, h4⟩ := fo_spec v P (v l) l
  refine ⟨X', B', h1, fun m hm => ?_, ?_⟩
  · rcases List.mem_cons.mp hm with rfl | hm
    · exact h2
    · exact h3 m hm
  · rcases h4 with ⟨h4, h5⟩ | ⟨h4, h5⟩
    · subst h4; subst h5
      rw [List.find?_cons, decide_eq_true (Nat.le_refl _)]
    · rw [List.find?_cons, decide_eq_false (by omega)]
      exact h5
theorem fo_lex {W : Nat → Nat → Nat} {M : Nat} (hM : M < 7) {l : List Nat} {P : List (List Nat)} (hl : lexP M M 0 = l :: P) : fo (rv W M M) (l :: P) none = some (gN W M M 0, gr W M (gN W M M 0) M 0) := by
  obtain ⟨X', B', h1, h2, h3⟩ := fo_first (rv W M M) l P
  have h0 : 0 < 2 ^ M := Nat.two_pow_pos M
  have p0 : pc 0 + M = M := by
    have : pc 0 = 0 := rfl
    omega
  have f1 := lex_find (W := W) hM (t := gN W M M 0) M 0 h0 p0 (Nat.le_refl _)
  rw [hl] at f1
  have m1 := List.mem_of_find?_eq_some f1
  have q1 : gN W M M 0 ≤ rv W M M (gr W M (gN W M M 0) M 0) := by
    have := List.find?_some f1
    exact of_decide_eq_true this
  have m3 := List.mem_of_find?_eq_some h3
  have q3 : X' ≤ rv W M M B' := by
    have := List.find?_some h3
    exact of_decide_eq_true this
  have q2 := h2 _ m1
  have q4 := lex_rv (W := W) (M := M) M 0 B' (by rw [hl]; exact m3)
  have e : X' = gN W M M 0 := by omega
  subst e
  rw [h1]
  rw [f1] at h3
  rw [Option.some.inj h3]
-- orders, one behind the other
def updN (f : Nat → Nat) (k v : Nat) : Nat → Nat := fun i => if i = k then v else f i
def nK (f : Nat → Nat) : Nat → Nat
  | 0 => 0
  | k + 1 => if f k ≤ f (k + 1) then k + 1 else nK f k
def nJ (f : Nat → Nat) (i : Nat) : Nat → Nat
  | 0 => 0
  | j + 1 => if f i ≤ f j then j else nJ f i j
def swN (f : Nat → Nat) (x y : Nat) : Nat → Nat := updN (updN f x (f y)) y (f x)
def rvN : Nat → Nat → Nat → (Nat → Nat) → (Nat → Nat)
  | 0, _, _, f => f
  | k + 1, x, y, f => if y ≤ x then f else rvN k (x + 1) (y - 1) (swN f x y)
def nxF (M : Nat) (f : Nat → Nat) : Nat → Nat := rvN 6 (nK f (M - 1)) (M - 1) (swN f (nK f (M - 1) - 1) (nJ f (nK f (M - 1) - 1) M))
def gl (l : List Nat) : Nat → Nat := fun i => l.getD i 0
def eqL (f g : Nat → Nat) : Nat → Bool
  | 0 => true
  | k + 1 => Nat.beq (f k) (g k) && eqL f g k
theorem eqL_of {f g : Nat → Nat} : ∀ {k : Nat}, eqL f g k = true → ∀ i, i < k → f i = g i
  | 0, _, i, hi => absurd hi (by omega)
  | k + 1, h, i, hi => by
    unfold eqL at h
    rw [Bool.and_eq_true] at h
    by_cases c : i = k
    · subst c; exact Nat.eq_of_beq_eq_true h.1
    · exact eqL_of h.2 i (by omega)
def okL (M : Nat) (l : List Nat) : Bool := Nat.beq l.length M && l.all (fun x => Nat.blt x 6)
def chk (M : Nat) : List (List Nat) → Bool
  | [] => false
  | [l] => okL M l && Nat.beq (nK (gl l) (M - 1)) 0
  | l :: l' :: P => okL M l && (Nat.blt 0 (nK (gl l) (M - 1)) && (eqL (nxF M (gl l)) (gl l') M && chk M (l' :: P)))
def chkA (M : Nat) : Bool := match lexP M M 0 with
  | [] => false
  | l :: P => eqL (gl l) (fun i => i) M && (chk M (l :: P) && Nat.ble (l :: P).length 720)
theorem chk_1 : chkA 1 = true := by decide +kernel
theorem chk_2 : chkA 2 = true := by decide +kernel
theorem chk_3 : chkA 3 = true := by decide +kernel
theorem chk_4 : chkA 4 = true := by decide +kernel
theorem chk_5 : chkA 5 = true := by decide +kernel
set_option maxRecDepth 100000 in
theorem chk_6 : chkA 6 = true := by decide +kernel
theorem chk_all {M : Nat} (h1 : 1 ≤ M) (h6 : M ≤ 6) : ∃ l P, lexP M M 0 = l :: P ∧ (∀ i, i < M → gl l i = i) ∧ chk M (l :: P) = true ∧ (l :: P).length ≤ 720 := by
  have hc : chkA M = true := by
    rcases (show M = 1 ∨ M = 2 ∨ M = 3 ∨ M = 4 ∨ M = 5 ∨ M = 6 by omega) with rfl | rfl | rfl | rfl | rfl | rfl
    · exact chk_1
    · exact chk_2
    · exact chk_3
    · exact chk_4
    · exact chk_5
    · exact chk_6
  unfold chkA at hc
  generalize hx : lexP M M 0 = X at hc
  cases X with
  | nil => cases hc
  | cons l P =>
    simp only [Bool.and_eq_true] at hc
    exact ⟨l, P, rfl, eqL_of hc.1, hc.2.1, Nat.le_of_ble_eq_true hc.2.2⟩
