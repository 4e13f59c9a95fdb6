/-! THE LAW'S WORLD: the class's object at b, the reference at b + 49, images behind. -/
def imOK (b n : Nat) (h : ah) (g : Nat → Option Nat) (Im : Nat → sT) : Prop := (∀ a s, a < 2 → g a = some s → is_tr h s (Im a) ∧ b + 70 ≤ s ∧ s + 20 ≤ n) ∧ (∀ s s', g 0 = some s → g 1 = some s' → s + 20 ≤ s' ∨ s' + 20 ≤ s) ∧ b + 70 ≤ n
def nn (g : Nat → Option Nat) : Nat := (if g 0 = none then 1 else 0) + (if g 1 = none then 1 else 0)
def lwW (b n : Nat) (h : ah) (kc : Nat) : Prop := ∃ (g : Nat → Option Nat) (X : sX) (S : sT) (Lm : Nat → Int64) (Im : Nat → sT), is_x h b g X ∧ is_mo h (b + 49) S Lm ∧ (∃ M N u t, rel X S Lm M N u t) ∧ iRel g Im S ∧ imOK b n h g Im ∧ nn g ≤ kc
theorem im_off {b n s k : Nat} {h h' : ah} {g : Nat → Option Nat} {Im : Nat → sT} (H : imOK b n h g Im) (o : ah_off h h' s k) (hd : s + k ≤ b + 70) : imOK b n h' g Im :=
  ⟨fun a q ha hg => ⟨tr_off (H.1 a q ha hg).1 o (Or.inr (by have := (H.1 a q ha hg).2.1; omega)), (H.1 a q ha hg).2⟩, H.2⟩
theorem lw_fin {b n kc : Nat} {h h1 h2 : ah} {g : Nat → Option Nat} {F : Int32 × sX} {G : Int32 × sM} {S : sT} {Im : Nat → sT} (hx : is_x h1 b g F.2) (o1 : ah_off h h1 b 49) (hm : is_mo h2 (b + 49) G.2.1 G.2.2) (o2 : ah_off h1 h2 (b + 49) 21) (ht : tieO F G S) (hi : iRel g Im S) (hok : imOK b n h g Im) (hn : nn g ≤ kc) : lwW b n h2 kc :=
  ⟨g, F.2, G.2.1, G.2.2, Im, x_off hx o2 (Or.inl (Nat.le_refl _)), hm, ht.2.1, hi.of ht.2.2.1 ht.2.2.2, im_off (im_off hok o1 (by omega)) o2 (by omega), hn⟩
theorem lw_finL {b n kc : Nat} {h h1 h2 : ah} {g : Nat → Option Nat} {F : Int64 × sX} {G : Int64 × sM} {S : sT} {Im : Nat → sT} (hx : is_x h1 b g F.2) (o1 : ah_off h h1 b 49) (hm : is_mo h2 (b + 49) G.2.1 G.2.2) (o2 : ah_off h1 h2 (b + 49) 21) (ht : tieL F G S) (hi : iRel g Im S) (hok : imOK b n h g Im) (hn : nn g ≤ kc) : lwW b n h2 kc :=
  ⟨g, F.2, G.2.1, G.2.2, Im, x_off hx o2 (Or.inl (Nat.le_refl _)), hm, ht.2.1, hi.of ht.2.2.1 ht.2.2.2, im_off (im_off hok o1 (by omega)) o2 (by omega), hn⟩
abbrev lls (sb b i0 : Nat) : List (Nat × Value) := [(0, .ref sb), (1, .ref b), (2, .ref (b + 49)), (3, .int (nI i0))]
def lK (l : Launch) (E : aw_E) (Z : aw_Zt) (sb b i0 : Nat) : Prop := ∀ (n' : Nat) (h' : ah) (kc' bc' bs' : Nat), lwW b n' h' kc' → 20 * kc' ≤ bc' → 191 * kc' ≤ bs' → aw l E mL_law Z 11 bc' bs' 1067 (lls sb b i0) [] n' h'
theorem gup_at {g : Nat → Option Nat} {a s : Nat} (h : g a = some s) : va_up g a (some s) = g := by
  funext j
  by_cases c : j = a
  · subst c; rw [va_up_self, h]
  · rw [va_up_ne _ _ c]
theorem nn_up {g : Nat → Option Nat} {a s : Nat} (ha : a < 2) (h : g a = none) : nn (va_up g a (some s)) + 1 ≤ nn g := by
  unfold nn
  rcases (show a = 0 ∨ a = 1 by omega) with rfl | rfl
  · rw [va_up_self, va_up_ne g (some s) (show (1 : Nat) ≠ 0 by decide), h, if_neg (by simp), if_pos rfl]; omega
  · rw [va_up_self, va_up_ne g (some s) (show (0 : Nat) ≠ 1 by decide), h, if_neg (show ¬ (some s : Option Nat) = none by simp), if_pos rfl]; omega
/-- an image laid over an elder one -/
theorem im_over {b n s a : Nat} {h h' : ah} {g : Nat → Option Nat} {Im : Nat → sT} {I' : sT} (H : imOK b n h g Im) (ha : a < 2) (hg : g a = some s) (hI : is_tr h' s I') (o : ah_off h h' s 20) : imOK b n h' g (va_up Im a I') := by
  refine ⟨fun a' q ha' hg' => ?_, H.2⟩
  by_cases c : a' = a
  · subst c
    rw [hg] at hg'
    have e : s = q := Option.some.inj hg'
    subst e
    rw [va_up_self]
    exact ⟨hI, (H.1 a' s ha' hg).2⟩
  · rw [va_up_ne _ _ c]
    refine ⟨tr_off (H.1 a' q ha' hg').1 o ?_, (H.1 a' q ha' hg').2⟩
    rcases (show (a = 0 ∧ a' = 1) ∨ (a = 1 ∧ a' = 0) by omega) with ⟨rfl, rfl⟩ | ⟨rfl, rfl⟩
    · have := H.2.1 s q hg hg'; omega
    · have := H.2.1 q s hg' hg; omega
/-- a new image behind all -/
theorem im_new {b n a : Nat} {h h' : ah} {g : Nat → Option Nat} {Im : Nat → sT} {I' : sT} (H : imOK b n h g Im) (ha : a < 2) (hI : is_tr h' n I') (o : ∀ q : Nat, q < n → (q < b ∨ b + 49 ≤ q) → h' q = h q) : imOK b (n + 20) h' (va_up g a (some n)) (va_up Im a I') := by
  have hb := H.2.2
  have old : ∀ a' q, a' < 2 → a' ≠ a → g a' = some q → is_tr h' q (Im a') ∧ b + 70 ≤ q ∧ q + 20 ≤ n := fun a' q ha' _ hg' => by
    obtain ⟨h1, h2, h3⟩ := H.1 a' q ha' hg'
    exact ⟨fun j hj => (o (q + j) (by omega) (by omega)).trans (h1 j hj), h2, h3⟩
  refine ⟨fun a' q ha' hg' => ?_, fun s s' h0 h1 => ?_, by omega⟩
  · by_cases c : a' = a
    · subst c
      rw [va_up_self] at hg' ⊢
      have e : n = q := Option.some.inj hg'
      subst e
      exact ⟨hI, hb, by omega⟩
    · rw [va_up_ne _ _ c] at hg' ⊢
      obtain ⟨p1, p2, p3⟩ := old a' q ha' c hg'
      exact ⟨p1, p2, by omega⟩
  · rcases (show a = 0 ∨ a = 1 by omega) with rfl | rfl
    · rw [va_up_self] at h0
      rw [va_up_ne g (some n) (show (1 : Nat) ≠ 0 by decide)] at h1
      have e : n = s := Option.some.inj h0
      have := (old 1 s' (by omega) (by decide) h1).2.2
      omega
    · rw [va_up_self] at h1
      rw [va_up_ne g (some n) (show (0 : Nat) ≠ 1 by decide)] at h0
      have e : n = s' := Option.some.inj h1
      have := (old 0 s (by omega) (by decide) h0).2.2
      omega
