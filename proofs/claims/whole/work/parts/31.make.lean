/-! MAKING: new objects and rows, with what lies below them as it was. -/
theorem clX9_9 : Cond.classLink RX9 9 RX6 ∈ aw_T := aw_mem 109 (by decide +kernel) (by decide +kernel)
theorem clX11_7 : Cond.classLink RX11 7 RX9 ∈ aw_T := aw_mem 103 (by decide +kernel) (by decide +kernel)
section MK
variable {l : Launch} {E : aw_E} {mi : aw_M} {Z : aw_Zt} {d bc bs pc : Nat} {ls : List (Nat × Value)} {st : List Value} {n : Nat} {h : ah}
theorem aw_newI1 {z : Int32} {N bc' bs' n1 : Nat} (hd : decode mi.2.1 pc = .ok (.newarray .int, 2)) (hz : z = nI N) (hb : N ≤ 1000) (hbc : 1 + bc' ≤ bc) (hbs : N + bs' ≤ bs) (hn : n + 1 = n1) (kk : ∀ h' : ah, h' n = some (aI N (fun _ => 0)) → (∀ a : Nat, a < n → h' a = h a) → aw l E mi Z d bc' bs' (pc + 2) ls (.ref n :: st) n1 h') : aw l E mi Z d bc bs pc ls (.int z :: st) n h := by
  subst hn
  subst hz
  exact aw_newI hd ac_I (nI_pos (by omega)) (nI_clamp (by omega)) hb hbc hbs (kk _ (ah_set_eq h n _) (fun a ha => ah_set_ne h _ (by omega)))
theorem aw_newR1 {z : Int32} {i t N bc' bs' n1 : Nat} {C : String} (hd : decode mi.2.1 pc = .ok (.anewarray i, 3)) (ht : t = 1 ∨ t = 2) (hC : C = (if t = 1 then "HonestGold$Plain" else "HonestGold$Treasury")) (hcl : Cond.classLink mi.1.cls i C ∈ aw_T) (hw : ∀ (U : State) (H : Heap), E.2.2.2 U H → va_AO C U) (hz : z = nI N) (hb : N ≤ 1000) (hbc : 1 + bc' ≤ bc) (hbs : N + bs' ≤ bs) (hn : n + 1 = n1) (kk : ∀ h' : ah, h' n = some (aR t N (fun _ => none)) → (∀ a : Nat, a < n → h' a = h a) → aw l E mi Z d bc' bs' (pc + 3) ls (.ref n :: st) n1 h') : aw l E mi Z d bc bs pc ls (.int z :: st) n h := by
  subst hn
  subst hz
  exact aw_newR hd ht hC hcl hw (nI_pos (by omega)) (nI_clamp (by omega)) hb hbc hbs (kk _ (ah_set_eq h n _) (fun a ha => ah_set_ne h _ (by omega)))
theorem aw_new1 {i ci N bc' bs' n1 : Nat} {fs : List Value} (hd : decode mi.2.1 pc = .ok (.new i, 3)) (hw : aw_nw mi.1.cls i ci fs N) (hbc : 1 + bc' ≤ bc) (hbs : N + bs' ≤ bs) (hn : n + 1 = n1) (kk : ∀ h' : ah, h' n = some (aO ci fs) → (∀ a : Nat, a < n → h' a = h a) → aw l E mi Z d bc' bs' (pc + 3) ls (.ref n :: st) n1 h') : aw l E mi Z d bc bs pc ls st n h := by
  subst hn
  exact aw_new hd hw hbc hbs (kk _ (ah_set_eq h n _) (fun a ha => ah_set_ne h _ (by omega)))
theorem aw_putF1 {i ci k a : Nat} {fs : List Value} {v : Value} {ty : FieldType} (hd : decode mi.2.1 pc = .ok (.putfield i, 3)) (hf : aw_fp mi.1.cls i ci k true ty) (hini : mi.1.name = "<init>") (hh : h a = some (aO ci fs)) (hl0 : k < fs.length) (hn : narrow ty v = v) (hfit : fits ty v = true) (kk : ∀ h' : ah, h' a = some (aO ci (fs.set k v)) → (∀ b : Nat, b ≠ a → h' b = h b) → aw l E mi Z d bc bs (pc + 3) ls st n h') : aw l E mi Z d bc bs pc ls (v :: .ref a :: st) n h :=
  aw_putF hd hf hini hh hl0 hn hfit (kk _ (ah_set_eq h a _) (fun b hb => ah_set_ne h _ hb))
theorem aw_put1 {i ci k a : Nat} {fs : List Value} {v : Value} {ty : FieldType} (hd : decode mi.2.1 pc = .ok (.putfield i, 3)) (hf : aw_fp mi.1.cls i ci k false ty) (hh : h a = some (aO ci fs)) (hl0 : k < fs.length) (hn : narrow ty v = v) (hfit : fits ty v = true) (kk : ∀ h' : ah, h' a = some (aO ci (fs.set k v)) → (∀ b : Nat, b ≠ a → h' b = h b) → aw l E mi Z d bc bs (pc + 3) ls st n h') : aw l E mi Z d bc bs pc ls (v :: .ref a :: st) n h :=
  aw_put hd hf hh hl0 hn hfit (kk _ (ah_set_eq h a _) (fun b hb => ah_set_ne h _ hb))
theorem aw_aast1 {a t N v ci j : Nat} {g : Nat → Option Nat} {fs : List Value} {i : Int32} (hd : decode mi.2.1 pc = .ok (.aastore, 1)) (hh : h a = some (aR t N g)) (hi : i = nI j) (hj : j < N) (hN : N ≤ 1000) (hv : h v = some (aO ci fs)) (hok : aw_ok E t ci) (kk : ∀ h' : ah, h' a = some (aR t N (va_up g j (some v))) → (∀ b : Nat, b ≠ a → h' b = h b) → aw l E mi Z d bc bs (pc + 1) ls st n h') : aw l E mi Z d bc bs pc ls (.ref v :: .int i :: .ref a :: st) n h := by
  subst hi
  have e : (nI j).toNatClampNeg = j := nI_clamp (by omega)
  refine aw_aast hd hh (vp_in_nI hj (by omega)) hv hok ?_
  rw [e]
  exact kk _ (ah_set_eq h a _) (fun b hb => ah_set_ne h _ hb)
theorem aw_aald1 {a t N j : Nat} {g : Nat → Option Nat} {i : Int32} {v : Value} (hd : decode mi.2.1 pc = .ok (.aaload, 1)) (hh : h a = some (aR t N g)) (hi : i = nI j) (hj : j < N) (hN : N ≤ 1000) (hv : va_rf (g j) = v) (kk : aw l E mi Z d bc bs (pc + 1) ls (v :: st) n h) : aw l E mi Z d bc bs pc ls (.int i :: .ref a :: st) n h := by
  subst hi
  have e : (nI j).toNatClampNeg = j := nI_clamp (by omega)
  refine aw_aald hd hh (vp_in_nI hj (by omega)) ?_
  rw [e, hv]
  exact kk
end MK
/-- a block of k cells made from b on -/
def in_post (h : ah) (b k : Nat) (cells : Nat → Option ae) : aw_P := fun r n' h' => none = r ∧ b + k = n' ∧ (∀ j, j < k → h' (b + j) = cells j) ∧ ∀ a : Nat, a < b → h' a = h a
def n4B (b : Nat) : Nat → Option ae
  | 0 => some (aO 4 [.ref (b + 1), .ref (b + 2), .ref (b + 3), .ref (b + 4), .int 0])
  | 1 => some (aI 6 (fun _ => 0))
  | 2 => some (aI 6 (fun _ => 0))
  | 3 => some (aI 6 (fun _ => 0))
  | 4 => some (aI 6 (fun _ => 0))
  | _ => none
def p5B (b : Nat) : Nat → Option ae
  | 0 => some (aO 5 [.ref (b + 1), .int 0])
  | 1 => some (aI 112 (fun _ => 0))
  | _ => none
def T00 : sT := fun _ _ => 0
def R00 : sT := sS 10 T00 5 (-1)
def L00 : Nat → Int64 := vp_updL (fun _ => 0) 1 1
def X00 : sX := (T00, L00, T00, T00, R00, T00)
abbrev gNo : Nat → Option Nat := fun _ => none
theorem tr_lt {h h' : ah} {t n : Nat} {S : sT} (H : is_tr h t S) (ho : ∀ a : Nat, a < n → h' a = h a) (hn : t + 20 ≤ n) : is_tr h' t S := fun j hj => (ho _ (by omega)).trans (H j hj)
theorem tr_ne {h h' : ah} {t x : Nat} {S : sT} (H : is_tr h t S) (ho : ∀ a : Nat, a ≠ x → h' a = h a) (hn : x < t ∨ t + 20 ≤ x) : is_tr h' t S := fun j hj => (ho _ (by omega)).trans (H j hj)
theorem rd_lt {h h' : ah} {t n : Nat} {S : sT} (H : is_rd h t S) (ho : ∀ a : Nat, a < n → h' a = h a) (hn : t + 2 ≤ n) : is_rd h' t S := fun j hj => (ho _ (by omega)).trans (H j hj)
theorem rd_ne {h h' : ah} {t x : Nat} {S : sT} (H : is_rd h t S) (ho : ∀ a : Nat, a ≠ x → h' a = h a) (hn : x < t ∨ t + 2 ≤ x) : is_rd h' t S := fun j hj => (ho _ (by omega)).trans (H j hj)
theorem wy_lt {h h' : ah} {t n : Nat} {S : sT} (H : is_wy h t S) (ho : ∀ a : Nat, a < n → h' a = h a) (hn : t + 5 ≤ n) : is_wy h' t S := fun j hj => (ho _ (by omega)).trans (H j hj)
theorem wy_ne {h h' : ah} {t x : Nat} {S : sT} (H : is_wy h t S) (ho : ∀ a : Nat, a ≠ x → h' a = h a) (hn : x < t ∨ t + 5 ≤ x) : is_wy h' t S := fun j hj => (ho _ (by omega)).trans (H j hj)
theorem hg_lt {h h' : ah} {x n : Nat} {C : sT} {L : Nat → Int64} {g : Nat → Option Nat} (H : is_hg h x C L g) (ho : ∀ a : Nat, a < n → h' a = h a) (hn : x + 42 ≤ n) : is_hg h' x C L g := ⟨(ho _ (by omega)).trans H.1, (ho _ (by omega)).trans H.2⟩
theorem x_lt {h h' : ah} {x n : Nat} {g : Nat → Option Nat} {X : sX} (H : is_x h x g X) (ho : ∀ a : Nat, a < n → h' a = h a) (hn : x + 49 ≤ n) : is_x h' x g X := ⟨hg_lt H.1 ho (by omega), tr_lt H.2.1 ho (by omega), tr_lt H.2.2.1 ho (by omega), rd_lt H.2.2.2.1 ho (by omega), wy_lt H.2.2.2.2 ho (by omega)⟩
theorem x_off {h h' : ah} {x s k : Nat} {g : Nat → Option Nat} {X : sX} (H : is_x h x g X) (o : ah_off h h' s k) (hd : x + 49 ≤ s ∨ s + k ≤ x) : is_x h' x g X := ⟨hg_off H.1 o (by omega) (by omega), tr_off H.2.1 o (by omega), tr_off H.2.2.1 o (by omega), rd_off H.2.2.2.1 o (by omega), wy_off H.2.2.2.2 o (by omega)⟩
theorem mo_lt {h h' : ah} {t n : Nat} {S : sT} {L : Nat → Int64} (H : is_mo h t S L) (ho : ∀ a : Nat, a < n → h' a = h a) (hn : t + 21 ≤ n) : is_mo h' t S L := fun j hj => (ho _ (by omega)).trans (H j hj)
section OKS
variable {E : aw_E} {base : Nat} {adK adV : Nat → Nat} {fm : Value} {sb sL : Nat} {xs : Nat → Int32}
theorem ok_sub (hG : E.2.2.2 = gV base adK adV fm sb sL xs) {ci : Nat} {r : vw_C} (hc : vwCl[ci]? = some r) (hr : r.1 ∈ kSub) : aw_ok E 1 ci := by
  refine ⟨r, hc, Or.inr fun U H hu => ?_⟩
  rw [hG] at hu
  exact hu.2.2.2.2.2.2.2.2.2 r.1 hr
theorem ok_pl : aw_ok E 1 6 := ⟨_, rfl, Or.inl rfl⟩
theorem ok_tr : aw_ok E 2 9 := ⟨_, rfl, Or.inl rfl⟩
theorem ao_pl (hG : E.2.2.2 = gV base adK adV fm sb sL xs) : ∀ (U : State) (H : Heap), E.2.2.2 U H → va_AO RX6 U := fun U H hu => by
  rw [hG] at hu
  exact hu.2.2.2.2.2.2.2.1
theorem ao_tr (hG : E.2.2.2 = gV base adK adV fm sb sL xs) : ∀ (U : State) (H : Heap), E.2.2.2 U H → va_AO RX9 U := fun U H hu => by
  rw [hG] at hu
  exact hu.2.2.2.2.2.2.2.2.1
end OKS
