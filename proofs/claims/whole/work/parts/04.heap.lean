/-! ROWS OF THE ABSTRACT WALK that touch the heap, calls, ends. -/
theorem aw_goodT {w : Cond} (h : w ∈ aw_T) : goodWord w = true := (List.mem_filter.mp h).2
theorem aw_goodIn {w : Cond} (h : w ∈ aw_T) : GoodIn aw_T (w :: aw_T) := by
  intro v hv
  have hm : v ∈ aw_T := by
    rcases List.mem_cons.mp hv with e | e
    · rw [e]; exact h
    · exact e
  exact ⟨hm, good_of_word (aw_goodT hm)⟩
theorem aw_P1 {D : va_G} {cl : List vw_C} {q : Nat × va_E} {H : Heap} (h : va_at D cl q H) : va_P D cl [q] H := by
  intro k q' hq
  match k, hq with
  | 0, hq => cases hq; exact h
  | k + 1, hq => simp at hq
theorem aw_at_kept {E : aw_E} {a : Nat} {e : ae} {H H1 : Heap} (h : aw_at E a e H) (hq : H1[a]? = H[a]?) : aw_at E a e H1 := by
  obtain ⟨n, f⟩ | ⟨t, n, g⟩ | o := e
  · show H1[a]? = _
    rw [hq]; exact h
  · exact ⟨h.1, by rw [hq]; exact h.2⟩
  · exact va_at.kept (D := E.1) (cl := vwCl) (q := (a, .inr o)) h hq
theorem aw_O {E : aw_E} {n a ci : Nat} {fs : List Value} {h : ah} {H : Heap} (hR : aw_R E n h H) (hh : h a = some (aO ci fs)) : va_P E.1 vwCl [(a, .inr (ci, fs))] H := aw_P1 (q := (a, .inr (ci, fs))) (hR.2 a _ hh).2
theorem aw_at_lt {E : aw_E} {a : Nat} {e : ae} {H : Heap} (h : aw_at E a e H) : a < H.size := by
  obtain ⟨n, f⟩ | ⟨t, n, g⟩ | o := e
  · exact (Array.getElem?_eq_some_iff.mp (show H[a]? = some _ from h)).1
  · exact (Array.getElem?_eq_some_iff.mp h.2).1
  · exact va_at.lt (q := (a, .inr o)) h
theorem aw_R_set {E : aw_E} {n a : Nat} {h : ah} {e : ae} {H H1 : Heap} (hR : aw_R E n h H) (ha : E.2.2.1 ≤ a) (hz : H1.size = H.size) (ho : ∀ q : Nat, q ≠ a → H1[q]? = H[q]?) (hat : aw_at E a e H1) : aw_R E n (ah_set h a e) H1 := by
  refine ⟨hz.trans hR.1, fun b e' hb => ?_⟩
  by_cases hq : b = a
  · subst hq
    rw [ah_set_eq] at hb
    cases hb
    exact ⟨ha, hat⟩
  · rw [ah_set_ne h e hq] at hb
    exact ⟨(hR.2 b e' hb).1, aw_at_kept (hR.2 b e' hb).2 (ho b hq)⟩
theorem aw_R_new {E : aw_E} {n : Nat} {h : ah} {e : ae} {H H1 : Heap} (hR : aw_R E n h H) (hE : E.2.2.1 ≤ H.size) (hz : H1.size = H.size + 1) (ho : ∀ q : Nat, q < H.size → H1[q]? = H[q]?) (hat : aw_at E n e H1) : aw_R E (n + 1) (ah_set h n e) H1 := by
  refine ⟨by rw [hz, hR.1], fun b e' hb => ?_⟩
  by_cases hq : b = n
  · subst hq
    rw [ah_set_eq] at hb
    cases hb
    exact ⟨by rw [← hR.1]; exact hE, hat⟩
  · rw [ah_set_ne h e hq] at hb
    exact ⟨(hR.2 b e' hb).1, aw_at_kept (hR.2 b e' hb).2 (ho b (aw_at_lt (hR.2 b e' hb).2))⟩
/-- the field that entry idx of own's pool names is number k of class ci -/
def aw_fl (own : String) (idx ci k : Nat) : Prop := ∃ (C : String) (T : u_T) (N : Nat), vwCl[ci]? = some (C, T, N) ∧ k < N ∧ (∀ w ∈ u_ws C T N, w ∈ aw_T) ∧ Cond.fieldLink own idx (T k).1 (T k).2.1 (T k).2.2.1 ∈ aw_T
/-- it may be stored to, with values of type ty; fin: it is final (of own, stored in its constructor) -/
def aw_fp (own : String) (idx ci k : Nat) (fin : Bool) (ty : FieldType) : Prop := ∃ (C : String) (T : u_T) (N : Nat) (ty0 : Nat → FieldType), vwCl[ci]? = some (C, T, N) ∧ k < N ∧ (∀ w ∈ u_ws C T N, w ∈ aw_T) ∧ Cond.fieldLink own idx (T k).1 (T k).2.1 (T k).2.2.1 ∈ aw_T ∧ (T k).2.2.2 = fin ∧ parseFieldDescriptor (T k).2.2.1 = some ty ∧ (∀ k, k < N → parseFieldDescriptor (T k).2.2.1 = some (ty0 k)) ∧ (∀ a, a < N → ∀ b, b < N → a ≠ b → (T a).2.1 ≠ (T b).2.1) ∧ (fin = true → (T k).1 = own)
def aw_nw (own : String) (idx ci : Nat) (fs : List Value) (N : Nat) : Prop := ∃ (C : String) (T : u_T) (ty0 : Nat → FieldType), vwCl[ci]? = some (C, T, N) ∧ (∀ w ∈ u_ws C T N, w ∈ aw_T) ∧ (∀ k, k < N → parseFieldDescriptor (T k).2.2.1 = some (ty0 k)) ∧ Cond.classLink own idx C ∈ aw_T ∧ Cond.instantiable C N ∈ aw_T ∧ Cond.initialized C ∈ aw_T ∧ (∀ j, j < N → defaultValue (ty0 j) = vp_V fs j)
def aw_cm (yi : aw_M) (np : Nat) : Prop := Cond.code yi.1 yi.2.1 yi.2.2.1 yi.2.2.2 ∈ aw_T ∧ Cond.initialized yi.1.cls ∈ aw_T ∧ (yi.1.cls ≠ "java/lang/invoke/MethodHandle" ∧ yi.1.cls ≠ "java/lang/invoke/VarHandle" ∧ (parseMethodDescriptor yi.1.desc).map (fun d => d.parameters.length) = some np) ∧ yi.2.2.1 ≤ 15
def aw_cV (own : String) (idx ci : Nat) (yi : aw_M) : Prop := ∃ r : vw_C, vwCl[ci]? = some r ∧ Cond.methodLink own idx yi.1 ∈ aw_T ∧ Cond.instanceMethod yi.1 ∈ aw_T ∧ Cond.selects r.1 yi.1 yi.1 ∈ aw_T
def aw_cS (own : String) (idx : Nat) (yi : aw_M) : Prop := Cond.methodLink own idx yi.1 ∈ aw_T ∧ Cond.static yi.1 ∈ aw_T
def aw_cI (own : String) (idx : Nat) (yi : aw_M) : Prop := Cond.methodLink own idx yi.1 ∈ aw_T ∧ Cond.instanceMethod yi.1 ∈ aw_T ∧ yi.1.name = "<init>" ∧ yi.2.2.2 = none
def aw_cO (own : String) (idx ci : Nat) (x : MethodName) (yi : aw_M) : Prop := ∃ (r : vw_C) (b0 : ByteArray) (m0 : Nat) (r0 : Option FieldType), vwCl[ci]? = some r ∧ Cond.methodLink own idx x ∈ aw_T ∧ Cond.sameMethod x.cls x.cls x.name x.desc ∈ aw_T ∧ Cond.instanceMethod x ∈ aw_T ∧ Cond.selects r.1 x yi.1 ∈ aw_T ∧ Cond.instanceMethod yi.1 ∈ aw_T ∧ Cond.code x b0 m0 r0 ∈ aw_T ∧ x.name = yi.1.name ∧ x.desc = yi.1.desc ∧ x.cls ≠ "java/lang/invoke/MethodHandle" ∧ x.cls ≠ "java/lang/invoke/VarHandle"
def aw_cU (own : String) (idx : Nat) (yi : aw_M) : Prop := Cond.methodLink own idx yi.1 ∈ aw_T ∧ Cond.sameMethod yi.1.cls yi.1.cls yi.1.name yi.1.desc ∈ aw_T ∧ Cond.superclass own yi.1.cls ∈ aw_T ∧ Cond.instanceMethod yi.1 ∈ aw_T ∧ yi.1.name ≠ "<init>"
section AWH
variable {l : Launch} {E : aw_E} {mi : aw_M} {Z : aw_Zt} {d bc bs pc : Nat} {ls : List (Nat × Value)} {st : List Value} {n : Nat} {h : ah}
theorem aw_get {i ci k a : Nat} {fs : List Value} {v : Value} (hd : decode mi.2.1 pc = .ok (.getfield i, 3)) (hf : aw_fl mi.1.cls i ci k) (hh : h a = some (aO ci fs)) (hv : fs[k]? = some v) (kk : aw l E mi Z d bc bs (pc + 3) ls (v :: st) n h) : aw l E mi Z d bc bs pc ls (.ref a :: st) n h := by
  intro p e s m args below meth c H locs cells slots mc ms ls' F h1 h2 hR hS hl
  obtain ⟨C, T, N, hc, hk, hin, hlk⟩ := hf
  exact va_get (D := E.1) (cl := vwCl) (ws := [(a, .inr (ci, fs))]) F.1 F.2.1 F.2.2.2.2.2.1 hin F.2.2.2.2.1 F.2.2.2.2.2.2.2.2.1 (aw_P1 (hR.2 a _ hh).2) 0 rfl hc k hk (F.2.2.2.2.2.1 _ hlk) (fun _ x => x) hv hd (kk p e s m args below meth c H locs cells slots mc ms ls' F h1 h2 hR hS hl)
theorem aw_put {i ci k a : Nat} {fs : List Value} {v : Value} {ty : FieldType} (hd : decode mi.2.1 pc = .ok (.putfield i, 3)) (hf : aw_fp mi.1.cls i ci k false ty) (hh : h a = some (aO ci fs)) (hl0 : k < fs.length) (hn : narrow ty v = v) (hfit : fits ty v = true) (kk : aw l E mi Z d bc bs (pc + 3) ls st n (ah_set h a (aO ci (fs.set k v)))) : aw l E mi Z d bc bs pc ls (v :: .ref a :: st) n h := by
  intro p e s m args below meth c H locs cells slots mc ms ls' F h1 h2 hR hS hl
  obtain ⟨C, T, N, ty0, hc, hk, hin, hlk, hfin, hpd, hty, hnm, -⟩ := hf
  have hts := F.2.2.2.2.2.1
  have hown := F.2.2.2.2.1
  have hK : va_K E.1 vwCl (aw_tys E) s := F.2.2.2.2.2.2.2.2.1
  have hap := va_apart (own := mi.1.cls) hts hin ty0 hty hnm hK hc
  obtain ⟨hba, hat⟩ := hR.2 a _ hh
  obtain ⟨r, g1, cell, q1, q2, q3, q4⟩ := hat
  have hr : r = (C, T, N) := Option.some.inj (g1.symm.trans hc)
  subst hr
  obtain ⟨hSl, hfc, kC, hkC, hkind⟩ := hK.1 ci _ hc
  obtain ⟨cf, kf, fi, f, hi, hsl⟩ := hSl k hk
  have hlay := hts _ (hin _ (u_in_lay hk))
  unfold u_lay at hlay
  rw [if_neg (by rw [hfin]; decide)] at hlay
  have hst := (u_facts hfc hkC (u_lays hts hin hk) hi).1
  have h6 := u_store hfc hkC hkind hlay hi hpd hn hfit
  refine W.putK F.1 F.2.1 (f := f) ⟨hown, hts _ hlk, ⟨_, _, _, hi⟩, hst⟩ (by rw [q2]; exact h6) q1 q3 (by rw [hsl]; exact k2_hasslot (q4 k hk)) rfl rfl hd fun H' e1 e2 e3 => ?_
  rw [hsl] at e1 ⊢
  exact kk p e s m args below meth c H' _ cells slots mc ms ls' F h1 h2 (aw_R_set hR hba e2 e3 ⟨_, hc, t_OB.to (V := updV (vp_V fs) k v) ⟨_, e1, q2, q3, t_set q4 hap hk v⟩ (fun j _ => vp_updV_set hl0 v j)⟩) (hS.put e2 e3 hba) hl
theorem aw_putF {i ci k a : Nat} {fs : List Value} {v : Value} {ty : FieldType} (hd : decode mi.2.1 pc = .ok (.putfield i, 3)) (hf : aw_fp mi.1.cls i ci k true ty) (hini : mi.1.name = "<init>") (hh : h a = some (aO ci fs)) (hl0 : k < fs.length) (hn : narrow ty v = v) (hfit : fits ty v = true) (kk : aw l E mi Z d bc bs (pc + 3) ls st n (ah_set h a (aO ci (fs.set k v)))) : aw l E mi Z d bc bs pc ls (v :: .ref a :: st) n h := by
  intro p e s m args below meth c H locs cells slots mc ms ls' F h1 h2 hR hS hl
  obtain ⟨C, T, N, ty0, hc, hk, hin, hlk, hfin, hpd, hty, hnm, hde⟩ := hf
  have hdecl := hde rfl
  have hts := F.2.2.2.2.2.1
  have hown := F.2.2.2.2.1
  have hK : va_K E.1 vwCl (aw_tys E) s := F.2.2.2.2.2.2.2.2.1
  have hap := va_apart (own := mi.1.cls) hts hin ty0 hty hnm hK hc
  obtain ⟨hba, hat⟩ := hR.2 a _ hh
  obtain ⟨r, g1, cell, q1, q2, q3, q4⟩ := hat
  have hr : r = (C, T, N) := Option.some.inj (g1.symm.trans hc)
  subst hr
  obtain ⟨hSl, hfc, kC, hkC, hkind⟩ := hK.1 ci _ hc
  obtain ⟨cf, kf, fi, f, hi, hsl⟩ := hSl k hk
  have hlay := hts _ (hin _ (u_in_lay hk))
  unfold u_lay at hlay
  rw [if_pos hfin] at hlay
  have hst := (u_facts hfc hkC (u_lays hts hin hk) hi).1
  have hcf : m.cls = cf := by
    obtain ⟨_, _, c', _, _, _, -, -, hf', -, -, -, hown2, -⟩ := Cond.laysFinal_spec hlay
    have e1 : c' = cf := by have := hi.symm.trans hf'; simp at this; exact this.1.symm
    rw [hdecl] at hown2
    rw [← e1]; exact Option.some.inj (hown.symm.trans hown2)
  have h6 := u_fits hfc hkC hkind (Or.inr hlay) hi hpd hn hfit
  refine W.putFinK F.1 F.2.1 hown (hts _ hlk) hi hst hcf (F.2.2.2.2.2.2.2.1.trans hini) (by rw [q2]; exact h6) q1 q3 (by rw [hsl]; exact k2_hasslot (q4 k hk)) rfl rfl hd fun H' e1 e2 e3 => ?_
  rw [hsl] at e1 ⊢
  exact kk p e s m args below meth c H' _ cells slots mc ms ls' F h1 h2 (aw_R_set hR hba e2 e3 ⟨_, hc, t_OB.to (V := updV (vp_V fs) k v) ⟨_, e1, q2, q3, t_set q4 hap hk v⟩ (fun j _ => vp_updV_set hl0 v j)⟩) (hS.put e2 e3 hba) hl
theorem aw_iald {a N : Nat} {f : Nat → Int32} {i : Int32} (hd : decode mi.2.1 pc = .ok (.iaload, 1)) (hh : h a = some (aI N f)) (hin : vp_in i N) (kk : aw l E mi Z d bc bs (pc + 1) ls (.int (f i.toNatClampNeg) :: st) n h) : aw l E mi Z d bc bs pc ls (.int i :: .ref a :: st) n h := by
  intro p e s m args below meth c H locs cells slots mc ms ls' F h1 h2 hR hS hl
  exact va_iald (D := E.1) (cl := vwCl) (ws := [(a, .inl (E.2.1 0, N, .inl f))]) F.1 F.2.1 F.2.2.2.2.2.2.2.2.1 (aw_P1 (hR.2 a _ hh).2) 0 0 rfl rfl hin hd (kk p e s m args below meth c H locs cells slots mc ms ls' F h1 h2 hR hS hl)
theorem aw_iast {a N : Nat} {f : Nat → Int32} {i x : Int32} (hd : decode mi.2.1 pc = .ok (.iastore, 1)) (hh : h a = some (aI N f)) (hin : vp_in i N) (kk : aw l E mi Z d bc bs (pc + 1) ls st n (ah_set h a (aI N (upd f i.toNatClampNeg x)))) : aw l E mi Z d bc bs pc ls (.int x :: .int i :: .ref a :: st) n h := by
  intro p e s m args below meth c H locs cells slots mc ms ls' F h1 h2 hR hS hl
  obtain ⟨hba, hat⟩ := hR.2 a _ hh
  have hK : va_K E.1 vwCl (aw_tys E) s := F.2.2.2.2.2.2.2.2.1
  refine W.iast F.1 F.2.1 (show H[a]? = some _ from hat) ((hK.2 0 _ rfl).1 N (fun j => .int (f j))) (fun q => by cases q) (by show ¬ (i < 0 ∨ (arrV _ _ _).slots.size ≤ _); rw [arrV_size]; exact hin) rfl rfl hd fun H1 e1 z oq => ?_
  refine kk p e s m args below meth c H1 _ cells slots mc ms ls' F h1 h2 (aw_R_set hR hba z oq ?_) (hS.put z oq hba) hl
  show H1[a]? = some (vp_cell _ _)
  rw [e1]
  rw [vp_cell_i, vp_cell_i, arrV_store]
  congr 2
  funext q
  by_cases hq : q = i.toNatClampNeg
  · subst hq
    simp [updV, upd]
  · simp [updV, upd, hq]
theorem aw_alenI {a N : Nat} {f : Nat → Int32} {v : Int32} (hd : decode mi.2.1 pc = .ok (.arraylength, 1)) (hh : h a = some (aI N f)) (hv : Int32.ofNat N = v) (kk : aw l E mi Z d bc bs (pc + 1) ls (.int v :: st) n h) : aw l E mi Z d bc bs pc ls (.ref a :: st) n h := by
  intro p e s m args below meth c H locs cells slots mc ms ls' F h1 h2 hR hS hl
  exact va_alen (D := E.1) (cl := vwCl) (ws := [(a, .inl (E.2.1 0, N, .inl f))]) F.1 F.2.1 F.2.2.2.2.2.2.2.2.1 (aw_P1 (hR.2 a _ hh).2) 0 0 rfl rfl hv hd (kk p e s m args below meth c H locs cells slots mc ms ls' F h1 h2 hR hS hl)
theorem aw_alenR {a t N : Nat} {g : Nat → Option Nat} {v : Int32} (hd : decode mi.2.1 pc = .ok (.arraylength, 1)) (hh : h a = some (aR t N g)) (hv : Int32.ofNat N = v) (kk : aw l E mi Z d bc bs (pc + 1) ls (.int v :: st) n h) : aw l E mi Z d bc bs pc ls (.ref a :: st) n h := by
  intro p e s m args below meth c H locs cells slots mc ms ls' F h1 h2 hR hS hl
  obtain ⟨ht, hat⟩ := (hR.2 a _ hh).2
  have kw := kk p e s m args below meth c H locs cells slots mc ms ls' F h1 h2 hR hS hl
  rcases ht with rfl | rfl
  · exact va_alen (D := E.1) (cl := vwCl) (ws := [(a, .inl (E.2.1 1, N, .inr (.inr (.inr (.inr g)))))]) F.1 F.2.1 F.2.2.2.2.2.2.2.2.1 (aw_P1 hat) 0 1 rfl rfl hv hd kw
  · exact va_alen (D := E.1) (cl := vwCl) (ws := [(a, .inl (E.2.1 2, N, .inr (.inr (.inr (.inr g)))))]) F.1 F.2.1 F.2.2.2.2.2.2.2.2.1 (aw_P1 hat) 0 2 rfl rfl hv hd kw
theorem aw_aald {a t N : Nat} {g : Nat → Option Nat} {i : Int32} (hd : decode mi.2.1 pc = .ok (.aaload, 1)) (hh : h a = some (aR t N g)) (hin : vp_in i N) (kk : aw l E mi Z d bc bs (pc + 1) ls (va_rf (g i.toNatClampNeg) :: st) n h) : aw l E mi Z d bc bs pc ls (.int i :: .ref a :: st) n h := by
  intro p e s m args below meth c H locs cells slots mc ms ls' F h1 h2 hR hS hl
  obtain ⟨ht, hat⟩ := (hR.2 a _ hh).2
  have kw := kk p e s m args below meth c H locs cells slots mc ms ls' F h1 h2 hR hS hl
  rcases ht with rfl | rfl
  · exact va_aldq (D := E.1) (cl := vwCl) (ws := [(a, .inl (E.2.1 1, N, .inr (.inr (.inr (.inr g)))))]) F.1 F.2.1 F.2.2.2.2.2.2.2.2.1 (aw_P1 hat) 0 1 rfl rfl hin hd kw
  · exact va_aldq (D := E.1) (cl := vwCl) (ws := [(a, .inl (E.2.1 2, N, .inr (.inr (.inr (.inr g)))))]) F.1 F.2.1 F.2.2.2.2.2.2.2.2.1 (aw_P1 hat) 0 2 rfl rfl hin hd kw
/-- an object of class ci may lie in rows of kind t -/
def aw_ok (E : aw_E) (t ci : Nat) : Prop := ∃ r : vw_C, vwCl[ci]? = some r ∧ (r.1 = (if t = 1 then "HonestGold$Plain" else "HonestGold$Treasury") ∨ ∀ (U : State) (H : Heap), E.2.2.2 U H → ∃ cD cT : ClassId, U.vm.findClass r.1 = some cD ∧ U.vm.findClass (if t = 1 then "HonestGold$Plain" else "HonestGold$Treasury") = some cT ∧ U.vm.assignable cD cT = true)
theorem aw_aast {a t N v ci : Nat} {g : Nat → Option Nat} {fs : List Value} {i : Int32} (hd : decode mi.2.1 pc = .ok (.aastore, 1)) (hh : h a = some (aR t N g)) (hin : vp_in i N) (hv : h v = some (aO ci fs)) (hok : aw_ok E t ci) (kk : aw l E mi Z d bc bs (pc + 1) ls st n (ah_set h a (aR t N (va_up g i.toNatClampNeg (some v))))) : aw l E mi Z d bc bs pc ls (.ref v :: .int i :: .ref a :: st) n h := by
  intro p e s m args below meth c H locs cells slots mc ms ls' F h1 h2 hR hS hl
  obtain ⟨hba, ht, hat⟩ := hR.2 a _ hh
  have hK : va_K E.1 vwCl (aw_tys E) s := F.2.2.2.2.2.2.2.2.1
  have hts := F.2.2.2.2.2.1
  obtain ⟨r, hc, hok⟩ := hok
  have hlt : i.toNatClampNeg < N := Nat.not_le.mp fun q => hin (Or.inr q)
  have h0 : ¬ i < 0 := fun q => hin (Or.inl q)
  obtain ⟨cellV, g1, g3, gf⟩ := va_recv hK (aw_O hR hv) hc (q0 := 0) rfl
  obtain ⟨kC, hkC, -⟩ := Vm.findClass_spec gf
  have hRA : va_RA s (E.2.1 t) (.object (if t = 1 then "HonestGold$Plain" else "HonestGold$Treasury")) := by
    rcases ht with rfl | rfl
    · exact (hK.2 1 _ rfl).2
    · exact (hK.2 2 _ rfl).2
  obtain ⟨kA, comp, k1, k2, k3, -⟩ := hRA
  obtain ⟨kE, hkE, -⟩ := Vm.findClass_spec k3
  have hasg : s.vm.assignable cellV.cls comp = true := by
    rcases hok with he | hcs
    · rw [he] at gf
      cases gf.symm.trans k3
      exact va_asg _ _
    · obtain ⟨cD, cT, w1, w2, w3⟩ := hcs s s.heap F.2.2.2.2.2.2.2.2.2.1
      cases gf.symm.trans w1
      cases k3.symm.trans w2
      exact w3
  refine W.aast F.1 F.2.1 (show H[a]? = some _ from hat) (fun q h => by cases h) (fun h => by cases h) k1 k2 rfl hkE ⟨h0, by show _ < (arrV _ _ _).slots.size; rw [arrV_size]; exact hlt⟩ g1 (fun q h => by rw [h] at g3; cases g3) hkC hasg rfl rfl hd fun H1 e1 z oq => ?_
  refine kk p e s m args below meth c H1 _ cells slots mc ms ls' F h1 h2 (aw_R_set hR hba z oq ⟨ht, ?_⟩) (hS.put z oq hba) hl
  rw [e1]
  rw [vp_cell_q, vp_cell_q, arrV_store]
  congr 2
  funext q
  by_cases hq : q = i.toNatClampNeg
  · subst hq
    simp [updV, va_up, va_rf]
  · simp [updV, va_up, hq]
theorem aw_S_new {E : aw_E} {H0 H H1 : Heap} {locs : List Loc} (hS : va_S (aw_A E) H0 H locs) (z1 : H1.size = H.size + 1) (o1 : ∀ q : Nat, q < H.size → H1[q]? = H[q]?) : va_S (aw_A E) H0 H1 locs :=
  ⟨Nat.le_trans hS.1 (by omega), fun x h1 h2 => (o1 x (Nat.lt_of_lt_of_le h1 hS.1)).trans (hS.2.1 x h1 h2), hS.2.2⟩
theorem aw_newI {z : Int32} {N bc' bs' : Nat} (hd : decode mi.2.1 pc = .ok (.newarray .int, 2)) (hw : Cond.arrayClass .int ∈ aw_T) (hz : ¬ z < 0) (hN : z.toNatClampNeg = N) (hb : N ≤ 1000) (hbc : 1 + bc' ≤ bc) (hbs : N + bs' ≤ bs) (kk : aw l E mi Z d bc' bs' (pc + 2) ls (.ref n :: st) (n + 1) (ah_set h n (aI N (fun _ => 0)))) : aw l E mi Z d bc bs pc ls (.int z :: st) n h := by
  intro p e s m args below meth c H locs cells slots mc ms ls' F h1 h2 hR hS hl
  have hK : va_K E.1 vwCl (aw_tys E) s := F.2.2.2.2.2.2.2.2.1
  have hts := F.2.2.2.2.2.1
  refine va_newaK (atype := .int) F.1 F.2.1 (hts _ hw) rfl hd rfl hz hN (by show N * 4 ≤ _; omega) (by show cells + 1 ≤ mc; omega) (by show slots + N ≤ ms; omega) hR.1 fun H1 cA e1 z1 o1 hAr hNm => ?_
  have hcy : s.vm.findClass ("[" ++ FieldType.int.toString) = some (E.2.1 0) := (hK.2 0 _ rfl).2
  have hcA : cA = E.2.1 0 := Option.some.inj (hNm.symm.trans hcy)
  subst hcA
  have z1' : H1.size = H.size + 1 := by rw [z1, hR.1]
  have o1' : ∀ q : Nat, q < H.size → H1[q]? = H[q]? := fun q hq => o1 q (by rw [← hR.1]; exact hq)
  exact kk p e s m args below meth c H1 locs (cells + 1) (slots + N) mc ms ls' F (by omega) (by omega) (aw_R_new hR (Nat.le_trans F.2.2.2.2.2.2.2.2.2.2.2 hS.1) z1' o1' e1) (aw_S_new hS z1' o1') hl
theorem aw_newR {z : Int32} {i t N bc' bs' : Nat} {C : String} (hd : decode mi.2.1 pc = .ok (.anewarray i, 3)) (ht : t = 1 ∨ t = 2) (hC : C = (if t = 1 then "HonestGold$Plain" else "HonestGold$Treasury")) (hcl : Cond.classLink mi.1.cls i C ∈ aw_T) (hw : ∀ (U : State) (H : Heap), E.2.2.2 U H → va_AO C U) (hz : ¬ z < 0) (hN : z.toNatClampNeg = N) (hb : N ≤ 1000) (hbc : 1 + bc' ≤ bc) (hbs : N + bs' ≤ bs) (kk : aw l E mi Z d bc' bs' (pc + 3) ls (.ref n :: st) (n + 1) (ah_set h n (aR t N (fun _ => none)))) : aw l E mi Z d bc bs pc ls (.int z :: st) n h := by
  intro p e s m args below meth c H locs cells slots mc ms ls' F h1 h2 hR hS hl
  have hK : va_K E.1 vwCl (aw_tys E) s := F.2.2.2.2.2.2.2.2.1
  have hts := F.2.2.2.2.2.1
  subst hN
  refine W.anew F.1 F.2.1 F.2.2.2.2.1 (hts _ hcl) (va_AO.use (hw s s.heap F.2.2.2.2.2.2.2.2.2.1)) rfl hd rfl hz (by omega) (by show cells + 1 ≤ mc; omega) (by show slots + z.toNatClampNeg ≤ ms; omega) fun cA kA comp f1 f2 f3 f4 => ?_
  have hcA : cA = E.2.1 t := by
    subst hC
    rcases ht with rfl | rfl
    · obtain ⟨_, _, -, -, -, k4⟩ := (hK.2 1 _ rfl).2
      exact Option.some.inj (f1.symm.trans k4)
    · obtain ⟨_, _, -, -, -, k4⟩ := (hK.2 2 _ rfl).2
      exact Option.some.inj (f1.symm.trans k4)
  subst hcA
  generalize hH1 : H.push ({ cls := E.2.1 t, slots := Array.replicate z.toNatClampNeg .null, vm := .none } : Cell) = H1
  have z1 : H1.size = H.size + 1 := by rw [← hH1, Array.size_push]
  have e1 : H1[H.size]? = some (arrV (E.2.1 t) z.toNatClampNeg (fun _ => .null)) := by rw [← hH1, Array.getElem?_push_size, ← arrV_new]
  have o1 : ∀ q : Nat, q < H.size → H1[q]? = H[q]? := fun q hq => by rw [← hH1, Array.getElem?_push, if_neg (Nat.ne_of_lt hq)]
  have kw := kk p e s m args below meth c H1 locs (cells + 1) (slots + z.toNatClampNeg) mc ms ls' F (by omega) (by omega) (aw_R_new hR (Nat.le_trans F.2.2.2.2.2.2.2.2.2.2.2 hS.1) z1 o1 (e := aR t z.toNatClampNeg (fun _ => none)) ⟨ht, by rw [← hR.1]; exact e1⟩) (aw_S_new hS z1 o1) hl
  rw [← hR.1] at kw
  exact kw
theorem aw_new {i ci N bc' bs' : Nat} {fs : List Value} (hd : decode mi.2.1 pc = .ok (.new i, 3)) (hw : aw_nw mi.1.cls i ci fs N) (hbc : 1 + bc' ≤ bc) (hbs : N + bs' ≤ bs) (kk : aw l E mi Z d bc' bs' (pc + 3) ls (.ref n :: st) (n + 1) (ah_set h n (aO ci fs))) : aw l E mi Z d bc bs pc ls st n h := by
  intro p e s m args below meth c H locs cells slots mc ms ls' F h1 h2 hR hS hl
  have hK : va_K E.1 vwCl (aw_tys E) s := F.2.2.2.2.2.2.2.2.1
  have hts := F.2.2.2.2.2.1
  obtain ⟨C, T, ty0, hc, hin, hty, w1, w2, w3, hfs⟩ := hw
  have hKn := hK.1 ci _ hc
  refine W.newcK F.1 F.2.1 F.2.2.2.2.1 (hts _ w1) (hts _ w2) (hts _ w3) rfl hd (by show cells + 1 ≤ mc; omega) (by show slots + N ≤ ms; omega) hKn.2.1 hR.1 fun H1 kC hkC e1 z1 o1 => ?_
  have z1' : H1.size = H.size + 1 := by rw [z1, hR.1]
  have o1' : ∀ q : Nat, q < H.size → H1[q]? = H[q]? := fun q hq => o1 q (by rw [← hR.1]; exact hq)
  exact kk p e s m args below meth c H1 locs (cells + 1) (slots + N) mc ms ls' F (by omega) (by omega) (aw_R_new hR (Nat.le_trans F.2.2.2.2.2.2.2.2.2.2.2 hS.1) z1' o1' (e := aO ci fs) ⟨_, hc, (u_born ty0 hts hin hKn hkC e1 hty).to hfs⟩) (aw_S_new hS z1' o1') hl
theorem aw_objInit {i a : Nat} (hd : decode mi.2.1 pc = .ok (.invokespecial i, 3)) (hw : Cond.methodLink mi.1.cls i objectInit ∈ aw_T) (hw2 : Cond.instanceMethod objectInit ∈ aw_T) (hw3 : Cond.code objectInit ⟨#[0xb1]⟩ 1 none ∈ aw_T) (hst : (st.map fun v => v.category).sum ≤ 8) (kk : aw l E mi Z (d + 1) bc bs (pc + 3) ls st n h) : aw l E mi Z (d + 1) bc bs pc ls (.ref a :: st) n h := by
  intro p e s m args below meth c H locs cells slots mc ms ls' F h1 h2 hR hS hl
  have hts := F.2.2.2.2.2.1
  refine W.objInit F.1 F.2.1 F.2.2.2.2.1 (hts _ hw) (hts _ hw2) (hts _ hw3) rfl (by rw [F.2.2.1]; exact hl.1) rfl hd (by show 1 ≤ d + 1; omega) ?_ ?_
  · have := lv_room (m := m) (pc := pc) (ls := ls') (rest := st) (st := st) hst
    show 2 * 0 + (st.map fun v => v.category).sum + 12 ≤ 34 * (d + 1) + 10
    omega
  · exact kk p e s m args below meth c H locs cells slots mc ms ls' F h1 h2 hR hS hl
/-- behind a call -/
theorem aw_back {p : Program} {e : Env} {s : State} {m : MethodId} {args : Array Value} {below : List Frame} {meth : Method} {c : Code} {H : Heap} {locs : List Loc} {cells slots mc ms mc' ms' bc' bs' : Nat} {ls' : Array Slot} {st0 rest : List Value} {a : Array Value} {Q' : aw_P}
    (hr : va_Run p l e (aw_rm d mc ms) s m args below meth c H locs cells slots mc' ms' (F0 m pc ls' st0) rest (aw_Qc E Q' a) (aw_A E)) (F : aw_F E mi p s m args meth c) (h1 : cells + bc ≤ mc) (h2 : slots + bs ≤ ms) (hS : va_S (aw_A E) s.heap H locs) (hl : lv_has ls' mi.2.2.1 ls) (hbc : mc' + bc' ≤ bc) (hbs : ms' + bs' ≤ bs)
    (kk : ∀ (r : Option Value) (n' : Nat) (h' : ah), Q' r n' h' → aw l E mi Z d bc' bs' (pc + 3) ls (r.toList ++ rest) n' h') : W p l e (aw_rm d mc ms) s m args below meth c H locs cells slots (Z below args s mc ms) (F0 m pc ls' st0) := by
  intro T hT X
  obtain ⟨v, st₀, t, T', L, h0, X', hL, e1, e2, ⟨r, n', h', hv, hQ, hR', hF⟩, step⟩ := hr T hT X
  cases hv
  obtain ⟨t2, a1, b1⟩ := kk v n' h' hQ p e s m args below meth c T'.heap (locs ++ L) (cells + mc') (slots + ms') mc ms ls' F (by omega) (by omega) (by rw [e1]; exact hR')
    ⟨Nat.le_trans hS.1 (by rw [e1, ← h0]; exact hF.1), fun q g1 g2 => by
      rw [e1, hF.2 q (by rw [h0]; exact Nat.lt_of_lt_of_le g1 hS.1) g2, h0]
      exact hS.2.1 q g1 g2, fun q hq => by
      rcases List.mem_append.mp hq with g | g
      · exact hS.2.2 q g
      · exact hL q g⟩ hl T' rfl X'
  exact ⟨t2, step t2 a1, b1⟩
theorem aw_pre {p : Program} {s : State} {m : MethodId} {args : Array Value} {meth : Method} {c : Code} {H : Heap} {locs : List Loc} (F : aw_F E mi p s m args meth c) (hR : aw_R E n h H) (hS : va_S (aw_A E) s.heap H locs) (av : List Value) : PreS s H (va_Pc av (aw_Pc E n h)) av := by
  refine ⟨fun a U g mk q => ?_, fun U hU hW => ?_⟩
  · obtain ⟨q0, q1, q2, q3, q4, q5⟩ := q
    exact ⟨q0, q1, va_K.moved (u := U) (U := U.calling g mk a) (Vm.Alike.refl U.vm) q2, q4 U (U.calling g mk a) U.heap U.heap (State.WarmedH.refl U) (fun _ _ _ => rfl) q3, q4, q5⟩
  · refine ⟨rfl, by rw [hU]; exact hR, va_K.moved hW.alike F.2.2.2.2.2.2.2.2.1, ?_, F.2.2.2.2.2.2.2.2.2.2.1, by rw [hU]; exact Nat.le_trans F.2.2.2.2.2.2.2.2.2.2.2 hS.1⟩
    rw [hU]
    exact aw_cl_of F.2.2.2.2.2.2.2.2.2.2.1 hW hS F.2.2.2.2.2.2.2.2.2.1
theorem aw_callB {p : Program} {s : State} {m : MethodId} {args : Array Value} {meth : Method} {c : Code} {i np mc ms mc' ms' : Nat} {yi : aw_M} (F : aw_F E mi p s m args meth c) (hm : aw_cm yi np) (hl : Cond.methodLink mi.1.cls i yi.1 ∈ aw_T) : CallB (aw_rm (d + 1) mc ms) s args mi.1.cls i yi.1 yi.2.1 yi.2.2.1 yi.2.2.2 (.code yi.1 yi.2.1 yi.2.2.1 yi.2.2.2 :: aw_T) (aw_rm d mc' ms') mc' ms' np :=
  callB_of np F.2.2.2.2.2.1 (aw_goodIn hm.1) rfl rfl rfl (F.2.2.2.2.2.1 _ hm.2.1) (F.2.2.2.2.2.1 _ hl) hm.2.2.1 ⟨Nat.le_refl _, by have := hm.2.2.2; show 8 + (yi.2.2.1 + 11) + (34 * d + 10) ≤ 34 * (d + 1) + 10; omega⟩
theorem aw_callV {i ci b np mc' ms' bc' bs' : Nat} {yi : aw_M} {fs As rest : List Value} {Q' : aw_P} (hd : decode mi.2.1 pc = .ok (.invokevirtual i, 3)) (hm : aw_cm yi np) (hc : aw_cV mi.1.cls i ci yi) (hh : h b = some (aO ci fs)) (hst : st = As.reverse ++ .ref b :: rest) (hnp : As.length = np) (hrs : (rest.map fun v => v.category).sum ≤ 8) (hM : am l E yi d mc' ms' (.ref b :: As) n h Q') (hbc : mc' + bc' ≤ bc) (hbs : ms' + bs' ≤ bs)
    (kk : ∀ (r : Option Value) (n' : Nat) (h' : ah), Q' r n' h' → aw l E mi Z (d + 1) bc' bs' (pc + 3) ls (r.toList ++ rest) n' h') : aw l E mi Z (d + 1) bc bs pc ls st n h := by
  intro p e s m args below meth c H locs cells slots mc ms ls' F h1 h2 hR hS hl
  obtain ⟨r, hcr, w1, w2, w3⟩ := hc
  have hts := F.2.2.2.2.2.1
  have hP := aw_pre F hR hS (.ref b :: As)
  exact aw_back (va_runV (C := r.1) ⟨F.1, F.2.1, F.2.2.1, F.2.2.2.2.1, hts⟩ hM ⟨aw_callB F hm w1, hts _ w2, hts _ w3⟩ ⟨hP.1, va_recv F.2.2.2.2.2.2.2.2.1 (aw_O hR hh) hcr (q0 := 0) rfl, hP.2⟩ rfl hnp hl.1 hst (lv_room hrs) hd ⟨by show cells + mc' ≤ mc; omega, by show slots + ms' ≤ ms; omega⟩) F h1 h2 hS hl hbc hbs kk
theorem aw_callS {i np mc' ms' bc' bs' : Nat} {yi : aw_M} {As rest : List Value} {Q' : aw_P} (hd : decode mi.2.1 pc = .ok (.invokestatic i, 3)) (hm : aw_cm yi np) (hc : aw_cS mi.1.cls i yi) (hst : st = As.reverse ++ rest) (hnp : As.length = np) (hrs : (rest.map fun v => v.category).sum ≤ 8) (hM : am l E yi d mc' ms' As n h Q') (hbc : mc' + bc' ≤ bc) (hbs : ms' + bs' ≤ bs)
    (kk : ∀ (r : Option Value) (n' : Nat) (h' : ah), Q' r n' h' → aw l E mi Z (d + 1) bc' bs' (pc + 3) ls (r.toList ++ rest) n' h') : aw l E mi Z (d + 1) bc bs pc ls st n h := by
  intro p e s m args below meth c H locs cells slots mc ms ls' F h1 h2 hR hS hl
  have hts := F.2.2.2.2.2.1
  exact aw_back (va_runS ⟨F.1, F.2.1, F.2.2.1, F.2.2.2.2.1, hts⟩ hM ⟨aw_callB F hm hc.1, hts _ hc.2⟩ (aw_pre F hR hS As) rfl hnp hl.1 hst (lv_room hrs) hd ⟨by show cells + mc' ≤ mc; omega, by show slots + ms' ≤ ms; omega⟩) F h1 h2 hS hl hbc hbs kk
theorem aw_callI {i b np mc' ms' bc' bs' : Nat} {yi : aw_M} {As rest : List Value} {Q' : aw_P} (hd : decode mi.2.1 pc = .ok (.invokespecial i, 3)) (hm : aw_cm yi np) (hc : aw_cI mi.1.cls i yi) (hst : st = As.reverse ++ .ref b :: rest) (hnp : As.length = np) (hrs : (rest.map fun v => v.category).sum ≤ 8) (hM : am l E yi d mc' ms' (.ref b :: As) n h Q') (hbc : mc' + bc' ≤ bc) (hbs : ms' + bs' ≤ bs)
    (kk : ∀ (r : Option Value) (n' : Nat) (h' : ah), Q' r n' h' → aw l E mi Z (d + 1) bc' bs' (pc + 3) ls (r.toList ++ rest) n' h') : aw l E mi Z (d + 1) bc bs pc ls st n h := by
  intro p e s m args below meth c H locs cells slots mc ms ls' F h1 h2 hR hS hl
  have hts := F.2.2.2.2.2.1
  obtain ⟨w1, w2, w3, w4⟩ := hc
  have hB := aw_callB (d := d) (mc := mc) (ms := ms) (mc' := mc') (ms' := ms') F hm w1
  unfold am at hM
  rw [w4] at hB hM
  exact aw_back (va_runI (bytes := yi.2.1) (maxL := yi.2.2.1) ⟨F.1, F.2.1, F.2.2.1, F.2.2.2.2.1, hts⟩ hM ⟨hB, w3, hts _ w2⟩ (aw_pre F hR hS (.ref b :: As)) rfl hnp hl.1 hst (lv_room hrs) hd ⟨by show cells + mc' ≤ mc; omega, by show slots + ms' ≤ ms; omega⟩) F h1 h2 hS hl hbc hbs kk
theorem aw_callO {i ci b np mc' ms' bc' bs' : Nat} {x : MethodName} {yi : aw_M} {fs As rest : List Value} {Q' : aw_P} (hd : decode mi.2.1 pc = .ok (.invokevirtual i, 3)) (hm : aw_cm yi np) (hc : aw_cO mi.1.cls i ci x yi) (hh : h b = some (aO ci fs)) (hst : st = As.reverse ++ .ref b :: rest) (hnp : As.length = np) (hrs : (rest.map fun v => v.category).sum ≤ 8) (hM : am l E yi d mc' ms' (.ref b :: As) n h Q') (hbc : mc' + bc' ≤ bc) (hbs : ms' + bs' ≤ bs)
    (kk : ∀ (r : Option Value) (n' : Nat) (h' : ah), Q' r n' h' → aw l E mi Z (d + 1) bc' bs' (pc + 3) ls (r.toList ++ rest) n' h') : aw l E mi Z (d + 1) bc bs pc ls st n h := by
  intro p e s m args below meth c H locs cells slots mc ms ls' F h1 h2 hR hS hl
  obtain ⟨r, b0, m0, r0, hcr, w1, w2, w3, w4, w5, w6, en, ed, x1, x2⟩ := hc
  have hts := F.2.2.2.2.2.1
  have hP := aw_pre F hR hS (.ref b :: As)
  have hCU : va_CU (aw_rm (d + 1) mc ms) s args mi.1.cls r.1 x.cls i x yi.1 yi.2.1 yi.2.2.1 yi.2.2.2 (.code yi.1 yi.2.1 yi.2.2.1 yi.2.2.2 :: aw_T) (aw_rm d mc' ms') mc' ms' np :=
    va_cwO np hts (fun w hw => by
      have hm' : w ∈ aw_T := by
        simp only [va_wsO, List.cons_append, List.nil_append, List.mem_cons] at hw
        rcases hw with e | e | e | e | e | e | e | e
        · rw [e]; exact w1
        · rw [e]; exact w2
        · rw [e]; exact w3
        · rw [e]; exact w4
        · rw [e]; exact w5
        · rw [e]; exact hm.2.1
        · rw [e]; exact hm.1
        · exact e
      exact ⟨hm', good_of_word (aw_goodT hm')⟩) rfl rfl rfl w6 ⟨x1, x2, by rw [ed]; exact hm.2.2.1.2.2⟩ ⟨Nat.le_refl _, by have := hm.2.2.2; show 8 + (yi.2.2.1 + 11) + (34 * d + 10) ≤ 34 * (d + 1) + 10; omega⟩
  exact aw_back (va_runU (C := r.1) ⟨F.1, F.2.1, F.2.2.1, F.2.2.2.2.1, hts⟩ hM hCU ⟨hP.1, va_recv F.2.2.2.2.2.2.2.2.1 (aw_O hR hh) hcr (q0 := 0) rfl, hP.2⟩ rfl hnp hl.1 hst (lv_room hrs) hd ⟨by show cells + mc' ≤ mc; omega, by show slots + ms' ≤ ms; omega⟩) F h1 h2 hS hl hbc hbs kk
theorem aw_callU {i ci b np mc' ms' bc' bs' : Nat} {yi : aw_M} {fs As rest : List Value} {Q' : aw_P} (hd : decode mi.2.1 pc = .ok (.invokespecial i, 3)) (hm : aw_cm yi np) (hc : aw_cU mi.1.cls i yi) {r : vw_C} (hcr : vwCl[ci]? = some r) (hh : h b = some (aO ci fs)) (hst : st = As.reverse ++ .ref b :: rest) (hnp : As.length = np) (hrs : (rest.map fun v => v.category).sum ≤ 8) (hM : am l E yi d mc' ms' (.ref b :: As) n h Q') (hbc : mc' + bc' ≤ bc) (hbs : ms' + bs' ≤ bs)
    (kk : ∀ (r : Option Value) (n' : Nat) (h' : ah), Q' r n' h' → aw l E mi Z (d + 1) bc' bs' (pc + 3) ls (r.toList ++ rest) n' h') : aw l E mi Z (d + 1) bc bs pc ls st n h := by
  intro p e s m args below meth c H locs cells slots mc ms ls' F h1 h2 hR hS hl
  obtain ⟨w1, w2, w3, w4, w5⟩ := hc
  have hts := F.2.2.2.2.2.1
  have hP := aw_pre F hR hS (.ref b :: As)
  have hB := aw_callB (d := d) (mc := mc) (ms := ms) (mc' := mc') (ms' := ms') F hm w1
  have hK : va_K E.1 vwCl (aw_tys E) s := F.2.2.2.2.2.2.2.2.1
  obtain ⟨b1, b2, b3, b4, b5, b6, b7, b8, b9, b10, b11⟩ := hB
  exact aw_back (va_runSU (C := r.1) (hK.1 ci r hcr).2 ⟨F.1, F.2.1, F.2.2.1, F.2.2.2.2.1, hts⟩ hM ⟨⟨b1, b2, b3, b4, b5, b6⟩, hts _ w1, hts _ w2, hts _ w3, hts _ w4, b8, b7, w5, b10⟩ ⟨hP.1, va_recv F.2.2.2.2.2.2.2.2.1 (aw_O hR hh) hcr (q0 := 0) rfl, hP.2⟩ rfl hnp hl.1 hst (lv_room hrs) hd ⟨by show cells + mc' ≤ mc; omega, by show slots + ms' ≤ ms; omega⟩) F h1 h2 hS hl hbc hbs kk
end AWH
section AWE
variable {l : Launch} {E : aw_E} {mi : aw_M} {Q : aw_P} {d bc bs pc : Nat} {ls : List (Nat × Value)} {n : Nat} {h : ah}
theorem aw_zret {v : Int32} {ty : FieldType} (hd : decode mi.2.1 pc = .ok (.ireturn, 1)) (hr : mi.2.2.2 = some ty) (hn : narrow ty (.int v) = .int v) (hq : Q (some (.int v)) n h) : aw l E mi (aw_Z E Q) d bc bs pc ls [.int v] n h := by
  intro p e s m args below meth c H locs cells slots mc ms ls' F h1 h2 hR hS hl
  refine W.widen (k := mc) (n := ms) (by omega) (by omega) ?_
  exact W.zret (hlocks := F.2.2.2.2.2.2.1) F.1 F.2.1 (F.2.2.2.1.trans hr) hn (fun t ht hW => ⟨_, n, h, rfl, hq, by rw [ht]; exact hR, hS.F ht⟩) hS.2.2 hd
theorem aw_iret {v : Int32} (hd : decode mi.2.1 pc = .ok (.ireturn, 1)) (hr : mi.2.2.2 = some .int) (hq : Q (some (.int v)) n h) : aw l E mi (aw_Z E Q) d bc bs pc ls [.int v] n h := aw_zret hd hr rfl hq
theorem aw_lret {v : Int64} (hd : decode mi.2.1 pc = .ok (.lreturn, 1)) (hr : mi.2.2.2 = some .long) (hq : Q (some (.long v)) n h) : aw l E mi (aw_Z E Q) d bc bs pc ls [.long v] n h := by
  intro p e s m args below meth c H locs cells slots mc ms ls' F h1 h2 hR hS hl
  refine W.widen (k := mc) (n := ms) (by omega) (by omega) ?_
  exact W.lret (hlocks := F.2.2.2.2.2.2.1) F.1 F.2.1 (F.2.2.2.1.trans hr) (fun t ht hW => ⟨_, n, h, rfl, hq, by rw [ht]; exact hR, hS.F ht⟩) hS.2.2 hd
theorem aw_aret {v : Nat} {C : String} (hd : decode mi.2.1 pc = .ok (.areturn, 1)) (hr : mi.2.2.2 = some (.object C)) (hq : Q (some (.ref v)) n h) : aw l E mi (aw_Z E Q) d bc bs pc ls [.ref v] n h := by
  intro p e s m args below meth c H locs cells slots mc ms ls' F h1 h2 hR hS hl
  refine W.widen (k := mc) (n := ms) (by omega) (by omega) ?_
  exact W.aret (hlocks := F.2.2.2.2.2.2.1) F.1 F.2.1 (F.2.2.2.1.trans hr) (Or.inl ⟨_, rfl⟩) (Or.inr ⟨_, rfl⟩) (fun t ht hW => ⟨_, n, h, rfl, hq, by rw [ht]; exact hR, hS.F ht⟩) hS.2.2 hd
theorem aw_vret (hd : decode mi.2.1 pc = .ok (.return_, 1)) (hr : mi.2.2.2 = none) (hq : Q none n h) : aw l E mi (aw_Z E Q) d bc bs pc ls [] n h := by
  intro p e s m args below meth c H locs cells slots mc ms ls' F h1 h2 hR hS hl
  refine W.widen (k := mc) (n := ms) (by omega) (by omega) ?_
  exact W.vret (hlocks := F.2.2.2.2.2.2.1) F.1 F.2.1 (F.2.2.2.1.trans hr) (fun t ht hW => ⟨_, n, h, rfl, hq, by rw [ht]; exact hR, hS.F ht⟩) hS.2.2 hd
/-- A CONTRACT out of a walk of the body -/
theorem am_of {mc ms : Nat} {av : List Value} (hy : plainName mi.1.cls = true) (hN : (lg_sl av).length ≤ mi.2.2.1) (k : aw l E mi (aw_Z E Q) d mc ms 0 (lv_args 0 av) [] n h) : am l E mi d mc ms av n h Q := by
  refine Met.ofW (cc := mi.2.1) (maxL := mi.2.2.1) (ret := mi.2.2.2) hy rfl ?_
  intro p e s m args below meth c s₁ B hml hv
  obtain ⟨rfl, hR, hK, hV, hcl, hba⟩ := hv
  have hts := atoms_spec (ws := .code mi.1 mi.2.1 mi.2.2.1 mi.2.2.2 :: aw_T) B.pre
  have hown : s.vm.findClass mi.1.cls = some m.cls := findClass_of_methodNamed B.named
  rw [lg_entry_eq]
  exact k p e s m av.toArray below meth c s.heap [] 0 0 mc ms _ ⟨B.exec, B.bytes, hml, B.returns, hown, fun w hw => hts w (List.mem_cons_of_mem _ hw), B.notSynchronized, (name_of_methodNamed B.named B.method).1, hK, hV, hcl, hba⟩ (by omega) (by omega) hR va_S.rf (lv_entry av hN)
end AWE
