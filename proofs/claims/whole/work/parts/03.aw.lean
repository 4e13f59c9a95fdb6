/-! THE ABSTRACT WALK. A cell: an int array, an array of references, an object; a heap: what is known of each address. -/
abbrev ae : Type := (Nat × (Nat → Int32)) ⊕ (Nat × Nat × (Nat → Option Nat)) ⊕ (Nat × List Value)
abbrev aI (n : Nat) (f : Nat → Int32) : ae := .inl (n, f)
abbrev aR (t n : Nat) (g : Nat → Option Nat) : ae := .inr (.inl (t, n, g))
abbrev aO (c : Nat) (fs : List Value) : ae := .inr (.inr (c, fs))
abbrev ah : Type := Nat → Option ae
def ah_set (h : ah) (a : Nat) (e : ae) : ah := fun b => if b = a then some e else h b
theorem ah_set_eq (h : ah) (a : Nat) (e : ae) : ah_set h a e a = some e := if_pos rfl
theorem ah_set_ne (h : ah) {a b : Nat} (e : ae) (hb : b ≠ a) : ah_set h a e b = h b := if_neg hb
/-- the machine's own numbers: the classes', the array classes', the first address that is ours, what stays of the rest -/
abbrev aw_E : Type := va_G × (Nat → ClassId) × Nat × (State → Heap → Prop)
/-- a method: its name, bytes, locals, answer -/
abbrev aw_M : Type := MethodName × ByteArray × Nat × Option FieldType
def aw_A (E : aw_E) : Nat → Prop := fun q => E.2.2.1 ≤ q
def aw_at (E : aw_E) (a : Nat) (e : ae) (H : Heap) : Prop := match e with
  | .inl (n, f) => H[a]? = some (vp_cell (E.2.1 0) (n, .inl f))
  | .inr (.inl (t, n, g)) => (t = 1 ∨ t = 2) ∧ H[a]? = some (vp_cell (E.2.1 t) (n, .inr (.inr (.inr (.inr g)))))
  | .inr (.inr o) => va_at E.1 vwCl (a, .inr o) H
def aw_R (E : aw_E) (n : Nat) (h : ah) (H : Heap) : Prop := H.size = n ∧ ∀ (a : Nat) (e : ae), h a = some e → E.2.2.1 ≤ a ∧ aw_at E a e H
abbrev aw_tys (E : aw_E) : List (ClassId × FieldType) := [(E.2.1 0, .int), (E.2.1 1, .object "HonestGold$Plain"), (E.2.1 2, .object "HonestGold$Treasury")]
def aw_K (E : aw_E) (U : State) : Prop := va_K E.1 vwCl (aw_tys E) U
def aw_cl (E : aw_E) : Prop := ∀ (s U : State) (H H1 : Heap), s.WarmedH U.vm → (∀ a : Nat, a < H.size → a < E.2.2.1 → H1[a]? = H[a]?) → E.2.2.2 s H → E.2.2.2 U H1
/-- the words that a call may hand on -/
def aw_T : List Cond := lw_tbl.filter goodWord
theorem aw_mem {w : Cond} (i : Nat) (hi : lw_tbl[i]? = some w) (hg : goodWord w = true) : w ∈ aw_T := List.mem_filter.mpr ⟨List.mem_of_getElem? hi, hg⟩
def aw_rm (d mc ms : Nat) : Room := { frames := d, cells := mc, slots := ms, locals := 34 * d + 10 }
def aw_F (E : aw_E) (mi : aw_M) (p : Program) (s : State) (m : MethodId) (args : Array Value) (meth : Method) (c : Code) : Prop :=
  p.tables.exec = Jvm.exec ∧ c.code = mi.2.1 ∧ c.maxLocals = mi.2.2.1 ∧ meth.sig.returnType = mi.2.2.2 ∧ s.vm.findClass mi.1.cls = some m.cls ∧ (∀ w ∈ aw_T, w.before args s = true) ∧ meth.locks = false ∧ meth.name = mi.1.name ∧ aw_K E s ∧ E.2.2.2 s s.heap ∧ aw_cl E ∧ E.2.2.1 ≤ s.heap.size
abbrev aw_Zt : Type := List Frame → Array Value → State → Nat → Nat → State → Prop
def aw (l : Launch) (E : aw_E) (mi : aw_M) (Z : aw_Zt) (d bc bs pc : Nat) (ls : List (Nat × Value)) (st : List Value) (n : Nat) (h : ah) : Prop :=
  ∀ (p : Program) (e : Env) (s : State) (m : MethodId) (args : Array Value) (below : List Frame) (meth : Method) (c : Code) (H : Heap) (locs : List Loc) (cells slots mc ms : Nat) (ls' : Array Slot),
    aw_F E mi p s m args meth c → cells + bc ≤ mc → slots + bs ≤ ms → aw_R E n h H → va_S (aw_A E) s.heap H locs → lv_has ls' mi.2.2.1 ls →
    W p l e (aw_rm d mc ms) s m args below meth c H locs cells slots (Z below args s mc ms) (F0 m pc ls' st)
/-- what a method's end says -/
abbrev aw_P : Type := Option Value → Nat → ah → Prop
def aw_Qc (E : aw_E) (Q : aw_P) : Array Value → State → Outcome → State → Prop := fun _ st oc t => ∃ (r : Option Value) (n : Nat) (h : ah), oc = .returned r ∧ Q r n h ∧ aw_R E n h t.heap ∧ va_F (aw_A E) st t
def aw_Z (E : aw_E) (Q : aw_P) : aw_Zt := fun below args s mc ms => MQ below (aw_Qc E Q) args s mc ms (aw_A E)
def aw_Pc (E : aw_E) (n : Nat) (h : ah) (U : State) : Prop := aw_R E n h U.heap ∧ aw_K E U ∧ E.2.2.2 U U.heap ∧ aw_cl E ∧ E.2.2.1 ≤ U.heap.size
/-- THE CONTRACT of a method: from these arguments and this heap it returns, and Q holds of the answer and the heap then; d frames at most below it, mc cells of ms slots made -/
def am (l : Launch) (E : aw_E) (mi : aw_M) (d mc ms : Nat) (av : List Value) (n : Nat) (h : ah) (Q : aw_P) : Prop :=
  Met l mi.1 (.code mi.1 mi.2.1 mi.2.2.1 mi.2.2.2 :: aw_T) (aw_rm d mc ms) (va_Pc av (aw_Pc E n h)) (aw_Qc E Q) mc ms (aw_A E)
def aw_lk : List (Nat × Value) → Nat → Option Value
  | [], _ => none
  | q :: t, i => if q.1 = i then some q.2 else aw_lk t i
theorem aw_lk_mem : ∀ {ls : List (Nat × Value)} {i : Nat} {v : Value}, aw_lk ls i = some v → (i, v) ∈ ls
  | [], _, _, h => by cases h
  | q :: t, i, v, h => by
    unfold aw_lk at h
    by_cases hq : q.1 = i
    · rw [if_pos hq] at h
      have h2 : q = (i, v) := Prod.ext hq (Option.some.inj h)
      rw [h2]; exact List.mem_cons_self
    · rw [if_neg hq] at h
      exact List.mem_cons_of_mem _ (aw_lk_mem h)
def aw_st1 (i : Nat) (v : Value) (ls : List (Nat × Value)) : List (Nat × Value) := (i, v) :: ls.filter (fun q => !(q.1 == i) && !(q.1 + 1 == i && q.2.category == 2))
def aw_st2 (i : Nat) (v : Value) (ls : List (Nat × Value)) : List (Nat × Value) := (i, v) :: ls.filter (fun q => !(q.1 == i) && (!(q.1 == i + 1) && !(q.1 + 1 == i && q.2.category == 2)))
def aw_pk (ls : List (Nat × Value)) (ks : List Nat) : List (Nat × Value) := ks.filterMap (fun i => (aw_lk ls i).map (fun v => (i, v)))
theorem aw_pk_mem {ls : List (Nat × Value)} {ks : List Nat} {q : Nat × Value} (h : q ∈ aw_pk ls ks) : q ∈ ls := by
  unfold aw_pk at h
  obtain ⟨i, -, hi⟩ := List.mem_filterMap.mp h
  cases hv : aw_lk ls i with
  | none => rw [hv] at hi; cases hi
  | some v => rw [hv] at hi; cases hi; exact aw_lk_mem hv
theorem aw_cl_of {E : aw_E} (hc : aw_cl E) {s U : State} {H : Heap} {locs : List Loc} (hW : s.WarmedH U.vm) (hS : va_S (aw_A E) s.heap H locs) (h : E.2.2.2 s s.heap) : E.2.2.2 U H :=
  hc s U s.heap H hW (fun a h1 h2 => hS.2.1 a h1 (Nat.not_le.mpr h2)) h
section AW
variable {l : Launch} {E : aw_E} {mi : aw_M} {Z : aw_Zt} {d bc bs pc : Nat} {ls : List (Nat × Value)} {st : List Value} {n : Nat} {h : ah}
theorem aw_loc {ls2 : List (Nat × Value)} (ks : List Nat) (hl : aw_pk ls ks = ls2) (k : aw l E mi Z d bc bs pc ls2 st n h) : aw l E mi Z d bc bs pc ls st n h := by
  intro p e s m args below meth c H locs cells slots mc ms ls' F h1 h2 hR hS hl'
  exact k p e s m args below meth c H locs cells slots mc ms ls' F h1 h2 hR hS ⟨hl'.1, hl'.2.1, fun q hq => hl'.2.2 q (aw_pk_mem (by rw [hl]; exact hq))⟩
theorem aw_bud {bc' bs' : Nat} (k : aw l E mi Z d bc' bs' pc ls st n h) (hc : bc' ≤ bc) (hs : bs' ≤ bs) : aw l E mi Z d bc bs pc ls st n h := by
  intro p e s m args below meth c H locs cells slots mc ms ls' F h1 h2 hR hS hl'
  exact k p e s m args below meth c H locs cells slots mc ms ls' F (by omega) (by omega) hR hS hl'
theorem aw_iconst {z : Int} {v : Int32} (hd : decode mi.2.1 pc = .ok (.iconst z, 1)) (hv : Int32.ofInt z = v) (k : aw l E mi Z d bc bs (pc + 1) ls (.int v :: st) n h) : aw l E mi Z d bc bs pc ls (st) n h := by
  intro p e s m args below meth c H locs cells slots mc ms ls' F h1 h2 hR hS hl
  exact lv_iconst F.1 F.2.1 hd hv (k p e s m args below meth c H locs cells slots mc ms ls' F h1 h2 hR hS hl)
theorem aw_bipush {z : Int} {v : Int32} (hd : decode mi.2.1 pc = .ok (.bipush z, 2)) (hv : (Int8.ofInt z).toInt32 = v) (k : aw l E mi Z d bc bs (pc + 2) ls (.int v :: st) n h) : aw l E mi Z d bc bs pc ls (st) n h := by
  intro p e s m args below meth c H locs cells slots mc ms ls' F h1 h2 hR hS hl
  exact lv_bipush F.1 F.2.1 hd hv (k p e s m args below meth c H locs cells slots mc ms ls' F h1 h2 hR hS hl)
theorem aw_sipush {z : Int} {v : Int32} (hd : decode mi.2.1 pc = .ok (.sipush z, 3)) (hv : (Int16.ofInt z).toInt32 = v) (k : aw l E mi Z d bc bs (pc + 3) ls (.int v :: st) n h) : aw l E mi Z d bc bs pc ls (st) n h := by
  intro p e s m args below meth c H locs cells slots mc ms ls' F h1 h2 hR hS hl
  exact lv_sipush F.1 F.2.1 hd hv (k p e s m args below meth c H locs cells slots mc ms ls' F h1 h2 hR hS hl)
theorem aw_lconst {z : Fin 2} {v : Int64} (hd : decode mi.2.1 pc = .ok (.lconst z, 1)) (hv : Int64.ofNat (z : Nat) = v) (k : aw l E mi Z d bc bs (pc + 1) ls (.long v :: st) n h) : aw l E mi Z d bc bs pc ls (st) n h := by
  intro p e s m args below meth c H locs cells slots mc ms ls' F h1 h2 hR hS hl
  exact lv_lconst F.1 F.2.1 hd hv (k p e s m args below meth c H locs cells slots mc ms ls' F h1 h2 hR hS hl)
theorem aw_iload_n {z : Fin 4} {v : Int32} (hd : decode mi.2.1 pc = .ok (.iload_n z, 1)) (hv : aw_lk ls z.val = some (.int v)) (k : aw l E mi Z d bc bs (pc + 1) ls (.int v :: st) n h) : aw l E mi Z d bc bs pc ls (st) n h := by
  intro p e s m args below meth c H locs cells slots mc ms ls' F h1 h2 hR hS hl
  exact lv_iload_n F.1 F.2.1 hd rfl (hl.2.2 _ (aw_lk_mem hv)) (k p e s m args below meth c H locs cells slots mc ms ls' F h1 h2 hR hS hl)
theorem aw_iload {i : Nat} {v : Int32} (hd : decode mi.2.1 pc = .ok (.iload i, 2)) (hv : aw_lk ls i = some (.int v)) (k : aw l E mi Z d bc bs (pc + 2) ls (.int v :: st) n h) : aw l E mi Z d bc bs pc ls (st) n h := by
  intro p e s m args below meth c H locs cells slots mc ms ls' F h1 h2 hR hS hl
  exact lv_iload F.1 F.2.1 hd (hl.2.2 _ (aw_lk_mem hv)) (k p e s m args below meth c H locs cells slots mc ms ls' F h1 h2 hR hS hl)
theorem aw_lload_n {z : Fin 4} {v : Int64} (hd : decode mi.2.1 pc = .ok (.lload_n z, 1)) (hv : aw_lk ls z.val = some (.long v)) (k : aw l E mi Z d bc bs (pc + 1) ls (.long v :: st) n h) : aw l E mi Z d bc bs pc ls (st) n h := by
  intro p e s m args below meth c H locs cells slots mc ms ls' F h1 h2 hR hS hl
  exact lv_lload_n F.1 F.2.1 hd rfl (hl.2.2 _ (aw_lk_mem hv)) (k p e s m args below meth c H locs cells slots mc ms ls' F h1 h2 hR hS hl)
theorem aw_lload {i : Nat} {v : Int64} (hd : decode mi.2.1 pc = .ok (.lload i, 2)) (hv : aw_lk ls i = some (.long v)) (k : aw l E mi Z d bc bs (pc + 2) ls (.long v :: st) n h) : aw l E mi Z d bc bs pc ls (st) n h := by
  intro p e s m args below meth c H locs cells slots mc ms ls' F h1 h2 hR hS hl
  exact lv_lload F.1 F.2.1 hd (hl.2.2 _ (aw_lk_mem hv)) (k p e s m args below meth c H locs cells slots mc ms ls' F h1 h2 hR hS hl)
theorem aw_aload_n {z : Fin 4} {v : Nat} (hd : decode mi.2.1 pc = .ok (.aload_n z, 1)) (hv : aw_lk ls z.val = some (.ref v)) (k : aw l E mi Z d bc bs (pc + 1) ls (.ref v :: st) n h) : aw l E mi Z d bc bs pc ls (st) n h := by
  intro p e s m args below meth c H locs cells slots mc ms ls' F h1 h2 hR hS hl
  exact lv_aload_n F.1 F.2.1 hd rfl (hl.2.2 _ (aw_lk_mem hv)) (k p e s m args below meth c H locs cells slots mc ms ls' F h1 h2 hR hS hl)
theorem aw_aload {i : Nat} {v : Nat} (hd : decode mi.2.1 pc = .ok (.aload i, 2)) (hv : aw_lk ls i = some (.ref v)) (k : aw l E mi Z d bc bs (pc + 2) ls (.ref v :: st) n h) : aw l E mi Z d bc bs pc ls (st) n h := by
  intro p e s m args below meth c H locs cells slots mc ms ls' F h1 h2 hR hS hl
  exact lv_aload F.1 F.2.1 hd (hl.2.2 _ (aw_lk_mem hv)) (k p e s m args below meth c H locs cells slots mc ms ls' F h1 h2 hR hS hl)
theorem aw_aload_nN {z : Fin 4} (hd : decode mi.2.1 pc = .ok (.aload_n z, 1)) (hv : aw_lk ls z.val = some .null) (k : aw l E mi Z d bc bs (pc + 1) ls (.null :: st) n h) : aw l E mi Z d bc bs pc ls (st) n h := by
  intro p e s m args below meth c H locs cells slots mc ms ls' F h1 h2 hR hS hl
  exact lv_aload_nN F.1 F.2.1 hd rfl (hl.2.2 _ (aw_lk_mem hv)) (k p e s m args below meth c H locs cells slots mc ms ls' F h1 h2 hR hS hl)
theorem aw_istore_n {z : Fin 4} {v : Int32} (hd : decode mi.2.1 pc = .ok (.istore_n z, 1)) (hn : z.val < mi.2.2.1) (k : aw l E mi Z d bc bs (pc + 1) (aw_st1 z.val (.int v) ls) st n h) : aw l E mi Z d bc bs pc ls (.int v :: st) n h := by
  intro p e s m args below meth c H locs cells slots mc ms ls' F h1 h2 hR hS hl
  exact lv_istore_n F.1 F.2.1 hd rfl hl hn rfl (fun ls2 hl2 => k p e s m args below meth c H locs cells slots mc ms ls2 F h1 h2 hR hS hl2)
theorem aw_istore {i : Nat} {v : Int32} (hd : decode mi.2.1 pc = .ok (.istore i, 2)) (hn : i < mi.2.2.1) (k : aw l E mi Z d bc bs (pc + 2) (aw_st1 i (.int v) ls) st n h) : aw l E mi Z d bc bs pc ls (.int v :: st) n h := by
  intro p e s m args below meth c H locs cells slots mc ms ls' F h1 h2 hR hS hl
  exact lv_istore F.1 F.2.1 hd hl hn rfl (fun ls2 hl2 => k p e s m args below meth c H locs cells slots mc ms ls2 F h1 h2 hR hS hl2)
theorem aw_lstore_n {z : Fin 4} {v : Int64} (hd : decode mi.2.1 pc = .ok (.lstore_n z, 1)) (hn : z.val + 1 < mi.2.2.1) (k : aw l E mi Z d bc bs (pc + 1) (aw_st2 z.val (.long v) ls) st n h) : aw l E mi Z d bc bs pc ls (.long v :: st) n h := by
  intro p e s m args below meth c H locs cells slots mc ms ls' F h1 h2 hR hS hl
  exact lv_lstore_n F.1 F.2.1 hd rfl hl hn rfl (fun ls2 hl2 => k p e s m args below meth c H locs cells slots mc ms ls2 F h1 h2 hR hS hl2)
theorem aw_lstore {i : Nat} {v : Int64} (hd : decode mi.2.1 pc = .ok (.lstore i, 2)) (hn : i + 1 < mi.2.2.1) (k : aw l E mi Z d bc bs (pc + 2) (aw_st2 i (.long v) ls) st n h) : aw l E mi Z d bc bs pc ls (.long v :: st) n h := by
  intro p e s m args below meth c H locs cells slots mc ms ls' F h1 h2 hR hS hl
  exact lv_lstore F.1 F.2.1 hd hl hn rfl (fun ls2 hl2 => k p e s m args below meth c H locs cells slots mc ms ls2 F h1 h2 hR hS hl2)
theorem aw_astore_n {z : Fin 4} {v : Nat} (hd : decode mi.2.1 pc = .ok (.astore_n z, 1)) (hn : z.val < mi.2.2.1) (k : aw l E mi Z d bc bs (pc + 1) (aw_st1 z.val (.ref v) ls) st n h) : aw l E mi Z d bc bs pc ls (.ref v :: st) n h := by
  intro p e s m args below meth c H locs cells slots mc ms ls' F h1 h2 hR hS hl
  exact lv_astore_n F.1 F.2.1 hd rfl hl hn rfl (fun ls2 hl2 => k p e s m args below meth c H locs cells slots mc ms ls2 F h1 h2 hR hS hl2)
theorem aw_astore {i : Nat} {v : Nat} (hd : decode mi.2.1 pc = .ok (.astore i, 2)) (hn : i < mi.2.2.1) (k : aw l E mi Z d bc bs (pc + 2) (aw_st1 i (.ref v) ls) st n h) : aw l E mi Z d bc bs pc ls (.ref v :: st) n h := by
  intro p e s m args below meth c H locs cells slots mc ms ls' F h1 h2 hR hS hl
  exact lv_astore F.1 F.2.1 hd hl hn rfl (fun ls2 hl2 => k p e s m args below meth c H locs cells slots mc ms ls2 F h1 h2 hR hS hl2)
theorem aw_iinc {i : Nat} {z : Int} {x v : Int32} (hd : decode mi.2.1 pc = .ok (.iinc i z, 3)) (hv : aw_lk ls i = some (.int x)) (hx : x + Int32.ofInt z = v) (hn : i < mi.2.2.1) (k : aw l E mi Z d bc bs (pc + 3) (aw_st1 i (.int v) ls) st n h) : aw l E mi Z d bc bs pc ls st n h := by
  intro p e s m args below meth c H locs cells slots mc ms ls' F h1 h2 hR hS hl
  obtain ⟨j, hj⟩ := List.mem_iff_getElem?.mp (aw_lk_mem hv)
  exact lv_iinc F.1 F.2.1 hd hl hj hx hn rfl (fun ls2 hl2 => k p e s m args below meth c H locs cells slots mc ms ls2 F h1 h2 hR hS hl2)
theorem aw_iadd {x y : Int32} (hd : decode mi.2.1 pc = .ok (.iadd, 1))  (k : aw l E mi Z d bc bs (pc + 1) ls (.int (x + y) :: st) n h) : aw l E mi Z d bc bs pc ls (.int y :: .int x :: st) n h := by
  intro p e s m args below meth c H locs cells slots mc ms ls' F h1 h2 hR hS hl
  exact lv_iadd F.1 F.2.1 hd  (k p e s m args below meth c H locs cells slots mc ms ls' F h1 h2 hR hS hl)
theorem aw_isub {x y : Int32} (hd : decode mi.2.1 pc = .ok (.isub, 1))  (k : aw l E mi Z d bc bs (pc + 1) ls (.int (x - y) :: st) n h) : aw l E mi Z d bc bs pc ls (.int y :: .int x :: st) n h := by
  intro p e s m args below meth c H locs cells slots mc ms ls' F h1 h2 hR hS hl
  exact lv_isub F.1 F.2.1 hd  (k p e s m args below meth c H locs cells slots mc ms ls' F h1 h2 hR hS hl)
theorem aw_imul {x y : Int32} (hd : decode mi.2.1 pc = .ok (.imul, 1))  (k : aw l E mi Z d bc bs (pc + 1) ls (.int (x * y) :: st) n h) : aw l E mi Z d bc bs pc ls (.int y :: .int x :: st) n h := by
  intro p e s m args below meth c H locs cells slots mc ms ls' F h1 h2 hR hS hl
  exact lv_imul F.1 F.2.1 hd  (k p e s m args below meth c H locs cells slots mc ms ls' F h1 h2 hR hS hl)
theorem aw_iand {x y : Int32} (hd : decode mi.2.1 pc = .ok (.iand, 1))  (k : aw l E mi Z d bc bs (pc + 1) ls (.int (x &&& y) :: st) n h) : aw l E mi Z d bc bs pc ls (.int y :: .int x :: st) n h := by
  intro p e s m args below meth c H locs cells slots mc ms ls' F h1 h2 hR hS hl
  exact lv_iand F.1 F.2.1 hd  (k p e s m args below meth c H locs cells slots mc ms ls' F h1 h2 hR hS hl)
theorem aw_ior {x y : Int32} (hd : decode mi.2.1 pc = .ok (.ior, 1))  (k : aw l E mi Z d bc bs (pc + 1) ls (.int (x ||| y) :: st) n h) : aw l E mi Z d bc bs pc ls (.int y :: .int x :: st) n h := by
  intro p e s m args below meth c H locs cells slots mc ms ls' F h1 h2 hR hS hl
  exact lv_ior F.1 F.2.1 hd  (k p e s m args below meth c H locs cells slots mc ms ls' F h1 h2 hR hS hl)
theorem aw_ixor {x y : Int32} (hd : decode mi.2.1 pc = .ok (.ixor, 1))  (k : aw l E mi Z d bc bs (pc + 1) ls (.int (x ^^^ y) :: st) n h) : aw l E mi Z d bc bs pc ls (.int y :: .int x :: st) n h := by
  intro p e s m args below meth c H locs cells slots mc ms ls' F h1 h2 hR hS hl
  exact lv_ixor F.1 F.2.1 hd  (k p e s m args below meth c H locs cells slots mc ms ls' F h1 h2 hR hS hl)
theorem aw_idiv {x y : Int32} (hd : decode mi.2.1 pc = .ok (.idiv, 1)) (hne : ¬ y = 0) (k : aw l E mi Z d bc bs (pc + 1) ls (.int (x / y) :: st) n h) : aw l E mi Z d bc bs pc ls (.int y :: .int x :: st) n h := by
  intro p e s m args below meth c H locs cells slots mc ms ls' F h1 h2 hR hS hl
  exact lv_idiv F.1 F.2.1 hd hne (k p e s m args below meth c H locs cells slots mc ms ls' F h1 h2 hR hS hl)
theorem aw_irem {x y : Int32} (hd : decode mi.2.1 pc = .ok (.irem, 1)) (hne : ¬ y = 0) (k : aw l E mi Z d bc bs (pc + 1) ls (.int (x - x / y * y) :: st) n h) : aw l E mi Z d bc bs pc ls (.int y :: .int x :: st) n h := by
  intro p e s m args below meth c H locs cells slots mc ms ls' F h1 h2 hR hS hl
  exact lv_irem F.1 F.2.1 hd hne (k p e s m args below meth c H locs cells slots mc ms ls' F h1 h2 hR hS hl)
theorem aw_ladd {x y : Int64} (hd : decode mi.2.1 pc = .ok (.ladd, 1))  (k : aw l E mi Z d bc bs (pc + 1) ls (.long (x + y) :: st) n h) : aw l E mi Z d bc bs pc ls (.long y :: .long x :: st) n h := by
  intro p e s m args below meth c H locs cells slots mc ms ls' F h1 h2 hR hS hl
  exact lv_ladd F.1 F.2.1 hd  (k p e s m args below meth c H locs cells slots mc ms ls' F h1 h2 hR hS hl)
theorem aw_lsub {x y : Int64} (hd : decode mi.2.1 pc = .ok (.lsub, 1))  (k : aw l E mi Z d bc bs (pc + 1) ls (.long (x - y) :: st) n h) : aw l E mi Z d bc bs pc ls (.long y :: .long x :: st) n h := by
  intro p e s m args below meth c H locs cells slots mc ms ls' F h1 h2 hR hS hl
  exact lv_lsub F.1 F.2.1 hd  (k p e s m args below meth c H locs cells slots mc ms ls' F h1 h2 hR hS hl)
theorem aw_lmul {x y : Int64} (hd : decode mi.2.1 pc = .ok (.lmul, 1))  (k : aw l E mi Z d bc bs (pc + 1) ls (.long (x * y) :: st) n h) : aw l E mi Z d bc bs pc ls (.long y :: .long x :: st) n h := by
  intro p e s m args below meth c H locs cells slots mc ms ls' F h1 h2 hR hS hl
  exact lv_lmul F.1 F.2.1 hd  (k p e s m args below meth c H locs cells slots mc ms ls' F h1 h2 hR hS hl)
theorem aw_ldiv {x y : Int64} (hd : decode mi.2.1 pc = .ok (.ldiv, 1)) (hne : ¬ y = 0) (k : aw l E mi Z d bc bs (pc + 1) ls (.long (x / y) :: st) n h) : aw l E mi Z d bc bs pc ls (.long y :: .long x :: st) n h := by
  intro p e s m args below meth c H locs cells slots mc ms ls' F h1 h2 hR hS hl
  exact lv_ldiv F.1 F.2.1 hd hne (k p e s m args below meth c H locs cells slots mc ms ls' F h1 h2 hR hS hl)
theorem aw_lrem {x y : Int64} (hd : decode mi.2.1 pc = .ok (.lrem, 1)) (hne : ¬ y = 0) (k : aw l E mi Z d bc bs (pc + 1) ls (.long (x - x / y * y) :: st) n h) : aw l E mi Z d bc bs pc ls (.long y :: .long x :: st) n h := by
  intro p e s m args below meth c H locs cells slots mc ms ls' F h1 h2 hR hS hl
  exact lv_lrem F.1 F.2.1 hd hne (k p e s m args below meth c H locs cells slots mc ms ls' F h1 h2 hR hS hl)
theorem aw_ishl {x y : Int32} (hd : decode mi.2.1 pc = .ok (.ishl, 1))  (k : aw l E mi Z d bc bs (pc + 1) ls (.int (x <<< (y &&& 31)) :: st) n h) : aw l E mi Z d bc bs pc ls (.int y :: .int x :: st) n h := by
  intro p e s m args below meth c H locs cells slots mc ms ls' F h1 h2 hR hS hl
  exact lv_ishl F.1 F.2.1 hd  (k p e s m args below meth c H locs cells slots mc ms ls' F h1 h2 hR hS hl)
theorem aw_ishr {x y : Int32} (hd : decode mi.2.1 pc = .ok (.ishr, 1))  (k : aw l E mi Z d bc bs (pc + 1) ls (.int (x >>> (y &&& 31)) :: st) n h) : aw l E mi Z d bc bs pc ls (.int y :: .int x :: st) n h := by
  intro p e s m args below meth c H locs cells slots mc ms ls' F h1 h2 hR hS hl
  exact lv_ishr F.1 F.2.1 hd  (k p e s m args below meth c H locs cells slots mc ms ls' F h1 h2 hR hS hl)
theorem aw_iushr {x y v : Int32} (hd : decode mi.2.1 pc = .ok (.iushr, 1)) (hv : (x.toUInt32 >>> (y.toUInt32 &&& Int32.toUInt32 31)).toInt32 = v) (k : aw l E mi Z d bc bs (pc + 1) ls (.int v :: st) n h) : aw l E mi Z d bc bs pc ls (.int y :: .int x :: st) n h := by
  intro p e s m args below meth c H locs cells slots mc ms ls' F h1 h2 hR hS hl
  exact lv_iushr F.1 F.2.1 hd hv (k p e s m args below meth c H locs cells slots mc ms ls' F h1 h2 hR hS hl)
theorem aw_ineg {x : Int32} (hd : decode mi.2.1 pc = .ok (.ineg, 1))  (k : aw l E mi Z d bc bs (pc + 1) ls (.int (-x) :: st) n h) : aw l E mi Z d bc bs pc ls (.int x :: st) n h := by
  intro p e s m args below meth c H locs cells slots mc ms ls' F h1 h2 hR hS hl
  exact lv_ineg F.1 F.2.1 hd  (k p e s m args below meth c H locs cells slots mc ms ls' F h1 h2 hR hS hl)
theorem aw_i2l {x : Int32} {v : Int64} (hd : decode mi.2.1 pc = .ok (.i2l, 1)) (hv : x.toInt64 = v) (k : aw l E mi Z d bc bs (pc + 1) ls (.long v :: st) n h) : aw l E mi Z d bc bs pc ls (.int x :: st) n h := by
  intro p e s m args below meth c H locs cells slots mc ms ls' F h1 h2 hR hS hl
  exact lv_i2l F.1 F.2.1 hd hv (k p e s m args below meth c H locs cells slots mc ms ls' F h1 h2 hR hS hl)
theorem aw_l2i {x : Int64} {v : Int32} (hd : decode mi.2.1 pc = .ok (.l2i, 1)) (hv : x.toInt32 = v) (k : aw l E mi Z d bc bs (pc + 1) ls (.int v :: st) n h) : aw l E mi Z d bc bs pc ls (.long x :: st) n h := by
  intro p e s m args below meth c H locs cells slots mc ms ls' F h1 h2 hR hS hl
  exact lv_l2i F.1 F.2.1 hd hv (k p e s m args below meth c H locs cells slots mc ms ls' F h1 h2 hR hS hl)
theorem aw_i2c {x v : Int32} (hd : decode mi.2.1 pc = .ok (.i2c, 1)) (hv : (x.toUInt32 % 65536).toInt32 = v) (k : aw l E mi Z d bc bs (pc + 1) ls (.int v :: st) n h) : aw l E mi Z d bc bs pc ls (.int x :: st) n h := by
  intro p e s m args below meth c H locs cells slots mc ms ls' F h1 h2 hR hS hl
  exact lv_i2c F.1 F.2.1 hd hv (k p e s m args below meth c H locs cells slots mc ms ls' F h1 h2 hR hS hl)
theorem aw_lcmp {x y : Int64} (hd : decode mi.2.1 pc = .ok (.lcmp, 1))  (k : aw l E mi Z d bc bs (pc + 1) ls (.int (lg_cmp x y) :: st) n h) : aw l E mi Z d bc bs pc ls (.long y :: .long x :: st) n h := by
  intro p e s m args below meth c H locs cells slots mc ms ls' F h1 h2 hR hS hl
  exact W.lcmp F.1 F.2.1 hd  (k p e s m args below meth c H locs cells slots mc ms ls' F h1 h2 hR hS hl)
theorem aw_dup {va : Value} (hd : decode mi.2.1 pc = .ok (.dup, 1)) (hva : va.category = 1) (k : aw l E mi Z d bc bs (pc + 1) ls (va :: va :: st) n h) : aw l E mi Z d bc bs pc ls (va :: st) n h := by
  intro p e s m args below meth c H locs cells slots mc ms ls' F h1 h2 hR hS hl
  exact lv_dup F.1 F.2.1 hd hva (k p e s m args below meth c H locs cells slots mc ms ls' F h1 h2 hR hS hl)
theorem aw_pop {va : Value} (hd : decode mi.2.1 pc = .ok (.pop, 1)) (hva : va.category = 1) (k : aw l E mi Z d bc bs (pc + 1) ls (st) n h) : aw l E mi Z d bc bs pc ls (va :: st) n h := by
  intro p e s m args below meth c H locs cells slots mc ms ls' F h1 h2 hR hS hl
  exact lv_pop F.1 F.2.1 hd hva (k p e s m args below meth c H locs cells slots mc ms ls' F h1 h2 hR hS hl)
theorem aw_dup2 {va vb : Value} (hd : decode mi.2.1 pc = .ok (.dup2, 1)) (hva : va.category = 1) (hvb : vb.category = 1) (k : aw l E mi Z d bc bs (pc + 1) ls (va :: vb :: va :: vb :: st) n h) : aw l E mi Z d bc bs pc ls (va :: vb :: st) n h := by
  intro p e s m args below meth c H locs cells slots mc ms ls' F h1 h2 hR hS hl
  exact lv_dup2_11 F.1 F.2.1 hd hva hvb (k p e s m args below meth c H locs cells slots mc ms ls' F h1 h2 hR hS hl)
theorem aw_dup_x1 {va vb : Value} (hd : decode mi.2.1 pc = .ok (.dup_x1, 1)) (hva : va.category = 1) (hvb : vb.category = 1) (k : aw l E mi Z d bc bs (pc + 1) ls (va :: vb :: va :: st) n h) : aw l E mi Z d bc bs pc ls (va :: vb :: st) n h := by
  intro p e s m args below meth c H locs cells slots mc ms ls' F h1 h2 hR hS hl
  exact lv_dup_x1 F.1 F.2.1 hd hva hvb (k p e s m args below meth c H locs cells slots mc ms ls' F h1 h2 hR hS hl)
theorem aw_if_eq {x : Int32} {off : Int} {tgt : Nat} (hd : decode mi.2.1 pc = .ok (.ifCond .eq off, 3)) (ht : (pc : Int) + off = (tgt : Int)) (kt : x = 0 → aw l E mi Z d bc bs tgt ls st n h) (kf : ¬ x = 0 → aw l E mi Z d bc bs (pc + 3) ls st n h) : aw l E mi Z d bc bs pc ls (.int x :: st) n h := by
  intro p e s m args below meth c H locs cells slots mc ms ls' F h1 h2 hR hS hl
  exact lv_if_eq F.1 F.2.1 hd ht (fun cq => kt cq p e s m args below meth c H locs cells slots mc ms ls' F h1 h2 hR hS hl) (fun cq => kf cq p e s m args below meth c H locs cells slots mc ms ls' F h1 h2 hR hS hl)
theorem aw_icmp_eq {x y : Int32} {off : Int} {tgt : Nat} (hd : decode mi.2.1 pc = .ok (.if_icmp .eq off, 3)) (ht : (pc : Int) + off = (tgt : Int)) (kt : x = y → aw l E mi Z d bc bs tgt ls st n h) (kf : ¬ x = y → aw l E mi Z d bc bs (pc + 3) ls st n h) : aw l E mi Z d bc bs pc ls (.int y :: .int x :: st) n h := by
  intro p e s m args below meth c H locs cells slots mc ms ls' F h1 h2 hR hS hl
  exact lv_icmp_eq F.1 F.2.1 hd ht (fun cq => kt cq p e s m args below meth c H locs cells slots mc ms ls' F h1 h2 hR hS hl) (fun cq => kf cq p e s m args below meth c H locs cells slots mc ms ls' F h1 h2 hR hS hl)
theorem aw_if_ne {x : Int32} {off : Int} {tgt : Nat} (hd : decode mi.2.1 pc = .ok (.ifCond .ne off, 3)) (ht : (pc : Int) + off = (tgt : Int)) (kt : ¬ x = 0 → aw l E mi Z d bc bs tgt ls st n h) (kf : x = 0 → aw l E mi Z d bc bs (pc + 3) ls st n h) : aw l E mi Z d bc bs pc ls (.int x :: st) n h := by
  intro p e s m args below meth c H locs cells slots mc ms ls' F h1 h2 hR hS hl
  exact lv_if_ne F.1 F.2.1 hd ht (fun cq => kt cq p e s m args below meth c H locs cells slots mc ms ls' F h1 h2 hR hS hl) (fun cq => kf cq p e s m args below meth c H locs cells slots mc ms ls' F h1 h2 hR hS hl)
theorem aw_icmp_ne {x y : Int32} {off : Int} {tgt : Nat} (hd : decode mi.2.1 pc = .ok (.if_icmp .ne off, 3)) (ht : (pc : Int) + off = (tgt : Int)) (kt : ¬ x = y → aw l E mi Z d bc bs tgt ls st n h) (kf : x = y → aw l E mi Z d bc bs (pc + 3) ls st n h) : aw l E mi Z d bc bs pc ls (.int y :: .int x :: st) n h := by
  intro p e s m args below meth c H locs cells slots mc ms ls' F h1 h2 hR hS hl
  exact lv_icmp_ne F.1 F.2.1 hd ht (fun cq => kt cq p e s m args below meth c H locs cells slots mc ms ls' F h1 h2 hR hS hl) (fun cq => kf cq p e s m args below meth c H locs cells slots mc ms ls' F h1 h2 hR hS hl)
theorem aw_if_lt {x : Int32} {off : Int} {tgt : Nat} (hd : decode mi.2.1 pc = .ok (.ifCond .lt off, 3)) (ht : (pc : Int) + off = (tgt : Int)) (kt : x < 0 → aw l E mi Z d bc bs tgt ls st n h) (kf : ¬ x < 0 → aw l E mi Z d bc bs (pc + 3) ls st n h) : aw l E mi Z d bc bs pc ls (.int x :: st) n h := by
  intro p e s m args below meth c H locs cells slots mc ms ls' F h1 h2 hR hS hl
  exact lv_if_lt F.1 F.2.1 hd ht (fun cq => kt cq p e s m args below meth c H locs cells slots mc ms ls' F h1 h2 hR hS hl) (fun cq => kf cq p e s m args below meth c H locs cells slots mc ms ls' F h1 h2 hR hS hl)
theorem aw_icmp_lt {x y : Int32} {off : Int} {tgt : Nat} (hd : decode mi.2.1 pc = .ok (.if_icmp .lt off, 3)) (ht : (pc : Int) + off = (tgt : Int)) (kt : x < y → aw l E mi Z d bc bs tgt ls st n h) (kf : ¬ x < y → aw l E mi Z d bc bs (pc + 3) ls st n h) : aw l E mi Z d bc bs pc ls (.int y :: .int x :: st) n h := by
  intro p e s m args below meth c H locs cells slots mc ms ls' F h1 h2 hR hS hl
  exact lv_icmp_lt F.1 F.2.1 hd ht (fun cq => kt cq p e s m args below meth c H locs cells slots mc ms ls' F h1 h2 hR hS hl) (fun cq => kf cq p e s m args below meth c H locs cells slots mc ms ls' F h1 h2 hR hS hl)
theorem aw_if_ge {x : Int32} {off : Int} {tgt : Nat} (hd : decode mi.2.1 pc = .ok (.ifCond .ge off, 3)) (ht : (pc : Int) + off = (tgt : Int)) (kt : 0 ≤ x → aw l E mi Z d bc bs tgt ls st n h) (kf : ¬ 0 ≤ x → aw l E mi Z d bc bs (pc + 3) ls st n h) : aw l E mi Z d bc bs pc ls (.int x :: st) n h := by
  intro p e s m args below meth c H locs cells slots mc ms ls' F h1 h2 hR hS hl
  exact lv_if_ge F.1 F.2.1 hd ht (fun cq => kt cq p e s m args below meth c H locs cells slots mc ms ls' F h1 h2 hR hS hl) (fun cq => kf cq p e s m args below meth c H locs cells slots mc ms ls' F h1 h2 hR hS hl)
theorem aw_icmp_ge {x y : Int32} {off : Int} {tgt : Nat} (hd : decode mi.2.1 pc = .ok (.if_icmp .ge off, 3)) (ht : (pc : Int) + off = (tgt : Int)) (kt : y ≤ x → aw l E mi Z d bc bs tgt ls st n h) (kf : ¬ y ≤ x → aw l E mi Z d bc bs (pc + 3) ls st n h) : aw l E mi Z d bc bs pc ls (.int y :: .int x :: st) n h := by
  intro p e s m args below meth c H locs cells slots mc ms ls' F h1 h2 hR hS hl
  exact lv_icmp_ge F.1 F.2.1 hd ht (fun cq => kt cq p e s m args below meth c H locs cells slots mc ms ls' F h1 h2 hR hS hl) (fun cq => kf cq p e s m args below meth c H locs cells slots mc ms ls' F h1 h2 hR hS hl)
theorem aw_if_gt {x : Int32} {off : Int} {tgt : Nat} (hd : decode mi.2.1 pc = .ok (.ifCond .gt off, 3)) (ht : (pc : Int) + off = (tgt : Int)) (kt : 0 < x → aw l E mi Z d bc bs tgt ls st n h) (kf : ¬ 0 < x → aw l E mi Z d bc bs (pc + 3) ls st n h) : aw l E mi Z d bc bs pc ls (.int x :: st) n h := by
  intro p e s m args below meth c H locs cells slots mc ms ls' F h1 h2 hR hS hl
  exact lv_if_gt F.1 F.2.1 hd ht (fun cq => kt cq p e s m args below meth c H locs cells slots mc ms ls' F h1 h2 hR hS hl) (fun cq => kf cq p e s m args below meth c H locs cells slots mc ms ls' F h1 h2 hR hS hl)
theorem aw_icmp_gt {x y : Int32} {off : Int} {tgt : Nat} (hd : decode mi.2.1 pc = .ok (.if_icmp .gt off, 3)) (ht : (pc : Int) + off = (tgt : Int)) (kt : y < x → aw l E mi Z d bc bs tgt ls st n h) (kf : ¬ y < x → aw l E mi Z d bc bs (pc + 3) ls st n h) : aw l E mi Z d bc bs pc ls (.int y :: .int x :: st) n h := by
  intro p e s m args below meth c H locs cells slots mc ms ls' F h1 h2 hR hS hl
  exact lv_icmp_gt F.1 F.2.1 hd ht (fun cq => kt cq p e s m args below meth c H locs cells slots mc ms ls' F h1 h2 hR hS hl) (fun cq => kf cq p e s m args below meth c H locs cells slots mc ms ls' F h1 h2 hR hS hl)
theorem aw_if_le {x : Int32} {off : Int} {tgt : Nat} (hd : decode mi.2.1 pc = .ok (.ifCond .le off, 3)) (ht : (pc : Int) + off = (tgt : Int)) (kt : x ≤ 0 → aw l E mi Z d bc bs tgt ls st n h) (kf : ¬ x ≤ 0 → aw l E mi Z d bc bs (pc + 3) ls st n h) : aw l E mi Z d bc bs pc ls (.int x :: st) n h := by
  intro p e s m args below meth c H locs cells slots mc ms ls' F h1 h2 hR hS hl
  exact lv_if_le F.1 F.2.1 hd ht (fun cq => kt cq p e s m args below meth c H locs cells slots mc ms ls' F h1 h2 hR hS hl) (fun cq => kf cq p e s m args below meth c H locs cells slots mc ms ls' F h1 h2 hR hS hl)
theorem aw_icmp_le {x y : Int32} {off : Int} {tgt : Nat} (hd : decode mi.2.1 pc = .ok (.if_icmp .le off, 3)) (ht : (pc : Int) + off = (tgt : Int)) (kt : x ≤ y → aw l E mi Z d bc bs tgt ls st n h) (kf : ¬ x ≤ y → aw l E mi Z d bc bs (pc + 3) ls st n h) : aw l E mi Z d bc bs pc ls (.int y :: .int x :: st) n h := by
  intro p e s m args below meth c H locs cells slots mc ms ls' F h1 h2 hR hS hl
  exact lv_icmp_le F.1 F.2.1 hd ht (fun cq => kt cq p e s m args below meth c H locs cells slots mc ms ls' F h1 h2 hR hS hl) (fun cq => kf cq p e s m args below meth c H locs cells slots mc ms ls' F h1 h2 hR hS hl)
theorem aw_goto {off : Int} {tgt : Nat} (hd : decode mi.2.1 pc = .ok (.goto off, 3)) (ht : (pc : Int) + off = (tgt : Int)) (k : aw l E mi Z d bc bs tgt ls st n h) : aw l E mi Z d bc bs pc ls st n h := by
  intro p e s m args below meth c H locs cells slots mc ms ls' F h1 h2 hR hS hl
  exact lv_goto F.1 F.2.1 hd ht (k p e s m args below meth c H locs cells slots mc ms ls' F h1 h2 hR hS hl)
theorem aw_ifnonnull {x : Nat} {off : Int} {tgt : Nat} (hd : decode mi.2.1 pc = .ok (.ifnonnull off, 3)) (ht : (pc : Int) + off = (tgt : Int)) (k : aw l E mi Z d bc bs tgt ls st n h) : aw l E mi Z d bc bs pc ls (.ref x :: st) n h := by
  intro p e s m args below meth c H locs cells slots mc ms ls' F h1 h2 hR hS hl
  exact lv_ifnonnull F.1 F.2.1 hd ht (k p e s m args below meth c H locs cells slots mc ms ls' F h1 h2 hR hS hl)
theorem aw_ifnonnullN {off : Int} (hd : decode mi.2.1 pc = .ok (.ifnonnull off, 3)) (k : aw l E mi Z d bc bs (pc + 3) ls st n h) : aw l E mi Z d bc bs pc ls (.null :: st) n h := by
  intro p e s m args below meth c H locs cells slots mc ms ls' F h1 h2 hR hS hl
  exact lv_ifnonnullN F.1 F.2.1 hd (k p e s m args below meth c H locs cells slots mc ms ls' F h1 h2 hR hS hl)
theorem aw_tableOut {dflt lo hi : Int} {offs : Array Int} {len : Nat} {x : Int32} {tgt : Nat} (hd : decode mi.2.1 pc = .ok (.tableswitch dflt lo hi offs, len)) (hx : x.toInt < lo ∨ hi < x.toInt) (ht : (pc : Int) + dflt = (tgt : Int)) (k : aw l E mi Z d bc bs tgt ls st n h) : aw l E mi Z d bc bs pc ls (.int x :: st) n h := by
  intro p e s m args below meth c H locs cells slots mc ms ls' F h1 h2 hR hS hl
  exact lv_tableOut F.1 F.2.1 hd hx ht (k p e s m args below meth c H locs cells slots mc ms ls' F h1 h2 hR hS hl)
theorem aw_tableIn {dflt lo hi : Int} {offs : Array Int} {len : Nat} {x : Int32} {off : Int} {tgt : Nat} (hd : decode mi.2.1 pc = .ok (.tableswitch dflt lo hi offs, len)) (hx1 : ¬ x.toInt < lo) (hx2 : ¬ hi < x.toInt) (ho : offs[(x.toInt - lo).toNat]? = some off) (ht : (pc : Int) + off = (tgt : Int)) (k : aw l E mi Z d bc bs tgt ls st n h) : aw l E mi Z d bc bs pc ls (.int x :: st) n h := by
  intro p e s m args below meth c H locs cells slots mc ms ls' F h1 h2 hR hS hl
  exact lv_tableIn F.1 F.2.1 hd hx1 hx2 ho ht (k p e s m args below meth c H locs cells slots mc ms ls' F h1 h2 hR hS hl)
theorem aw_lookup {dflt : Int} {ps : Array (Int × Int)} {len : Nat} {x : Int32} {off : Int} {tgt : Nat} (hd : decode mi.2.1 pc = .ok (.lookupswitch dflt ps, len)) (hp : (ps.toList.zip (ps.toList.drop 1)).all (fun (a, next) => a.1 < next.1) = true) (ho : Op.lookupswitch.offset ps.toList dflt x.toInt = off) (ht : (pc : Int) + off = (tgt : Int)) (k : aw l E mi Z d bc bs tgt ls st n h) : aw l E mi Z d bc bs pc ls (.int x :: st) n h := by
  intro p e s m args below meth c H locs cells slots mc ms ls' F h1 h2 hR hS hl
  exact lv_lookup F.1 F.2.1 hd hp ho ht (k p e s m args below meth c H locs cells slots mc ms ls' F h1 h2 hR hS hl)
theorem aw_ldc {i : Nat} {v : Int32} (hd : decode mi.2.1 pc = .ok (.ldc i, 2)) (hc : Cond.constant mi.1.cls i v ∈ aw_T) (k : aw l E mi Z d bc bs (pc + 2) ls (.int v :: st) n h) : aw l E mi Z d bc bs pc ls st n h := by
  intro p e s m args below meth c H locs cells slots mc ms ls' F h1 h2 hR hS hl
  exact lv_ldc F.1 F.2.1 F.2.2.2.2.1 (F.2.2.2.2.2.1 _ hc) hd (k p e s m args below meth c H locs cells slots mc ms ls' F h1 h2 hR hS hl)
theorem aw_ldcw {i : Nat} {v : Int32} (hd : decode mi.2.1 pc = .ok (.ldc_w i, 3)) (hc : Cond.constant mi.1.cls i v ∈ aw_T) (k : aw l E mi Z d bc bs (pc + 3) ls (.int v :: st) n h) : aw l E mi Z d bc bs pc ls st n h := by
  intro p e s m args below meth c H locs cells slots mc ms ls' F h1 h2 hR hS hl
  exact lv_ldcw F.1 F.2.1 F.2.2.2.2.1 (F.2.2.2.2.2.1 _ hc) hd (k p e s m args below meth c H locs cells slots mc ms ls' F h1 h2 hR hS hl)
theorem aw_ldc2 {i : Nat} {v : Int64} (hd : decode mi.2.1 pc = .ok (.ldc2_w i, 3)) (hc : Cond.constantLong mi.1.cls i v ∈ aw_T) (k : aw l E mi Z d bc bs (pc + 3) ls (.long v :: st) n h) : aw l E mi Z d bc bs pc ls st n h := by
  intro p e s m args below meth c H locs cells slots mc ms ls' F h1 h2 hR hS hl
  exact lv_ldc2 F.1 F.2.1 F.2.2.2.2.1 (F.2.2.2.2.2.1 _ hc) hd (k p e s m args below meth c H locs cells slots mc ms ls' F h1 h2 hR hS hl)
end AW
