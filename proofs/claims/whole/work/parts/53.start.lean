/-! THE START, THE END, THE CLAIM. -/
theorem gV_cl (base : Nat) (adK adV : Nat → Nat) (fm : Value) (sb sL : Nat) (xs : Nat → Int32) (s U : State) (H H1 : Heap) (hW : s.WarmedH U.vm) (hq : ∀ a : Nat, a < H.size → a < base → H1[a]? = H[a]?) (hg : gV base adK adV fm sb sL xs s H) : gV base adK adV fm sb sL xs U H1 := by
  obtain ⟨g1, g2, g3, g4, g5, g6, g7, g8, g9, g10⟩ := hg
  have hvm := hW.alike
  have hq' : ∀ a : Nat, a < H.size → ¬ (fun q : Nat => base ≤ q) a → H1[a]? = H[a]? := fun a h1 h2 => hq a h1 (Nat.not_le.mp h2)
  refine ⟨(vk_S.moved hvm g1).kept hq', fun i hi => (g2 i hi).warm hW, (va_Z.moved hvm g3).kept hq', (va_Z.moved hvm g4).kept hq', g5, (va_X.moved hvm g6).kept ?_, g7, va_AO.moved hvm g8, va_AO.moved hvm g9, fun C hC => ?_⟩
  · obtain ⟨scr, h1, -⟩ := g6
    exact hq sb (Array.getElem?_eq_some_iff.mp h1).1 g7
  · obtain ⟨cD, cT, f1, f2, f3⟩ := g10 C hC
    exact ⟨cD, cT, by rw [hvm.findClass]; exact f1, by rw [hvm.findClass]; exact f2, by rw [hvm.assignable]; exact f3⟩
/-- what the law's end says: it answers 1, and nothing that was there before has changed -/
def lw_Zg (base : Nat) : aw_Zt := fun below _ s mc ms t => s.heap.size ≤ base → ∃ o, t.status = .running ∧ Ended t below o ∧ o = .returned (some (.int 1)) ∧ Framed s o t [] mc ms
theorem lw_retg {p : Program} {l : Launch} {e : Env} {R : Room} {s : State} {m : MethodId} {args : Array Value} {below : List Frame} {meth : Method} {c : Code} {mc ms : Nat} (hx : p.tables.exec = Jvm.exec) (hb : c.code = code) (hr : meth.sig.returnType = ret) (hlocks : meth.locks = false) {pc : Nat} {H : Heap} {ls : Array Slot} (hdg : decode code pc = .ok (.ireturn, 1)) : W p l e R s m args below meth c H [] mc ms (fun t => ∃ o, t.status = .running ∧ Ended t below o ∧ o = .returned (some (.int 1)) ∧ Framed s o t [] mc ms) (F0 m pc ls [.int 1]) := by
  intro T hT X
  obtain ⟨fs, hret, hrun, hended, hW, hframe⟩ := X.leave (v := some (.int 1)) (hlocks := hlocks) (fun h => by rw [hr] at h; cases h)
  have hmeth' : T.vm.method? m = some meth := X.method'
  refine ⟨T.setFrames fs, ?_, .returned (some (.int 1)), hrun, hended, rfl, ⟨_, rfl⟩, hW, hframe⟩
  jvm_step X.here [X.here.top, hx, hb, hdg, hmeth', hr, ret, narrow_b1]
  (try refine ⟨rfl, ?_⟩); (try refine ⟨rfl, ?_⟩)
  first | (intro acts; rw [hret _ acts rfl rfl rfl]) | rw [hret _ _ rfl rfl rfl]
  exact Steps.refl _
theorem law_end {l : Launch} {E : aw_E} {d bc bs n : Nat} {h : ah} {ls : List (Nat × Value)} : aw l E mL_law (lw_Zg E.2.2.1) d bc bs 1073 ls [] n h := by
  refine aw_iconst (v := 1) dL_law_1073 (by decide) ?_
  intro p e s m args below meth c H locs cells slots mc ms ls' F h1 h2 hR hS hl
  by_cases hb : s.heap.size ≤ E.2.2.1
  · have k : W p l e (aw_rm d mc ms) s m args below meth c H [] mc ms (fun t => ∃ o, t.status = .running ∧ Ended t below o ∧ o = .returned (some (.int 1)) ∧ Framed s o t [] mc ms) (F0 m 1074 ls' [.int 1]) := lw_retg F.1 F.2.1 F.2.2.2.1 F.2.2.2.2.2.2.1 dL_law_1074
    have k2 := va_forget (locs := locs) (fun q hq => Nat.le_trans hb (hS.2.2 q hq)) (W.widen (k := mc) (n := ms) (by omega) (by omega) k : W p l e (aw_rm d mc ms) s m args below meth c H [] cells slots _ (F0 m 1074 ls' [.int 1]))
    intro T hT X
    obtain ⟨t, st, q⟩ := k2 T hT X
    exact ⟨t, st, fun _ => q⟩
  · intro T hT X
    exact ⟨_, Steps.refl _, fun q => absurd q hb⟩
def R_law : String := "HonestGoldLaw"
def lw_P (b : Addr) (xs : List Int32) (args : Array Value) (s : State) : Prop := args = #[.ref b] ∧ s.IntsAt b xs ∧ xs.length ≤ 2560 ∧ (Jvm.Cond.and given_1 narrow_1).before args s = true
def lw_Q (_ : Array Value) (s : State) (o : Outcome) (t : State) : Prop := o = .returned (some (.int 1)) ∧ Framed s o t [] 600000 7302250
def lw_Z (below : List Frame) (a : Array Value) (s : State) : State → Prop := fun t => ∃ o, t.status = .running ∧ Ended t below o ∧ lw_Q a s o t
/-- what holds at the law's entry -/
def lw_At (p : Program) (s : State) (m : MethodId) (meth : Method) (c : Code) (b L : Nat) (xs : Nat → Int32) : Prop :=
  p.tables.exec = Jvm.exec ∧ c.code = code ∧ meth.sig.returnType = ret ∧ c.maxLocals = 4 ∧ s.vm.findClass R_law = some m.cls ∧ (∀ w ∈ lw_tbl, w.before #[Value.ref b] s = true) ∧ va_X b L xs s s.heap ∧ b < s.heap.size ∧ meth.locks = false ∧ (Jvm.Cond.and given_1 narrow_1).before #[Value.ref b] s = true ∧ meth.name = yL_law.name
def kTm (i : Nat) : Term := .string "HonestGold$Reader" (kIdx.getD i 0)
theorem st_hex : ∀ i, i < 4 → Cond.exactly (kTm i) "java/lang/String" ∈ flatC (Jvm.Cond.and given_1 narrow_1) := by decide +kernel
theorem st_hco : ∀ i, i < 4 → Cond.eq (.field (kTm i) "java/lang/String" "coder" "B") (.int 0) ∈ flatC (Jvm.Cond.and given_1 narrow_1) := by decide +kernel
theorem st_har : ∀ i, i < 4 → Cond.arrayOf (.field (kTm i) "java/lang/String" "value" "[B") .byte ∈ flatC (Jvm.Cond.and given_1 narrow_1) := by decide +kernel
theorem st_hle : ∀ i, i < 4 → Cond.eq (.length (.field (kTm i) "java/lang/String" "value" "[B")) (.int (Int32.ofNat (kLen.getD i 0))) ∈ flatC (Jvm.Cond.and given_1 narrow_1) := by decide +kernel
theorem st_hel : ∀ i, i < 4 → ∀ j, j < kLen.getD i 0 → Cond.eq (.elem (.field (kTm i) "java/lang/String" "value" "[B") (.int (Int32.ofNat j))) (.int ((kByt.getD i []).getD j 0)) ∈ flatC (Jvm.Cond.and given_1 narrow_1) := by decide +kernel
theorem st_hne : ∀ i, i < 4 → ∀ j, j < 4 → i < j → Cond.not (Cond.eq (kTm i) (kTm j)) ∈ flatC (Jvm.Cond.and given_1 narrow_1) := by decide +kernel
theorem st_cs : Cond.eq (.static "java/lang/String" "COMPACT_STRINGS" "Z") (.int 1) ∈ flatC (Jvm.Cond.and given_1 narrow_1) := by decide +kernel
theorem st_fm : Cond.isRef (.static "jdk/internal/util/Preconditions" "SIOOBE_FORMATTER" "Ljava/util/function/BiFunction;") ∈ flatC (Jvm.Cond.and given_1 narrow_1) := by decide +kernel
theorem tb_1 : Cond.laysStatic "java/lang/String" "COMPACT_STRINGS" "Z" ∈ lw_tbl := by decide +kernel
theorem tb_2 : Cond.initialized "java/lang/String" ∈ lw_tbl := by decide +kernel
theorem tb_3 : Cond.laysStatic "jdk/internal/util/Preconditions" "SIOOBE_FORMATTER" "Ljava/util/function/BiFunction;" ∈ lw_tbl := by decide +kernel
theorem tb_4 : Cond.initialized "jdk/internal/util/Preconditions" ∈ lw_tbl := by decide +kernel
theorem tb_5 : ∀ i, i < 4 → Cond.stringRef "HonestGold$Reader" (kIdx.getD i 0) (kTxt.getD i "") ∈ lw_tbl := by decide +kernel
theorem tb_6 : Cond.arrayOver (.object "HonestGold$Plain") ∈ lw_tbl := by decide +kernel
theorem tb_7 : Cond.arrayOver (.object "HonestGold$Treasury") ∈ lw_tbl := by decide +kernel
theorem tb_8 : Cond.arrayClass .int ∈ lw_tbl := by decide +kernel
theorem tb_9 : ∀ C ∈ kSub, Cond.castable C "HonestGold$Plain" ∈ lw_tbl := by decide +kernel
theorem ti_0 : Cond.instantiable RX0 0 ∈ lw_tbl := by decide +kernel
theorem ti_1 : Cond.instantiable RX1 0 ∈ lw_tbl := by decide +kernel
theorem ti_2 : Cond.instantiable RX2 0 ∈ lw_tbl := by decide +kernel
theorem ti_3 : Cond.instantiable RX3 0 ∈ lw_tbl := by decide +kernel
theorem ti_4 : Cond.instantiable RX4 5 ∈ lw_tbl := by decide +kernel
theorem ti_5 : Cond.instantiable RX5 2 ∈ lw_tbl := by decide +kernel
theorem ti_6 : Cond.instantiable RX6 0 ∈ lw_tbl := by decide +kernel
theorem ti_7 : Cond.instantiable RX7 7 ∈ lw_tbl := by decide +kernel
theorem ti_8 : Cond.instantiable RX8 0 ∈ lw_tbl := by decide +kernel
theorem ti_9 : Cond.instantiable RX9 12 ∈ lw_tbl := by decide +kernel
theorem ti_10 : Cond.instantiable RX10 4 ∈ lw_tbl := by decide +kernel
theorem ti_11 : Cond.instantiable RX11 10 ∈ lw_tbl := by decide +kernel
theorem ti_12 : Cond.instantiable RX12 33 ∈ lw_tbl := by decide +kernel
theorem start_gV {s : State} {b L : Nat} {xs : Nat → Int32} (hts : ∀ w ∈ lw_tbl, w.before #[Value.ref b] s = true) (hX : va_X b L xs s s.heap) (hbl : b < s.heap.size) (hgv : (Jvm.Cond.and given_1 narrow_1).before #[Value.ref b] s = true) : ∃ (adK adV : Nat → Nat) (fm : Value), fm.category = 1 ∧ gV s.heap.size adK adV fm b L xs s s.heap := by
  have hs := flat_of_before _ hgv
  have hA : ∀ a : Nat, a < s.heap.size → ¬ (fun q : Nat => s.heap.size ≤ q) a := fun a h => Nat.not_le.mpr h
  obtain ⟨adK, adV, v1, v2⟩ := vk_Sof (args := #[Value.ref b]) (s := s) (N := 4) (tm := kTm) (len := kLen) (byt := kByt) (A := fun q : Nat => s.heap.size ≤ q) (fun i hi => Nat.lt_trans (kLen_s i hi) (by decide)) (fun i hi => hs _ (st_hex i hi)) (fun i hi => hs _ (st_hco i hi)) (fun i hi => hs _ (st_har i hi)) (fun i hi => hs _ (st_hle i hi)) (fun i hi j hj => hs _ (st_hel i hi j hj)) (fun i j hi hj hne => by
    rcases Nat.lt_or_ge i j with q | q
    · exact Or.inl (hs _ (st_hne i hi j hj q))
    · exact Or.inr (hs _ (st_hne j hj i hi (by omega)))) hA
  have hz1 := va_Zof (A := fun q : Nat => s.heap.size ≤ q) (hts _ tb_1) (hts _ tb_2) (va_eqt (hs _ st_cs)) hA
  obtain ⟨fm, hfm, hz2⟩ : ∃ fm : Value, fm.category = 1 ∧ va_Z "jdk/internal/util/Preconditions" "SIOOBE_FORMATTER" "Ljava/util/function/BiFunction;" fm (fun q : Nat => s.heap.size ≤ q) s s.heap := by
    rcases va_Zqof (A := fun q : Nat => s.heap.size ≤ q) (hts _ tb_3) (hts _ tb_4) (hs _ st_fm) hA with q | ⟨t, q⟩
    · exact ⟨_, rfl, q⟩
    · exact ⟨_, rfl, q⟩
  refine ⟨adK, adV, fm, hfm, v1, fun i hi => vk_R.of (hts _ (tb_5 i hi)) (v2 i hi), hz1, hz2, hfm, hX, hbl, va_AO.of (hts _ tb_6), va_AO.of (hts _ tb_7), fun C hC => ?_⟩
  exact Cond.castable_spec (hts _ (tb_9 C hC))
theorem start_K {s : State} {b : Nat} (hts : ∀ w ∈ lw_tbl, w.before #[Value.ref b] s = true) (base : Nat) (V : State → Heap → Prop) : ∃ (D : va_G) (tI : Nat → ClassId), aw_K (D, tI, base, V) s := by
  have hT : ∀ w ∈ aw_T, w.before #[Value.ref b] s = true := fun w hw => hts w (List.mem_filter.mp hw).1
  obtain ⟨c0, i0, k0⟩ := u_known (C := RX0) (T := TX0) (N := 0) (n := 0) hT inX0 (hts _ ti_0)
  obtain ⟨c1, i1, k1⟩ := u_known (C := RX1) (T := TX1) (N := 0) (n := 0) hT inX1 (hts _ ti_1)
  obtain ⟨c2, i2, k2⟩ := u_known (C := RX2) (T := TX2) (N := 0) (n := 0) hT inX2 (hts _ ti_2)
  obtain ⟨c3, i3, k3⟩ := u_known (C := RX3) (T := TX3) (N := 0) (n := 0) hT inX3 (hts _ ti_3)
  obtain ⟨c4, i4, k4⟩ := u_known (C := RX4) (T := TX4) (N := 5) (n := 5) hT inX4 (hts _ ti_4)
  obtain ⟨c5, i5, k5⟩ := u_known (C := RX5) (T := TX5) (N := 2) (n := 2) hT inX5 (hts _ ti_5)
  obtain ⟨c6, i6, k6⟩ := u_known (C := RX6) (T := TX6) (N := 0) (n := 0) hT inX6 (hts _ ti_6)
  obtain ⟨c7, i7, k7⟩ := u_known (C := RX7) (T := TX7) (N := 7) (n := 7) hT inX7 (hts _ ti_7)
  obtain ⟨c8, i8, k8⟩ := u_known (C := RX8) (T := TX8) (N := 0) (n := 0) hT inX8 (hts _ ti_8)
  obtain ⟨c9, i9, k9⟩ := u_known (C := RX9) (T := TX9) (N := 12) (n := 12) hT inX9 (hts _ ti_9)
  obtain ⟨c10, i10, k10⟩ := u_known (C := RX10) (T := TX10) (N := 4) (n := 4) hT inX10 (hts _ ti_10)
  obtain ⟨c11, i11, k11⟩ := u_known (C := RX11) (T := TX11) (N := 10) (n := 10) hT inX11 (hts _ ti_11)
  obtain ⟨c12, i12, k12⟩ := u_known (C := RX12) (T := TX12) (N := 33) (n := 33) hT inX12 (hts _ ti_12)
  obtain ⟨a0, kA0, p0, f0, f1, f2⟩ := Cond.arrayClass_spec (hts _ tb_8)
  obtain ⟨p1, a1, kA1, f3, -, f4, f5, f6⟩ := Cond.arrayOver_spec (hts _ tb_6)
  obtain ⟨p2, a2, kA2, f7, -, f8, f9, f10⟩ := Cond.arrayOver_spec (hts _ tb_7)
  refine ⟨(fun k => if k = 0 then c0 else if k = 1 then c1 else if k = 2 then c2 else if k = 3 then c3 else if k = 4 then c4 else if k = 5 then c5 else if k = 6 then c6 else if k = 7 then c7 else if k = 8 then c8 else if k = 9 then c9 else if k = 10 then c10 else if k = 11 then c11 else c12, fun k => if k = 0 then i0 else if k = 1 then i1 else if k = 2 then i2 else if k = 3 then i3 else if k = 4 then i4 else if k = 5 then i5 else if k = 6 then i6 else if k = 7 then i7 else if k = 8 then i8 else if k = 9 then i9 else if k = 10 then i10 else if k = 11 then i11 else i12), fun k => if k = 0 then a0 else if k = 1 then a1 else a2, ?_, ?_⟩
  · intro k q hq
    match k, hq with
    | 0, hq => cases hq; exact k0
    | 1, hq => cases hq; exact k1
    | 2, hq => cases hq; exact k2
    | 3, hq => cases hq; exact k3
    | 4, hq => cases hq; exact k4
    | 5, hq => cases hq; exact k5
    | 6, hq => cases hq; exact k6
    | 7, hq => cases hq; exact k7
    | 8, hq => cases hq; exact k8
    | 9, hq => cases hq; exact k9
    | 10, hq => cases hq; exact k10
    | 11, hq => cases hq; exact k11
    | 12, hq => cases hq; exact k12
    | k + 13, hq => simp [vwCl] at hq
  · intro k q hq
    match k, hq with
    | 0, hq => cases hq; exact ⟨fun n z => ⟨(fun k h => by cases h), kA0, f1, p0, f2⟩, f0⟩
    | 1, hq => cases hq; exact ⟨fun n z => ⟨(fun k h => by cases h), kA1, f4, p1, f5⟩, kA1, p1, f4, f5, f3, f6⟩
    | 2, hq => cases hq; exact ⟨fun n z => ⟨(fun k h => by cases h), kA2, f8, p2, f9⟩, kA2, p2, f8, f9, f7, f10⟩
    | k + 3, hq => simp at hq
theorem whole_start {p : Program} {e : Env} {s : State} {m : MethodId} {below : List Frame} {meth : Method} {c : Code} (l : Launch) {b L : Nat} {xs : Nat → Int32} (hL : L ≤ 2560) (C0 : lw_At p s m meth c b L xs) : W p l e room_1 s m #[Value.ref b] below meth c s.heap [] 0 0 (lw_Z below #[Value.ref b] s) (entryFrame m ([Value.ref b] : List Value).toArray 4) := by
  obtain ⟨hx, hb, hr, hml, hown, hts, hX, hbl, hlocks, hgv, hname⟩ := C0
  obtain ⟨adK, adV, fm, hfm, hg⟩ := start_gV hts hX hbl hgv
  obtain ⟨D, tI, hK⟩ := start_K hts s.heap.size (gV s.heap.size adK adV fm b L xs)
  have kw := law_begin (l := l) (E := (D, tI, s.heap.size, gV s.heap.size adK adV fm b L xs)) (Z := lw_Zg s.heap.size) (b := s.heap.size) (sb := b) (sL := L) rfl hfm hL (fun i0 n bc bs h => law_end)
  rw [lg_entry_eq]
  have k2 := kw p e s m #[Value.ref b] below meth c s.heap [] 0 0 600000 7302250 _ ⟨hx, hb, hml, hr, hown, fun w hw => hts w (List.mem_filter.mp hw).1, hlocks, hname, hK, hg, fun s' U H H1 hW hq hg' => gV_cl _ _ _ _ _ _ _ s' U H H1 hW hq hg', Nat.le_refl _⟩ (by omega) (by omega) ⟨rfl, fun a e h => by cases h⟩ va_S.rf (lv_entry [Value.ref b] (Nat.le_of_ble_eq_true rfl))
  intro T hT X
  obtain ⟨t, st, q⟩ := k2 T hT X
  obtain ⟨o, q1, q2, q3, q4⟩ := q (Nat.le_refl _)
  exact ⟨t, st, o, q1, q2, q3, q4⟩
