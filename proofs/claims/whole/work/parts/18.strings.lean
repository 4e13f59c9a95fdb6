/-! WHAT STANDS OUTSIDE OUR CELLS: the script, the four words, the two statics; rows that read them; String's own methods on the words. -/
abbrev kLen : List Nat := [4, 3, 5, 3]
abbrev kByt : List (List Int32) := [[103, 111, 108, 100], [111, 110, 101], [104, 97, 110, 100, 115], [108, 105, 101]]
abbrev kIdx : List Nat := [66, 39, 53, 58]
abbrev kTxt : List String := ["gold", "one", "hands", "lie"]
abbrev kSub : List String := ["HonestGold$Child", "HonestGold$Half", "HonestGold$Smith", "HonestGold$Minister", "HonestGold$Banker"]
def gV (base : Nat) (adK adV : Nat → Nat) (fm : Value) (sb sL : Nat) (xs : Nat → Int32) (U : State) (H : Heap) : Prop :=
  vk_S 4 kLen kByt adK adV (fun q => base ≤ q) U H ∧ (∀ i : Nat, i < 4 → vk_R RX7 (kIdx.getD i 0) (kTxt.getD i "") (adK i) U) ∧
  va_Z "java/lang/String" "COMPACT_STRINGS" "Z" (.int 1) (fun q => base ≤ q) U H ∧ va_Z "jdk/internal/util/Preconditions" "SIOOBE_FORMATTER" "Ljava/util/function/BiFunction;" fm (fun q => base ≤ q) U H ∧ fm.category = 1 ∧
  va_X sb sL xs U H ∧ sb < base ∧ va_AO "HonestGold$Plain" U ∧ va_AO "HonestGold$Treasury" U ∧
  ∀ C ∈ kSub, ∃ cD cT : ClassId, U.vm.findClass C = some cD ∧ U.vm.findClass "HonestGold$Plain" = some cT ∧ U.vm.assignable cD cT = true
section AWK
variable {l : Launch} {E : aw_E} {mi : aw_M} {Z : aw_Zt} {d bc bs pc : Nat} {ls : List (Nat × Value)} {st : List Value} {n : Nat} {h : ah}
theorem aw_getK {i q : Nat} {o nm ds : String} {v : Value} (hd : decode mi.2.1 pc = .ok (.getfield i, 3)) (hl : Cond.fieldLink mi.1.cls i o nm ds ∈ aw_T) (hE : ∀ (U : State) (H : Heap), E.2.2.2 U H → va_OF o nm ds v q (aw_A E) U H) (kk : aw l E mi Z d bc bs (pc + 3) ls (v :: st) n h) : aw l E mi Z d bc bs pc ls (.ref q :: st) n h := by
  intro p e s m args below meth c H locs cells slots mc ms ls' F h1 h2 hR hS hlv
  exact vk_getf F.1 F.2.1 (hE s s.heap F.2.2.2.2.2.2.2.2.2.1) hS F.2.2.2.2.1 (F.2.2.2.2.2.1 _ hl) (fun _ x => x) hd (kk p e s m args below meth c H locs cells slots mc ms ls' F h1 h2 hR hS hlv)
theorem aw_getsK {i : Nat} {o nm ds : String} {v : Value} (hd : decode mi.2.1 pc = .ok (.getstatic i, 3)) (hl : Cond.fieldLink mi.1.cls i o nm ds ∈ aw_T) (hE : ∀ (U : State) (H : Heap), E.2.2.2 U H → va_Z o nm ds v (aw_A E) U H) (kk : aw l E mi Z d bc bs (pc + 3) ls (v :: st) n h) : aw l E mi Z d bc bs pc ls st n h := by
  intro p e s m args below meth c H locs cells slots mc ms ls' F h1 h2 hR hS hlv
  exact va_gets F.1 F.2.1 (hE s s.heap F.2.2.2.2.2.2.2.2.2.1) hS F.2.2.2.2.1 (F.2.2.2.2.2.1 _ hl) (fun _ x => x) hd (kk p e s m args below meth c H locs cells slots mc ms ls' F h1 h2 hR hS hlv)
theorem aw_lenK {q N : Nat} {ty : FieldType} {f : Nat → Value} {v : Int32} (hd : decode mi.2.1 pc = .ok (.arraylength, 1)) (hE : ∀ (U : State) (H : Heap), E.2.2.2 U H → va_T ty q N f (aw_A E) U H) (hv : Int32.ofNat N = v) (kk : aw l E mi Z d bc bs (pc + 1) ls (.int v :: st) n h) : aw l E mi Z d bc bs pc ls (.ref q :: st) n h := by
  intro p e s m args below meth c H locs cells slots mc ms ls' F h1 h2 hR hS hlv
  exact va_tlen F.1 F.2.1 (hE s s.heap F.2.2.2.2.2.2.2.2.2.1) hS hv hd (kk p e s m args below meth c H locs cells slots mc ms ls' F h1 h2 hR hS hlv)
theorem aw_baldK {q N : Nat} {f : Nat → Value} {i : Int32} {v : Value} (hd : decode mi.2.1 pc = .ok (.baload, 1)) (hE : ∀ (U : State) (H : Heap), E.2.2.2 U H → va_T .byte q N f (aw_A E) U H) (hin : vp_in i N) (hv : f i.toNatClampNeg = v) (kk : aw l E mi Z d bc bs (pc + 1) ls (v :: st) n h) : aw l E mi Z d bc bs pc ls (.int i :: .ref q :: st) n h := by
  intro p e s m args below meth c H locs cells slots mc ms ls' F h1 h2 hR hS hlv
  exact va_tb F.1 F.2.1 (hE s s.heap F.2.2.2.2.2.2.2.2.2.1) hS hin hv hd (kk p e s m args below meth c H locs cells slots mc ms ls' F h1 h2 hR hS hlv)
theorem aw_ldcS {i q : Nat} {tx : String} (hd : decode mi.2.1 pc = .ok (.ldc i, 2)) (hE : ∀ (U : State) (H : Heap), E.2.2.2 U H → vk_R mi.1.cls i tx q U) (kk : aw l E mi Z d bc bs (pc + 2) ls (.ref q :: st) n h) : aw l E mi Z d bc bs pc ls st n h := by
  intro p e s m args below meth c H locs cells slots mc ms ls' F h1 h2 hR hS hlv
  exact va_ldcS F.1 F.2.1 F.2.2.2.2.1 (hE s s.heap F.2.2.2.2.2.2.2.2.2.1) hd (kk p e s m args below meth c H locs cells slots mc ms ls' F h1 h2 hR hS hlv)
theorem aw_callK {i b np : Nat} {C : String} {yi : aw_M} {As rest : List Value} {v : Value} (hd : decode mi.2.1 pc = .ok (.invokevirtual i, 3)) (hm : aw_cm yi np) (w1 : Cond.methodLink mi.1.cls i yi.1 ∈ aw_T) (w2 : Cond.instanceMethod yi.1 ∈ aw_T) (w3 : Cond.selects C yi.1 yi.1 ∈ aw_T) (hr : ∀ (U : State) (H : Heap), E.2.2.2 U H → ∃ cell : Cell, H[b]? = some cell ∧ cell.vm.isStatics = false ∧ U.vm.findClass C = some cell.cls) (hst : st = As.reverse ++ .ref b :: rest) (hnp : As.length = np) (hrs : (rest.map fun v => v.category).sum ≤ 8) (hM : am l E yi d 0 0 (.ref b :: As) n h (aw_eq n h (some v)))
    (kk : aw l E mi Z (d + 1) bc bs (pc + 3) ls (v :: rest) n h) : aw l E mi Z (d + 1) bc bs pc ls st n h := by
  intro p e s m args below meth c H locs cells slots mc ms ls' F h1 h2 hR hS hl
  have hts := F.2.2.2.2.2.1
  have hP := aw_pre F hR hS (.ref b :: As)
  have hV : E.2.2.2 s H := aw_cl_of F.2.2.2.2.2.2.2.2.2.2.1 (State.WarmedH.refl s) hS F.2.2.2.2.2.2.2.2.2.1
  exact aw_back (bc' := bc) (bs' := bs) (va_runV (C := C) ⟨F.1, F.2.1, F.2.2.1, F.2.2.2.2.1, hts⟩ hM ⟨aw_callB F hm w1, hts _ w2, hts _ w3⟩ ⟨hP.1, hr s H hV, hP.2⟩ rfl hnp hl.1 hst (lv_room hrs) hd ⟨by show cells + 0 ≤ mc; omega, by show slots + 0 ≤ ms; omega⟩) F h1 h2 hS hl (by omega) (by omega) (fun r n' h' hq => by obtain ⟨rfl, rfl, rfl⟩ := hq; exact kk)
/-- the script's own ints, and how many -/
theorem aw_sld {adK adV : Nat → Nat} {fm : Value} {sb sL : Nat} {xs : Nat → Int32} (hG : E.2.2.2 = gV E.2.2.1 adK adV fm sb sL xs) {m' : Nat} {i : Int32} (hd : decode mi.2.1 pc = .ok (.iaload, 1)) (e : i = nI m') (hm : m' < sL) (hL : sL < 2 ^ 31) (kk : aw l E mi Z d bc bs (pc + 1) ls (.int (xs m') :: st) n h) : aw l E mi Z d bc bs pc ls (.int i :: .ref sb :: st) n h := by
  intro p ee s m args below meth c H locs cells slots mc ms ls' F h1 h2 hR hS hlv
  have hV := F.2.2.2.2.2.2.2.2.2.1
  rw [hG] at hV
  obtain ⟨-, -, -, -, -, hX, hb, -⟩ := hV
  have kw := kk p ee s m args below meth c H locs cells slots mc ms ls' F h1 h2 hR hS hlv
  subst e
  refine va_sld (xs := xs) F.1 F.2.1 hX (Nat.lt_of_lt_of_le hb F.2.2.2.2.2.2.2.2.2.2.2) (Nat.not_le.mpr hb) hS (vp_in_nI hm hL) hd ?_
  rw [nI_clamp (by omega)]
  exact kw
theorem aw_slen {adK adV : Nat → Nat} {fm : Value} {sb sL : Nat} {xs : Nat → Int32} (hG : E.2.2.2 = gV E.2.2.1 adK adV fm sb sL xs) (hd : decode mi.2.1 pc = .ok (.arraylength, 1)) (kk : aw l E mi Z d bc bs (pc + 1) ls (.int (nI sL) :: st) n h) : aw l E mi Z d bc bs pc ls (.ref sb :: st) n h := by
  intro p ee s m args below meth c H locs cells slots mc ms ls' F h1 h2 hR hS hlv
  have hV := F.2.2.2.2.2.2.2.2.2.1
  rw [hG] at hV
  obtain ⟨-, -, -, -, -, hX, hb, -⟩ := hV
  exact va_slen (xs := xs) F.1 F.2.1 hX (Nat.lt_of_lt_of_le hb F.2.2.2.2.2.2.2.2.2.2.2) (Nat.not_le.mpr hb) hS hd (kk p ee s m args below meth c H locs cells slots mc ms ls' F h1 h2 hR hS hlv)
end AWK
theorem sw_cs : Cond.fieldLink RJ0 38 "java/lang/String" "COMPACT_STRINGS" "Z" ∈ aw_T := aw_mem 430 (by decide +kernel) (by decide +kernel)
theorem sw_co : Cond.fieldLink RJ0 15 "java/lang/String" "coder" "B" ∈ aw_T := aw_mem 1395 (by decide +kernel) (by decide +kernel)
theorem sw_va : Cond.fieldLink RJ0 9 "java/lang/String" "value" "[B" ∈ aw_T := aw_mem 1394 (by decide +kernel) (by decide +kernel)
theorem sw_fm : Cond.fieldLink RJ0 1053 "jdk/internal/util/Preconditions" "SIOOBE_FORMATTER" "Ljava/util/function/BiFunction;" ∈ aw_T := aw_mem 446 (by decide +kernel) (by decide +kernel)
theorem sm_335 : Cond.methodLink RJ0 335 yJ0_coder_7d493 ∈ aw_T := aw_mem 426 (by decide +kernel) (by decide +kernel)
theorem sm_335i : Cond.instanceMethod yJ0_coder_7d493 ∈ aw_T := aw_mem 427 (by decide +kernel) (by decide +kernel)
theorem sm_335s : Cond.selects "java/lang/String" yJ0_coder_7d493 yJ0_coder_7d493 ∈ aw_T := aw_mem 428 (by decide +kernel) (by decide +kernel)
theorem sm_492 : Cond.methodLink RJ0 492 yJ0_isLatin1_aae02 ∈ aw_T := aw_mem 436 (by decide +kernel) (by decide +kernel)
theorem sm_492i : Cond.instanceMethod yJ0_isLatin1_aae02 ∈ aw_T := aw_mem 437 (by decide +kernel) (by decide +kernel)
theorem sm_492s : Cond.selects "java/lang/String" yJ0_isLatin1_aae02 yJ0_isLatin1_aae02 ∈ aw_T := aw_mem 438 (by decide +kernel) (by decide +kernel)
theorem sm_92 : Cond.methodLink RX7 92 yJ0_length_8abf5 ∈ aw_T := aw_mem 422 (by decide +kernel) (by decide +kernel)
theorem sm_92i : Cond.instanceMethod yJ0_length_8abf5 ∈ aw_T := aw_mem 423 (by decide +kernel) (by decide +kernel)
theorem sm_92s : Cond.selects "java/lang/String" yJ0_length_8abf5 yJ0_length_8abf5 ∈ aw_T := aw_mem 424 (by decide +kernel) (by decide +kernel)
theorem sm_100 : Cond.methodLink RX7 100 yJ0_charAt_5068e ∈ aw_T := aw_mem 432 (by decide +kernel) (by decide +kernel)
theorem sm_100i : Cond.instanceMethod yJ0_charAt_5068e ∈ aw_T := aw_mem 433 (by decide +kernel) (by decide +kernel)
theorem sm_100s : Cond.selects "java/lang/String" yJ0_charAt_5068e yJ0_charAt_5068e ∈ aw_T := aw_mem 434 (by decide +kernel) (by decide +kernel)
section STR
variable {l : Launch} {E : aw_E} {d n : Nat} {h : ah} {adK adV : Nat → Nat} {fm : Value} {sb sL : Nat} {xs : Nat → Int32}
theorem tJ0_coder (hG : E.2.2.2 = gV E.2.2.1 adK adV fm sb sL xs) {i : Nat} (hi : i < 4) : am l E mJ0_coder_7d493 d 0 0 [.ref (adK i)] n h (aw_eq n h (some (.int 0))) := by
  refine am_of (by decide +kernel) (Nat.le_of_ble_eq_true rfl) ?_
  refine aw_getsK dJ0_coder_7d493_0 sw_cs (fun U H hV => by rw [hG] at hV; exact hV.2.2.1) ?_
  refine aw_if_eq (tgt := 13) dJ0_coder_7d493_3 (by decide) (fun c3 => absurd c3 (by decide)) (fun _ => ?_)
  refine aw_aload_n dJ0_coder_7d493_6 rfl ?_
  refine aw_getK dJ0_coder_7d493_7 sw_co (fun U H hV => by rw [hG] at hV; exact (hV.1.1 i hi).2.1) ?_
  refine aw_goto (tgt := 14) dJ0_coder_7d493_10 (by decide) ?_
  exact aw_zret dJ0_coder_7d493_14 rfl rfl ⟨rfl, rfl, rfl⟩
theorem tJ0_isLatin1 (hG : E.2.2.2 = gV E.2.2.1 adK adV fm sb sL xs) {i : Nat} (hi : i < 4) : am l E mJ0_isLatin1_aae02 d 0 0 [.ref (adK i)] n h (aw_eq n h (some (.int 1))) := by
  refine am_of (by decide +kernel) (Nat.le_of_ble_eq_true rfl) ?_
  refine aw_getsK dJ0_isLatin1_aae02_0 sw_cs (fun U H hV => by rw [hG] at hV; exact hV.2.2.1) ?_
  refine aw_if_eq (tgt := 17) dJ0_isLatin1_aae02_3 (by decide) (fun c3 => absurd c3 (by decide)) (fun _ => ?_)
  refine aw_aload_n dJ0_isLatin1_aae02_6 rfl ?_
  refine aw_getK dJ0_isLatin1_aae02_7 sw_co (fun U H hV => by rw [hG] at hV; exact (hV.1.1 i hi).2.1) ?_
  refine aw_if_ne (tgt := 17) dJ0_isLatin1_aae02_10 (by decide) (fun c3 => absurd rfl c3) (fun _ => ?_)
  refine aw_iconst (v := 1) dJ0_isLatin1_aae02_13 (by decide) ?_
  refine aw_goto (tgt := 18) dJ0_isLatin1_aae02_14 (by decide) ?_
  exact aw_zret dJ0_isLatin1_aae02_18 rfl rfl ⟨rfl, rfl, rfl⟩
theorem tJ0_length (hG : E.2.2.2 = gV E.2.2.1 adK adV fm sb sL xs) {i : Nat} (hi : i < 4) : am l E mJ0_length_8abf5 (d + 1) 0 0 [.ref (adK i)] n h (aw_eq n h (some (.int (nI (kLen.getD i 0))))) := by
  refine am_of (by decide +kernel) (Nat.le_of_ble_eq_true rfl) ?_
  refine aw_aload_n dJ0_length_8abf5_0 rfl ?_
  refine aw_getK dJ0_length_8abf5_1 sw_va (fun U H hV => by rw [hG] at hV; exact (hV.1.1 i hi).2.2.1) ?_
  refine aw_lenK (v := nI (kLen.getD i 0)) dJ0_length_8abf5_4 (fun U H hV => by rw [hG] at hV; exact (hV.1.1 i hi).2.2.2) rfl ?_
  refine aw_aload_n dJ0_length_8abf5_5 rfl ?_
  refine aw_callK (As := []) dJ0_length_8abf5_6 cmJ0_coder_7d493 sm_335 sm_335i sm_335s (fun U H hV => by rw [hG] at hV; obtain ⟨cell, g1, g2, g3, -⟩ := (hV.1.1 i hi).1; exact ⟨cell, g1, g2, g3⟩) rfl rfl (Nat.le_of_ble_eq_true rfl) (tJ0_coder hG hi) ?_
  refine aw_ishr dJ0_length_8abf5_9 ?_
  refine aw_iret dJ0_length_8abf5_10 rfl ⟨?_, rfl, rfl⟩
  rw [sb_shr0]
theorem tJ3_checkIndex {x y : Int32} {v : Value} (hv : v.category = 1) (h0 : ¬ x < 0) (h1 : x < y) : am l E mJ3_checkIndex_8e157 d 0 0 [.int x, .int y, v] n h (aw_eq n h (some (.int x))) := by
  refine am_of (by decide +kernel) (by have e1 : (Value.int x).category = 1 := rfl; have e2 : (Value.int y).category = 1 := rfl; simp [lg_sl, e1, e2, hv]) ?_
  refine aw_iload_n dJ3_checkIndex_8e157_0 rfl ?_
  refine aw_if_lt (tgt := 9) dJ3_checkIndex_8e157_1 (by decide) (fun c => absurd c h0) (fun _ => ?_)
  refine aw_iload_n dJ3_checkIndex_8e157_4 rfl ?_
  refine aw_iload_n dJ3_checkIndex_8e157_5 rfl ?_
  refine aw_icmp_lt (tgt := 16) dJ3_checkIndex_8e157_6 (by decide) (fun _ => ?_) (fun c => absurd h1 c)
  refine aw_iload_n dJ3_checkIndex_8e157_16 rfl ?_
  exact aw_iret dJ3_checkIndex_8e157_17 rfl ⟨rfl, rfl, rfl⟩
theorem tJ0_checkIndex (hG : E.2.2.2 = gV E.2.2.1 adK adV fm sb sL xs) (hfm : fm.category = 1) {x y : Int32} (h0 : ¬ x < 0) (h1 : x < y) : am l E mJ0_checkIndex_df160 (d + 1) 0 0 [.int x, .int y] n h (aw_eq n h none) := by
  refine am_of (by decide +kernel) (Nat.le_of_ble_eq_true rfl) ?_
  refine aw_iload_n dJ0_checkIndex_df160_0 rfl ?_
  refine aw_iload_n dJ0_checkIndex_df160_1 rfl ?_
  refine aw_getsK dJ0_checkIndex_df160_2 sw_fm (fun U H hV => by rw [hG] at hV; exact hV.2.2.2.1) ?_
  refine aw_callS3p dJ0_checkIndex_df160_5 cmJ3_checkIndex_8e157 csJ0_1059 (Nat.le_of_ble_eq_true rfl) (tJ3_checkIndex hfm h0 h1) ?_
  refine aw_pop dJ0_checkIndex_df160_8 rfl ?_
  exact aw_vret dJ0_checkIndex_df160_9 rfl ⟨rfl, rfl, rfl⟩
theorem kByt_c : ∀ i, i < 4 → ∀ j, j < kLen.getD i 0 → ((((kByt.getD i []).getD j 0) &&& 255).toUInt32 % 65536).toInt32 = (kByt.getD i []).getD j 0 := by decide +kernel
theorem kByt_n : ∀ i, i < 4 → ∀ j, j < kLen.getD i 0 → (((kByt.getD i []).getD j 0) &&& 255) = (kByt.getD i []).getD j 0 := by decide +kernel
theorem kLen_s : ∀ i, i < 4 → kLen.getD i 0 < 10 := by decide +kernel
theorem kBl : ∀ i, i < 4 → (kByt.getD i []).length = kLen.getD i 0 := by decide +kernel
theorem tJ1_charAt (hG : E.2.2.2 = gV E.2.2.1 adK adV fm sb sL xs) (hfm : fm.category = 1) {i j : Nat} (hi : i < 4) (hj : j < kLen.getD i 0) : am l E mJ1_charAt_3b067 (d + 2) 0 0 [.ref (adV i), .int (nI j)] n h (aw_eq n h (some (.int ((kByt.getD i []).getD j 0)))) := by
  have hs := kLen_s i hi
  refine am_of (by decide +kernel) (Nat.le_of_ble_eq_true rfl) ?_
  refine aw_iload_n dJ1_charAt_3b067_0 rfl ?_
  refine aw_aload_n dJ1_charAt_3b067_1 rfl ?_
  refine aw_lenK (v := nI (kLen.getD i 0)) dJ1_charAt_3b067_2 (fun U H hV => by rw [hG] at hV; exact (hV.1.1 i hi).2.2.2) rfl ?_
  refine aw_callS2e dJ1_charAt_3b067_3 cmJ0_checkIndex_df160 csJ1_9 (Nat.le_of_ble_eq_true rfl) (tJ0_checkIndex hG hfm (nI_pos (by omega)) (nI_lt hj (by omega))) (fun r n' h' hq => ?_)
  obtain ⟨rfl, rfl, rfl⟩ := hq
  refine aw_aload_n dJ1_charAt_3b067_6 rfl ?_
  refine aw_iload_n dJ1_charAt_3b067_7 rfl ?_
  refine aw_baldK (v := .int ((kByt.getD i []).getD j 0)) dJ1_charAt_3b067_8 (fun U H hV => by rw [hG] at hV; exact (hV.1.1 i hi).2.2.2) (vp_in_nI hj (by omega)) (by rw [nI_clamp (by omega)]) ?_
  refine aw_sipush (v := 255) dJ1_charAt_3b067_9 (by decide) ?_
  refine aw_iand dJ1_charAt_3b067_12 ?_
  refine aw_i2c (v := (kByt.getD i []).getD j 0) dJ1_charAt_3b067_13 (kByt_c i hi j hj) ?_
  refine aw_zret dJ1_charAt_3b067_14 rfl ?_ ⟨rfl, rfl, rfl⟩
  rw [← kByt_n i hi j hj]
  exact sc_nar _
theorem tJ0_charAt (hG : E.2.2.2 = gV E.2.2.1 adK adV fm sb sL xs) (hfm : fm.category = 1) {i j : Nat} (hi : i < 4) (hj : j < kLen.getD i 0) : am l E mJ0_charAt_5068e (d + 3) 0 0 [.ref (adK i), .int (nI j)] n h (aw_eq n h (some (.int ((kByt.getD i []).getD j 0)))) := by
  refine am_of (by decide +kernel) (Nat.le_of_ble_eq_true rfl) ?_
  refine aw_aload_n dJ0_charAt_5068e_0 rfl ?_
  refine aw_callK (As := []) dJ0_charAt_5068e_1 cmJ0_isLatin1_aae02 sm_492 sm_492i sm_492s (fun U H hV => by rw [hG] at hV; obtain ⟨cell, g1, g2, g3, -⟩ := (hV.1.1 i hi).1; exact ⟨cell, g1, g2, g3⟩) rfl rfl (Nat.le_of_ble_eq_true rfl) (tJ0_isLatin1 hG hi) ?_
  refine aw_if_eq (tgt := 16) dJ0_charAt_5068e_4 (by decide) (fun c3 => absurd c3 (by decide)) (fun _ => ?_)
  refine aw_aload_n dJ0_charAt_5068e_7 rfl ?_
  refine aw_getK dJ0_charAt_5068e_8 sw_va (fun U H hV => by rw [hG] at hV; exact (hV.1.1 i hi).2.2.1) ?_
  refine aw_iload_n dJ0_charAt_5068e_11 rfl ?_
  refine aw_callS2p dJ0_charAt_5068e_12 cmJ1_charAt_3b067 csJ0_495 (Nat.le_of_ble_eq_true rfl) (tJ1_charAt hG hfm hi hj) ?_
  refine aw_zret dJ0_charAt_5068e_15 rfl ?_ ⟨rfl, rfl, rfl⟩
  rw [← kByt_n i hi j hj]
  exact sc_nar _
end STR
