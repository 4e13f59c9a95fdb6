/-! THE KINDS, AND WHAT A TREASURY IS ASKED. -/
theorem mm_i : Cond.initialized "java/lang/Math" ∈ aw_T := aw_mem 93 (by decide +kernel) (by decide +kernel)
theorem mm_smax : Cond.static Lib.Math.max.name ∈ aw_T := aw_mem 540 (by decide +kernel) (by decide +kernel)
theorem mm_cmax : Cond.code Lib.Math.max.name Lib.Math.max.code 2 (some .int) ∈ aw_T := aw_mem 541 (by decide +kernel) (by decide +kernel)
theorem aw_mmax {l : Launch} {E : aw_E} {mi : aw_M} {Z : aw_Zt} {d bc bs pc : Nat} {ls : List (Nat × Value)} {rest : List Value} {n : Nat} {h : ah} {i : Nat} {x y : Int32} (hd : decode mi.2.1 pc = .ok (.invokestatic i, 3)) (hl : Cond.methodLink mi.1.cls i Lib.Math.max.name ∈ aw_T) (hrs : (rest.map fun v => v.category).sum ≤ 8) (kk : aw l E mi Z (d + 1) bc bs (pc + 3) ls (.int (iMax x y) :: rest) n h) : aw l E mi Z (d + 1) bc bs pc ls (.int y :: .int x :: rest) n h := by
  intro p e s m args below meth c H locs cells slots mc ms ls' F h1 h2 hR hS hlv
  have hts := F.2.2.2.2.2.1
  exact va_mmax F.1 F.2.1 (by rw [F.2.2.1]; exact hlv.1.symm) F.2.2.2.2.1 (hts _ hl) (hts _ mm_smax) (hts _ mm_i) (hts _ mm_cmax) (by show 1 ≤ d + 1; omega) (by show _ ≤ 34 * (d + 1) + 10; omega) (by show cells ≤ mc; omega) (by show slots ≤ ms; omega) hd (kk p e s m args below meth c H locs cells slots mc ms ls' F h1 h2 hR hS hlv)
theorem mm_smin : Cond.static Lib.Math.min.name ∈ aw_T := aw_mem 614 (by decide +kernel) (by decide +kernel)
theorem mm_cmin : Cond.code Lib.Math.min.name Lib.Math.min.code 2 (some .int) ∈ aw_T := aw_mem 615 (by decide +kernel) (by decide +kernel)
theorem aw_mmin {l : Launch} {E : aw_E} {mi : aw_M} {Z : aw_Zt} {d bc bs pc : Nat} {ls : List (Nat × Value)} {rest : List Value} {n : Nat} {h : ah} {i : Nat} {x y : Int32} (hd : decode mi.2.1 pc = .ok (.invokestatic i, 3)) (hl : Cond.methodLink mi.1.cls i Lib.Math.min.name ∈ aw_T) (hrs : (rest.map fun v => v.category).sum ≤ 8) (kk : aw l E mi Z (d + 1) bc bs (pc + 3) ls (.int (iMin x y) :: rest) n h) : aw l E mi Z (d + 1) bc bs pc ls (.int y :: .int x :: rest) n h := by
  intro p e s m args below meth c H locs cells slots mc ms ls' F h1 h2 hR hS hlv
  have hts := F.2.2.2.2.2.1
  exact va_mmin F.1 F.2.1 (by rw [F.2.2.1]; exact hlv.1.symm) F.2.2.2.2.1 (hts _ hl) (hts _ mm_smin) (hts _ mm_i) (hts _ mm_cmin) (by show 1 ≤ d + 1; omega) (by show _ ≤ 34 * (d + 1) + 10; omega) (by show cells ≤ mc; omega) (by show slots ≤ ms; omega) hd (kk p e s m args below meth c H locs cells slots mc ms ls' F h1 h2 hR hS hlv)
theorem mmX9_172 : Cond.methodLink RX9 172 Lib.Math.max.name ∈ aw_T := aw_mem 539 (by decide +kernel) (by decide +kernel)
theorem mmX9_108 : Cond.methodLink RX9 108 Lib.Math.min.name ∈ aw_T := aw_mem 613 (by decide +kernel) (by decide +kernel)
theorem mmX5_19 : Cond.methodLink RX5 19 Lib.Math.max.name ∈ aw_T := aw_mem 644 (by decide +kernel) (by decide +kernel)
theorem mmX0_13 : Cond.methodLink RX0 13 Lib.Math.min.name ∈ aw_T := aw_mem 675 (by decide +kernel) (by decide +kernel)
theorem mmX10_97 : Cond.methodLink RX10 97 Lib.Math.min.name ∈ aw_T := aw_mem 811 (by decide +kernel) (by decide +kernel)
theorem mmX10_74 : Cond.methodLink RX10 74 Lib.Math.max.name ∈ aw_T := aw_mem 812 (by decide +kernel) (by decide +kernel)
theorem mmX4_55 : Cond.methodLink RX4 55 Lib.Math.max.name ∈ aw_T := aw_mem 876 (by decide +kernel) (by decide +kernel)
set_option maxHeartbeats 4000000 in
set_option maxRecDepth 100000 in
theorem tJ6_bitCount_0f7a4 {l : Launch} {E : aw_E} {d n : Nat} {h : ah} {x : Int32} : am l E mJ6_bitCount_0f7a4 d 0 0 [.int x] n h (aw_eq n h (some (.int (iBits x)))) := by
  refine am_of (by decide +kernel) (Nat.le_of_ble_eq_true rfl) ?_
  refine aw_iload_n dJ6_bitCount_0f7a4_0 rfl ?_
  refine aw_iload_n dJ6_bitCount_0f7a4_1 rfl ?_
  refine aw_iconst (v := 1) dJ6_bitCount_0f7a4_2 (by decide) ?_
  refine aw_iushr dJ6_bitCount_0f7a4_3 rfl ?_
  refine aw_ldcw dJ6_bitCount_0f7a4_4 kcJ6_265 ?_
  refine aw_iand dJ6_bitCount_0f7a4_7 ?_
  refine aw_isub dJ6_bitCount_0f7a4_8 ?_
  refine aw_istore_n dJ6_bitCount_0f7a4_9 (by decide) ?_
  refine aw_iload_n dJ6_bitCount_0f7a4_10 rfl ?_
  refine aw_ldcw dJ6_bitCount_0f7a4_11 kcJ6_266 ?_
  refine aw_iand dJ6_bitCount_0f7a4_14 ?_
  refine aw_iload_n dJ6_bitCount_0f7a4_15 rfl ?_
  refine aw_iconst (v := 2) dJ6_bitCount_0f7a4_16 (by decide) ?_
  refine aw_iushr dJ6_bitCount_0f7a4_17 rfl ?_
  refine aw_ldcw dJ6_bitCount_0f7a4_18 kcJ6_266 ?_
  refine aw_iand dJ6_bitCount_0f7a4_21 ?_
  refine aw_iadd dJ6_bitCount_0f7a4_22 ?_
  refine aw_istore_n dJ6_bitCount_0f7a4_23 (by decide) ?_
  refine aw_iload_n dJ6_bitCount_0f7a4_24 rfl ?_
  refine aw_iload_n dJ6_bitCount_0f7a4_25 rfl ?_
  refine aw_iconst (v := 4) dJ6_bitCount_0f7a4_26 (by decide) ?_
  refine aw_iushr dJ6_bitCount_0f7a4_27 rfl ?_
  refine aw_iadd dJ6_bitCount_0f7a4_28 ?_
  refine aw_ldcw dJ6_bitCount_0f7a4_29 kcJ6_267 ?_
  refine aw_iand dJ6_bitCount_0f7a4_32 ?_
  refine aw_istore_n dJ6_bitCount_0f7a4_33 (by decide) ?_
  refine aw_iload_n dJ6_bitCount_0f7a4_34 rfl ?_
  refine aw_iload_n dJ6_bitCount_0f7a4_35 rfl ?_
  refine aw_bipush (v := 8) dJ6_bitCount_0f7a4_36 (by decide) ?_
  refine aw_iushr dJ6_bitCount_0f7a4_38 rfl ?_
  refine aw_iadd dJ6_bitCount_0f7a4_39 ?_
  refine aw_istore_n dJ6_bitCount_0f7a4_40 (by decide) ?_
  refine aw_iload_n dJ6_bitCount_0f7a4_41 rfl ?_
  refine aw_iload_n dJ6_bitCount_0f7a4_42 rfl ?_
  refine aw_bipush (v := 16) dJ6_bitCount_0f7a4_43 (by decide) ?_
  refine aw_iushr dJ6_bitCount_0f7a4_45 rfl ?_
  refine aw_iadd dJ6_bitCount_0f7a4_46 ?_
  refine aw_istore_n dJ6_bitCount_0f7a4_47 (by decide) ?_
  refine aw_iload_n dJ6_bitCount_0f7a4_48 rfl ?_
  refine aw_bipush (v := 63) dJ6_bitCount_0f7a4_49 (by decide) ?_
  refine aw_iand dJ6_bitCount_0f7a4_51 ?_
  exact aw_iret dJ6_bitCount_0f7a4_52 rfl (⟨rfl, rfl, rfl⟩)
set_option maxHeartbeats 4000000 in
set_option maxRecDepth 100000 in
theorem tX6_weight {l : Launch} {E : aw_E} {d n : Nat} {h : ah} {b : Nat} {n' h' d' : Int32} : am l E mX6_weight d 0 0 [.ref b, .int n', .int h', .int d'] n h (aw_eq n h (some (.int (n' * h')))) := by
  refine am_of (by decide +kernel) (Nat.le_of_ble_eq_true rfl) ?_
  refine aw_iload_n dX6_weight_0 rfl ?_
  refine aw_iload_n dX6_weight_1 rfl ?_
  refine aw_imul dX6_weight_2 ?_
  exact aw_iret dX6_weight_3 rfl (⟨rfl, rfl, rfl⟩)
set_option maxHeartbeats 4000000 in
set_option maxRecDepth 100000 in
theorem tX6_loss {l : Launch} {E : aw_E} {d n : Nat} {h : ah} {b : Nat} {s : Int32} : am l E mX6_loss d 0 0 [.ref b, .int s] n h (aw_eq n h (some (.int s))) := by
  refine am_of (by decide +kernel) (Nat.le_of_ble_eq_true rfl) ?_
  refine aw_iload_n dX6_loss_0 rfl ?_
  exact aw_iret dX6_loss_1 rfl (⟨rfl, rfl, rfl⟩)
set_option maxHeartbeats 4000000 in
set_option maxRecDepth 100000 in
theorem tX1_weight {l : Launch} {E : aw_E} {d n : Nat} {h : ah} {b : Nat} {n' h' d' : Int32} : am l E mX1_weight d 0 0 [.ref b, .int n', .int h', .int d'] n h (aw_eq n h (some (.int (n' * 12)))) := by
  refine am_of (by decide +kernel) (Nat.le_of_ble_eq_true rfl) ?_
  refine aw_iload_n dX1_weight_0 rfl ?_
  refine aw_bipush (v := 12) dX1_weight_1 (by decide) ?_
  refine aw_imul dX1_weight_3 ?_
  exact aw_iret dX1_weight_4 rfl (⟨rfl, rfl, rfl⟩)
set_option maxHeartbeats 4000000 in
set_option maxRecDepth 100000 in
theorem tX1_loss {l : Launch} {E : aw_E} {d n : Nat} {h : ah} {b ci : Nat} {fs : List Value} {rr : vw_C} (hcr : vwCl[ci]? = some rr) (hb : h b = some (aO ci fs)) {s : Int32} : am l E mX1_loss (d + 1) 0 0 [.ref b, .int s] n h (aw_eq n h (some (.int (s + 1)))) := by
  refine am_of (by decide +kernel) (Nat.le_of_ble_eq_true rfl) ?_
  refine aw_aload_n dX1_loss_0 rfl ?_
  refine aw_iload_n dX1_loss_1 rfl ?_
  refine aw_callU1p dX1_loss_2 cmX6_loss cuX1_9 hcr hb (Nat.le_of_ble_eq_true rfl) tX6_loss ?_
  refine aw_iconst (v := 1) dX1_loss_5 (by decide) ?_
  refine aw_iadd dX1_loss_6 ?_
  exact aw_iret dX1_loss_7 rfl (⟨rfl, rfl, rfl⟩)
set_option maxHeartbeats 4000000 in
set_option maxRecDepth 100000 in
theorem tX2_weight {l : Launch} {E : aw_E} {d n : Nat} {h : ah} {b ci : Nat} {fs : List Value} {rr : vw_C} (hcr : vwCl[ci]? = some rr) (hb : h b = some (aO ci fs)) {n' h' d' : Int32} : am l E mX2_weight (d + 1) 0 0 [.ref b, .int n', .int h', .int d'] n h (aw_eq n h (some (.int (n' * h' / 2)))) := by
  refine am_of (by decide +kernel) (Nat.le_of_ble_eq_true rfl) ?_
  refine aw_aload_n dX2_weight_0 rfl ?_
  refine aw_iload_n dX2_weight_1 rfl ?_
  refine aw_iload_n dX2_weight_2 rfl ?_
  refine aw_iload_n dX2_weight_3 rfl ?_
  refine aw_callU3p dX2_weight_4 cmX6_weight cuX2_7 hcr hb (Nat.le_of_ble_eq_true rfl) tX6_weight ?_
  refine aw_iconst (v := 2) dX2_weight_7 (by decide) ?_
  refine aw_idiv dX2_weight_8 (by decide) ?_
  exact aw_iret dX2_weight_9 rfl (⟨rfl, rfl, rfl⟩)
set_option maxHeartbeats 4000000 in
set_option maxRecDepth 100000 in
theorem tX2_loss {l : Launch} {E : aw_E} {d n : Nat} {h : ah} {b ci : Nat} {fs : List Value} {rr : vw_C} (hcr : vwCl[ci]? = some rr) (hb : h b = some (aO ci fs)) {s : Int32} : am l E mX2_loss (d + 1) 0 0 [.ref b, .int s] n h (aw_eq n h (some (.int ((s + 1) / 2)))) := by
  refine am_of (by decide +kernel) (Nat.le_of_ble_eq_true rfl) ?_
  refine aw_aload_n dX2_loss_0 rfl ?_
  refine aw_iload_n dX2_loss_1 rfl ?_
  refine aw_callU1p dX2_loss_2 cmX6_loss cuX2_11 hcr hb (Nat.le_of_ble_eq_true rfl) tX6_loss ?_
  refine aw_iconst (v := 1) dX2_loss_5 (by decide) ?_
  refine aw_iadd dX2_loss_6 ?_
  refine aw_iconst (v := 2) dX2_loss_7 (by decide) ?_
  refine aw_idiv dX2_loss_8 (by decide) ?_
  exact aw_iret dX2_loss_9 rfl (⟨rfl, rfl, rfl⟩)
set_option maxHeartbeats 4000000 in
set_option maxRecDepth 100000 in
theorem tX8_weight {l : Launch} {E : aw_E} {d n : Nat} {h : ah} {b ci : Nat} {fs : List Value} {rr : vw_C} (hcr : vwCl[ci]? = some rr) (hb : h b = some (aO ci fs)) {n' h' d' : Int32} : am l E mX8_weight (d + 1) 0 0 [.ref b, .int n', .int h', .int d'] n h (aw_eq n h (some (.int (n' * h' + n')))) := by
  refine am_of (by decide +kernel) (Nat.le_of_ble_eq_true rfl) ?_
  refine aw_aload_n dX8_weight_0 rfl ?_
  refine aw_iload_n dX8_weight_1 rfl ?_
  refine aw_iload_n dX8_weight_2 rfl ?_
  refine aw_iload_n dX8_weight_3 rfl ?_
  refine aw_callU3p dX8_weight_4 cmX6_weight cuX8_7 hcr hb (Nat.le_of_ble_eq_true rfl) tX6_weight ?_
  refine aw_iload_n dX8_weight_7 rfl ?_
  refine aw_iadd dX8_weight_8 ?_
  exact aw_iret dX8_weight_9 rfl (⟨rfl, rfl, rfl⟩)
set_option maxHeartbeats 4000000 in
set_option maxRecDepth 100000 in
theorem tX8_loss {l : Launch} {E : aw_E} {d n : Nat} {h : ah} {b ci : Nat} {fs : List Value} {rr : vw_C} (hcr : vwCl[ci]? = some rr) (hb : h b = some (aO ci fs)) {s : Int32} : am l E mX8_loss (d + 1) 0 0 [.ref b, .int s] n h (aw_eq n h (some (.int (2 * s)))) := by
  refine am_of (by decide +kernel) (Nat.le_of_ble_eq_true rfl) ?_
  refine aw_iconst (v := 2) dX8_loss_0 (by decide) ?_
  refine aw_aload_n dX8_loss_1 rfl ?_
  refine aw_iload_n dX8_loss_2 rfl ?_
  refine aw_callU1p dX8_loss_3 cmX6_loss cuX8_11 hcr hb (Nat.le_of_ble_eq_true rfl) tX6_loss ?_
  refine aw_imul dX8_loss_6 ?_
  exact aw_iret dX8_loss_7 rfl (⟨rfl, rfl, rfl⟩)
set_option maxHeartbeats 4000000 in
set_option maxRecDepth 100000 in
theorem tX3_weight {l : Launch} {E : aw_E} {d n : Nat} {h : ah} {b ci : Nat} {fs : List Value} {rr : vw_C} (hcr : vwCl[ci]? = some rr) (hb : h b = some (aO ci fs)) {n' h' d' : Int32} : am l E mX3_weight (d + 2) 0 0 [.ref b, .int n', .int h', .int d'] n h (aw_eq n h (some (.int (if iRem d' 3 = 0 then 0 else n' * h' / 2)))) := by
  refine am_of (by decide +kernel) (Nat.le_of_ble_eq_true rfl) ?_
  refine aw_iload_n dX3_weight_0 rfl ?_
  refine aw_iconst (v := 3) dX3_weight_1 (by decide) ?_
  refine aw_irem dX3_weight_2 (by decide) ?_
  refine aw_if_ne (tgt := 10) dX3_weight_3 (by decide) (fun c3 => ?_) (fun c3 => ?_)
  · refine aw_aload_n dX3_weight_10 rfl ?_
    refine aw_iload_n dX3_weight_11 rfl ?_
    refine aw_iload_n dX3_weight_12 rfl ?_
    refine aw_iload_n dX3_weight_13 rfl ?_
    refine aw_callU3p dX3_weight_14 cmX2_weight cuX3_7 hcr hb (Nat.le_of_ble_eq_true rfl) (tX2_weight hcr hb) ?_
    exact aw_iret dX3_weight_17 rfl (⟨by first | rw [if_pos (show iRem d' 3 = 0 from c3)] | rw [if_neg (show ¬ iRem d' 3 = 0 from c3)], rfl, rfl⟩)
  · refine aw_iconst (v := 0) dX3_weight_6 (by decide) ?_
    refine aw_goto (tgt := 17) dX3_weight_7 (by decide) ?_
    exact aw_iret dX3_weight_17 rfl (⟨by first | rw [if_pos (show iRem d' 3 = 0 from c3)] | rw [if_neg (show ¬ iRem d' 3 = 0 from c3)], rfl, rfl⟩)
set_option maxHeartbeats 4000000 in
set_option maxRecDepth 100000 in
theorem tX0_weight {l : Launch} {E : aw_E} {d n : Nat} {h : ah} {b ci : Nat} {fs : List Value} {rr : vw_C} (hcr : vwCl[ci]? = some rr) (hb : h b = some (aO ci fs)) {n' h' d' : Int32} : am l E mX0_weight (d + 2) 0 0 [.ref b, .int n', .int h', .int d'] n h (aw_eq n h (some (.int (iMin 60 (n' * h' + n'))))) := by
  refine am_of (by decide +kernel) (Nat.le_of_ble_eq_true rfl) ?_
  refine aw_bipush (v := 60) dX0_weight_0 (by decide) ?_
  refine aw_aload_n dX0_weight_2 rfl ?_
  refine aw_iload_n dX0_weight_3 rfl ?_
  refine aw_iload_n dX0_weight_4 rfl ?_
  refine aw_iload_n dX0_weight_5 rfl ?_
  refine aw_callU3p dX0_weight_6 cmX8_weight cuX0_9 hcr hb (Nat.le_of_ble_eq_true rfl) (tX8_weight hcr hb) ?_
  refine aw_mmin dX0_weight_9 mmX0_13 (Nat.le_of_ble_eq_true rfl) ?_
  exact aw_iret dX0_weight_12 rfl (⟨rfl, rfl, rfl⟩)
set_option maxHeartbeats 4000000 in
set_option maxRecDepth 100000 in
theorem tX9_people {l : Launch} {E : aw_E} {d n t : Nat} {h : ah} {T : sT} (hT : is_tr h t T) : am l E mX9_people d 0 0 [.ref t] n h (aw_eq n h (some (.int (T 10 0)))) := by
  refine am_of (by decide +kernel) (Nat.le_of_ble_eq_true rfl) ?_
  refine aw_aload_n dX9_people_0 rfl ?_
  refine aw_get dX9_people_1 flX9_67 (tr_c0 hT) rfl ?_
  exact aw_iret dX9_people_4 rfl (⟨rfl, rfl, rfl⟩)
set_option maxHeartbeats 4000000 in
set_option maxRecDepth 100000 in
theorem tX9_today {l : Launch} {E : aw_E} {d n t : Nat} {h : ah} {T : sT} (hT : is_tr h t T) : am l E mX9_today d 0 0 [.ref t] n h (aw_eq n h (some (.int (T 10 1)))) := by
  refine am_of (by decide +kernel) (Nat.le_of_ble_eq_true rfl) ?_
  refine aw_aload_n dX9_today_0 rfl ?_
  refine aw_get dX9_today_1 flX9_71 (tr_c0 hT) rfl ?_
  exact aw_iret dX9_today_4 rfl (⟨rfl, rfl, rfl⟩)
set_option maxHeartbeats 4000000 in
set_option maxRecDepth 100000 in
theorem tX9_isThere {l : Launch} {E : aw_E} {d n t : Nat} {h : ah} {T : sT} (hT : is_tr h t T) {p : Int32} : am l E mX9_isThere d 0 0 [.ref t, .int p] n h (aw_eq n h (some (.int (trIs T p)))) := by
  refine am_of (by decide +kernel) (Nat.le_of_ble_eq_true rfl) ?_
  refine aw_iload_n dX9_isThere_0 rfl ?_
  refine aw_if_lt (tgt := 22) dX9_isThere_1 (by decide) (fun c1 => ?_) (fun c1 => ?_)
  · refine aw_iconst (v := 0) dX9_isThere_22 (by decide) ?_
    exact aw_zret dX9_isThere_23 rfl rfl (⟨by simp [trIs, c1], rfl, rfl⟩)
  · refine aw_iload_n dX9_isThere_4 rfl ?_
    refine aw_aload_n dX9_isThere_5 rfl ?_
    refine aw_get dX9_isThere_6 flX9_67 (tr_c0 hT) rfl ?_
    refine aw_icmp_ge (tgt := 22) dX9_isThere_9 (by decide) (fun c9 => ?_) (fun c9 => ?_)
    · refine aw_iconst (v := 0) dX9_isThere_22 (by decide) ?_
      exact aw_zret dX9_isThere_23 rfl rfl (⟨by simp [trIs, c1, c9], rfl, rfl⟩)
    · refine aw_iload_n dX9_isThere_12 rfl ?_
      refine aw_bipush (v := 6) dX9_isThere_13 (by decide) ?_
      refine aw_icmp_ge (tgt := 22) dX9_isThere_15 (by decide) (fun c15 => ?_) (fun c15 => ?_)
      · refine aw_iconst (v := 0) dX9_isThere_22 (by decide) ?_
        exact aw_zret dX9_isThere_23 rfl rfl (⟨by simp [trIs, c1, c9, c15], rfl, rfl⟩)
      · refine aw_iconst (v := 1) dX9_isThere_18 (by decide) ?_
        refine aw_goto (tgt := 23) dX9_isThere_19 (by decide) ?_
        exact aw_zret dX9_isThere_23 rfl rfl (⟨by simp [trIs, c1, c9, c15], rfl, rfl⟩)
set_option maxHeartbeats 4000000 in
set_option maxRecDepth 100000 in
theorem tX9_kindOf {l : Launch} {E : aw_E} {d n t : Nat} {h : ah} {T : sT} (hT : is_tr h t T) {p : Int32} : am l E mX9_kindOf (d + 1) 0 0 [.ref t, .int p] n h (aw_eq n h (some (.int (trG 0 T p)))) := by
  refine am_of (by decide +kernel) (Nat.le_of_ble_eq_true rfl) ?_
  refine aw_aload_n dX9_kindOf_0 rfl ?_
  refine aw_iload_n dX9_kindOf_1 rfl ?_
  refine aw_callV1p dX9_kindOf_2 cmX9_isThere cvX9_88 (tr_c0 hT) (Nat.le_of_ble_eq_true rfl) (tX9_isThere hT) ?_
  refine aw_if_eq (tgt := 17) dX9_kindOf_5 (by decide) (fun c5 => ?_) (fun c5 => ?_)
  · refine aw_iconst (v := 0) dX9_kindOf_17 (by decide) ?_
    exact aw_iret dX9_kindOf_18 rfl (⟨by simp [trG, c5], rfl, rfl⟩)
  · refine aw_aload_n dX9_kindOf_8 rfl ?_
    refine aw_get dX9_kindOf_9 flX9_37 (tr_c0 hT) rfl ?_
    refine aw_iload_n dX9_kindOf_12 rfl ?_
    refine aw_iald dX9_kindOf_13 (tr_c8 hT) (trIs_in c5) ?_
    refine aw_goto (tgt := 18) dX9_kindOf_14 (by decide) ?_
    exact aw_iret dX9_kindOf_18 rfl (⟨by simp [trG, c5], rfl, rfl⟩)
set_option maxHeartbeats 4000000 in
set_option maxRecDepth 100000 in
theorem tX9_honestyOf {l : Launch} {E : aw_E} {d n t : Nat} {h : ah} {T : sT} (hT : is_tr h t T) {p : Int32} : am l E mX9_honestyOf (d + 1) 0 0 [.ref t, .int p] n h (aw_eq n h (some (.int (trG 1 T p)))) := by
  refine am_of (by decide +kernel) (Nat.le_of_ble_eq_true rfl) ?_
  refine aw_aload_n dX9_honestyOf_0 rfl ?_
  refine aw_iload_n dX9_honestyOf_1 rfl ?_
  refine aw_callV1p dX9_honestyOf_2 cmX9_isThere cvX9_88 (tr_c0 hT) (Nat.le_of_ble_eq_true rfl) (tX9_isThere hT) ?_
  refine aw_if_eq (tgt := 17) dX9_honestyOf_5 (by decide) (fun c5 => ?_) (fun c5 => ?_)
  · refine aw_iconst (v := 0) dX9_honestyOf_17 (by decide) ?_
    exact aw_iret dX9_honestyOf_18 rfl (⟨by simp [trG, c5], rfl, rfl⟩)
  · refine aw_aload_n dX9_honestyOf_8 rfl ?_
    refine aw_get dX9_honestyOf_9 flX9_41 (tr_c0 hT) rfl ?_
    refine aw_iload_n dX9_honestyOf_12 rfl ?_
    refine aw_iald dX9_honestyOf_13 (tr_c9 hT) (trIs_in c5) ?_
    refine aw_goto (tgt := 18) dX9_honestyOf_14 (by decide) ?_
    exact aw_iret dX9_honestyOf_18 rfl (⟨by simp [trG, c5], rfl, rfl⟩)
set_option maxHeartbeats 4000000 in
set_option maxRecDepth 100000 in
theorem tX9_piecesOf {l : Launch} {E : aw_E} {d n t : Nat} {h : ah} {T : sT} (hT : is_tr h t T) {p : Int32} : am l E mX9_piecesOf (d + 1) 0 0 [.ref t, .int p] n h (aw_eq n h (some (.int (trG 2 T p)))) := by
  refine am_of (by decide +kernel) (Nat.le_of_ble_eq_true rfl) ?_
  refine aw_aload_n dX9_piecesOf_0 rfl ?_
  refine aw_iload_n dX9_piecesOf_1 rfl ?_
  refine aw_callV1p dX9_piecesOf_2 cmX9_isThere cvX9_88 (tr_c0 hT) (Nat.le_of_ble_eq_true rfl) (tX9_isThere hT) ?_
  refine aw_if_eq (tgt := 17) dX9_piecesOf_5 (by decide) (fun c5 => ?_) (fun c5 => ?_)
  · refine aw_iconst (v := 0) dX9_piecesOf_17 (by decide) ?_
    exact aw_iret dX9_piecesOf_18 rfl (⟨by simp [trG, c5], rfl, rfl⟩)
  · refine aw_aload_n dX9_piecesOf_8 rfl ?_
    refine aw_get dX9_piecesOf_9 flX9_44 (tr_c0 hT) rfl ?_
    refine aw_iload_n dX9_piecesOf_12 rfl ?_
    refine aw_iald dX9_piecesOf_13 (tr_c10 hT) (trIs_in c5) ?_
    refine aw_goto (tgt := 18) dX9_piecesOf_14 (by decide) ?_
    exact aw_iret dX9_piecesOf_18 rfl (⟨by simp [trG, c5], rfl, rfl⟩)
set_option maxHeartbeats 4000000 in
set_option maxRecDepth 100000 in
theorem tX9_payOf {l : Launch} {E : aw_E} {d n t : Nat} {h : ah} {T : sT} (hT : is_tr h t T) {p : Int32} : am l E mX9_payOf (d + 1) 0 0 [.ref t, .int p] n h (aw_eq n h (some (.int (trG 3 T p)))) := by
  refine am_of (by decide +kernel) (Nat.le_of_ble_eq_true rfl) ?_
  refine aw_aload_n dX9_payOf_0 rfl ?_
  refine aw_iload_n dX9_payOf_1 rfl ?_
  refine aw_callV1p dX9_payOf_2 cmX9_isThere cvX9_88 (tr_c0 hT) (Nat.le_of_ble_eq_true rfl) (tX9_isThere hT) ?_
  refine aw_if_eq (tgt := 17) dX9_payOf_5 (by decide) (fun c5 => ?_) (fun c5 => ?_)
  · refine aw_iconst (v := 0) dX9_payOf_17 (by decide) ?_
    exact aw_iret dX9_payOf_18 rfl (⟨by simp [trG, c5], rfl, rfl⟩)
  · refine aw_aload_n dX9_payOf_8 rfl ?_
    refine aw_get dX9_payOf_9 flX9_47 (tr_c0 hT) rfl ?_
    refine aw_iload_n dX9_payOf_12 rfl ?_
    refine aw_iald dX9_payOf_13 (tr_c11 hT) (trIs_in c5) ?_
    refine aw_goto (tgt := 18) dX9_payOf_14 (by decide) ?_
    exact aw_iret dX9_payOf_18 rfl (⟨by simp [trG, c5], rfl, rfl⟩)
set_option maxHeartbeats 4000000 in
set_option maxRecDepth 100000 in
theorem tX9_handsOf {l : Launch} {E : aw_E} {d n t : Nat} {h : ah} {T : sT} (hT : is_tr h t T) {p : Int32} : am l E mX9_handsOf (d + 1) 0 0 [.ref t, .int p] n h (aw_eq n h (some (.int (trG 4 T p)))) := by
  refine am_of (by decide +kernel) (Nat.le_of_ble_eq_true rfl) ?_
  refine aw_aload_n dX9_handsOf_0 rfl ?_
  refine aw_iload_n dX9_handsOf_1 rfl ?_
  refine aw_callV1p dX9_handsOf_2 cmX9_isThere cvX9_88 (tr_c0 hT) (Nat.le_of_ble_eq_true rfl) (tX9_isThere hT) ?_
  refine aw_if_eq (tgt := 17) dX9_handsOf_5 (by decide) (fun c5 => ?_) (fun c5 => ?_)
  · refine aw_iconst (v := 0) dX9_handsOf_17 (by decide) ?_
    exact aw_iret dX9_handsOf_18 rfl (⟨by simp [trG, c5], rfl, rfl⟩)
  · refine aw_aload_n dX9_handsOf_8 rfl ?_
    refine aw_get dX9_handsOf_9 flX9_50 (tr_c0 hT) rfl ?_
    refine aw_iload_n dX9_handsOf_12 rfl ?_
    refine aw_iald dX9_handsOf_13 (tr_c12 hT) (trIs_in c5) ?_
    refine aw_goto (tgt := 18) dX9_handsOf_14 (by decide) ?_
    exact aw_iret dX9_handsOf_18 rfl (⟨by simp [trG, c5], rfl, rfl⟩)
set_option maxHeartbeats 4000000 in
set_option maxRecDepth 100000 in
theorem tX9_liedOf {l : Launch} {E : aw_E} {d n t : Nat} {h : ah} {T : sT} (hT : is_tr h t T) {p : Int32} : am l E mX9_liedOf (d + 1) 0 0 [.ref t, .int p] n h (aw_eq n h (some (.int (trLied T p)))) := by
  refine am_of (by decide +kernel) (Nat.le_of_ble_eq_true rfl) ?_
  refine aw_aload_n dX9_liedOf_0 rfl ?_
  refine aw_iload_n dX9_liedOf_1 rfl ?_
  refine aw_callV1p dX9_liedOf_2 cmX9_isThere cvX9_88 (tr_c0 hT) (Nat.le_of_ble_eq_true rfl) (tX9_isThere hT) ?_
  refine aw_if_eq (tgt := 19) dX9_liedOf_5 (by decide) (fun c5 => ?_) (fun c5 => ?_)
  · refine aw_iconst (v := 0) dX9_liedOf_19 (by decide) ?_
    exact aw_iret dX9_liedOf_20 rfl (⟨by simp [trLied, c5], rfl, rfl⟩)
  · refine aw_aload_n dX9_liedOf_8 rfl ?_
    refine aw_get dX9_liedOf_9 flX9_74 (tr_c0 hT) rfl ?_
    refine aw_iload_n dX9_liedOf_12 rfl ?_
    refine aw_ishr dX9_liedOf_13 ?_
    refine aw_iconst (v := 1) dX9_liedOf_14 (by decide) ?_
    refine aw_iand dX9_liedOf_15 ?_
    refine aw_goto (tgt := 20) dX9_liedOf_16 (by decide) ?_
    exact aw_iret dX9_liedOf_20 rfl (⟨by simp [trLied, c5], rfl, rfl⟩)
set_option maxHeartbeats 4000000 in
set_option maxRecDepth 100000 in
theorem tX9_liars {l : Launch} {E : aw_E} {d n t : Nat} {h : ah} {T : sT} (hT : is_tr h t T) : am l E mX9_liars (d + 1) 0 0 [.ref t] n h (aw_eq n h (some (.int (iBits (T 10 2))))) := by
  refine am_of (by decide +kernel) (Nat.le_of_ble_eq_true rfl) ?_
  refine aw_aload_n dX9_liars_0 rfl ?_
  refine aw_get dX9_liars_1 flX9_74 (tr_c0 hT) rfl ?_
  refine aw_callS1p dX9_liars_4 cmJ6_bitCount_0f7a4 csX9_92 (Nat.le_of_ble_eq_true rfl) tJ6_bitCount_0f7a4 ?_
  exact aw_iret dX9_liars_7 rfl (⟨rfl, rfl, rfl⟩)
set_option maxHeartbeats 4000000 in
set_option maxRecDepth 100000 in
theorem tX9_notes {l : Launch} {E : aw_E} {d n t : Nat} {h : ah} {T : sT} (hT : is_tr h t T) : am l E mX9_notes d 0 0 [.ref t] n h (aw_eq n h (some ((.ref (t + 13))))) := by
  refine am_of (by decide +kernel) (Nat.le_of_ble_eq_true rfl) ?_
  refine aw_aload_n dX9_notes_0 rfl ?_
  refine aw_get dX9_notes_1 flX9_56 (tr_c0 hT) rfl ?_
  exact aw_aret dX9_notes_4 rfl (⟨rfl, rfl, rfl⟩)
set_option maxHeartbeats 4000000 in
set_option maxRecDepth 100000 in
theorem tX5_size {l : Launch} {E : aw_E} {d n t : Nat} {h : ah} {T : sT} (hT : is_tr h t T) : am l E mX5_size d 0 0 [.ref (t + 18)] n h (aw_eq n h (some (.int (T 10 4)))) := by
  refine am_of (by decide +kernel) (Nat.le_of_ble_eq_true rfl) ?_
  refine aw_aload_n dX5_size_0 rfl ?_
  refine aw_get dX5_size_1 flX5_15 (tr_c18 hT) rfl ?_
  exact aw_iret dX5_size_4 rfl (⟨rfl, rfl, rfl⟩)
set_option maxHeartbeats 4000000 in
set_option maxRecDepth 100000 in
theorem tX4_size {l : Launch} {E : aw_E} {d n t : Nat} {h : ah} {T : sT} (hT : is_tr h t T) : am l E mX4_size d 0 0 [.ref (t + 13)] n h (aw_eq n h (some (.int (T 10 3)))) := by
  refine am_of (by decide +kernel) (Nat.le_of_ble_eq_true rfl) ?_
  refine aw_aload_n dX4_size_0 rfl ?_
  refine aw_get dX4_size_1 flX4_24 (tr_c13 hT) rfl ?_
  exact aw_iret dX4_size_4 rfl (⟨rfl, rfl, rfl⟩)
set_option maxHeartbeats 4000000 in
set_option maxRecDepth 100000 in
theorem tX9_steps {l : Launch} {E : aw_E} {d n t : Nat} {h : ah} {T : sT} (hT : is_tr h t T) : am l E mX9_steps (d + 1) 0 0 [.ref t] n h (aw_eq n h (some (.int (T 10 4)))) := by
  refine am_of (by decide +kernel) (Nat.le_of_ble_eq_true rfl) ?_
  refine aw_aload_n dX9_steps_0 rfl ?_
  refine aw_get dX9_steps_1 flX9_63 (tr_c0 hT) rfl ?_
  refine aw_callV0p dX9_steps_4 cmX5_size cvX9_113 (tr_c18 hT) (Nat.le_of_ble_eq_true rfl) (tX5_size hT) ?_
  exact aw_iret dX9_steps_7 rfl (⟨rfl, rfl, rfl⟩)
set_option maxHeartbeats 4000000 in
set_option maxRecDepth 100000 in
theorem tX9_kindNumbered {l : Launch} {E : aw_E} {d n t : Nat} {h : ah} {T : sT} (hT : is_tr h t T) {k : Int32} : am l E mX9_kindNumbered d 0 0 [.ref t, .int k] n h (aw_eq n h (some ((.ref (t + kO k))))) := by
  refine am_of (by decide +kernel) (Nat.le_of_ble_eq_true rfl) ?_
  refine aw_iload_n dX9_kindNumbered_0 rfl ?_
  refine aw_if_lt (tgt := 22) dX9_kindNumbered_1 (by decide) (fun c1 => ?_) (fun c1 => ?_)
  · refine aw_aload_n dX9_kindNumbered_22 rfl ?_
    refine aw_get dX9_kindNumbered_23 flX9_12 (tr_c0 hT) rfl ?_
    exact aw_aret dX9_kindNumbered_26 rfl (⟨by rw [kO_out (Or.inl c1)], rfl, rfl⟩)
  · refine aw_iload_n dX9_kindNumbered_4 rfl ?_
    refine aw_aload_n dX9_kindNumbered_5 rfl ?_
    refine aw_get dX9_kindNumbered_6 flX9_33 (tr_c0 hT) rfl ?_
    refine aw_alenR (v := 6) dX9_kindNumbered_9 (tr_c2 hT) rfl ?_
    refine aw_icmp_ge (tgt := 22) dX9_kindNumbered_10 (by decide) (fun c10 => ?_) (fun c10 => ?_)
    · refine aw_aload_n dX9_kindNumbered_22 rfl ?_
      refine aw_get dX9_kindNumbered_23 flX9_12 (tr_c0 hT) rfl ?_
      exact aw_aret dX9_kindNumbered_26 rfl (⟨by rw [kO_out (Or.inr c10)], rfl, rfl⟩)
    · refine aw_aload_n dX9_kindNumbered_13 rfl ?_
      refine aw_get dX9_kindNumbered_14 flX9_33 (tr_c0 hT) rfl ?_
      refine aw_iload_n dX9_kindNumbered_17 rfl ?_
      refine aw_aald dX9_kindNumbered_18 (tr_c2 hT) (vp_in_of6 c1 c10) ?_
      rw [trKd_at t c1 c10]
      refine aw_ifnonnull (tgt := 27) dX9_kindNumbered_19 (by decide) ?_
      refine aw_aload_n dX9_kindNumbered_27 rfl ?_
      refine aw_get dX9_kindNumbered_28 flX9_33 (tr_c0 hT) rfl ?_
      refine aw_iload_n dX9_kindNumbered_31 rfl ?_
      refine aw_aald dX9_kindNumbered_32 (tr_c2 hT) (vp_in_of6 c1 c10) ?_
      rw [trKd_at t c1 c10]
      exact aw_aret dX9_kindNumbered_33 rfl (⟨rfl, rfl, rfl⟩)
theorem aw_weight {l : Launch} {E : aw_E} {mi : aw_M} {Z : aw_Zt} {d bc bs pc : Nat} {ls : List (Nat × Value)} {rest : List Value} {n t : Nat} {h : ah} {T : sT} {k n' h' d' : Int32} (hown : mi.1.cls = RX9) (hd : decode mi.2.1 pc = .ok (.invokevirtual 134, 3)) (hT : is_tr h t T) (hrs : (rest.map fun v => v.category).sum ≤ 8) (kk : aw l E mi Z (d + 3) bc bs (pc + 3) ls (.int (kW k n' h' d') :: rest) n h) : aw l E mi Z (d + 3) bc bs pc ls (.int d' :: .int h' :: .int n' :: .ref (t + kO k) :: rest) n h := by
  have e1 := hown.symm ▸ coX9_134_X1
  have e2 := hown.symm ▸ coX9_134_X2
  have e3 := hown.symm ▸ coX9_134_X8
  have e4 := hown.symm ▸ coX9_134_X3
  have e5 := hown.symm ▸ coX9_134_X0
  have e6 := hown.symm ▸ cvX9_134
  rcases kO_cases k with ⟨hk, e⟩ | ⟨hk, e⟩ | ⟨hk, e⟩ | ⟨hk, e⟩ | ⟨hk, e⟩ | ⟨⟨g1, g2, g3, g4, g5⟩, e⟩
  · rw [e]
    have ev : kW k n' h' d' = n' * 12 := by subst hk; rfl
    rw [ev] at kk
    exact aw_callO3p hd cmX1_weight e1 (tr_c3 hT) hrs tX1_weight kk
  · rw [e]
    have ev : kW k n' h' d' = n' * h' / 2 := by subst hk; rfl
    rw [ev] at kk
    exact aw_callO3p hd cmX2_weight e2 (tr_c4 hT) hrs (tX2_weight rfl (tr_c4 hT)) kk
  · rw [e]
    have ev : kW k n' h' d' = n' * h' + n' := by subst hk; rfl
    rw [ev] at kk
    exact aw_callO3p hd cmX8_weight e3 (tr_c5 hT) hrs (tX8_weight rfl (tr_c5 hT)) kk
  · rw [e]
    have ev : kW k n' h' d' = (if iRem d' 3 = 0 then 0 else n' * h' / 2) := by subst hk; rfl
    rw [ev] at kk
    exact aw_callO3p hd cmX3_weight e4 (tr_c6 hT) hrs (tX3_weight rfl (tr_c6 hT)) kk
  · rw [e]
    have ev : kW k n' h' d' = iMin 60 (n' * h' + n') := by subst hk; rfl
    rw [ev] at kk
    exact aw_callO3p hd cmX0_weight e5 (tr_c7 hT) hrs (tX0_weight rfl (tr_c7 hT)) kk
  · rw [e]
    have ev : kW k n' h' d' = n' * h' := by simp [kW, g1, g2, g3, g4, g5]
    rw [ev] at kk
    exact aw_callV3p hd cmX6_weight e6 (tr_c1 hT) hrs tX6_weight kk
theorem aw_loss {l : Launch} {E : aw_E} {mi : aw_M} {Z : aw_Zt} {d bc bs pc : Nat} {ls : List (Nat × Value)} {rest : List Value} {n t : Nat} {h : ah} {T : sT} {k s : Int32} (hown : mi.1.cls = RX9) (hd : decode mi.2.1 pc = .ok (.invokevirtual 169, 3)) (hT : is_tr h t T) (hrs : (rest.map fun v => v.category).sum ≤ 8) (kk : aw l E mi Z (d + 2) bc bs (pc + 3) ls (.int (kL k s) :: rest) n h) : aw l E mi Z (d + 2) bc bs pc ls (.int s :: .ref (t + kO k) :: rest) n h := by
  have e1 := hown.symm ▸ coX9_169_X1
  have e2 := hown.symm ▸ coX9_169_X2
  have e3 := hown.symm ▸ coX9_169_X8
  have e4 := hown.symm ▸ coX9_169_X3
  have e5 := hown.symm ▸ coX9_169_X0
  have e6 := hown.symm ▸ cvX9_169
  rcases kO_cases k with ⟨hk, e⟩ | ⟨hk, e⟩ | ⟨hk, e⟩ | ⟨hk, e⟩ | ⟨hk, e⟩ | ⟨⟨g1, g2, g3, g4, g5⟩, e⟩
  · rw [e]
    have ev : kL k s = s + 1 := by subst hk; rfl
    rw [ev] at kk
    exact aw_callO1p hd cmX1_loss e1 (tr_c3 hT) hrs (tX1_loss rfl (tr_c3 hT)) kk
  · rw [e]
    have ev : kL k s = (s + 1) / 2 := by subst hk; rfl
    rw [ev] at kk
    exact aw_callO1p hd cmX2_loss e2 (tr_c4 hT) hrs (tX2_loss rfl (tr_c4 hT)) kk
  · rw [e]
    have ev : kL k s = 2 * s := by subst hk; rfl
    rw [ev] at kk
    exact aw_callO1p hd cmX8_loss e3 (tr_c5 hT) hrs (tX8_loss rfl (tr_c5 hT)) kk
  · rw [e]
    have ev : kL k s = (s + 1) / 2 := by subst hk; rfl
    rw [ev] at kk
    exact aw_callO1p hd cmX2_loss e4 (tr_c6 hT) hrs (tX2_loss rfl (tr_c6 hT)) kk
  · rw [e]
    have ev : kL k s = 2 * s := by subst hk; rfl
    rw [ev] at kk
    exact aw_callO1p hd cmX8_loss e5 (tr_c7 hT) hrs (tX8_loss rfl (tr_c7 hT)) kk
  · rw [e]
    have ev : kL k s = s := by simp [kL, g1, g2, g3, g4, g5]
    rw [ev] at kk
    exact aw_callV1p hd cmX6_loss e6 (tr_c1 hT) hrs tX6_loss kk
set_option maxHeartbeats 4000000 in
set_option maxRecDepth 100000 in
theorem tX9_weightBy {l : Launch} {E : aw_E} {d n t : Nat} {h : ah} {T : sT} (hT : is_tr h t T) {k n' h' d' : Int32} : am l E mX9_weightBy (d + 3) 0 0 [.ref t, .int k, .int n', .int h', .int d'] n h (aw_eq n h (some (.int (kW k n' h' d')))) := by
  refine am_of (by decide +kernel) (Nat.le_of_ble_eq_true rfl) ?_
  refine aw_aload_n dX9_weightBy_0 rfl ?_
  refine aw_iload_n dX9_weightBy_1 rfl ?_
  refine aw_callV1p dX9_weightBy_2 cmX9_kindNumbered cvX9_130 (tr_c0 hT) (Nat.le_of_ble_eq_true rfl) (tX9_kindNumbered hT) ?_
  refine aw_iload_n dX9_weightBy_5 rfl ?_
  refine aw_iload_n dX9_weightBy_6 rfl ?_
  refine aw_iload dX9_weightBy_7 rfl ?_
  refine aw_weight rfl dX9_weightBy_9 hT (Nat.le_of_ble_eq_true rfl) ?_
  exact aw_iret dX9_weightBy_12 rfl (⟨rfl, rfl, rfl⟩)
set_option maxHeartbeats 4000000 in
set_option maxRecDepth 100000 in
theorem tX9_weightWith {l : Launch} {E : aw_E} {d n t : Nat} {h : ah} {T : sT} (hT : is_tr h t T) {p n' : Int32} : am l E mX9_weightWith (d + 3) 0 0 [.ref t, .int p, .int n'] n h (aw_eq n h (some (.int (trWW T p n')))) := by
  refine am_of (by decide +kernel) (Nat.le_of_ble_eq_true rfl) ?_
  refine aw_aload_n dX9_weightWith_0 rfl ?_
  refine aw_aload_n dX9_weightWith_1 rfl ?_
  refine aw_iload_n dX9_weightWith_2 rfl ?_
  refine aw_callV1p dX9_weightWith_3 cmX9_kindOf cvX9_138 (tr_c0 hT) (Nat.le_of_ble_eq_true rfl) (tX9_kindOf hT) ?_
  refine aw_callV1p dX9_weightWith_6 cmX9_kindNumbered cvX9_130 (tr_c0 hT) (Nat.le_of_ble_eq_true rfl) (tX9_kindNumbered hT) ?_
  refine aw_iload_n dX9_weightWith_9 rfl ?_
  refine aw_aload_n dX9_weightWith_10 rfl ?_
  refine aw_iload_n dX9_weightWith_11 rfl ?_
  refine aw_callV1p dX9_weightWith_12 cmX9_honestyOf cvX9_141 (tr_c0 hT) (Nat.le_of_ble_eq_true rfl) (tX9_honestyOf hT) ?_
  refine aw_aload_n dX9_weightWith_15 rfl ?_
  refine aw_get dX9_weightWith_16 flX9_71 (tr_c0 hT) rfl ?_
  refine aw_weight rfl dX9_weightWith_19 hT (Nat.le_of_ble_eq_true rfl) ?_
  exact aw_iret dX9_weightWith_22 rfl (⟨rfl, rfl, rfl⟩)
set_option maxHeartbeats 4000000 in
set_option maxRecDepth 100000 in
theorem tX9_ownWeight {l : Launch} {E : aw_E} {d n t : Nat} {h : ah} {T : sT} (hT : is_tr h t T) {p : Int32} : am l E mX9_ownWeight (d + 4) 0 0 [.ref t, .int p] n h (aw_eq n h (some (.int (trOwn T p)))) := by
  refine am_of (by decide +kernel) (Nat.le_of_ble_eq_true rfl) ?_
  refine aw_aload_n dX9_ownWeight_0 rfl ?_
  refine aw_iload_n dX9_ownWeight_1 rfl ?_
  refine aw_aload_n dX9_ownWeight_2 rfl ?_
  refine aw_iload_n dX9_ownWeight_3 rfl ?_
  refine aw_callV1p dX9_ownWeight_4 cmX9_piecesOf cvX9_98 (tr_c0 hT) (Nat.le_of_ble_eq_true rfl) (tX9_piecesOf hT) ?_
  refine aw_callV2p dX9_ownWeight_7 cmX9_weightWith cvX9_144 (tr_c0 hT) (Nat.le_of_ble_eq_true rfl) (tX9_weightWith hT) ?_
  exact aw_iret dX9_ownWeight_10 rfl (⟨rfl, rfl, rfl⟩)
set_option maxHeartbeats 4000000 in
set_option maxRecDepth 100000 in
theorem tX9_honestyBehindLie {l : Launch} {E : aw_E} {d n t : Nat} {h : ah} {T : sT} (hT : is_tr h t T) {p s : Int32} : am l E mX9_honestyBehindLie (d + 2) 0 0 [.ref t, .int p, .int s] n h (aw_eq n h (some (.int (trBeh T p s)))) := by
  refine am_of (by decide +kernel) (Nat.le_of_ble_eq_true rfl) ?_
  refine aw_iconst (v := 0) dX9_honestyBehindLie_0 (by decide) ?_
  refine aw_aload_n dX9_honestyBehindLie_1 rfl ?_
  refine aw_iload_n dX9_honestyBehindLie_2 rfl ?_
  refine aw_callV1p dX9_honestyBehindLie_3 cmX9_honestyOf cvX9_141 (tr_c0 hT) (Nat.le_of_ble_eq_true rfl) (tX9_honestyOf hT) ?_
  refine aw_aload_n dX9_honestyBehindLie_6 rfl ?_
  refine aw_aload_n dX9_honestyBehindLie_7 rfl ?_
  refine aw_iload_n dX9_honestyBehindLie_8 rfl ?_
  refine aw_callV1p dX9_honestyBehindLie_9 cmX9_kindOf cvX9_138 (tr_c0 hT) (Nat.le_of_ble_eq_true rfl) (tX9_kindOf hT) ?_
  refine aw_callV1p dX9_honestyBehindLie_12 cmX9_kindNumbered cvX9_130 (tr_c0 hT) (Nat.le_of_ble_eq_true rfl) (tX9_kindNumbered hT) ?_
  refine aw_iload_n dX9_honestyBehindLie_15 rfl ?_
  refine aw_loss rfl dX9_honestyBehindLie_16 hT (Nat.le_of_ble_eq_true rfl) ?_
  refine aw_isub dX9_honestyBehindLie_19 ?_
  refine aw_mmax dX9_honestyBehindLie_20 mmX9_172 (Nat.le_of_ble_eq_true rfl) ?_
  exact aw_iret dX9_honestyBehindLie_23 rfl (⟨rfl, rfl, rfl⟩)
set_option maxHeartbeats 4000000 in
set_option maxRecDepth 100000 in
theorem tX9_honestyAfter {l : Launch} {E : aw_E} {d n t : Nat} {h : ah} {T : sT} (hT : is_tr h t T) {p k : Int32} : am l E mX9_honestyAfter (d + 2) 0 0 [.ref t, .int p, .int k] n h (aw_eq n h (some (.int (trAft T p k)))) := by
  refine am_of (by decide +kernel) (Nat.le_of_ble_eq_true rfl) ?_
  refine aw_iconst (v := 0) dX9_honestyAfter_0 (by decide) ?_
  refine aw_iload_n dX9_honestyAfter_1 rfl ?_
  refine aw_aload_n dX9_honestyAfter_2 rfl ?_
  refine aw_iload_n dX9_honestyAfter_3 rfl ?_
  refine aw_callV1p dX9_honestyAfter_4 cmX9_liedOf cvX9_159 (tr_c0 hT) (Nat.le_of_ble_eq_true rfl) (tX9_liedOf hT) ?_
  refine aw_isub dX9_honestyAfter_7 ?_
  refine aw_mmax dX9_honestyAfter_8 mmX9_172 (Nat.le_of_ble_eq_true rfl) ?_
  refine aw_istore_n dX9_honestyAfter_11 (by decide) ?_
  refine aw_bipush (v := 12) dX9_honestyAfter_12 (by decide) ?_
  refine aw_aload_n dX9_honestyAfter_14 rfl ?_
  refine aw_iload_n dX9_honestyAfter_15 rfl ?_
  refine aw_callV1p dX9_honestyAfter_16 cmX9_honestyOf cvX9_141 (tr_c0 hT) (Nat.le_of_ble_eq_true rfl) (tX9_honestyOf hT) ?_
  refine aw_iload_n dX9_honestyAfter_19 rfl ?_
  refine aw_iadd dX9_honestyAfter_20 ?_
  refine aw_mmin dX9_honestyAfter_21 mmX9_108 (Nat.le_of_ble_eq_true rfl) ?_
  exact aw_iret dX9_honestyAfter_24 rfl (⟨rfl, rfl, rfl⟩)
set_option maxHeartbeats 4000000 in
set_option maxRecDepth 100000 in
theorem tX9_truthWorth {l : Launch} {E : aw_E} {d n t : Nat} {h : ah} {T : sT} (hT : is_tr h t T) {p : Int32} : am l E mX9_truthWorth (d + 5) 0 0 [.ref t, .int p] n h (aw_eq n h (some (.int (trTruth T p)))) := by
  refine am_of (by decide +kernel) (Nat.le_of_ble_eq_true rfl) ?_
  refine aw_aload_n dX9_truthWorth_0 rfl ?_
  refine aw_aload_n dX9_truthWorth_1 rfl ?_
  refine aw_iload_n dX9_truthWorth_2 rfl ?_
  refine aw_callV1p dX9_truthWorth_3 cmX9_kindOf cvX9_138 (tr_c0 hT) (Nat.le_of_ble_eq_true rfl) (tX9_kindOf hT) ?_
  refine aw_aload_n dX9_truthWorth_6 rfl ?_
  refine aw_iload_n dX9_truthWorth_7 rfl ?_
  refine aw_callV1p dX9_truthWorth_8 cmX9_piecesOf cvX9_98 (tr_c0 hT) (Nat.le_of_ble_eq_true rfl) (tX9_piecesOf hT) ?_
  refine aw_aload_n dX9_truthWorth_11 rfl ?_
  refine aw_iload_n dX9_truthWorth_12 rfl ?_
  refine aw_iconst (v := 2) dX9_truthWorth_13 (by decide) ?_
  refine aw_callV2p dX9_truthWorth_14 cmX9_honestyBehindLie cvX9_101 (tr_c0 hT) (Nat.le_of_ble_eq_true rfl) (tX9_honestyBehindLie hT) ?_
  refine aw_aload_n dX9_truthWorth_17 rfl ?_
  refine aw_get dX9_truthWorth_18 flX9_71 (tr_c0 hT) rfl ?_
  refine aw_callV4p dX9_truthWorth_21 cmX9_weightBy cvX9_150 (tr_c0 hT) (Nat.le_of_ble_eq_true rfl) (tX9_weightBy hT) ?_
  refine aw_istore_n dX9_truthWorth_24 (by decide) ?_
  refine aw_aload_n dX9_truthWorth_25 rfl ?_
  refine aw_iload_n dX9_truthWorth_26 rfl ?_
  refine aw_callV1p dX9_truthWorth_27 cmX9_ownWeight cvX9_147 (tr_c0 hT) (Nat.le_of_ble_eq_true rfl) (tX9_ownWeight hT) ?_
  refine aw_iload_n dX9_truthWorth_30 rfl ?_
  refine aw_isub dX9_truthWorth_31 ?_
  refine aw_bipush (v := 10) dX9_truthWorth_32 (by decide) ?_
  refine aw_idiv dX9_truthWorth_34 (by decide) ?_
  exact aw_iret dX9_truthWorth_35 rfl (⟨rfl, rfl, rfl⟩)
