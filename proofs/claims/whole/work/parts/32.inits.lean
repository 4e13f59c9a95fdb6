/-! CONSTRUCTORS. -/
def mk_post (h : ah) (b k : Nat) (P : ah → Prop) : aw_P := fun r n' h' => none = r ∧ b + k = n' ∧ P h' ∧ ∀ a : Nat, a < b → h' a = h a
theorem kd_mk (b : Nat) : va_up (va_up (va_up (va_up (va_up (va_up gNo 0 (some (b + 1))) 1 (some (b + 3))) 2 (some (b + 4))) 3 (some (b + 5))) 4 (some (b + 6))) 5 (some (b + 7)) = trKd b := by
  funext j
  match j with
  | 0 => rfl
  | 1 => rfl
  | 2 => rfl
  | 3 => rfl
  | 4 => rfl
  | 5 => rfl
  | j + 6 => rw [va_up_ne _ _ (by omega), va_up_ne _ _ (by omega), va_up_ne _ _ (by omega), va_up_ne _ _ (by omega), va_up_ne _ _ (by omega), va_up_ne _ _ (by omega)]; rfl
set_option maxHeartbeats 1000000 in
set_option maxRecDepth 100000 in
theorem tX6_init {l : Launch} {E : aw_E} {d n b : Nat} {h : ah} : am l E mX6_init (d + 1) 0 0 [.ref b] n h (aw_eq n h none) := by
  refine am_of (by decide +kernel) (Nat.le_of_ble_eq_true rfl) ?_
  refine aw_aload_n dX6_init_0 rfl ?_
  refine aw_objInit dX6_init_1 oiX6_1 oi_1 oi_2 (Nat.le_of_ble_eq_true rfl) ?_
  exact aw_vret dX6_init_4 rfl ⟨rfl, rfl, rfl⟩
set_option maxHeartbeats 1000000 in
set_option maxRecDepth 100000 in
theorem tX1_init {l : Launch} {E : aw_E} {d n b : Nat} {h : ah} : am l E mX1_init (d + 2) 0 0 [.ref b] n h (aw_eq n h none) := by
  refine am_of (by decide +kernel) (Nat.le_of_ble_eq_true rfl) ?_
  refine aw_aload_n dX1_init_0 rfl ?_
  refine aw_callI0 (mc' := 0) (ms' := 0) (bc' := 0) (bs' := 0) dX1_init_1 cmX6_init ciX1_3 (Nat.le_of_ble_eq_true rfl) tX6_init (by decide) (by decide) (fun r n' h' hq => ?_)
  obtain ⟨rfl, rfl, rfl⟩ := hq
  exact aw_vret dX1_init_4 rfl ⟨rfl, rfl, rfl⟩
set_option maxHeartbeats 1000000 in
set_option maxRecDepth 100000 in
theorem tX2_init {l : Launch} {E : aw_E} {d n b : Nat} {h : ah} : am l E mX2_init (d + 2) 0 0 [.ref b] n h (aw_eq n h none) := by
  refine am_of (by decide +kernel) (Nat.le_of_ble_eq_true rfl) ?_
  refine aw_aload_n dX2_init_0 rfl ?_
  refine aw_callI0 (mc' := 0) (ms' := 0) (bc' := 0) (bs' := 0) dX2_init_1 cmX6_init ciX2_1 (Nat.le_of_ble_eq_true rfl) tX6_init (by decide) (by decide) (fun r n' h' hq => ?_)
  obtain ⟨rfl, rfl, rfl⟩ := hq
  exact aw_vret dX2_init_4 rfl ⟨rfl, rfl, rfl⟩
set_option maxHeartbeats 1000000 in
set_option maxRecDepth 100000 in
theorem tX8_init {l : Launch} {E : aw_E} {d n b : Nat} {h : ah} : am l E mX8_init (d + 2) 0 0 [.ref b] n h (aw_eq n h none) := by
  refine am_of (by decide +kernel) (Nat.le_of_ble_eq_true rfl) ?_
  refine aw_aload_n dX8_init_0 rfl ?_
  refine aw_callI0 (mc' := 0) (ms' := 0) (bc' := 0) (bs' := 0) dX8_init_1 cmX6_init ciX8_1 (Nat.le_of_ble_eq_true rfl) tX6_init (by decide) (by decide) (fun r n' h' hq => ?_)
  obtain ⟨rfl, rfl, rfl⟩ := hq
  exact aw_vret dX8_init_4 rfl ⟨rfl, rfl, rfl⟩
set_option maxHeartbeats 1000000 in
set_option maxRecDepth 100000 in
theorem tX3_init {l : Launch} {E : aw_E} {d n b : Nat} {h : ah} : am l E mX3_init (d + 3) 0 0 [.ref b] n h (aw_eq n h none) := by
  refine am_of (by decide +kernel) (Nat.le_of_ble_eq_true rfl) ?_
  refine aw_aload_n dX3_init_0 rfl ?_
  refine aw_callI0 (mc' := 0) (ms' := 0) (bc' := 0) (bs' := 0) dX3_init_1 cmX2_init ciX3_1 (Nat.le_of_ble_eq_true rfl) tX2_init (by decide) (by decide) (fun r n' h' hq => ?_)
  obtain ⟨rfl, rfl, rfl⟩ := hq
  exact aw_vret dX3_init_4 rfl ⟨rfl, rfl, rfl⟩
set_option maxHeartbeats 1000000 in
set_option maxRecDepth 100000 in
theorem tX0_init {l : Launch} {E : aw_E} {d n b : Nat} {h : ah} : am l E mX0_init (d + 3) 0 0 [.ref b] n h (aw_eq n h none) := by
  refine am_of (by decide +kernel) (Nat.le_of_ble_eq_true rfl) ?_
  refine aw_aload_n dX0_init_0 rfl ?_
  refine aw_callI0 (mc' := 0) (ms' := 0) (bc' := 0) (bs' := 0) dX0_init_1 cmX8_init ciX0_3 (Nat.le_of_ble_eq_true rfl) tX8_init (by decide) (by decide) (fun r n' h' hq => ?_)
  obtain ⟨rfl, rfl, rfl⟩ := hq
  exact aw_vret dX0_init_4 rfl ⟨rfl, rfl, rfl⟩
set_option maxHeartbeats 2000000 in
set_option maxRecDepth 100000 in
theorem tX4_init {l : Launch} {E : aw_E} {d b : Nat} {h0 : ah} (f0 : h0 b = some (aO 4 [.null, .null, .null, .null, .int 0])) : am l E mX4_init (d + 1) 4 24 [.ref b] (b + 1) h0 (in_post h0 b 5 (n4B b)) := by
  refine am_of (by decide +kernel) (Nat.le_of_ble_eq_true rfl) ?_
  have hF : ∀ a : Nat, a < b → h0 a = h0 a := fun _ _ => rfl
  refine aw_aload_n dX4_init_0 rfl ?_
  refine aw_objInit dX4_init_1 oiX4_3 oi_1 oi_2 (Nat.le_of_ble_eq_true rfl) ?_
  refine aw_aload_n dX4_init_4 rfl ?_
  refine aw_bipush (v := 6) dX4_init_5 (by decide) ?_
  refine aw_newI1 (N := 6) (n1 := b + 2) (bc' := 3) (bs' := 18) dX4_init_7 rfl (by decide) (by decide) (by decide) rfl (fun h f1 ho => ?_)
  have f0 := (ho b (by omega)).trans f0
  have hF : ∀ a : Nat, a < b → h a = h0 a := fun a ha => (ho a (by omega)).trans (hF a ha)
  refine aw_putF1 dX4_init_9 fpX4_9 rfl f0 (Nat.le_of_ble_eq_true rfl) rfl rfl (fun h f0 ho => ?_)
  have f0 : h b = some (aO 4 [.ref (b + 1), .null, .null, .null, .int 0]) := f0
  have f1 := (ho (b + 1) (by omega)).trans f1
  have hF : ∀ a : Nat, a < b → h a = h0 a := fun a ha => (ho a (by omega)).trans (hF a ha)
  refine aw_aload_n dX4_init_12 rfl ?_
  refine aw_bipush (v := 6) dX4_init_13 (by decide) ?_
  refine aw_newI1 (N := 6) (n1 := b + 3) (bc' := 2) (bs' := 12) dX4_init_15 rfl (by decide) (by decide) (by decide) rfl (fun h f2 ho => ?_)
  have f0 := (ho b (by omega)).trans f0
  have f1 := (ho (b + 1) (by omega)).trans f1
  have hF : ∀ a : Nat, a < b → h a = h0 a := fun a ha => (ho a (by omega)).trans (hF a ha)
  refine aw_putF1 dX4_init_17 fpX4_15 rfl f0 (Nat.le_of_ble_eq_true rfl) rfl rfl (fun h f0 ho => ?_)
  have f0 : h b = some (aO 4 [.ref (b + 1), .ref (b + 2), .null, .null, .int 0]) := f0
  have f1 := (ho (b + 1) (by omega)).trans f1
  have f2 := (ho (b + 2) (by omega)).trans f2
  have hF : ∀ a : Nat, a < b → h a = h0 a := fun a ha => (ho a (by omega)).trans (hF a ha)
  refine aw_aload_n dX4_init_20 rfl ?_
  refine aw_bipush (v := 6) dX4_init_21 (by decide) ?_
  refine aw_newI1 (N := 6) (n1 := b + 4) (bc' := 1) (bs' := 6) dX4_init_23 rfl (by decide) (by decide) (by decide) rfl (fun h f3 ho => ?_)
  have f0 := (ho b (by omega)).trans f0
  have f1 := (ho (b + 1) (by omega)).trans f1
  have f2 := (ho (b + 2) (by omega)).trans f2
  have hF : ∀ a : Nat, a < b → h a = h0 a := fun a ha => (ho a (by omega)).trans (hF a ha)
  refine aw_putF1 dX4_init_25 fpX4_18 rfl f0 (Nat.le_of_ble_eq_true rfl) rfl rfl (fun h f0 ho => ?_)
  have f0 : h b = some (aO 4 [.ref (b + 1), .ref (b + 2), .ref (b + 3), .null, .int 0]) := f0
  have f1 := (ho (b + 1) (by omega)).trans f1
  have f2 := (ho (b + 2) (by omega)).trans f2
  have f3 := (ho (b + 3) (by omega)).trans f3
  have hF : ∀ a : Nat, a < b → h a = h0 a := fun a ha => (ho a (by omega)).trans (hF a ha)
  refine aw_aload_n dX4_init_28 rfl ?_
  refine aw_bipush (v := 6) dX4_init_29 (by decide) ?_
  refine aw_newI1 (N := 6) (n1 := b + 5) (bc' := 0) (bs' := 0) dX4_init_31 rfl (by decide) (by decide) (by decide) rfl (fun h f4 ho => ?_)
  have f0 := (ho b (by omega)).trans f0
  have f1 := (ho (b + 1) (by omega)).trans f1
  have f2 := (ho (b + 2) (by omega)).trans f2
  have f3 := (ho (b + 3) (by omega)).trans f3
  have hF : ∀ a : Nat, a < b → h a = h0 a := fun a ha => (ho a (by omega)).trans (hF a ha)
  refine aw_putF1 dX4_init_33 fpX4_21 rfl f0 (Nat.le_of_ble_eq_true rfl) rfl rfl (fun h f0 ho => ?_)
  have f0 : h b = some (aO 4 [.ref (b + 1), .ref (b + 2), .ref (b + 3), .ref (b + 4), .int 0]) := f0
  have f1 := (ho (b + 1) (by omega)).trans f1
  have f2 := (ho (b + 2) (by omega)).trans f2
  have f3 := (ho (b + 3) (by omega)).trans f3
  have f4 := (ho (b + 4) (by omega)).trans f4
  have hF : ∀ a : Nat, a < b → h a = h0 a := fun a ha => (ho a (by omega)).trans (hF a ha)
  exact aw_vret dX4_init_36 rfl (⟨rfl, rfl, (fun j hj => by
    match j, hj with
      | 0, _ => exact f0
      | 1, _ => exact f1
      | 2, _ => exact f2
      | 3, _ => exact f3
      | 4, _ => exact f4
      | j + 5, hj => exact absurd hj (by omega)
    ), hF⟩)
set_option maxHeartbeats 2000000 in
set_option maxRecDepth 100000 in
theorem tX5_init {l : Launch} {E : aw_E} {d b : Nat} {h0 : ah} (f0 : h0 b = some (aO 5 [.null, .int 0])) : am l E mX5_init (d + 1) 1 112 [.ref b] (b + 1) h0 (in_post h0 b 2 (p5B b)) := by
  refine am_of (by decide +kernel) (Nat.le_of_ble_eq_true rfl) ?_
  have hF : ∀ a : Nat, a < b → h0 a = h0 a := fun _ _ => rfl
  refine aw_aload_n dX5_init_0 rfl ?_
  refine aw_objInit dX5_init_1 oiX5_5 oi_1 oi_2 (Nat.le_of_ble_eq_true rfl) ?_
  refine aw_aload_n dX5_init_4 rfl ?_
  refine aw_bipush (v := 112) dX5_init_5 (by decide) ?_
  refine aw_newI1 (N := 112) (n1 := b + 2) (bc' := 0) (bs' := 0) dX5_init_7 rfl (by decide) (by decide) (by decide) rfl (fun h f1 ho => ?_)
  have f0 := (ho b (by omega)).trans f0
  have hF : ∀ a : Nat, a < b → h a = h0 a := fun a ha => (ho a (by omega)).trans (hF a ha)
  refine aw_putF1 dX5_init_9 fpX5_11 rfl f0 (Nat.le_of_ble_eq_true rfl) rfl rfl (fun h f0 ho => ?_)
  have f0 : h b = some (aO 5 [.ref (b + 1), .int 0]) := f0
  have f1 := (ho (b + 1) (by omega)).trans f1
  have hF : ∀ a : Nat, a < b → h a = h0 a := fun a ha => (ho a (by omega)).trans (hF a ha)
  exact aw_vret dX5_init_12 rfl (⟨rfl, rfl, (fun j hj => by
    match j, hj with
      | 0, _ => exact f0
      | 1, _ => exact f1
      | j + 2, hj => exact absurd hj (by omega)
    ), hF⟩)
set_option maxHeartbeats 2000000 in
set_option maxRecDepth 100000 in
theorem tX7_init {l : Launch} {E : aw_E} {d b : Nat} {h0 : ah} (f0 : h0 b = some (aO 7 [.null, .int 0, .int 0, .int 0, .int 0, .int 0, .int 0])) : am l E mX7_init (d + 1) 1 150 [.ref b] (b + 1) h0 (mk_post h0 b 2 (fun h' => is_rd h' b R00)) := by
  refine am_of (by decide +kernel) (Nat.le_of_ble_eq_true rfl) ?_
  have hF : ∀ a : Nat, a < b → h0 a = h0 a := fun _ _ => rfl
  refine aw_aload_n dX7_init_0 rfl ?_
  refine aw_objInit dX7_init_1 oiX7_3 oi_1 oi_2 (Nat.le_of_ble_eq_true rfl) ?_
  refine aw_aload_n dX7_init_4 rfl ?_
  refine aw_sipush (v := 150) dX7_init_5 (by decide) ?_
  refine aw_newI1 (N := 150) (n1 := b + 2) (bc' := 0) (bs' := 0) dX7_init_8 rfl (by decide) (by decide) (by decide) rfl (fun h f1 ho => ?_)
  have f0 := (ho b (by omega)).trans f0
  have hF : ∀ a : Nat, a < b → h a = h0 a := fun a ha => (ho a (by omega)).trans (hF a ha)
  refine aw_putF1 dX7_init_10 fpX7_9 rfl f0 (Nat.le_of_ble_eq_true rfl) rfl rfl (fun h f0 ho => ?_)
  have f0 : h b = some (aO 7 [.ref (b + 1), .int 0, .int 0, .int 0, .int 0, .int 0, .int 0]) := f0
  have f1 := (ho (b + 1) (by omega)).trans f1
  have hF : ∀ a : Nat, a < b → h a = h0 a := fun a ha => (ho a (by omega)).trans (hF a ha)
  refine aw_aload_n dX7_init_13 rfl ?_
  refine aw_iconst (v := -1) dX7_init_14 (by decide) ?_
  refine aw_put1 dX7_init_15 fpX7_15 f0 (Nat.le_of_ble_eq_true rfl) rfl rfl (fun h f0 ho => ?_)
  have f0 : h b = some (aO 7 [.ref (b + 1), .int 0, .int 0, .int 0, .int 0, .int 0, .int (-1)]) := f0
  have f1 := (ho (b + 1) (by omega)).trans f1
  have hF : ∀ a : Nat, a < b → h a = h0 a := fun a ha => (ho a (by omega)).trans (hF a ha)
  exact aw_vret dX7_init_18 rfl (⟨rfl, rfl, (fun j hj => by
    match j, hj with
      | 0, _ => exact f0
      | 1, _ => exact f1
      | j + 2, hj => exact absurd hj (by omega)
    ), hF⟩)
set_option maxHeartbeats 2000000 in
set_option maxRecDepth 100000 in
theorem tX10_init {l : Launch} {E : aw_E} {d b : Nat} {h0 : ah} (f0 : h0 b = some (aO 10 [.null, .null, .null, .null])) : am l E mX10_init (d + 1) 4 112 [.ref b] (b + 1) h0 (mk_post h0 b 5 (fun h' => is_wy h' b T00)) := by
  refine am_of (by decide +kernel) (Nat.le_of_ble_eq_true rfl) ?_
  have hF : ∀ a : Nat, a < b → h0 a = h0 a := fun _ _ => rfl
  refine aw_aload_n dX10_init_0 rfl ?_
  refine aw_objInit dX10_init_1 oiX10_3 oi_1 oi_2 (Nat.le_of_ble_eq_true rfl) ?_
  refine aw_aload_n dX10_init_4 rfl ?_
  refine aw_bipush (v := 6) dX10_init_5 (by decide) ?_
  refine aw_newI1 (N := 6) (n1 := b + 2) (bc' := 3) (bs' := 106) dX10_init_7 rfl (by decide) (by decide) (by decide) rfl (fun h f1 ho => ?_)
  have f0 := (ho b (by omega)).trans f0
  have hF : ∀ a : Nat, a < b → h a = h0 a := fun a ha => (ho a (by omega)).trans (hF a ha)
  refine aw_putF1 dX10_init_9 fpX10_9 rfl f0 (Nat.le_of_ble_eq_true rfl) rfl rfl (fun h f0 ho => ?_)
  have f0 : h b = some (aO 10 [.ref (b + 1), .null, .null, .null]) := f0
  have f1 := (ho (b + 1) (by omega)).trans f1
  have hF : ∀ a : Nat, a < b → h a = h0 a := fun a ha => (ho a (by omega)).trans (hF a ha)
  refine aw_aload_n dX10_init_12 rfl ?_
  refine aw_bipush (v := 6) dX10_init_13 (by decide) ?_
  refine aw_newI1 (N := 6) (n1 := b + 3) (bc' := 2) (bs' := 100) dX10_init_15 rfl (by decide) (by decide) (by decide) rfl (fun h f2 ho => ?_)
  have f0 := (ho b (by omega)).trans f0
  have f1 := (ho (b + 1) (by omega)).trans f1
  have hF : ∀ a : Nat, a < b → h a = h0 a := fun a ha => (ho a (by omega)).trans (hF a ha)
  refine aw_putF1 dX10_init_17 fpX10_15 rfl f0 (Nat.le_of_ble_eq_true rfl) rfl rfl (fun h f0 ho => ?_)
  have f0 : h b = some (aO 10 [.ref (b + 1), .ref (b + 2), .null, .null]) := f0
  have f1 := (ho (b + 1) (by omega)).trans f1
  have f2 := (ho (b + 2) (by omega)).trans f2
  have hF : ∀ a : Nat, a < b → h a = h0 a := fun a ha => (ho a (by omega)).trans (hF a ha)
  refine aw_aload_n dX10_init_20 rfl ?_
  refine aw_bipush (v := 64) dX10_init_21 (by decide) ?_
  refine aw_newI1 (N := 64) (n1 := b + 4) (bc' := 1) (bs' := 36) dX10_init_23 rfl (by decide) (by decide) (by decide) rfl (fun h f3 ho => ?_)
  have f0 := (ho b (by omega)).trans f0
  have f1 := (ho (b + 1) (by omega)).trans f1
  have f2 := (ho (b + 2) (by omega)).trans f2
  have hF : ∀ a : Nat, a < b → h a = h0 a := fun a ha => (ho a (by omega)).trans (hF a ha)
  refine aw_putF1 dX10_init_25 fpX10_18 rfl f0 (Nat.le_of_ble_eq_true rfl) rfl rfl (fun h f0 ho => ?_)
  have f0 : h b = some (aO 10 [.ref (b + 1), .ref (b + 2), .ref (b + 3), .null]) := f0
  have f1 := (ho (b + 1) (by omega)).trans f1
  have f2 := (ho (b + 2) (by omega)).trans f2
  have f3 := (ho (b + 3) (by omega)).trans f3
  have hF : ∀ a : Nat, a < b → h a = h0 a := fun a ha => (ho a (by omega)).trans (hF a ha)
  refine aw_aload_n dX10_init_28 rfl ?_
  refine aw_bipush (v := 36) dX10_init_29 (by decide) ?_
  refine aw_newI1 (N := 36) (n1 := b + 5) (bc' := 0) (bs' := 0) dX10_init_31 rfl (by decide) (by decide) (by decide) rfl (fun h f4 ho => ?_)
  have f0 := (ho b (by omega)).trans f0
  have f1 := (ho (b + 1) (by omega)).trans f1
  have f2 := (ho (b + 2) (by omega)).trans f2
  have f3 := (ho (b + 3) (by omega)).trans f3
  have hF : ∀ a : Nat, a < b → h a = h0 a := fun a ha => (ho a (by omega)).trans (hF a ha)
  refine aw_putF1 dX10_init_33 fpX10_21 rfl f0 (Nat.le_of_ble_eq_true rfl) rfl rfl (fun h f0 ho => ?_)
  have f0 : h b = some (aO 10 [.ref (b + 1), .ref (b + 2), .ref (b + 3), .ref (b + 4)]) := f0
  have f1 := (ho (b + 1) (by omega)).trans f1
  have f2 := (ho (b + 2) (by omega)).trans f2
  have f3 := (ho (b + 3) (by omega)).trans f3
  have f4 := (ho (b + 4) (by omega)).trans f4
  have hF : ∀ a : Nat, a < b → h a = h0 a := fun a ha => (ho a (by omega)).trans (hF a ha)
  exact aw_vret dX10_init_36 rfl (⟨rfl, rfl, (fun j hj => by
    match j, hj with
      | 0, _ => exact f0
      | 1, _ => exact f1
      | 2, _ => exact f2
      | 3, _ => exact f3
      | 4, _ => exact f4
      | j + 5, hj => exact absurd hj (by omega)
    ), hF⟩)
set_option maxHeartbeats 2000000 in
set_option maxRecDepth 100000 in
theorem tX9_init {l : Launch} {E : aw_E} {d b : Nat} {h0 : ah} {base : Nat} {adK adV : Nat → Nat} {fm : Value} {sb sL : Nat} {xs : Nat → Int32} (hG : E.2.2.2 = gV base adK adV fm sb sL xs) (f0 : h0 b = some (aO 9 [.null, .null, .null, .null, .null, .null, .null, .null, .null, .int 0, .int 0, .int 0])) : am l E mX9_init (d + 4) 19 179 [.ref b] (b + 1) h0 (mk_post h0 b 20 (fun h' => is_tr h' b T00)) := by
  refine am_of (by decide +kernel) (Nat.le_of_ble_eq_true rfl) ?_
  have hF : ∀ a : Nat, a < b → h0 a = h0 a := fun _ _ => rfl
  refine aw_aload_n dX9_init_0 rfl ?_
  refine aw_objInit dX9_init_1 oiX9_3 oi_1 oi_2 (Nat.le_of_ble_eq_true rfl) ?_
  refine aw_aload_n dX9_init_4 rfl ?_
  refine aw_new1 (n1 := b + 2) (bc' := 18) (bs' := 179) dX9_init_5 nwX9_9 (by decide) (by decide) rfl (fun h f1 ho => ?_)
  have f0 := (ho b (by omega)).trans f0
  have hF : ∀ a : Nat, a < b → h a = h0 a := fun a ha => (ho a (by omega)).trans (hF a ha)
  refine aw_dup dX9_init_8 rfl ?_
  refine aw_callI0 (mc' := 0) (ms' := 0) (bc' := 18) (bs' := 179) dX9_init_9 cmX6_init ciX9_11 (Nat.le_of_ble_eq_true rfl) tX6_init (by decide) (by decide) (fun r n' h' hq => ?_)
  obtain ⟨rfl, rfl, rfl⟩ := hq
  refine aw_putF1 dX9_init_12 fpX9_12 rfl f0 (Nat.le_of_ble_eq_true rfl) rfl rfl (fun h f0 ho => ?_)
  have f0 : h b = some (aO 9 [.ref (b + 1), .null, .null, .null, .null, .null, .null, .null, .null, .int 0, .int 0, .int 0]) := f0
  have f1 := (ho (b + 1) (by omega)).trans f1
  have hF : ∀ a : Nat, a < b → h a = h0 a := fun a ha => (ho a (by omega)).trans (hF a ha)
  refine aw_aload_n dX9_init_15 rfl ?_
  refine aw_bipush (v := 6) dX9_init_16 (by decide) ?_
  refine aw_newR1 (t := 1) (N := 6) (n1 := b + 3) (bc' := 17) (bs' := 173) dX9_init_18 (Or.inl rfl) rfl clX9_9 (ao_pl hG) rfl (by decide) (by decide) (by decide) rfl (fun h f2 ho => ?_)
  have f0 := (ho b (by omega)).trans f0
  have f1 := (ho (b + 1) (by omega)).trans f1
  have hF : ∀ a : Nat, a < b → h a = h0 a := fun a ha => (ho a (by omega)).trans (hF a ha)
  refine aw_dup dX9_init_21 rfl ?_
  refine aw_iconst (v := 0) dX9_init_22 (by decide) ?_
  refine aw_aload_n dX9_init_23 rfl ?_
  refine aw_get dX9_init_24 flX9_12 f0 rfl ?_
  refine aw_aast1 (j := 0) dX9_init_27 f2 rfl (by decide) (by decide) f1 ok_pl (fun h f2 ho => ?_)
  have f0 := (ho b (by omega)).trans f0
  have f1 := (ho (b + 1) (by omega)).trans f1
  have hF : ∀ a : Nat, a < b → h a = h0 a := fun a ha => (ho a (by omega)).trans (hF a ha)
  refine aw_dup dX9_init_28 rfl ?_
  refine aw_iconst (v := 1) dX9_init_29 (by decide) ?_
  refine aw_new1 (n1 := b + 4) (bc' := 16) (bs' := 173) dX9_init_30 nwX9_18 (by decide) (by decide) rfl (fun h f3 ho => ?_)
  have f0 := (ho b (by omega)).trans f0
  have f1 := (ho (b + 1) (by omega)).trans f1
  have f2 := (ho (b + 2) (by omega)).trans f2
  have hF : ∀ a : Nat, a < b → h a = h0 a := fun a ha => (ho a (by omega)).trans (hF a ha)
  refine aw_dup dX9_init_33 rfl ?_
  refine aw_callI0 (mc' := 0) (ms' := 0) (bc' := 16) (bs' := 173) dX9_init_34 cmX1_init ciX9_20 (Nat.le_of_ble_eq_true rfl) tX1_init (by decide) (by decide) (fun r n' h' hq => ?_)
  obtain ⟨rfl, rfl, rfl⟩ := hq
  refine aw_aast1 (j := 1) dX9_init_37 f2 rfl (by decide) (by decide) f3 (ok_sub hG (ci := 1) rfl (by decide)) (fun h f2 ho => ?_)
  have f0 := (ho b (by omega)).trans f0
  have f1 := (ho (b + 1) (by omega)).trans f1
  have f3 := (ho (b + 3) (by omega)).trans f3
  have hF : ∀ a : Nat, a < b → h a = h0 a := fun a ha => (ho a (by omega)).trans (hF a ha)
  refine aw_dup dX9_init_38 rfl ?_
  refine aw_iconst (v := 2) dX9_init_39 (by decide) ?_
  refine aw_new1 (n1 := b + 5) (bc' := 15) (bs' := 173) dX9_init_40 nwX9_21 (by decide) (by decide) rfl (fun h f4 ho => ?_)
  have f0 := (ho b (by omega)).trans f0
  have f1 := (ho (b + 1) (by omega)).trans f1
  have f2 := (ho (b + 2) (by omega)).trans f2
  have f3 := (ho (b + 3) (by omega)).trans f3
  have hF : ∀ a : Nat, a < b → h a = h0 a := fun a ha => (ho a (by omega)).trans (hF a ha)
  refine aw_dup dX9_init_43 rfl ?_
  refine aw_callI0 (mc' := 0) (ms' := 0) (bc' := 15) (bs' := 173) dX9_init_44 cmX2_init ciX9_23 (Nat.le_of_ble_eq_true rfl) tX2_init (by decide) (by decide) (fun r n' h' hq => ?_)
  obtain ⟨rfl, rfl, rfl⟩ := hq
  refine aw_aast1 (j := 2) dX9_init_47 f2 rfl (by decide) (by decide) f4 (ok_sub hG (ci := 2) rfl (by decide)) (fun h f2 ho => ?_)
  have f0 := (ho b (by omega)).trans f0
  have f1 := (ho (b + 1) (by omega)).trans f1
  have f3 := (ho (b + 3) (by omega)).trans f3
  have f4 := (ho (b + 4) (by omega)).trans f4
  have hF : ∀ a : Nat, a < b → h a = h0 a := fun a ha => (ho a (by omega)).trans (hF a ha)
  refine aw_dup dX9_init_48 rfl ?_
  refine aw_iconst (v := 3) dX9_init_49 (by decide) ?_
  refine aw_new1 (n1 := b + 6) (bc' := 14) (bs' := 173) dX9_init_50 nwX9_24 (by decide) (by decide) rfl (fun h f5 ho => ?_)
  have f0 := (ho b (by omega)).trans f0
  have f1 := (ho (b + 1) (by omega)).trans f1
  have f2 := (ho (b + 2) (by omega)).trans f2
  have f3 := (ho (b + 3) (by omega)).trans f3
  have f4 := (ho (b + 4) (by omega)).trans f4
  have hF : ∀ a : Nat, a < b → h a = h0 a := fun a ha => (ho a (by omega)).trans (hF a ha)
  refine aw_dup dX9_init_53 rfl ?_
  refine aw_callI0 (mc' := 0) (ms' := 0) (bc' := 14) (bs' := 173) dX9_init_54 cmX8_init ciX9_26 (Nat.le_of_ble_eq_true rfl) tX8_init (by decide) (by decide) (fun r n' h' hq => ?_)
  obtain ⟨rfl, rfl, rfl⟩ := hq
  refine aw_aast1 (j := 3) dX9_init_57 f2 rfl (by decide) (by decide) f5 (ok_sub hG (ci := 8) rfl (by decide)) (fun h f2 ho => ?_)
  have f0 := (ho b (by omega)).trans f0
  have f1 := (ho (b + 1) (by omega)).trans f1
  have f3 := (ho (b + 3) (by omega)).trans f3
  have f4 := (ho (b + 4) (by omega)).trans f4
  have f5 := (ho (b + 5) (by omega)).trans f5
  have hF : ∀ a : Nat, a < b → h a = h0 a := fun a ha => (ho a (by omega)).trans (hF a ha)
  refine aw_dup dX9_init_58 rfl ?_
  refine aw_iconst (v := 4) dX9_init_59 (by decide) ?_
  refine aw_new1 (n1 := b + 7) (bc' := 13) (bs' := 173) dX9_init_60 nwX9_27 (by decide) (by decide) rfl (fun h f6 ho => ?_)
  have f0 := (ho b (by omega)).trans f0
  have f1 := (ho (b + 1) (by omega)).trans f1
  have f2 := (ho (b + 2) (by omega)).trans f2
  have f3 := (ho (b + 3) (by omega)).trans f3
  have f4 := (ho (b + 4) (by omega)).trans f4
  have f5 := (ho (b + 5) (by omega)).trans f5
  have hF : ∀ a : Nat, a < b → h a = h0 a := fun a ha => (ho a (by omega)).trans (hF a ha)
  refine aw_dup dX9_init_63 rfl ?_
  refine aw_callI0 (mc' := 0) (ms' := 0) (bc' := 13) (bs' := 173) dX9_init_64 cmX3_init ciX9_29 (Nat.le_of_ble_eq_true rfl) tX3_init (by decide) (by decide) (fun r n' h' hq => ?_)
  obtain ⟨rfl, rfl, rfl⟩ := hq
  refine aw_aast1 (j := 4) dX9_init_67 f2 rfl (by decide) (by decide) f6 (ok_sub hG (ci := 3) rfl (by decide)) (fun h f2 ho => ?_)
  have f0 := (ho b (by omega)).trans f0
  have f1 := (ho (b + 1) (by omega)).trans f1
  have f3 := (ho (b + 3) (by omega)).trans f3
  have f4 := (ho (b + 4) (by omega)).trans f4
  have f5 := (ho (b + 5) (by omega)).trans f5
  have f6 := (ho (b + 6) (by omega)).trans f6
  have hF : ∀ a : Nat, a < b → h a = h0 a := fun a ha => (ho a (by omega)).trans (hF a ha)
  refine aw_dup dX9_init_68 rfl ?_
  refine aw_iconst (v := 5) dX9_init_69 (by decide) ?_
  refine aw_new1 (n1 := b + 8) (bc' := 12) (bs' := 173) dX9_init_70 nwX9_30 (by decide) (by decide) rfl (fun h f7 ho => ?_)
  have f0 := (ho b (by omega)).trans f0
  have f1 := (ho (b + 1) (by omega)).trans f1
  have f2 := (ho (b + 2) (by omega)).trans f2
  have f3 := (ho (b + 3) (by omega)).trans f3
  have f4 := (ho (b + 4) (by omega)).trans f4
  have f5 := (ho (b + 5) (by omega)).trans f5
  have f6 := (ho (b + 6) (by omega)).trans f6
  have hF : ∀ a : Nat, a < b → h a = h0 a := fun a ha => (ho a (by omega)).trans (hF a ha)
  refine aw_dup dX9_init_73 rfl ?_
  refine aw_callI0 (mc' := 0) (ms' := 0) (bc' := 12) (bs' := 173) dX9_init_74 cmX0_init ciX9_32 (Nat.le_of_ble_eq_true rfl) tX0_init (by decide) (by decide) (fun r n' h' hq => ?_)
  obtain ⟨rfl, rfl, rfl⟩ := hq
  refine aw_aast1 (j := 5) dX9_init_77 f2 rfl (by decide) (by decide) f7 (ok_sub hG (ci := 0) rfl (by decide)) (fun h f2 ho => ?_)
  have f0 := (ho b (by omega)).trans f0
  have f1 := (ho (b + 1) (by omega)).trans f1
  have f3 := (ho (b + 3) (by omega)).trans f3
  have f4 := (ho (b + 4) (by omega)).trans f4
  have f5 := (ho (b + 5) (by omega)).trans f5
  have f6 := (ho (b + 6) (by omega)).trans f6
  have f7 := (ho (b + 7) (by omega)).trans f7
  have hF : ∀ a : Nat, a < b → h a = h0 a := fun a ha => (ho a (by omega)).trans (hF a ha)
  refine aw_putF1 dX9_init_78 fpX9_33 rfl f0 (Nat.le_of_ble_eq_true rfl) rfl rfl (fun h f0 ho => ?_)
  have f0 : h b = some (aO 9 [.ref (b + 1), .ref (b + 2), .null, .null, .null, .null, .null, .null, .null, .int 0, .int 0, .int 0]) := f0
  have f1 := (ho (b + 1) (by omega)).trans f1
  have f2 := (ho (b + 2) (by omega)).trans f2
  have f3 := (ho (b + 3) (by omega)).trans f3
  have f4 := (ho (b + 4) (by omega)).trans f4
  have f5 := (ho (b + 5) (by omega)).trans f5
  have f6 := (ho (b + 6) (by omega)).trans f6
  have f7 := (ho (b + 7) (by omega)).trans f7
  have hF : ∀ a : Nat, a < b → h a = h0 a := fun a ha => (ho a (by omega)).trans (hF a ha)
  refine aw_aload_n dX9_init_81 rfl ?_
  refine aw_bipush (v := 6) dX9_init_82 (by decide) ?_
  refine aw_newI1 (N := 6) (n1 := b + 9) (bc' := 11) (bs' := 167) dX9_init_84 rfl (by decide) (by decide) (by decide) rfl (fun h f8 ho => ?_)
  have f0 := (ho b (by omega)).trans f0
  have f1 := (ho (b + 1) (by omega)).trans f1
  have f2 := (ho (b + 2) (by omega)).trans f2
  have f3 := (ho (b + 3) (by omega)).trans f3
  have f4 := (ho (b + 4) (by omega)).trans f4
  have f5 := (ho (b + 5) (by omega)).trans f5
  have f6 := (ho (b + 6) (by omega)).trans f6
  have f7 := (ho (b + 7) (by omega)).trans f7
  have hF : ∀ a : Nat, a < b → h a = h0 a := fun a ha => (ho a (by omega)).trans (hF a ha)
  refine aw_putF1 dX9_init_86 fpX9_37 rfl f0 (Nat.le_of_ble_eq_true rfl) rfl rfl (fun h f0 ho => ?_)
  have f0 : h b = some (aO 9 [.ref (b + 1), .ref (b + 2), .ref (b + 8), .null, .null, .null, .null, .null, .null, .int 0, .int 0, .int 0]) := f0
  have f1 := (ho (b + 1) (by omega)).trans f1
  have f2 := (ho (b + 2) (by omega)).trans f2
  have f3 := (ho (b + 3) (by omega)).trans f3
  have f4 := (ho (b + 4) (by omega)).trans f4
  have f5 := (ho (b + 5) (by omega)).trans f5
  have f6 := (ho (b + 6) (by omega)).trans f6
  have f7 := (ho (b + 7) (by omega)).trans f7
  have f8 := (ho (b + 8) (by omega)).trans f8
  have hF : ∀ a : Nat, a < b → h a = h0 a := fun a ha => (ho a (by omega)).trans (hF a ha)
  refine aw_aload_n dX9_init_89 rfl ?_
  refine aw_bipush (v := 6) dX9_init_90 (by decide) ?_
  refine aw_newI1 (N := 6) (n1 := b + 10) (bc' := 10) (bs' := 161) dX9_init_92 rfl (by decide) (by decide) (by decide) rfl (fun h f9 ho => ?_)
  have f0 := (ho b (by omega)).trans f0
  have f1 := (ho (b + 1) (by omega)).trans f1
  have f2 := (ho (b + 2) (by omega)).trans f2
  have f3 := (ho (b + 3) (by omega)).trans f3
  have f4 := (ho (b + 4) (by omega)).trans f4
  have f5 := (ho (b + 5) (by omega)).trans f5
  have f6 := (ho (b + 6) (by omega)).trans f6
  have f7 := (ho (b + 7) (by omega)).trans f7
  have f8 := (ho (b + 8) (by omega)).trans f8
  have hF : ∀ a : Nat, a < b → h a = h0 a := fun a ha => (ho a (by omega)).trans (hF a ha)
  refine aw_putF1 dX9_init_94 fpX9_41 rfl f0 (Nat.le_of_ble_eq_true rfl) rfl rfl (fun h f0 ho => ?_)
  have f0 : h b = some (aO 9 [.ref (b + 1), .ref (b + 2), .ref (b + 8), .ref (b + 9), .null, .null, .null, .null, .null, .int 0, .int 0, .int 0]) := f0
  have f1 := (ho (b + 1) (by omega)).trans f1
  have f2 := (ho (b + 2) (by omega)).trans f2
  have f3 := (ho (b + 3) (by omega)).trans f3
  have f4 := (ho (b + 4) (by omega)).trans f4
  have f5 := (ho (b + 5) (by omega)).trans f5
  have f6 := (ho (b + 6) (by omega)).trans f6
  have f7 := (ho (b + 7) (by omega)).trans f7
  have f8 := (ho (b + 8) (by omega)).trans f8
  have f9 := (ho (b + 9) (by omega)).trans f9
  have hF : ∀ a : Nat, a < b → h a = h0 a := fun a ha => (ho a (by omega)).trans (hF a ha)
  refine aw_aload_n dX9_init_97 rfl ?_
  refine aw_bipush (v := 6) dX9_init_98 (by decide) ?_
  refine aw_newI1 (N := 6) (n1 := b + 11) (bc' := 9) (bs' := 155) dX9_init_100 rfl (by decide) (by decide) (by decide) rfl (fun h f10 ho => ?_)
  have f0 := (ho b (by omega)).trans f0
  have f1 := (ho (b + 1) (by omega)).trans f1
  have f2 := (ho (b + 2) (by omega)).trans f2
  have f3 := (ho (b + 3) (by omega)).trans f3
  have f4 := (ho (b + 4) (by omega)).trans f4
  have f5 := (ho (b + 5) (by omega)).trans f5
  have f6 := (ho (b + 6) (by omega)).trans f6
  have f7 := (ho (b + 7) (by omega)).trans f7
  have f8 := (ho (b + 8) (by omega)).trans f8
  have f9 := (ho (b + 9) (by omega)).trans f9
  have hF : ∀ a : Nat, a < b → h a = h0 a := fun a ha => (ho a (by omega)).trans (hF a ha)
  refine aw_putF1 dX9_init_102 fpX9_44 rfl f0 (Nat.le_of_ble_eq_true rfl) rfl rfl (fun h f0 ho => ?_)
  have f0 : h b = some (aO 9 [.ref (b + 1), .ref (b + 2), .ref (b + 8), .ref (b + 9), .ref (b + 10), .null, .null, .null, .null, .int 0, .int 0, .int 0]) := f0
  have f1 := (ho (b + 1) (by omega)).trans f1
  have f2 := (ho (b + 2) (by omega)).trans f2
  have f3 := (ho (b + 3) (by omega)).trans f3
  have f4 := (ho (b + 4) (by omega)).trans f4
  have f5 := (ho (b + 5) (by omega)).trans f5
  have f6 := (ho (b + 6) (by omega)).trans f6
  have f7 := (ho (b + 7) (by omega)).trans f7
  have f8 := (ho (b + 8) (by omega)).trans f8
  have f9 := (ho (b + 9) (by omega)).trans f9
  have f10 := (ho (b + 10) (by omega)).trans f10
  have hF : ∀ a : Nat, a < b → h a = h0 a := fun a ha => (ho a (by omega)).trans (hF a ha)
  refine aw_aload_n dX9_init_105 rfl ?_
  refine aw_bipush (v := 6) dX9_init_106 (by decide) ?_
  refine aw_newI1 (N := 6) (n1 := b + 12) (bc' := 8) (bs' := 149) dX9_init_108 rfl (by decide) (by decide) (by decide) rfl (fun h f11 ho => ?_)
  have f0 := (ho b (by omega)).trans f0
  have f1 := (ho (b + 1) (by omega)).trans f1
  have f2 := (ho (b + 2) (by omega)).trans f2
  have f3 := (ho (b + 3) (by omega)).trans f3
  have f4 := (ho (b + 4) (by omega)).trans f4
  have f5 := (ho (b + 5) (by omega)).trans f5
  have f6 := (ho (b + 6) (by omega)).trans f6
  have f7 := (ho (b + 7) (by omega)).trans f7
  have f8 := (ho (b + 8) (by omega)).trans f8
  have f9 := (ho (b + 9) (by omega)).trans f9
  have f10 := (ho (b + 10) (by omega)).trans f10
  have hF : ∀ a : Nat, a < b → h a = h0 a := fun a ha => (ho a (by omega)).trans (hF a ha)
  refine aw_putF1 dX9_init_110 fpX9_47 rfl f0 (Nat.le_of_ble_eq_true rfl) rfl rfl (fun h f0 ho => ?_)
  have f0 : h b = some (aO 9 [.ref (b + 1), .ref (b + 2), .ref (b + 8), .ref (b + 9), .ref (b + 10), .ref (b + 11), .null, .null, .null, .int 0, .int 0, .int 0]) := f0
  have f1 := (ho (b + 1) (by omega)).trans f1
  have f2 := (ho (b + 2) (by omega)).trans f2
  have f3 := (ho (b + 3) (by omega)).trans f3
  have f4 := (ho (b + 4) (by omega)).trans f4
  have f5 := (ho (b + 5) (by omega)).trans f5
  have f6 := (ho (b + 6) (by omega)).trans f6
  have f7 := (ho (b + 7) (by omega)).trans f7
  have f8 := (ho (b + 8) (by omega)).trans f8
  have f9 := (ho (b + 9) (by omega)).trans f9
  have f10 := (ho (b + 10) (by omega)).trans f10
  have f11 := (ho (b + 11) (by omega)).trans f11
  have hF : ∀ a : Nat, a < b → h a = h0 a := fun a ha => (ho a (by omega)).trans (hF a ha)
  refine aw_aload_n dX9_init_113 rfl ?_
  refine aw_bipush (v := 6) dX9_init_114 (by decide) ?_
  refine aw_newI1 (N := 6) (n1 := b + 13) (bc' := 7) (bs' := 143) dX9_init_116 rfl (by decide) (by decide) (by decide) rfl (fun h f12 ho => ?_)
  have f0 := (ho b (by omega)).trans f0
  have f1 := (ho (b + 1) (by omega)).trans f1
  have f2 := (ho (b + 2) (by omega)).trans f2
  have f3 := (ho (b + 3) (by omega)).trans f3
  have f4 := (ho (b + 4) (by omega)).trans f4
  have f5 := (ho (b + 5) (by omega)).trans f5
  have f6 := (ho (b + 6) (by omega)).trans f6
  have f7 := (ho (b + 7) (by omega)).trans f7
  have f8 := (ho (b + 8) (by omega)).trans f8
  have f9 := (ho (b + 9) (by omega)).trans f9
  have f10 := (ho (b + 10) (by omega)).trans f10
  have f11 := (ho (b + 11) (by omega)).trans f11
  have hF : ∀ a : Nat, a < b → h a = h0 a := fun a ha => (ho a (by omega)).trans (hF a ha)
  refine aw_putF1 dX9_init_118 fpX9_50 rfl f0 (Nat.le_of_ble_eq_true rfl) rfl rfl (fun h f0 ho => ?_)
  have f0 : h b = some (aO 9 [.ref (b + 1), .ref (b + 2), .ref (b + 8), .ref (b + 9), .ref (b + 10), .ref (b + 11), .ref (b + 12), .null, .null, .int 0, .int 0, .int 0]) := f0
  have f1 := (ho (b + 1) (by omega)).trans f1
  have f2 := (ho (b + 2) (by omega)).trans f2
  have f3 := (ho (b + 3) (by omega)).trans f3
  have f4 := (ho (b + 4) (by omega)).trans f4
  have f5 := (ho (b + 5) (by omega)).trans f5
  have f6 := (ho (b + 6) (by omega)).trans f6
  have f7 := (ho (b + 7) (by omega)).trans f7
  have f8 := (ho (b + 8) (by omega)).trans f8
  have f9 := (ho (b + 9) (by omega)).trans f9
  have f10 := (ho (b + 10) (by omega)).trans f10
  have f11 := (ho (b + 11) (by omega)).trans f11
  have f12 := (ho (b + 12) (by omega)).trans f12
  have hF : ∀ a : Nat, a < b → h a = h0 a := fun a ha => (ho a (by omega)).trans (hF a ha)
  refine aw_aload_n dX9_init_121 rfl ?_
  refine aw_new1 (n1 := b + 14) (bc' := 6) (bs' := 138) dX9_init_122 nwX9_53 (by decide) (by decide) rfl (fun h f13 ho => ?_)
  have f0 := (ho b (by omega)).trans f0
  have f1 := (ho (b + 1) (by omega)).trans f1
  have f2 := (ho (b + 2) (by omega)).trans f2
  have f3 := (ho (b + 3) (by omega)).trans f3
  have f4 := (ho (b + 4) (by omega)).trans f4
  have f5 := (ho (b + 5) (by omega)).trans f5
  have f6 := (ho (b + 6) (by omega)).trans f6
  have f7 := (ho (b + 7) (by omega)).trans f7
  have f8 := (ho (b + 8) (by omega)).trans f8
  have f9 := (ho (b + 9) (by omega)).trans f9
  have f10 := (ho (b + 10) (by omega)).trans f10
  have f11 := (ho (b + 11) (by omega)).trans f11
  have f12 := (ho (b + 12) (by omega)).trans f12
  have hF : ∀ a : Nat, a < b → h a = h0 a := fun a ha => (ho a (by omega)).trans (hF a ha)
  refine aw_dup dX9_init_125 rfl ?_
  refine aw_callI0 (mc' := 4) (ms' := 24) (bc' := 2) (bs' := 114) dX9_init_126 cmX4_init ciX9_55 (Nat.le_of_ble_eq_true rfl) (tX4_init (b := (b + 13)) f13) (by decide) (by decide) (fun r n' h hq => ?_)
  obtain ⟨rfl, rfl, hq, ho⟩ := hq
  have f0 := (ho b (by omega)).trans f0
  have f1 := (ho (b + 1) (by omega)).trans f1
  have f2 := (ho (b + 2) (by omega)).trans f2
  have f3 := (ho (b + 3) (by omega)).trans f3
  have f4 := (ho (b + 4) (by omega)).trans f4
  have f5 := (ho (b + 5) (by omega)).trans f5
  have f6 := (ho (b + 6) (by omega)).trans f6
  have f7 := (ho (b + 7) (by omega)).trans f7
  have f8 := (ho (b + 8) (by omega)).trans f8
  have f9 := (ho (b + 9) (by omega)).trans f9
  have f10 := (ho (b + 10) (by omega)).trans f10
  have f11 := (ho (b + 11) (by omega)).trans f11
  have f12 := (ho (b + 12) (by omega)).trans f12
  have hF : ∀ a : Nat, a < b → h a = h0 a := fun a ha => (ho a (by omega)).trans (hF a ha)
  have f13 : h (b + 13) = some (aO 4 [.ref (b + 13 + 1), .ref (b + 13 + 2), .ref (b + 13 + 3), .ref (b + 13 + 4), .int 0]) := hq 0 (by decide)
  have f14 : h (b + 14) = some (aI 6 (fun _ => 0)) := hq 1 (by decide)
  have f15 : h (b + 15) = some (aI 6 (fun _ => 0)) := hq 2 (by decide)
  have f16 : h (b + 16) = some (aI 6 (fun _ => 0)) := hq 3 (by decide)
  have f17 : h (b + 17) = some (aI 6 (fun _ => 0)) := hq 4 (by decide)
  refine aw_putF1 dX9_init_129 fpX9_56 rfl f0 (Nat.le_of_ble_eq_true rfl) rfl rfl (fun h f0 ho => ?_)
  have f0 : h b = some (aO 9 [.ref (b + 1), .ref (b + 2), .ref (b + 8), .ref (b + 9), .ref (b + 10), .ref (b + 11), .ref (b + 12), .ref (b + 13), .null, .int 0, .int 0, .int 0]) := f0
  have f1 := (ho (b + 1) (by omega)).trans f1
  have f2 := (ho (b + 2) (by omega)).trans f2
  have f3 := (ho (b + 3) (by omega)).trans f3
  have f4 := (ho (b + 4) (by omega)).trans f4
  have f5 := (ho (b + 5) (by omega)).trans f5
  have f6 := (ho (b + 6) (by omega)).trans f6
  have f7 := (ho (b + 7) (by omega)).trans f7
  have f8 := (ho (b + 8) (by omega)).trans f8
  have f9 := (ho (b + 9) (by omega)).trans f9
  have f10 := (ho (b + 10) (by omega)).trans f10
  have f11 := (ho (b + 11) (by omega)).trans f11
  have f12 := (ho (b + 12) (by omega)).trans f12
  have f13 := (ho (b + 13) (by omega)).trans f13
  have f14 := (ho (b + 14) (by omega)).trans f14
  have f15 := (ho (b + 15) (by omega)).trans f15
  have f16 := (ho (b + 16) (by omega)).trans f16
  have f17 := (ho (b + 17) (by omega)).trans f17
  have hF : ∀ a : Nat, a < b → h a = h0 a := fun a ha => (ho a (by omega)).trans (hF a ha)
  refine aw_aload_n dX9_init_132 rfl ?_
  refine aw_new1 (n1 := b + 19) (bc' := 1) (bs' := 112) dX9_init_133 nwX9_60 (by decide) (by decide) rfl (fun h f18 ho => ?_)
  have f0 := (ho b (by omega)).trans f0
  have f1 := (ho (b + 1) (by omega)).trans f1
  have f2 := (ho (b + 2) (by omega)).trans f2
  have f3 := (ho (b + 3) (by omega)).trans f3
  have f4 := (ho (b + 4) (by omega)).trans f4
  have f5 := (ho (b + 5) (by omega)).trans f5
  have f6 := (ho (b + 6) (by omega)).trans f6
  have f7 := (ho (b + 7) (by omega)).trans f7
  have f8 := (ho (b + 8) (by omega)).trans f8
  have f9 := (ho (b + 9) (by omega)).trans f9
  have f10 := (ho (b + 10) (by omega)).trans f10
  have f11 := (ho (b + 11) (by omega)).trans f11
  have f12 := (ho (b + 12) (by omega)).trans f12
  have f13 := (ho (b + 13) (by omega)).trans f13
  have f14 := (ho (b + 14) (by omega)).trans f14
  have f15 := (ho (b + 15) (by omega)).trans f15
  have f16 := (ho (b + 16) (by omega)).trans f16
  have f17 := (ho (b + 17) (by omega)).trans f17
  have hF : ∀ a : Nat, a < b → h a = h0 a := fun a ha => (ho a (by omega)).trans (hF a ha)
  refine aw_dup dX9_init_136 rfl ?_
  refine aw_callI0 (mc' := 1) (ms' := 112) (bc' := 0) (bs' := 0) dX9_init_137 cmX5_init ciX9_62 (Nat.le_of_ble_eq_true rfl) (tX5_init (b := (b + 18)) f18) (by decide) (by decide) (fun r n' h hq => ?_)
  obtain ⟨rfl, rfl, hq, ho⟩ := hq
  have f0 := (ho b (by omega)).trans f0
  have f1 := (ho (b + 1) (by omega)).trans f1
  have f2 := (ho (b + 2) (by omega)).trans f2
  have f3 := (ho (b + 3) (by omega)).trans f3
  have f4 := (ho (b + 4) (by omega)).trans f4
  have f5 := (ho (b + 5) (by omega)).trans f5
  have f6 := (ho (b + 6) (by omega)).trans f6
  have f7 := (ho (b + 7) (by omega)).trans f7
  have f8 := (ho (b + 8) (by omega)).trans f8
  have f9 := (ho (b + 9) (by omega)).trans f9
  have f10 := (ho (b + 10) (by omega)).trans f10
  have f11 := (ho (b + 11) (by omega)).trans f11
  have f12 := (ho (b + 12) (by omega)).trans f12
  have f13 := (ho (b + 13) (by omega)).trans f13
  have f14 := (ho (b + 14) (by omega)).trans f14
  have f15 := (ho (b + 15) (by omega)).trans f15
  have f16 := (ho (b + 16) (by omega)).trans f16
  have f17 := (ho (b + 17) (by omega)).trans f17
  have hF : ∀ a : Nat, a < b → h a = h0 a := fun a ha => (ho a (by omega)).trans (hF a ha)
  have f18 : h (b + 18) = some (aO 5 [.ref (b + 18 + 1), .int 0]) := hq 0 (by decide)
  have f19 : h (b + 19) = some (aI 112 (fun _ => 0)) := hq 1 (by decide)
  refine aw_putF1 dX9_init_140 fpX9_63 rfl f0 (Nat.le_of_ble_eq_true rfl) rfl rfl (fun h f0 ho => ?_)
  have f0 : h b = some (aO 9 [.ref (b + 1), .ref (b + 2), .ref (b + 8), .ref (b + 9), .ref (b + 10), .ref (b + 11), .ref (b + 12), .ref (b + 13), .ref (b + 18), .int 0, .int 0, .int 0]) := f0
  have f1 := (ho (b + 1) (by omega)).trans f1
  have f2 := (ho (b + 2) (by omega)).trans f2
  have f3 := (ho (b + 3) (by omega)).trans f3
  have f4 := (ho (b + 4) (by omega)).trans f4
  have f5 := (ho (b + 5) (by omega)).trans f5
  have f6 := (ho (b + 6) (by omega)).trans f6
  have f7 := (ho (b + 7) (by omega)).trans f7
  have f8 := (ho (b + 8) (by omega)).trans f8
  have f9 := (ho (b + 9) (by omega)).trans f9
  have f10 := (ho (b + 10) (by omega)).trans f10
  have f11 := (ho (b + 11) (by omega)).trans f11
  have f12 := (ho (b + 12) (by omega)).trans f12
  have f13 := (ho (b + 13) (by omega)).trans f13
  have f14 := (ho (b + 14) (by omega)).trans f14
  have f15 := (ho (b + 15) (by omega)).trans f15
  have f16 := (ho (b + 16) (by omega)).trans f16
  have f17 := (ho (b + 17) (by omega)).trans f17
  have f18 := (ho (b + 18) (by omega)).trans f18
  have f19 := (ho (b + 19) (by omega)).trans f19
  have hF : ∀ a : Nat, a < b → h a = h0 a := fun a ha => (ho a (by omega)).trans (hF a ha)
  exact aw_vret dX9_init_143 rfl (⟨rfl, rfl, (fun j hj => by
    match j, hj with
      | 0, _ => exact f0
      | 1, _ => exact f1
      | 2, _ => exact (f2.trans (congrArg (fun z => some (aR 1 6 z)) (kd_mk b)))
      | 3, _ => exact f3
      | 4, _ => exact f4
      | 5, _ => exact f5
      | 6, _ => exact f6
      | 7, _ => exact f7
      | 8, _ => exact f8
      | 9, _ => exact f9
      | 10, _ => exact f10
      | 11, _ => exact f11
      | 12, _ => exact f12
      | 13, _ => exact f13
      | 14, _ => exact f14
      | 15, _ => exact f15
      | 16, _ => exact f16
      | 17, _ => exact f17
      | 18, _ => exact f18
      | 19, _ => exact f19
      | j + 20, hj => exact absurd hj (by omega)
    ), hF⟩)
set_option maxHeartbeats 2000000 in
set_option maxRecDepth 100000 in
theorem tX12_init {l : Launch} {E : aw_E} {d b : Nat} {h0 : ah} (f0 : h0 b = some (aO 12 [.null, .int 0, .int 0, .int 0, .int 0, .null, .null, .null, .null, .null, .null, .null, .null, .null, .null, .int 0, .int 0, .int 0, .int 0, .null, .int 0, .null, .int 0, .null, .null, .null, .null, .null, .long 0, .long 0, .null, .null, .long 0])) : am l E mX12_init (d + 1) 20 749 [.ref b] (b + 1) h0 (mk_post h0 b 21 (fun h' => is_mo h' b (mBegin T00) L00)) := by
  refine am_of (by decide +kernel) (Nat.le_of_ble_eq_true rfl) ?_
  have hF : ∀ a : Nat, a < b → h0 a = h0 a := fun _ _ => rfl
  refine aw_aload_n dX12_init_0 rfl ?_
  refine aw_objInit dX12_init_1 oiX12_7 oi_1 oi_2 (Nat.le_of_ble_eq_true rfl) ?_
  refine aw_aload_n dX12_init_4 rfl ?_
  refine aw_iconst (v := 3) dX12_init_5 (by decide) ?_
  refine aw_newI1 (N := 3) (n1 := b + 2) (bc' := 19) (bs' := 746) dX12_init_6 rfl (by decide) (by decide) (by decide) rfl (fun h f1 ho => ?_)
  have f0 := (ho b (by omega)).trans f0
  have hF : ∀ a : Nat, a < b → h a = h0 a := fun a ha => (ho a (by omega)).trans (hF a ha)
  refine aw_putF1 dX12_init_8 fpX12_1 rfl f0 (Nat.le_of_ble_eq_true rfl) rfl rfl (fun h f0 ho => ?_)
  have f0 : h b = some (aO 12 [.ref (b + 1), .int 0, .int 0, .int 0, .int 0, .null, .null, .null, .null, .null, .null, .null, .null, .null, .null, .int 0, .int 0, .int 0, .int 0, .null, .int 0, .null, .int 0, .null, .null, .null, .null, .null, .long 0, .long 0, .null, .null, .long 0]) := f0
  have f1 := (ho (b + 1) (by omega)).trans f1
  have hF : ∀ a : Nat, a < b → h a = h0 a := fun a ha => (ho a (by omega)).trans (hF a ha)
  refine aw_aload_n dX12_init_11 rfl ?_
  refine aw_bipush (v := 6) dX12_init_12 (by decide) ?_
  refine aw_newI1 (N := 6) (n1 := b + 3) (bc' := 18) (bs' := 740) dX12_init_14 rfl (by decide) (by decide) (by decide) rfl (fun h f2 ho => ?_)
  have f0 := (ho b (by omega)).trans f0
  have f1 := (ho (b + 1) (by omega)).trans f1
  have hF : ∀ a : Nat, a < b → h a = h0 a := fun a ha => (ho a (by omega)).trans (hF a ha)
  refine aw_putF1 dX12_init_16 fpX12_13 rfl f0 (Nat.le_of_ble_eq_true rfl) rfl rfl (fun h f0 ho => ?_)
  have f0 : h b = some (aO 12 [.ref (b + 1), .int 0, .int 0, .int 0, .int 0, .ref (b + 2), .null, .null, .null, .null, .null, .null, .null, .null, .null, .int 0, .int 0, .int 0, .int 0, .null, .int 0, .null, .int 0, .null, .null, .null, .null, .null, .long 0, .long 0, .null, .null, .long 0]) := f0
  have f1 := (ho (b + 1) (by omega)).trans f1
  have f2 := (ho (b + 2) (by omega)).trans f2
  have hF : ∀ a : Nat, a < b → h a = h0 a := fun a ha => (ho a (by omega)).trans (hF a ha)
  refine aw_aload_n dX12_init_19 rfl ?_
  refine aw_bipush (v := 6) dX12_init_20 (by decide) ?_
  refine aw_newI1 (N := 6) (n1 := b + 4) (bc' := 17) (bs' := 734) dX12_init_22 rfl (by decide) (by decide) (by decide) rfl (fun h f3 ho => ?_)
  have f0 := (ho b (by omega)).trans f0
  have f1 := (ho (b + 1) (by omega)).trans f1
  have f2 := (ho (b + 2) (by omega)).trans f2
  have hF : ∀ a : Nat, a < b → h a = h0 a := fun a ha => (ho a (by omega)).trans (hF a ha)
  refine aw_putF1 dX12_init_24 fpX12_16 rfl f0 (Nat.le_of_ble_eq_true rfl) rfl rfl (fun h f0 ho => ?_)
  have f0 : h b = some (aO 12 [.ref (b + 1), .int 0, .int 0, .int 0, .int 0, .ref (b + 2), .ref (b + 3), .null, .null, .null, .null, .null, .null, .null, .null, .int 0, .int 0, .int 0, .int 0, .null, .int 0, .null, .int 0, .null, .null, .null, .null, .null, .long 0, .long 0, .null, .null, .long 0]) := f0
  have f1 := (ho (b + 1) (by omega)).trans f1
  have f2 := (ho (b + 2) (by omega)).trans f2
  have f3 := (ho (b + 3) (by omega)).trans f3
  have hF : ∀ a : Nat, a < b → h a = h0 a := fun a ha => (ho a (by omega)).trans (hF a ha)
  refine aw_aload_n dX12_init_27 rfl ?_
  refine aw_bipush (v := 6) dX12_init_28 (by decide) ?_
  refine aw_newI1 (N := 6) (n1 := b + 5) (bc' := 16) (bs' := 728) dX12_init_30 rfl (by decide) (by decide) (by decide) rfl (fun h f4 ho => ?_)
  have f0 := (ho b (by omega)).trans f0
  have f1 := (ho (b + 1) (by omega)).trans f1
  have f2 := (ho (b + 2) (by omega)).trans f2
  have f3 := (ho (b + 3) (by omega)).trans f3
  have hF : ∀ a : Nat, a < b → h a = h0 a := fun a ha => (ho a (by omega)).trans (hF a ha)
  refine aw_putF1 dX12_init_32 fpX12_19 rfl f0 (Nat.le_of_ble_eq_true rfl) rfl rfl (fun h f0 ho => ?_)
  have f0 : h b = some (aO 12 [.ref (b + 1), .int 0, .int 0, .int 0, .int 0, .ref (b + 2), .ref (b + 3), .ref (b + 4), .null, .null, .null, .null, .null, .null, .null, .int 0, .int 0, .int 0, .int 0, .null, .int 0, .null, .int 0, .null, .null, .null, .null, .null, .long 0, .long 0, .null, .null, .long 0]) := f0
  have f1 := (ho (b + 1) (by omega)).trans f1
  have f2 := (ho (b + 2) (by omega)).trans f2
  have f3 := (ho (b + 3) (by omega)).trans f3
  have f4 := (ho (b + 4) (by omega)).trans f4
  have hF : ∀ a : Nat, a < b → h a = h0 a := fun a ha => (ho a (by omega)).trans (hF a ha)
  refine aw_aload_n dX12_init_35 rfl ?_
  refine aw_bipush (v := 6) dX12_init_36 (by decide) ?_
  refine aw_newI1 (N := 6) (n1 := b + 6) (bc' := 15) (bs' := 722) dX12_init_38 rfl (by decide) (by decide) (by decide) rfl (fun h f5 ho => ?_)
  have f0 := (ho b (by omega)).trans f0
  have f1 := (ho (b + 1) (by omega)).trans f1
  have f2 := (ho (b + 2) (by omega)).trans f2
  have f3 := (ho (b + 3) (by omega)).trans f3
  have f4 := (ho (b + 4) (by omega)).trans f4
  have hF : ∀ a : Nat, a < b → h a = h0 a := fun a ha => (ho a (by omega)).trans (hF a ha)
  refine aw_putF1 dX12_init_40 fpX12_22 rfl f0 (Nat.le_of_ble_eq_true rfl) rfl rfl (fun h f0 ho => ?_)
  have f0 : h b = some (aO 12 [.ref (b + 1), .int 0, .int 0, .int 0, .int 0, .ref (b + 2), .ref (b + 3), .ref (b + 4), .ref (b + 5), .null, .null, .null, .null, .null, .null, .int 0, .int 0, .int 0, .int 0, .null, .int 0, .null, .int 0, .null, .null, .null, .null, .null, .long 0, .long 0, .null, .null, .long 0]) := f0
  have f1 := (ho (b + 1) (by omega)).trans f1
  have f2 := (ho (b + 2) (by omega)).trans f2
  have f3 := (ho (b + 3) (by omega)).trans f3
  have f4 := (ho (b + 4) (by omega)).trans f4
  have f5 := (ho (b + 5) (by omega)).trans f5
  have hF : ∀ a : Nat, a < b → h a = h0 a := fun a ha => (ho a (by omega)).trans (hF a ha)
  refine aw_aload_n dX12_init_43 rfl ?_
  refine aw_bipush (v := 6) dX12_init_44 (by decide) ?_
  refine aw_newI1 (N := 6) (n1 := b + 7) (bc' := 14) (bs' := 716) dX12_init_46 rfl (by decide) (by decide) (by decide) rfl (fun h f6 ho => ?_)
  have f0 := (ho b (by omega)).trans f0
  have f1 := (ho (b + 1) (by omega)).trans f1
  have f2 := (ho (b + 2) (by omega)).trans f2
  have f3 := (ho (b + 3) (by omega)).trans f3
  have f4 := (ho (b + 4) (by omega)).trans f4
  have f5 := (ho (b + 5) (by omega)).trans f5
  have hF : ∀ a : Nat, a < b → h a = h0 a := fun a ha => (ho a (by omega)).trans (hF a ha)
  refine aw_putF1 dX12_init_48 fpX12_25 rfl f0 (Nat.le_of_ble_eq_true rfl) rfl rfl (fun h f0 ho => ?_)
  have f0 : h b = some (aO 12 [.ref (b + 1), .int 0, .int 0, .int 0, .int 0, .ref (b + 2), .ref (b + 3), .ref (b + 4), .ref (b + 5), .ref (b + 6), .null, .null, .null, .null, .null, .int 0, .int 0, .int 0, .int 0, .null, .int 0, .null, .int 0, .null, .null, .null, .null, .null, .long 0, .long 0, .null, .null, .long 0]) := f0
  have f1 := (ho (b + 1) (by omega)).trans f1
  have f2 := (ho (b + 2) (by omega)).trans f2
  have f3 := (ho (b + 3) (by omega)).trans f3
  have f4 := (ho (b + 4) (by omega)).trans f4
  have f5 := (ho (b + 5) (by omega)).trans f5
  have f6 := (ho (b + 6) (by omega)).trans f6
  have hF : ∀ a : Nat, a < b → h a = h0 a := fun a ha => (ho a (by omega)).trans (hF a ha)
  refine aw_aload_n dX12_init_51 rfl ?_
  refine aw_bipush (v := 6) dX12_init_52 (by decide) ?_
  refine aw_newI1 (N := 6) (n1 := b + 8) (bc' := 13) (bs' := 710) dX12_init_54 rfl (by decide) (by decide) (by decide) rfl (fun h f7 ho => ?_)
  have f0 := (ho b (by omega)).trans f0
  have f1 := (ho (b + 1) (by omega)).trans f1
  have f2 := (ho (b + 2) (by omega)).trans f2
  have f3 := (ho (b + 3) (by omega)).trans f3
  have f4 := (ho (b + 4) (by omega)).trans f4
  have f5 := (ho (b + 5) (by omega)).trans f5
  have f6 := (ho (b + 6) (by omega)).trans f6
  have hF : ∀ a : Nat, a < b → h a = h0 a := fun a ha => (ho a (by omega)).trans (hF a ha)
  refine aw_putF1 dX12_init_56 fpX12_28 rfl f0 (Nat.le_of_ble_eq_true rfl) rfl rfl (fun h f0 ho => ?_)
  have f0 : h b = some (aO 12 [.ref (b + 1), .int 0, .int 0, .int 0, .int 0, .ref (b + 2), .ref (b + 3), .ref (b + 4), .ref (b + 5), .ref (b + 6), .ref (b + 7), .null, .null, .null, .null, .int 0, .int 0, .int 0, .int 0, .null, .int 0, .null, .int 0, .null, .null, .null, .null, .null, .long 0, .long 0, .null, .null, .long 0]) := f0
  have f1 := (ho (b + 1) (by omega)).trans f1
  have f2 := (ho (b + 2) (by omega)).trans f2
  have f3 := (ho (b + 3) (by omega)).trans f3
  have f4 := (ho (b + 4) (by omega)).trans f4
  have f5 := (ho (b + 5) (by omega)).trans f5
  have f6 := (ho (b + 6) (by omega)).trans f6
  have f7 := (ho (b + 7) (by omega)).trans f7
  have hF : ∀ a : Nat, a < b → h a = h0 a := fun a ha => (ho a (by omega)).trans (hF a ha)
  refine aw_aload_n dX12_init_59 rfl ?_
  refine aw_bipush (v := 6) dX12_init_60 (by decide) ?_
  refine aw_newI1 (N := 6) (n1 := b + 9) (bc' := 12) (bs' := 704) dX12_init_62 rfl (by decide) (by decide) (by decide) rfl (fun h f8 ho => ?_)
  have f0 := (ho b (by omega)).trans f0
  have f1 := (ho (b + 1) (by omega)).trans f1
  have f2 := (ho (b + 2) (by omega)).trans f2
  have f3 := (ho (b + 3) (by omega)).trans f3
  have f4 := (ho (b + 4) (by omega)).trans f4
  have f5 := (ho (b + 5) (by omega)).trans f5
  have f6 := (ho (b + 6) (by omega)).trans f6
  have f7 := (ho (b + 7) (by omega)).trans f7
  have hF : ∀ a : Nat, a < b → h a = h0 a := fun a ha => (ho a (by omega)).trans (hF a ha)
  refine aw_putF1 dX12_init_64 fpX12_31 rfl f0 (Nat.le_of_ble_eq_true rfl) rfl rfl (fun h f0 ho => ?_)
  have f0 : h b = some (aO 12 [.ref (b + 1), .int 0, .int 0, .int 0, .int 0, .ref (b + 2), .ref (b + 3), .ref (b + 4), .ref (b + 5), .ref (b + 6), .ref (b + 7), .ref (b + 8), .null, .null, .null, .int 0, .int 0, .int 0, .int 0, .null, .int 0, .null, .int 0, .null, .null, .null, .null, .null, .long 0, .long 0, .null, .null, .long 0]) := f0
  have f1 := (ho (b + 1) (by omega)).trans f1
  have f2 := (ho (b + 2) (by omega)).trans f2
  have f3 := (ho (b + 3) (by omega)).trans f3
  have f4 := (ho (b + 4) (by omega)).trans f4
  have f5 := (ho (b + 5) (by omega)).trans f5
  have f6 := (ho (b + 6) (by omega)).trans f6
  have f7 := (ho (b + 7) (by omega)).trans f7
  have f8 := (ho (b + 8) (by omega)).trans f8
  have hF : ∀ a : Nat, a < b → h a = h0 a := fun a ha => (ho a (by omega)).trans (hF a ha)
  refine aw_aload_n dX12_init_67 rfl ?_
  refine aw_bipush (v := 6) dX12_init_68 (by decide) ?_
  refine aw_newI1 (N := 6) (n1 := b + 10) (bc' := 11) (bs' := 698) dX12_init_70 rfl (by decide) (by decide) (by decide) rfl (fun h f9 ho => ?_)
  have f0 := (ho b (by omega)).trans f0
  have f1 := (ho (b + 1) (by omega)).trans f1
  have f2 := (ho (b + 2) (by omega)).trans f2
  have f3 := (ho (b + 3) (by omega)).trans f3
  have f4 := (ho (b + 4) (by omega)).trans f4
  have f5 := (ho (b + 5) (by omega)).trans f5
  have f6 := (ho (b + 6) (by omega)).trans f6
  have f7 := (ho (b + 7) (by omega)).trans f7
  have f8 := (ho (b + 8) (by omega)).trans f8
  have hF : ∀ a : Nat, a < b → h a = h0 a := fun a ha => (ho a (by omega)).trans (hF a ha)
  refine aw_putF1 dX12_init_72 fpX12_34 rfl f0 (Nat.le_of_ble_eq_true rfl) rfl rfl (fun h f0 ho => ?_)
  have f0 : h b = some (aO 12 [.ref (b + 1), .int 0, .int 0, .int 0, .int 0, .ref (b + 2), .ref (b + 3), .ref (b + 4), .ref (b + 5), .ref (b + 6), .ref (b + 7), .ref (b + 8), .ref (b + 9), .null, .null, .int 0, .int 0, .int 0, .int 0, .null, .int 0, .null, .int 0, .null, .null, .null, .null, .null, .long 0, .long 0, .null, .null, .long 0]) := f0
  have f1 := (ho (b + 1) (by omega)).trans f1
  have f2 := (ho (b + 2) (by omega)).trans f2
  have f3 := (ho (b + 3) (by omega)).trans f3
  have f4 := (ho (b + 4) (by omega)).trans f4
  have f5 := (ho (b + 5) (by omega)).trans f5
  have f6 := (ho (b + 6) (by omega)).trans f6
  have f7 := (ho (b + 7) (by omega)).trans f7
  have f8 := (ho (b + 8) (by omega)).trans f8
  have f9 := (ho (b + 9) (by omega)).trans f9
  have hF : ∀ a : Nat, a < b → h a = h0 a := fun a ha => (ho a (by omega)).trans (hF a ha)
  refine aw_aload_n dX12_init_75 rfl ?_
  refine aw_bipush (v := 6) dX12_init_76 (by decide) ?_
  refine aw_newI1 (N := 6) (n1 := b + 11) (bc' := 10) (bs' := 692) dX12_init_78 rfl (by decide) (by decide) (by decide) rfl (fun h f10 ho => ?_)
  have f0 := (ho b (by omega)).trans f0
  have f1 := (ho (b + 1) (by omega)).trans f1
  have f2 := (ho (b + 2) (by omega)).trans f2
  have f3 := (ho (b + 3) (by omega)).trans f3
  have f4 := (ho (b + 4) (by omega)).trans f4
  have f5 := (ho (b + 5) (by omega)).trans f5
  have f6 := (ho (b + 6) (by omega)).trans f6
  have f7 := (ho (b + 7) (by omega)).trans f7
  have f8 := (ho (b + 8) (by omega)).trans f8
  have f9 := (ho (b + 9) (by omega)).trans f9
  have hF : ∀ a : Nat, a < b → h a = h0 a := fun a ha => (ho a (by omega)).trans (hF a ha)
  refine aw_putF1 dX12_init_80 fpX12_37 rfl f0 (Nat.le_of_ble_eq_true rfl) rfl rfl (fun h f0 ho => ?_)
  have f0 : h b = some (aO 12 [.ref (b + 1), .int 0, .int 0, .int 0, .int 0, .ref (b + 2), .ref (b + 3), .ref (b + 4), .ref (b + 5), .ref (b + 6), .ref (b + 7), .ref (b + 8), .ref (b + 9), .ref (b + 10), .null, .int 0, .int 0, .int 0, .int 0, .null, .int 0, .null, .int 0, .null, .null, .null, .null, .null, .long 0, .long 0, .null, .null, .long 0]) := f0
  have f1 := (ho (b + 1) (by omega)).trans f1
  have f2 := (ho (b + 2) (by omega)).trans f2
  have f3 := (ho (b + 3) (by omega)).trans f3
  have f4 := (ho (b + 4) (by omega)).trans f4
  have f5 := (ho (b + 5) (by omega)).trans f5
  have f6 := (ho (b + 6) (by omega)).trans f6
  have f7 := (ho (b + 7) (by omega)).trans f7
  have f8 := (ho (b + 8) (by omega)).trans f8
  have f9 := (ho (b + 9) (by omega)).trans f9
  have f10 := (ho (b + 10) (by omega)).trans f10
  have hF : ∀ a : Nat, a < b → h a = h0 a := fun a ha => (ho a (by omega)).trans (hF a ha)
  refine aw_aload_n dX12_init_83 rfl ?_
  refine aw_sipush (v := 150) dX12_init_84 (by decide) ?_
  refine aw_newI1 (N := 150) (n1 := b + 12) (bc' := 9) (bs' := 542) dX12_init_87 rfl (by decide) (by decide) (by decide) rfl (fun h f11 ho => ?_)
  have f0 := (ho b (by omega)).trans f0
  have f1 := (ho (b + 1) (by omega)).trans f1
  have f2 := (ho (b + 2) (by omega)).trans f2
  have f3 := (ho (b + 3) (by omega)).trans f3
  have f4 := (ho (b + 4) (by omega)).trans f4
  have f5 := (ho (b + 5) (by omega)).trans f5
  have f6 := (ho (b + 6) (by omega)).trans f6
  have f7 := (ho (b + 7) (by omega)).trans f7
  have f8 := (ho (b + 8) (by omega)).trans f8
  have f9 := (ho (b + 9) (by omega)).trans f9
  have f10 := (ho (b + 10) (by omega)).trans f10
  have hF : ∀ a : Nat, a < b → h a = h0 a := fun a ha => (ho a (by omega)).trans (hF a ha)
  refine aw_putF1 dX12_init_89 fpX12_40 rfl f0 (Nat.le_of_ble_eq_true rfl) rfl rfl (fun h f0 ho => ?_)
  have f0 : h b = some (aO 12 [.ref (b + 1), .int 0, .int 0, .int 0, .int 0, .ref (b + 2), .ref (b + 3), .ref (b + 4), .ref (b + 5), .ref (b + 6), .ref (b + 7), .ref (b + 8), .ref (b + 9), .ref (b + 10), .ref (b + 11), .int 0, .int 0, .int 0, .int 0, .null, .int 0, .null, .int 0, .null, .null, .null, .null, .null, .long 0, .long 0, .null, .null, .long 0]) := f0
  have f1 := (ho (b + 1) (by omega)).trans f1
  have f2 := (ho (b + 2) (by omega)).trans f2
  have f3 := (ho (b + 3) (by omega)).trans f3
  have f4 := (ho (b + 4) (by omega)).trans f4
  have f5 := (ho (b + 5) (by omega)).trans f5
  have f6 := (ho (b + 6) (by omega)).trans f6
  have f7 := (ho (b + 7) (by omega)).trans f7
  have f8 := (ho (b + 8) (by omega)).trans f8
  have f9 := (ho (b + 9) (by omega)).trans f9
  have f10 := (ho (b + 10) (by omega)).trans f10
  have f11 := (ho (b + 11) (by omega)).trans f11
  have hF : ∀ a : Nat, a < b → h a = h0 a := fun a ha => (ho a (by omega)).trans (hF a ha)
  refine aw_aload_n dX12_init_92 rfl ?_
  refine aw_bipush (v := 30) dX12_init_93 (by decide) ?_
  refine aw_newI1 (N := 30) (n1 := b + 13) (bc' := 8) (bs' := 512) dX12_init_95 rfl (by decide) (by decide) (by decide) rfl (fun h f12 ho => ?_)
  have f0 := (ho b (by omega)).trans f0
  have f1 := (ho (b + 1) (by omega)).trans f1
  have f2 := (ho (b + 2) (by omega)).trans f2
  have f3 := (ho (b + 3) (by omega)).trans f3
  have f4 := (ho (b + 4) (by omega)).trans f4
  have f5 := (ho (b + 5) (by omega)).trans f5
  have f6 := (ho (b + 6) (by omega)).trans f6
  have f7 := (ho (b + 7) (by omega)).trans f7
  have f8 := (ho (b + 8) (by omega)).trans f8
  have f9 := (ho (b + 9) (by omega)).trans f9
  have f10 := (ho (b + 10) (by omega)).trans f10
  have f11 := (ho (b + 11) (by omega)).trans f11
  have hF : ∀ a : Nat, a < b → h a = h0 a := fun a ha => (ho a (by omega)).trans (hF a ha)
  refine aw_putF1 dX12_init_97 fpX12_43 rfl f0 (Nat.le_of_ble_eq_true rfl) rfl rfl (fun h f0 ho => ?_)
  have f0 : h b = some (aO 12 [.ref (b + 1), .int 0, .int 0, .int 0, .int 0, .ref (b + 2), .ref (b + 3), .ref (b + 4), .ref (b + 5), .ref (b + 6), .ref (b + 7), .ref (b + 8), .ref (b + 9), .ref (b + 10), .ref (b + 11), .int 0, .int 0, .int 0, .int 0, .ref (b + 12), .int 0, .null, .int 0, .null, .null, .null, .null, .null, .long 0, .long 0, .null, .null, .long 0]) := f0
  have f1 := (ho (b + 1) (by omega)).trans f1
  have f2 := (ho (b + 2) (by omega)).trans f2
  have f3 := (ho (b + 3) (by omega)).trans f3
  have f4 := (ho (b + 4) (by omega)).trans f4
  have f5 := (ho (b + 5) (by omega)).trans f5
  have f6 := (ho (b + 6) (by omega)).trans f6
  have f7 := (ho (b + 7) (by omega)).trans f7
  have f8 := (ho (b + 8) (by omega)).trans f8
  have f9 := (ho (b + 9) (by omega)).trans f9
  have f10 := (ho (b + 10) (by omega)).trans f10
  have f11 := (ho (b + 11) (by omega)).trans f11
  have f12 := (ho (b + 12) (by omega)).trans f12
  have hF : ∀ a : Nat, a < b → h a = h0 a := fun a ha => (ho a (by omega)).trans (hF a ha)
  refine aw_aload_n dX12_init_100 rfl ?_
  refine aw_bipush (v := 112) dX12_init_101 (by decide) ?_
  refine aw_newI1 (N := 112) (n1 := b + 14) (bc' := 7) (bs' := 400) dX12_init_103 rfl (by decide) (by decide) (by decide) rfl (fun h f13 ho => ?_)
  have f0 := (ho b (by omega)).trans f0
  have f1 := (ho (b + 1) (by omega)).trans f1
  have f2 := (ho (b + 2) (by omega)).trans f2
  have f3 := (ho (b + 3) (by omega)).trans f3
  have f4 := (ho (b + 4) (by omega)).trans f4
  have f5 := (ho (b + 5) (by omega)).trans f5
  have f6 := (ho (b + 6) (by omega)).trans f6
  have f7 := (ho (b + 7) (by omega)).trans f7
  have f8 := (ho (b + 8) (by omega)).trans f8
  have f9 := (ho (b + 9) (by omega)).trans f9
  have f10 := (ho (b + 10) (by omega)).trans f10
  have f11 := (ho (b + 11) (by omega)).trans f11
  have f12 := (ho (b + 12) (by omega)).trans f12
  have hF : ∀ a : Nat, a < b → h a = h0 a := fun a ha => (ho a (by omega)).trans (hF a ha)
  refine aw_putF1 dX12_init_105 fpX12_46 rfl f0 (Nat.le_of_ble_eq_true rfl) rfl rfl (fun h f0 ho => ?_)
  have f0 : h b = some (aO 12 [.ref (b + 1), .int 0, .int 0, .int 0, .int 0, .ref (b + 2), .ref (b + 3), .ref (b + 4), .ref (b + 5), .ref (b + 6), .ref (b + 7), .ref (b + 8), .ref (b + 9), .ref (b + 10), .ref (b + 11), .int 0, .int 0, .int 0, .int 0, .ref (b + 12), .int 0, .ref (b + 13), .int 0, .null, .null, .null, .null, .null, .long 0, .long 0, .null, .null, .long 0]) := f0
  have f1 := (ho (b + 1) (by omega)).trans f1
  have f2 := (ho (b + 2) (by omega)).trans f2
  have f3 := (ho (b + 3) (by omega)).trans f3
  have f4 := (ho (b + 4) (by omega)).trans f4
  have f5 := (ho (b + 5) (by omega)).trans f5
  have f6 := (ho (b + 6) (by omega)).trans f6
  have f7 := (ho (b + 7) (by omega)).trans f7
  have f8 := (ho (b + 8) (by omega)).trans f8
  have f9 := (ho (b + 9) (by omega)).trans f9
  have f10 := (ho (b + 10) (by omega)).trans f10
  have f11 := (ho (b + 11) (by omega)).trans f11
  have f12 := (ho (b + 12) (by omega)).trans f12
  have f13 := (ho (b + 13) (by omega)).trans f13
  have hF : ∀ a : Nat, a < b → h a = h0 a := fun a ha => (ho a (by omega)).trans (hF a ha)
  refine aw_aload_n dX12_init_108 rfl ?_
  refine aw_bipush (v := 14) dX12_init_109 (by decide) ?_
  refine aw_newI1 (N := 14) (n1 := b + 15) (bc' := 6) (bs' := 386) dX12_init_111 rfl (by decide) (by decide) (by decide) rfl (fun h f14 ho => ?_)
  have f0 := (ho b (by omega)).trans f0
  have f1 := (ho (b + 1) (by omega)).trans f1
  have f2 := (ho (b + 2) (by omega)).trans f2
  have f3 := (ho (b + 3) (by omega)).trans f3
  have f4 := (ho (b + 4) (by omega)).trans f4
  have f5 := (ho (b + 5) (by omega)).trans f5
  have f6 := (ho (b + 6) (by omega)).trans f6
  have f7 := (ho (b + 7) (by omega)).trans f7
  have f8 := (ho (b + 8) (by omega)).trans f8
  have f9 := (ho (b + 9) (by omega)).trans f9
  have f10 := (ho (b + 10) (by omega)).trans f10
  have f11 := (ho (b + 11) (by omega)).trans f11
  have f12 := (ho (b + 12) (by omega)).trans f12
  have f13 := (ho (b + 13) (by omega)).trans f13
  have hF : ∀ a : Nat, a < b → h a = h0 a := fun a ha => (ho a (by omega)).trans (hF a ha)
  refine aw_putF1 dX12_init_113 fpX12_49 rfl f0 (Nat.le_of_ble_eq_true rfl) rfl rfl (fun h f0 ho => ?_)
  have f0 : h b = some (aO 12 [.ref (b + 1), .int 0, .int 0, .int 0, .int 0, .ref (b + 2), .ref (b + 3), .ref (b + 4), .ref (b + 5), .ref (b + 6), .ref (b + 7), .ref (b + 8), .ref (b + 9), .ref (b + 10), .ref (b + 11), .int 0, .int 0, .int 0, .int 0, .ref (b + 12), .int 0, .ref (b + 13), .int 0, .ref (b + 14), .null, .null, .null, .null, .long 0, .long 0, .null, .null, .long 0]) := f0
  have f1 := (ho (b + 1) (by omega)).trans f1
  have f2 := (ho (b + 2) (by omega)).trans f2
  have f3 := (ho (b + 3) (by omega)).trans f3
  have f4 := (ho (b + 4) (by omega)).trans f4
  have f5 := (ho (b + 5) (by omega)).trans f5
  have f6 := (ho (b + 6) (by omega)).trans f6
  have f7 := (ho (b + 7) (by omega)).trans f7
  have f8 := (ho (b + 8) (by omega)).trans f8
  have f9 := (ho (b + 9) (by omega)).trans f9
  have f10 := (ho (b + 10) (by omega)).trans f10
  have f11 := (ho (b + 11) (by omega)).trans f11
  have f12 := (ho (b + 12) (by omega)).trans f12
  have f13 := (ho (b + 13) (by omega)).trans f13
  have f14 := (ho (b + 14) (by omega)).trans f14
  have hF : ∀ a : Nat, a < b → h a = h0 a := fun a ha => (ho a (by omega)).trans (hF a ha)
  refine aw_aload_n dX12_init_116 rfl ?_
  refine aw_bipush (v := 6) dX12_init_117 (by decide) ?_
  refine aw_newI1 (N := 6) (n1 := b + 16) (bc' := 5) (bs' := 380) dX12_init_119 rfl (by decide) (by decide) (by decide) rfl (fun h f15 ho => ?_)
  have f0 := (ho b (by omega)).trans f0
  have f1 := (ho (b + 1) (by omega)).trans f1
  have f2 := (ho (b + 2) (by omega)).trans f2
  have f3 := (ho (b + 3) (by omega)).trans f3
  have f4 := (ho (b + 4) (by omega)).trans f4
  have f5 := (ho (b + 5) (by omega)).trans f5
  have f6 := (ho (b + 6) (by omega)).trans f6
  have f7 := (ho (b + 7) (by omega)).trans f7
  have f8 := (ho (b + 8) (by omega)).trans f8
  have f9 := (ho (b + 9) (by omega)).trans f9
  have f10 := (ho (b + 10) (by omega)).trans f10
  have f11 := (ho (b + 11) (by omega)).trans f11
  have f12 := (ho (b + 12) (by omega)).trans f12
  have f13 := (ho (b + 13) (by omega)).trans f13
  have f14 := (ho (b + 14) (by omega)).trans f14
  have hF : ∀ a : Nat, a < b → h a = h0 a := fun a ha => (ho a (by omega)).trans (hF a ha)
  refine aw_putF1 dX12_init_121 fpX12_52 rfl f0 (Nat.le_of_ble_eq_true rfl) rfl rfl (fun h f0 ho => ?_)
  have f0 : h b = some (aO 12 [.ref (b + 1), .int 0, .int 0, .int 0, .int 0, .ref (b + 2), .ref (b + 3), .ref (b + 4), .ref (b + 5), .ref (b + 6), .ref (b + 7), .ref (b + 8), .ref (b + 9), .ref (b + 10), .ref (b + 11), .int 0, .int 0, .int 0, .int 0, .ref (b + 12), .int 0, .ref (b + 13), .int 0, .ref (b + 14), .ref (b + 15), .null, .null, .null, .long 0, .long 0, .null, .null, .long 0]) := f0
  have f1 := (ho (b + 1) (by omega)).trans f1
  have f2 := (ho (b + 2) (by omega)).trans f2
  have f3 := (ho (b + 3) (by omega)).trans f3
  have f4 := (ho (b + 4) (by omega)).trans f4
  have f5 := (ho (b + 5) (by omega)).trans f5
  have f6 := (ho (b + 6) (by omega)).trans f6
  have f7 := (ho (b + 7) (by omega)).trans f7
  have f8 := (ho (b + 8) (by omega)).trans f8
  have f9 := (ho (b + 9) (by omega)).trans f9
  have f10 := (ho (b + 10) (by omega)).trans f10
  have f11 := (ho (b + 11) (by omega)).trans f11
  have f12 := (ho (b + 12) (by omega)).trans f12
  have f13 := (ho (b + 13) (by omega)).trans f13
  have f14 := (ho (b + 14) (by omega)).trans f14
  have f15 := (ho (b + 15) (by omega)).trans f15
  have hF : ∀ a : Nat, a < b → h a = h0 a := fun a ha => (ho a (by omega)).trans (hF a ha)
  refine aw_aload_n dX12_init_124 rfl ?_
  refine aw_bipush (v := 6) dX12_init_125 (by decide) ?_
  refine aw_newI1 (N := 6) (n1 := b + 17) (bc' := 4) (bs' := 374) dX12_init_127 rfl (by decide) (by decide) (by decide) rfl (fun h f16 ho => ?_)
  have f0 := (ho b (by omega)).trans f0
  have f1 := (ho (b + 1) (by omega)).trans f1
  have f2 := (ho (b + 2) (by omega)).trans f2
  have f3 := (ho (b + 3) (by omega)).trans f3
  have f4 := (ho (b + 4) (by omega)).trans f4
  have f5 := (ho (b + 5) (by omega)).trans f5
  have f6 := (ho (b + 6) (by omega)).trans f6
  have f7 := (ho (b + 7) (by omega)).trans f7
  have f8 := (ho (b + 8) (by omega)).trans f8
  have f9 := (ho (b + 9) (by omega)).trans f9
  have f10 := (ho (b + 10) (by omega)).trans f10
  have f11 := (ho (b + 11) (by omega)).trans f11
  have f12 := (ho (b + 12) (by omega)).trans f12
  have f13 := (ho (b + 13) (by omega)).trans f13
  have f14 := (ho (b + 14) (by omega)).trans f14
  have f15 := (ho (b + 15) (by omega)).trans f15
  have hF : ∀ a : Nat, a < b → h a = h0 a := fun a ha => (ho a (by omega)).trans (hF a ha)
  refine aw_putF1 dX12_init_129 fpX12_55 rfl f0 (Nat.le_of_ble_eq_true rfl) rfl rfl (fun h f0 ho => ?_)
  have f0 : h b = some (aO 12 [.ref (b + 1), .int 0, .int 0, .int 0, .int 0, .ref (b + 2), .ref (b + 3), .ref (b + 4), .ref (b + 5), .ref (b + 6), .ref (b + 7), .ref (b + 8), .ref (b + 9), .ref (b + 10), .ref (b + 11), .int 0, .int 0, .int 0, .int 0, .ref (b + 12), .int 0, .ref (b + 13), .int 0, .ref (b + 14), .ref (b + 15), .ref (b + 16), .null, .null, .long 0, .long 0, .null, .null, .long 0]) := f0
  have f1 := (ho (b + 1) (by omega)).trans f1
  have f2 := (ho (b + 2) (by omega)).trans f2
  have f3 := (ho (b + 3) (by omega)).trans f3
  have f4 := (ho (b + 4) (by omega)).trans f4
  have f5 := (ho (b + 5) (by omega)).trans f5
  have f6 := (ho (b + 6) (by omega)).trans f6
  have f7 := (ho (b + 7) (by omega)).trans f7
  have f8 := (ho (b + 8) (by omega)).trans f8
  have f9 := (ho (b + 9) (by omega)).trans f9
  have f10 := (ho (b + 10) (by omega)).trans f10
  have f11 := (ho (b + 11) (by omega)).trans f11
  have f12 := (ho (b + 12) (by omega)).trans f12
  have f13 := (ho (b + 13) (by omega)).trans f13
  have f14 := (ho (b + 14) (by omega)).trans f14
  have f15 := (ho (b + 15) (by omega)).trans f15
  have f16 := (ho (b + 16) (by omega)).trans f16
  have hF : ∀ a : Nat, a < b → h a = h0 a := fun a ha => (ho a (by omega)).trans (hF a ha)
  refine aw_aload_n dX12_init_132 rfl ?_
  refine aw_bipush (v := 6) dX12_init_133 (by decide) ?_
  refine aw_newI1 (N := 6) (n1 := b + 18) (bc' := 3) (bs' := 368) dX12_init_135 rfl (by decide) (by decide) (by decide) rfl (fun h f17 ho => ?_)
  have f0 := (ho b (by omega)).trans f0
  have f1 := (ho (b + 1) (by omega)).trans f1
  have f2 := (ho (b + 2) (by omega)).trans f2
  have f3 := (ho (b + 3) (by omega)).trans f3
  have f4 := (ho (b + 4) (by omega)).trans f4
  have f5 := (ho (b + 5) (by omega)).trans f5
  have f6 := (ho (b + 6) (by omega)).trans f6
  have f7 := (ho (b + 7) (by omega)).trans f7
  have f8 := (ho (b + 8) (by omega)).trans f8
  have f9 := (ho (b + 9) (by omega)).trans f9
  have f10 := (ho (b + 10) (by omega)).trans f10
  have f11 := (ho (b + 11) (by omega)).trans f11
  have f12 := (ho (b + 12) (by omega)).trans f12
  have f13 := (ho (b + 13) (by omega)).trans f13
  have f14 := (ho (b + 14) (by omega)).trans f14
  have f15 := (ho (b + 15) (by omega)).trans f15
  have f16 := (ho (b + 16) (by omega)).trans f16
  have hF : ∀ a : Nat, a < b → h a = h0 a := fun a ha => (ho a (by omega)).trans (hF a ha)
  refine aw_putF1 dX12_init_137 fpX12_58 rfl f0 (Nat.le_of_ble_eq_true rfl) rfl rfl (fun h f0 ho => ?_)
  have f0 : h b = some (aO 12 [.ref (b + 1), .int 0, .int 0, .int 0, .int 0, .ref (b + 2), .ref (b + 3), .ref (b + 4), .ref (b + 5), .ref (b + 6), .ref (b + 7), .ref (b + 8), .ref (b + 9), .ref (b + 10), .ref (b + 11), .int 0, .int 0, .int 0, .int 0, .ref (b + 12), .int 0, .ref (b + 13), .int 0, .ref (b + 14), .ref (b + 15), .ref (b + 16), .ref (b + 17), .null, .long 0, .long 0, .null, .null, .long 0]) := f0
  have f1 := (ho (b + 1) (by omega)).trans f1
  have f2 := (ho (b + 2) (by omega)).trans f2
  have f3 := (ho (b + 3) (by omega)).trans f3
  have f4 := (ho (b + 4) (by omega)).trans f4
  have f5 := (ho (b + 5) (by omega)).trans f5
  have f6 := (ho (b + 6) (by omega)).trans f6
  have f7 := (ho (b + 7) (by omega)).trans f7
  have f8 := (ho (b + 8) (by omega)).trans f8
  have f9 := (ho (b + 9) (by omega)).trans f9
  have f10 := (ho (b + 10) (by omega)).trans f10
  have f11 := (ho (b + 11) (by omega)).trans f11
  have f12 := (ho (b + 12) (by omega)).trans f12
  have f13 := (ho (b + 13) (by omega)).trans f13
  have f14 := (ho (b + 14) (by omega)).trans f14
  have f15 := (ho (b + 15) (by omega)).trans f15
  have f16 := (ho (b + 16) (by omega)).trans f16
  have f17 := (ho (b + 17) (by omega)).trans f17
  have hF : ∀ a : Nat, a < b → h a = h0 a := fun a ha => (ho a (by omega)).trans (hF a ha)
  refine aw_aload_n dX12_init_140 rfl ?_
  refine aw_bipush (v := 6) dX12_init_141 (by decide) ?_
  refine aw_newI1 (N := 6) (n1 := b + 19) (bc' := 2) (bs' := 362) dX12_init_143 rfl (by decide) (by decide) (by decide) rfl (fun h f18 ho => ?_)
  have f0 := (ho b (by omega)).trans f0
  have f1 := (ho (b + 1) (by omega)).trans f1
  have f2 := (ho (b + 2) (by omega)).trans f2
  have f3 := (ho (b + 3) (by omega)).trans f3
  have f4 := (ho (b + 4) (by omega)).trans f4
  have f5 := (ho (b + 5) (by omega)).trans f5
  have f6 := (ho (b + 6) (by omega)).trans f6
  have f7 := (ho (b + 7) (by omega)).trans f7
  have f8 := (ho (b + 8) (by omega)).trans f8
  have f9 := (ho (b + 9) (by omega)).trans f9
  have f10 := (ho (b + 10) (by omega)).trans f10
  have f11 := (ho (b + 11) (by omega)).trans f11
  have f12 := (ho (b + 12) (by omega)).trans f12
  have f13 := (ho (b + 13) (by omega)).trans f13
  have f14 := (ho (b + 14) (by omega)).trans f14
  have f15 := (ho (b + 15) (by omega)).trans f15
  have f16 := (ho (b + 16) (by omega)).trans f16
  have f17 := (ho (b + 17) (by omega)).trans f17
  have hF : ∀ a : Nat, a < b → h a = h0 a := fun a ha => (ho a (by omega)).trans (hF a ha)
  refine aw_putF1 dX12_init_145 fpX12_61 rfl f0 (Nat.le_of_ble_eq_true rfl) rfl rfl (fun h f0 ho => ?_)
  have f0 : h b = some (aO 12 [.ref (b + 1), .int 0, .int 0, .int 0, .int 0, .ref (b + 2), .ref (b + 3), .ref (b + 4), .ref (b + 5), .ref (b + 6), .ref (b + 7), .ref (b + 8), .ref (b + 9), .ref (b + 10), .ref (b + 11), .int 0, .int 0, .int 0, .int 0, .ref (b + 12), .int 0, .ref (b + 13), .int 0, .ref (b + 14), .ref (b + 15), .ref (b + 16), .ref (b + 17), .ref (b + 18), .long 0, .long 0, .null, .null, .long 0]) := f0
  have f1 := (ho (b + 1) (by omega)).trans f1
  have f2 := (ho (b + 2) (by omega)).trans f2
  have f3 := (ho (b + 3) (by omega)).trans f3
  have f4 := (ho (b + 4) (by omega)).trans f4
  have f5 := (ho (b + 5) (by omega)).trans f5
  have f6 := (ho (b + 6) (by omega)).trans f6
  have f7 := (ho (b + 7) (by omega)).trans f7
  have f8 := (ho (b + 8) (by omega)).trans f8
  have f9 := (ho (b + 9) (by omega)).trans f9
  have f10 := (ho (b + 10) (by omega)).trans f10
  have f11 := (ho (b + 11) (by omega)).trans f11
  have f12 := (ho (b + 12) (by omega)).trans f12
  have f13 := (ho (b + 13) (by omega)).trans f13
  have f14 := (ho (b + 14) (by omega)).trans f14
  have f15 := (ho (b + 15) (by omega)).trans f15
  have f16 := (ho (b + 16) (by omega)).trans f16
  have f17 := (ho (b + 17) (by omega)).trans f17
  have f18 := (ho (b + 18) (by omega)).trans f18
  have hF : ∀ a : Nat, a < b → h a = h0 a := fun a ha => (ho a (by omega)).trans (hF a ha)
  refine aw_aload_n dX12_init_148 rfl ?_
  refine aw_lconst (v := 1) dX12_init_149 (by decide) ?_
  refine aw_put1 dX12_init_150 fpX12_64 f0 (Nat.le_of_ble_eq_true rfl) rfl rfl (fun h f0 ho => ?_)
  have f0 : h b = some (aO 12 [.ref (b + 1), .int 0, .int 0, .int 0, .int 0, .ref (b + 2), .ref (b + 3), .ref (b + 4), .ref (b + 5), .ref (b + 6), .ref (b + 7), .ref (b + 8), .ref (b + 9), .ref (b + 10), .ref (b + 11), .int 0, .int 0, .int 0, .int 0, .ref (b + 12), .int 0, .ref (b + 13), .int 0, .ref (b + 14), .ref (b + 15), .ref (b + 16), .ref (b + 17), .ref (b + 18), .long 0, .long 1, .null, .null, .long 0]) := f0
  have f1 := (ho (b + 1) (by omega)).trans f1
  have f2 := (ho (b + 2) (by omega)).trans f2
  have f3 := (ho (b + 3) (by omega)).trans f3
  have f4 := (ho (b + 4) (by omega)).trans f4
  have f5 := (ho (b + 5) (by omega)).trans f5
  have f6 := (ho (b + 6) (by omega)).trans f6
  have f7 := (ho (b + 7) (by omega)).trans f7
  have f8 := (ho (b + 8) (by omega)).trans f8
  have f9 := (ho (b + 9) (by omega)).trans f9
  have f10 := (ho (b + 10) (by omega)).trans f10
  have f11 := (ho (b + 11) (by omega)).trans f11
  have f12 := (ho (b + 12) (by omega)).trans f12
  have f13 := (ho (b + 13) (by omega)).trans f13
  have f14 := (ho (b + 14) (by omega)).trans f14
  have f15 := (ho (b + 15) (by omega)).trans f15
  have f16 := (ho (b + 16) (by omega)).trans f16
  have f17 := (ho (b + 17) (by omega)).trans f17
  have f18 := (ho (b + 18) (by omega)).trans f18
  have hF : ∀ a : Nat, a < b → h a = h0 a := fun a ha => (ho a (by omega)).trans (hF a ha)
  refine aw_aload_n dX12_init_153 rfl ?_
  refine aw_sipush (v := 360) dX12_init_154 (by decide) ?_
  refine aw_newI1 (N := 360) (n1 := b + 20) (bc' := 1) (bs' := 2) dX12_init_157 rfl (by decide) (by decide) (by decide) rfl (fun h f19 ho => ?_)
  have f0 := (ho b (by omega)).trans f0
  have f1 := (ho (b + 1) (by omega)).trans f1
  have f2 := (ho (b + 2) (by omega)).trans f2
  have f3 := (ho (b + 3) (by omega)).trans f3
  have f4 := (ho (b + 4) (by omega)).trans f4
  have f5 := (ho (b + 5) (by omega)).trans f5
  have f6 := (ho (b + 6) (by omega)).trans f6
  have f7 := (ho (b + 7) (by omega)).trans f7
  have f8 := (ho (b + 8) (by omega)).trans f8
  have f9 := (ho (b + 9) (by omega)).trans f9
  have f10 := (ho (b + 10) (by omega)).trans f10
  have f11 := (ho (b + 11) (by omega)).trans f11
  have f12 := (ho (b + 12) (by omega)).trans f12
  have f13 := (ho (b + 13) (by omega)).trans f13
  have f14 := (ho (b + 14) (by omega)).trans f14
  have f15 := (ho (b + 15) (by omega)).trans f15
  have f16 := (ho (b + 16) (by omega)).trans f16
  have f17 := (ho (b + 17) (by omega)).trans f17
  have f18 := (ho (b + 18) (by omega)).trans f18
  have hF : ∀ a : Nat, a < b → h a = h0 a := fun a ha => (ho a (by omega)).trans (hF a ha)
  refine aw_putF1 dX12_init_159 fpX12_68 rfl f0 (Nat.le_of_ble_eq_true rfl) rfl rfl (fun h f0 ho => ?_)
  have f0 : h b = some (aO 12 [.ref (b + 1), .int 0, .int 0, .int 0, .int 0, .ref (b + 2), .ref (b + 3), .ref (b + 4), .ref (b + 5), .ref (b + 6), .ref (b + 7), .ref (b + 8), .ref (b + 9), .ref (b + 10), .ref (b + 11), .int 0, .int 0, .int 0, .int 0, .ref (b + 12), .int 0, .ref (b + 13), .int 0, .ref (b + 14), .ref (b + 15), .ref (b + 16), .ref (b + 17), .ref (b + 18), .long 0, .long 1, .ref (b + 19), .null, .long 0]) := f0
  have f1 := (ho (b + 1) (by omega)).trans f1
  have f2 := (ho (b + 2) (by omega)).trans f2
  have f3 := (ho (b + 3) (by omega)).trans f3
  have f4 := (ho (b + 4) (by omega)).trans f4
  have f5 := (ho (b + 5) (by omega)).trans f5
  have f6 := (ho (b + 6) (by omega)).trans f6
  have f7 := (ho (b + 7) (by omega)).trans f7
  have f8 := (ho (b + 8) (by omega)).trans f8
  have f9 := (ho (b + 9) (by omega)).trans f9
  have f10 := (ho (b + 10) (by omega)).trans f10
  have f11 := (ho (b + 11) (by omega)).trans f11
  have f12 := (ho (b + 12) (by omega)).trans f12
  have f13 := (ho (b + 13) (by omega)).trans f13
  have f14 := (ho (b + 14) (by omega)).trans f14
  have f15 := (ho (b + 15) (by omega)).trans f15
  have f16 := (ho (b + 16) (by omega)).trans f16
  have f17 := (ho (b + 17) (by omega)).trans f17
  have f18 := (ho (b + 18) (by omega)).trans f18
  have f19 := (ho (b + 19) (by omega)).trans f19
  have hF : ∀ a : Nat, a < b → h a = h0 a := fun a ha => (ho a (by omega)).trans (hF a ha)
  refine aw_aload_n dX12_init_162 rfl ?_
  refine aw_iconst (v := 2) dX12_init_163 (by decide) ?_
  refine aw_newI1 (N := 2) (n1 := b + 21) (bc' := 0) (bs' := 0) dX12_init_164 rfl (by decide) (by decide) (by decide) rfl (fun h f20 ho => ?_)
  have f0 := (ho b (by omega)).trans f0
  have f1 := (ho (b + 1) (by omega)).trans f1
  have f2 := (ho (b + 2) (by omega)).trans f2
  have f3 := (ho (b + 3) (by omega)).trans f3
  have f4 := (ho (b + 4) (by omega)).trans f4
  have f5 := (ho (b + 5) (by omega)).trans f5
  have f6 := (ho (b + 6) (by omega)).trans f6
  have f7 := (ho (b + 7) (by omega)).trans f7
  have f8 := (ho (b + 8) (by omega)).trans f8
  have f9 := (ho (b + 9) (by omega)).trans f9
  have f10 := (ho (b + 10) (by omega)).trans f10
  have f11 := (ho (b + 11) (by omega)).trans f11
  have f12 := (ho (b + 12) (by omega)).trans f12
  have f13 := (ho (b + 13) (by omega)).trans f13
  have f14 := (ho (b + 14) (by omega)).trans f14
  have f15 := (ho (b + 15) (by omega)).trans f15
  have f16 := (ho (b + 16) (by omega)).trans f16
  have f17 := (ho (b + 17) (by omega)).trans f17
  have f18 := (ho (b + 18) (by omega)).trans f18
  have f19 := (ho (b + 19) (by omega)).trans f19
  have hF : ∀ a : Nat, a < b → h a = h0 a := fun a ha => (ho a (by omega)).trans (hF a ha)
  refine aw_putF1 dX12_init_166 fpX12_71 rfl f0 (Nat.le_of_ble_eq_true rfl) rfl rfl (fun h f0 ho => ?_)
  have f0 : h b = some (aO 12 [.ref (b + 1), .int 0, .int 0, .int 0, .int 0, .ref (b + 2), .ref (b + 3), .ref (b + 4), .ref (b + 5), .ref (b + 6), .ref (b + 7), .ref (b + 8), .ref (b + 9), .ref (b + 10), .ref (b + 11), .int 0, .int 0, .int 0, .int 0, .ref (b + 12), .int 0, .ref (b + 13), .int 0, .ref (b + 14), .ref (b + 15), .ref (b + 16), .ref (b + 17), .ref (b + 18), .long 0, .long 1, .ref (b + 19), .ref (b + 20), .long 0]) := f0
  have f1 := (ho (b + 1) (by omega)).trans f1
  have f2 := (ho (b + 2) (by omega)).trans f2
  have f3 := (ho (b + 3) (by omega)).trans f3
  have f4 := (ho (b + 4) (by omega)).trans f4
  have f5 := (ho (b + 5) (by omega)).trans f5
  have f6 := (ho (b + 6) (by omega)).trans f6
  have f7 := (ho (b + 7) (by omega)).trans f7
  have f8 := (ho (b + 8) (by omega)).trans f8
  have f9 := (ho (b + 9) (by omega)).trans f9
  have f10 := (ho (b + 10) (by omega)).trans f10
  have f11 := (ho (b + 11) (by omega)).trans f11
  have f12 := (ho (b + 12) (by omega)).trans f12
  have f13 := (ho (b + 13) (by omega)).trans f13
  have f14 := (ho (b + 14) (by omega)).trans f14
  have f15 := (ho (b + 15) (by omega)).trans f15
  have f16 := (ho (b + 16) (by omega)).trans f16
  have f17 := (ho (b + 17) (by omega)).trans f17
  have f18 := (ho (b + 18) (by omega)).trans f18
  have f19 := (ho (b + 19) (by omega)).trans f19
  have f20 := (ho (b + 20) (by omega)).trans f20
  have hF : ∀ a : Nat, a < b → h a = h0 a := fun a ha => (ho a (by omega)).trans (hF a ha)
  refine aw_aload_n dX12_init_169 rfl ?_
  have hM : is_mo h b T00 L00 := by
    intro j hj
    match j, hj with
    | 0, _ => exact f0
    | 1, _ => exact f1
    | 2, _ => exact f2
    | 3, _ => exact f3
    | 4, _ => exact f4
    | 5, _ => exact f5
    | 6, _ => exact f6
    | 7, _ => exact f7
    | 8, _ => exact f8
    | 9, _ => exact f9
    | 10, _ => exact f10
    | 11, _ => exact f11
    | 12, _ => exact f12
    | 13, _ => exact f13
    | 14, _ => exact f14
    | 15, _ => exact f15
    | 16, _ => exact f16
    | 17, _ => exact f17
    | 18, _ => exact f18
    | 19, _ => exact f19
    | 20, _ => exact f20
    | j + 21, hj => exact absurd hj (by omega)
  refine aw_callV0 (mc' := 0) (ms' := 0) (bc' := 0) (bs' := 0) dX12_init_170 cmX12_begin cvX12_74 (mo_c0 hM) (Nat.le_of_ble_eq_true rfl) (tX12_begin hM) (by decide) (by decide) (fun r n' h' hq => ?_)
  obtain ⟨rfl, rfl, hM, ho⟩ := hq
  have hF : ∀ a : Nat, a < b → h' a = h0 a := fun a ha => (ho a (Or.inl ha)).trans (hF a ha)
  exact aw_vret dX12_init_173 rfl (⟨rfl, rfl, hM, hF⟩)
set_option maxHeartbeats 2000000 in
set_option maxRecDepth 100000 in
theorem tX11_init {l : Launch} {E : aw_E} {d b : Nat} {h0 : ah} {base : Nat} {adK adV : Nat → Nat} {fm : Value} {sb sL : Nat} {xs : Nat → Int32} (hG : E.2.2.2 = gV base adK adV fm sb sL xs) (f0 : h0 b = some (aO 11 [.null, .null, .null, .null, .null, .long 0, .long 0, .int 0, .int 0, .int 0])) : am l E mX11_init (d + 5) 48 657 [.ref b] (b + 1) h0 (mk_post h0 b 49 (fun h' => is_x h' b gNo X00)) := by
  refine am_of (by decide +kernel) (Nat.le_of_ble_eq_true rfl) ?_
  have hF : ∀ a : Nat, a < b → h0 a = h0 a := fun _ _ => rfl
  refine aw_aload_n dX11_init_0 rfl ?_
  refine aw_objInit dX11_init_1 oiX11_1 oi_1 oi_2 (Nat.le_of_ble_eq_true rfl) ?_
  refine aw_aload_n dX11_init_4 rfl ?_
  refine aw_new1 (n1 := b + 2) (bc' := 47) (bs' := 645) dX11_init_5 nwX11_7 (by decide) (by decide) rfl (fun h f1 ho => ?_)
  have f0 := (ho b (by omega)).trans f0
  have hF : ∀ a : Nat, a < b → h a = h0 a := fun a ha => (ho a (by omega)).trans (hF a ha)
  refine aw_dup dX11_init_8 rfl ?_
  refine aw_callI0 (mc' := 19) (ms' := 179) (bc' := 28) (bs' := 466) dX11_init_9 cmX9_init ciX11_9 (Nat.le_of_ble_eq_true rfl) (tX9_init hG (b := (b + 1)) f1) (by decide) (by decide) (fun r n' h hq => ?_)
  obtain ⟨rfl, rfl, hq, ho⟩ := hq
  have f0 := (ho b (by omega)).trans f0
  have hF : ∀ a : Nat, a < b → h a = h0 a := fun a ha => (ho a (by omega)).trans (hF a ha)
  have B1 : is_tr h (b + 1) T00 := hq
  refine aw_putF1 dX11_init_12 fpX11_10 rfl f0 (Nat.le_of_ble_eq_true rfl) rfl rfl (fun h f0 ho => ?_)
  have f0 : h b = some (aO 11 [.ref (b + 1), .null, .null, .null, .null, .long 0, .long 0, .int 0, .int 0, .int 0]) := f0
  have B1 := tr_ne B1 ho (by omega)
  have hF : ∀ a : Nat, a < b → h a = h0 a := fun a ha => (ho a (by omega)).trans (hF a ha)
  refine aw_aload_n dX11_init_15 rfl ?_
  refine aw_new1 (n1 := b + 22) (bc' := 27) (bs' := 454) dX11_init_16 nwX11_7 (by decide) (by decide) rfl (fun h f21 ho => ?_)
  have f0 := (ho b (by omega)).trans f0
  have B1 := tr_lt B1 ho (by omega)
  have hF : ∀ a : Nat, a < b → h a = h0 a := fun a ha => (ho a (by omega)).trans (hF a ha)
  refine aw_dup dX11_init_19 rfl ?_
  refine aw_callI0 (mc' := 19) (ms' := 179) (bc' := 8) (bs' := 275) dX11_init_20 cmX9_init ciX11_9 (Nat.le_of_ble_eq_true rfl) (tX9_init hG (b := (b + 21)) f21) (by decide) (by decide) (fun r n' h hq => ?_)
  obtain ⟨rfl, rfl, hq, ho⟩ := hq
  have f0 := (ho b (by omega)).trans f0
  have B1 := tr_lt B1 ho (by omega)
  have hF : ∀ a : Nat, a < b → h a = h0 a := fun a ha => (ho a (by omega)).trans (hF a ha)
  have B21 : is_tr h (b + 21) T00 := hq
  refine aw_putF1 dX11_init_23 fpX11_16 rfl f0 (Nat.le_of_ble_eq_true rfl) rfl rfl (fun h f0 ho => ?_)
  have f0 : h b = some (aO 11 [.ref (b + 1), .ref (b + 21), .null, .null, .null, .long 0, .long 0, .int 0, .int 0, .int 0]) := f0
  have B1 := tr_ne B1 ho (by omega)
  have B21 := tr_ne B21 ho (by omega)
  have hF : ∀ a : Nat, a < b → h a = h0 a := fun a ha => (ho a (by omega)).trans (hF a ha)
  refine aw_aload_n dX11_init_26 rfl ?_
  refine aw_iconst (v := 2) dX11_init_27 (by decide) ?_
  refine aw_newR1 (t := 2) (N := 2) (n1 := b + 42) (bc' := 7) (bs' := 273) dX11_init_28 (Or.inr rfl) rfl clX11_7 (ao_tr hG) rfl (by decide) (by decide) (by decide) rfl (fun h f41 ho => ?_)
  have f0 := (ho b (by omega)).trans f0
  have B1 := tr_lt B1 ho (by omega)
  have B21 := tr_lt B21 ho (by omega)
  have hF : ∀ a : Nat, a < b → h a = h0 a := fun a ha => (ho a (by omega)).trans (hF a ha)
  refine aw_putF1 dX11_init_31 fpX11_19 rfl f0 (Nat.le_of_ble_eq_true rfl) rfl rfl (fun h f0 ho => ?_)
  have f0 : h b = some (aO 11 [.ref (b + 1), .ref (b + 21), .ref (b + 41), .null, .null, .long 0, .long 0, .int 0, .int 0, .int 0]) := f0
  have f41 := (ho (b + 41) (by omega)).trans f41
  have B1 := tr_ne B1 ho (by omega)
  have B21 := tr_ne B21 ho (by omega)
  have hF : ∀ a : Nat, a < b → h a = h0 a := fun a ha => (ho a (by omega)).trans (hF a ha)
  refine aw_aload_n dX11_init_34 rfl ?_
  refine aw_new1 (n1 := b + 43) (bc' := 6) (bs' := 266) dX11_init_35 nwX11_23 (by decide) (by decide) rfl (fun h f42 ho => ?_)
  have f0 := (ho b (by omega)).trans f0
  have f41 := (ho (b + 41) (by omega)).trans f41
  have B1 := tr_lt B1 ho (by omega)
  have B21 := tr_lt B21 ho (by omega)
  have hF : ∀ a : Nat, a < b → h a = h0 a := fun a ha => (ho a (by omega)).trans (hF a ha)
  refine aw_dup dX11_init_38 rfl ?_
  refine aw_callI0 (mc' := 1) (ms' := 150) (bc' := 5) (bs' := 116) dX11_init_39 cmX7_init ciX11_25 (Nat.le_of_ble_eq_true rfl) (tX7_init (b := (b + 42)) f42) (by decide) (by decide) (fun r n' h hq => ?_)
  obtain ⟨rfl, rfl, hq, ho⟩ := hq
  have f0 := (ho b (by omega)).trans f0
  have f41 := (ho (b + 41) (by omega)).trans f41
  have B1 := tr_lt B1 ho (by omega)
  have B21 := tr_lt B21 ho (by omega)
  have hF : ∀ a : Nat, a < b → h a = h0 a := fun a ha => (ho a (by omega)).trans (hF a ha)
  have B42 : is_rd h (b + 42) R00 := hq
  refine aw_putF1 dX11_init_42 fpX11_26 rfl f0 (Nat.le_of_ble_eq_true rfl) rfl rfl (fun h f0 ho => ?_)
  have f0 : h b = some (aO 11 [.ref (b + 1), .ref (b + 21), .ref (b + 41), .ref (b + 42), .null, .long 0, .long 0, .int 0, .int 0, .int 0]) := f0
  have f41 := (ho (b + 41) (by omega)).trans f41
  have B1 := tr_ne B1 ho (by omega)
  have B21 := tr_ne B21 ho (by omega)
  have B42 := rd_ne B42 ho (by omega)
  have hF : ∀ a : Nat, a < b → h a = h0 a := fun a ha => (ho a (by omega)).trans (hF a ha)
  refine aw_aload_n dX11_init_45 rfl ?_
  refine aw_new1 (n1 := b + 45) (bc' := 4) (bs' := 112) dX11_init_46 nwX11_30 (by decide) (by decide) rfl (fun h f44 ho => ?_)
  have f0 := (ho b (by omega)).trans f0
  have f41 := (ho (b + 41) (by omega)).trans f41
  have B1 := tr_lt B1 ho (by omega)
  have B21 := tr_lt B21 ho (by omega)
  have B42 := rd_lt B42 ho (by omega)
  have hF : ∀ a : Nat, a < b → h a = h0 a := fun a ha => (ho a (by omega)).trans (hF a ha)
  refine aw_dup dX11_init_49 rfl ?_
  refine aw_callI0 (mc' := 4) (ms' := 112) (bc' := 0) (bs' := 0) dX11_init_50 cmX10_init ciX11_32 (Nat.le_of_ble_eq_true rfl) (tX10_init (b := (b + 44)) f44) (by decide) (by decide) (fun r n' h hq => ?_)
  obtain ⟨rfl, rfl, hq, ho⟩ := hq
  have f0 := (ho b (by omega)).trans f0
  have f41 := (ho (b + 41) (by omega)).trans f41
  have B1 := tr_lt B1 ho (by omega)
  have B21 := tr_lt B21 ho (by omega)
  have B42 := rd_lt B42 ho (by omega)
  have hF : ∀ a : Nat, a < b → h a = h0 a := fun a ha => (ho a (by omega)).trans (hF a ha)
  have B44 : is_wy h (b + 44) T00 := hq
  refine aw_putF1 dX11_init_53 fpX11_33 rfl f0 (Nat.le_of_ble_eq_true rfl) rfl rfl (fun h f0 ho => ?_)
  have f0 : h b = some (aO 11 [.ref (b + 1), .ref (b + 21), .ref (b + 41), .ref (b + 42), .ref (b + 44), .long 0, .long 0, .int 0, .int 0, .int 0]) := f0
  have f41 := (ho (b + 41) (by omega)).trans f41
  have B1 := tr_ne B1 ho (by omega)
  have B21 := tr_ne B21 ho (by omega)
  have B42 := rd_ne B42 ho (by omega)
  have B44 := wy_ne B44 ho (by omega)
  have hF : ∀ a : Nat, a < b → h a = h0 a := fun a ha => (ho a (by omega)).trans (hF a ha)
  refine aw_aload_n dX11_init_56 rfl ?_
  refine aw_lconst (v := 0) dX11_init_57 (by decide) ?_
  refine aw_put1 dX11_init_58 fpX11_37 f0 (Nat.le_of_ble_eq_true rfl) rfl rfl (fun h f0 ho => ?_)
  have f0 : h b = some (aO 11 [.ref (b + 1), .ref (b + 21), .ref (b + 41), .ref (b + 42), .ref (b + 44), .long 0, .long 0, .int 0, .int 0, .int 0]) := f0
  have f41 := (ho (b + 41) (by omega)).trans f41
  have B1 := tr_ne B1 ho (by omega)
  have B21 := tr_ne B21 ho (by omega)
  have B42 := rd_ne B42 ho (by omega)
  have B44 := wy_ne B44 ho (by omega)
  have hF : ∀ a : Nat, a < b → h a = h0 a := fun a ha => (ho a (by omega)).trans (hF a ha)
  refine aw_aload_n dX11_init_61 rfl ?_
  refine aw_lconst (v := 1) dX11_init_62 (by decide) ?_
  refine aw_put1 dX11_init_63 fpX11_41 f0 (Nat.le_of_ble_eq_true rfl) rfl rfl (fun h f0 ho => ?_)
  have f0 : h b = some (aO 11 [.ref (b + 1), .ref (b + 21), .ref (b + 41), .ref (b + 42), .ref (b + 44), .long 0, .long 1, .int 0, .int 0, .int 0]) := f0
  have f41 := (ho (b + 41) (by omega)).trans f41
  have B1 := tr_ne B1 ho (by omega)
  have B21 := tr_ne B21 ho (by omega)
  have B42 := rd_ne B42 ho (by omega)
  have B44 := wy_ne B44 ho (by omega)
  have hF : ∀ a : Nat, a < b → h a = h0 a := fun a ha => (ho a (by omega)).trans (hF a ha)
  exact aw_vret dX11_init_66 rfl (⟨rfl, rfl, ⟨⟨f0, f41⟩, B1, B21, B42, B44⟩, hF⟩)
