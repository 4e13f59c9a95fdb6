/-! WHAT CHANGES A TREASURY. -/
set_option maxHeartbeats 4000000 in
set_option maxRecDepth 100000 in
theorem tX5_drop {l : Launch} {E : aw_E} {d n t : Nat} {h0 : ah} {T0 : sT} (hT : is_tr h0 t T0) : am l E mX5_drop d 0 0 [.ref (t + 18)] n h0 (tr_post n h0 t (none) (sS 10 T0 4 0)) := by
  refine am_of (by decide +kernel) (Nat.le_of_ble_eq_true rfl) ?_
  have hF : ah_off h0 h0 t 20 := ah_off.rf
  refine aw_aload_n dX5_drop_0 rfl ?_
  refine aw_iconst (v := 0) dX5_drop_1 (by decide) ?_
  refine aw_pf_tr4 dX5_drop_2 fpX5_15 hT (fun h hT ho => ?_)
  have hF := hF.trans ho
  exact aw_vret dX5_drop_5 rfl (⟨rfl, rfl, hT, hF⟩)
set_option maxHeartbeats 4000000 in
set_option maxRecDepth 100000 in
theorem tX5_dropLast {l : Launch} {E : aw_E} {d n t : Nat} {h0 : ah} {T0 : sT} (hT : is_tr h0 t T0) : am l E mX5_dropLast (d + 1) 0 0 [.ref (t + 18)] n h0 (tr_post n h0 t (none) (pDropLast T0)) := by
  refine am_of (by decide +kernel) (Nat.le_of_ble_eq_true rfl) ?_
  have hF : ah_off h0 h0 t 20 := ah_off.rf
  refine aw_aload_n dX5_dropLast_0 rfl ?_
  refine aw_iconst (v := 0) dX5_dropLast_1 (by decide) ?_
  refine aw_aload_n dX5_dropLast_2 rfl ?_
  refine aw_get dX5_dropLast_3 flX5_15 (tr_c18 hT) rfl ?_
  refine aw_iconst (v := 1) dX5_dropLast_6 (by decide) ?_
  refine aw_isub dX5_dropLast_7 ?_
  refine aw_mmax dX5_dropLast_8 mmX5_19 (Nat.le_of_ble_eq_true rfl) ?_
  refine aw_pf_tr4 dX5_dropLast_11 fpX5_15 hT (fun h hT ho => ?_)
  have hF := hF.trans ho
  exact aw_vret dX5_dropLast_14 rfl (⟨rfl, rfl, hT, hF⟩)
set_option maxHeartbeats 4000000 in
set_option maxRecDepth 100000 in
theorem tX5_placeOf {l : Launch} {E : aw_E} {d n t : Nat} {h : ah} {T : sT} (hT : is_tr h t T) {f : Int32} : am l E mX5_placeOf d 0 0 [.ref (t + 18), .int f] n h (aw_eq n h (some (.int (pPlace T f)))) := by
  refine am_of (by decide +kernel) (Nat.le_of_ble_eq_true rfl) ?_
  refine aw_aload_n dX5_placeOf_0 rfl ?_
  refine aw_get dX5_placeOf_1 flX5_15 (tr_c18 hT) rfl ?_
  refine aw_iconst (v := 1) dX5_placeOf_4 (by decide) ?_
  refine aw_isub dX5_placeOf_5 ?_
  refine aw_bipush (v := 14) dX5_placeOf_6 (by decide) ?_
  refine aw_imul dX5_placeOf_8 ?_
  refine aw_iload_n dX5_placeOf_9 rfl ?_
  refine aw_iadd dX5_placeOf_10 ?_
  exact aw_iret dX5_placeOf_11 rfl (⟨rfl, rfl, rfl⟩)
theorem vp_in_ofN {p : Int32} {N : Nat} (h0 : ¬ p < 0) (h6 : ¬ nI N ≤ p) (hN : N < 2 ^ 31) : vp_in p N := by
  rw [vp_in_iff]
  rw [fa_lt] at h0
  rw [fa_le, nI_toInt hN] at h6
  have e0 : (0 : Int32).toInt = 0 := by decide
  omega
set_option maxHeartbeats 4000000 in
set_option maxRecDepth 100000 in
theorem tX5_last {l : Launch} {E : aw_E} {d n t : Nat} {h : ah} {T : sT} (hT : is_tr h t T) {f : Int32} : am l E mX5_last (d + 1) 0 0 [.ref (t + 18), .int f] n h (aw_eq n h (some (.int (pLast T f)))) := by
  refine am_of (by decide +kernel) (Nat.le_of_ble_eq_true rfl) ?_
  refine aw_aload_n dX5_last_0 rfl ?_
  refine aw_iload_n dX5_last_1 rfl ?_
  refine aw_callV1p dX5_last_2 cmX5_placeOf cvX5_25 (tr_c18 hT) (Nat.le_of_ble_eq_true rfl) (tX5_placeOf hT) ?_
  refine aw_istore_n dX5_last_5 (by decide) ?_
  refine aw_iload_n dX5_last_6 rfl ?_
  refine aw_if_lt (tgt := 28) dX5_last_7 (by decide) (fun c7 => ?_) (fun c7 => ?_)
  · refine aw_iconst (v := 0) dX5_last_28 (by decide) ?_
    exact aw_iret dX5_last_29 rfl (⟨congrArg (fun z => some (Value.int z)) (if_pos c7), rfl, rfl⟩)
  · refine aw_iload_n dX5_last_10 rfl ?_
    refine aw_aload_n dX5_last_11 rfl ?_
    refine aw_get dX5_last_12 flX5_11 (tr_c18 hT) rfl ?_
    refine aw_alenI (v := 112) dX5_last_15 (tr_c19 hT) rfl ?_
    refine aw_icmp_ge (tgt := 28) dX5_last_16 (by decide) (fun c16 => ?_) (fun c16 => ?_)
    · refine aw_iconst (v := 0) dX5_last_28 (by decide) ?_
      exact aw_iret dX5_last_29 rfl (⟨congrArg (fun z => some (Value.int z)) ((if_neg c7).trans (if_pos c16)), rfl, rfl⟩)
    · refine aw_aload_n dX5_last_19 rfl ?_
      refine aw_get dX5_last_20 flX5_11 (tr_c18 hT) rfl ?_
      refine aw_iload_n dX5_last_23 rfl ?_
      refine aw_iald dX5_last_24 (tr_c19 hT) (vp_in_ofN (N := 112) c7 c16 (by decide)) ?_
      refine aw_goto (tgt := 29) dX5_last_25 (by decide) ?_
      exact aw_iret dX5_last_29 rfl (⟨congrArg (fun z => some (Value.int z)) ((if_neg c7).trans (if_neg c16)), rfl, rfl⟩)
set_option maxHeartbeats 4000000 in
set_option maxRecDepth 100000 in
theorem tX5_put {l : Launch} {E : aw_E} {d n t : Nat} {h0 : ah} {T0 : sT} (hT : is_tr h0 t T0) {f v : Int32} : am l E mX5_put (d + 1) 0 0 [.ref (t + 18), .int f, .int v] n h0 (tr_post n h0 t (none) (pPut T0 f v)) := by
  refine am_of (by decide +kernel) (Nat.le_of_ble_eq_true rfl) ?_
  have hF : ah_off h0 h0 t 20 := ah_off.rf
  refine aw_aload_n dX5_put_0 rfl ?_
  refine aw_iload_n dX5_put_1 rfl ?_
  refine aw_callV1p dX5_put_2 cmX5_placeOf cvX5_25 (tr_c18 hT) (Nat.le_of_ble_eq_true rfl) (tX5_placeOf hT) ?_
  refine aw_istore_n dX5_put_5 (by decide) ?_
  refine aw_iload_n dX5_put_6 rfl ?_
  refine aw_if_lt (tgt := 26) dX5_put_7 (by decide) (fun c7 => ?_) (fun c7 => ?_)
  · exact aw_vret dX5_put_26 rfl (⟨rfl, rfl, is_of (P := is_tr _ t) (if_pos c7) hT, hF⟩)
  · refine aw_iload_n dX5_put_10 rfl ?_
    refine aw_aload_n dX5_put_11 rfl ?_
    refine aw_get dX5_put_12 flX5_11 (tr_c18 hT) rfl ?_
    refine aw_alenI (v := 112) dX5_put_15 (tr_c19 hT) rfl ?_
    refine aw_icmp_ge (tgt := 26) dX5_put_16 (by decide) (fun c16 => ?_) (fun c16 => ?_)
    · exact aw_vret dX5_put_26 rfl (⟨rfl, rfl, is_of (P := is_tr _ t) ((if_neg c7).trans (if_pos c16)) hT, hF⟩)
    · refine aw_aload_n dX5_put_19 rfl ?_
      refine aw_get dX5_put_20 flX5_11 (tr_c18 hT) rfl ?_
      refine aw_iload_n dX5_put_23 rfl ?_
      refine aw_iload_n dX5_put_24 rfl ?_
      refine aw_ia_tr9 dX5_put_25 hT (vp_in_ofN (N := 112) c7 c16 (by decide)) (fun h hT ho => ?_)
      have hF := hF.trans ho
      exact aw_vret dX5_put_26 rfl (⟨rfl, rfl, is_of (P := is_tr _ t) ((if_neg c7).trans (if_neg c16)) hT, hF⟩)
set_option maxHeartbeats 4000000 in
set_option maxRecDepth 100000 in
theorem tX5_open {l : Launch} {E : aw_E} {d n t : Nat} {h0 : ah} {T0 : sT} (hT : is_tr h0 t T0) : am l E mX5_open d 0 0 [.ref (t + 18)] n h0 (tr_post n h0 t (none) (pOpen T0)) := by
  refine am_of (by decide +kernel) (Nat.le_of_ble_eq_true rfl) ?_
  have hF : ah_off h0 h0 t 20 := ah_off.rf
  refine aw_aload_n dX5_open_0 rfl ?_
  refine aw_get dX5_open_1 flX5_15 (tr_c18 hT) rfl ?_
  refine aw_bipush (v := 8) dX5_open_4 (by decide) ?_
  refine aw_icmp_ge (tgt := 20) dX5_open_6 (by decide) (fun c6 => ?_) (fun c6 => ?_)
  · refine aw_bipush (v := 14) dX5_open_20 (by decide) ?_
    refine aw_istore_n dX5_open_22 (by decide) ?_
    have key : ∀ (k j : Nat) (h : ah) (T : sT), j + k = 112 → 14 ≤ j → is_tr h t T → ah_off h0 h t 20 → pShift 98 14 T0 = pShift k j T → aw l E mX5_open (aw_Z E (tr_post n h0 t (none) (pOpen T0))) d 0 0 23 [(0, .ref (t + 18)), (1, .int (nI j))] [] n h := by
      intro k
      induction k with
      | zero =>
        intro j h T hj hj14 hT hF heq
        refine aw_iload_n dX5_open_23 rfl ?_
        refine aw_aload_n dX5_open_24 rfl ?_
        refine aw_get dX5_open_25 flX5_11 (tr_c18 hT) rfl ?_
        refine aw_alenI (v := 112) dX5_open_28 (tr_c19 hT) rfl ?_
        refine aw_icmp_ge (tgt := 53) dX5_open_29 (by decide) (fun c29 => ?_) (fun c29 => ?_)
        · exact aw_vret dX5_open_53 rfl (⟨rfl, rfl, is_of (P := is_tr _ t) ((if_pos c6).trans heq) hT, hF⟩)
        · exact absurd ((nI_leI (a := 112) (b := j) (by omega) (by omega)).mpr (by omega)) c29
      | succ k ih =>
        intro j h T hj hj14 hT hF heq
        refine aw_iload_n dX5_open_23 rfl ?_
        refine aw_aload_n dX5_open_24 rfl ?_
        refine aw_get dX5_open_25 flX5_11 (tr_c18 hT) rfl ?_
        refine aw_alenI (v := 112) dX5_open_28 (tr_c19 hT) rfl ?_
        refine aw_icmp_ge (tgt := 53) dX5_open_29 (by decide) (fun c29 => ?_) (fun c29 => ?_)
        · exact absurd ((nI_leI (a := 112) (b := j) (by omega) (by omega)).mp c29) (by omega)
        · refine aw_aload_n dX5_open_32 rfl ?_
          refine aw_get dX5_open_33 flX5_11 (tr_c18 hT) rfl ?_
          refine aw_iload_n dX5_open_36 rfl ?_
          refine aw_bipush (v := 14) dX5_open_37 (by decide) ?_
          refine aw_isub dX5_open_39 ?_
          refine aw_aload_n dX5_open_40 rfl ?_
          refine aw_get dX5_open_41 flX5_11 (tr_c18 hT) rfl ?_
          refine aw_iload_n dX5_open_44 rfl ?_
          refine aw_ialdN dX5_open_45 (tr_c19 hT) rfl (by omega) (by decide) ?_
          refine aw_iN_tr9 dX5_open_46 hT (pk_sub (a := j) (b := 14) hj14) (by omega) (fun h hT ho => ?_)
          have hF := hF.trans ho
          refine aw_inc (w := 1) dX5_open_47 rfl (by decide) (by decide) ?_
          refine aw_goto (tgt := 23) dX5_open_50 (by decide) ?_
          exact aw_loc [0, 1] (ls2 := [(0, .ref (t + 18)), (1, .int (nI (j + 1)))]) (by first | (rw [nI_succ]; rfl) | rfl) (ih (j + 1) _ _ (by omega) (by omega) hT hF heq)
    exact aw_loc [0, 1] (ls2 := [(0, .ref (t + 18)), (1, .int (nI 14))]) rfl (key 98 14 _ _ (by first | rfl | omega) (by omega) hT hF rfl)
  · refine aw_aload_n dX5_open_9 rfl ?_
    refine aw_dup dX5_open_10 rfl ?_
    refine aw_get dX5_open_11 flX5_15 (tr_c18 hT) rfl ?_
    refine aw_iconst (v := 1) dX5_open_14 (by decide) ?_
    refine aw_iadd dX5_open_15 ?_
    refine aw_pf_tr4 dX5_open_16 fpX5_15 hT (fun h hT ho => ?_)
    have hF := hF.trans ho
    exact aw_vret dX5_open_19 rfl (⟨rfl, rfl, is_of (P := is_tr _ t) (if_neg c6) hT, hF⟩)
set_option maxHeartbeats 4000000 in
set_option maxRecDepth 100000 in
theorem tX5_copyFrom {l : Launch} {E : aw_E} {d n t s : Nat} {h0 : ah} {T0 O : sT} (hT : is_tr h0 t T0) (hO : is_tr h0 s O) (hds : s + 20 ≤ t ∨ t + 20 ≤ s) : am l E mX5_copyFrom d 0 0 [.ref (t + 18), .ref (s + 18)] n h0 (tr_post n h0 t (none) (pCopyF O T0)) := by
  refine am_of (by decide +kernel) (Nat.le_of_ble_eq_true rfl) ?_
  have hF : ah_off h0 h0 t 20 := ah_off.rf
  refine aw_iconst (v := 0) dX5_copyFrom_0 (by decide) ?_
  refine aw_istore_n dX5_copyFrom_1 (by decide) ?_
  have key : ∀ (k j : Nat) (h : ah) (T : sT), j + k = 112 → is_tr h t T → is_tr h s O → ah_off h0 h t 20 → pCopy O 112 0 T0 = pCopy O k j T → aw l E mX5_copyFrom (aw_Z E (tr_post n h0 t (none) (pCopyF O T0))) d 0 0 2 [(0, .ref (t + 18)), (1, .ref (s + 18)), (2, .int (nI j))] [] n h := by
    intro k
    induction k with
    | zero =>
      intro j h T hj hT hO hF heq
      refine aw_iload_n dX5_copyFrom_2 rfl ?_
      refine aw_bipush (v := 112) dX5_copyFrom_3 (by decide) ?_
      refine aw_icmp_ge (tgt := 26) dX5_copyFrom_5 (by decide) (fun c5 => ?_) (fun c5 => ?_)
      · refine aw_aload_n dX5_copyFrom_26 rfl ?_
        refine aw_aload_n dX5_copyFrom_27 rfl ?_
        refine aw_get dX5_copyFrom_28 flX5_15 (tr_c18 hO) rfl ?_
        refine aw_pf_tr4 dX5_copyFrom_31 fpX5_15 hT (fun h hT ho => ?_)
        have hO := tr_off hO ho hds
        have hF := hF.trans ho
        exact aw_vret dX5_copyFrom_34 rfl (⟨rfl, rfl, is_of (P := is_tr _ t) (congrArg (fun Z => sS 10 Z 4 (O 10 4)) heq) hT, hF⟩)
      · exact absurd ((nI_leI (a := 112) (b := j) (by omega) (by omega)).mpr (by omega)) c5
    | succ k ih =>
      intro j h T hj hT hO hF heq
      refine aw_iload_n dX5_copyFrom_2 rfl ?_
      refine aw_bipush (v := 112) dX5_copyFrom_3 (by decide) ?_
      refine aw_icmp_ge (tgt := 26) dX5_copyFrom_5 (by decide) (fun c5 => ?_) (fun c5 => ?_)
      · exact absurd ((nI_leI (a := 112) (b := j) (by omega) (by omega)).mp c5) (by omega)
      · refine aw_aload_n dX5_copyFrom_8 rfl ?_
        refine aw_get dX5_copyFrom_9 flX5_11 (tr_c18 hT) rfl ?_
        refine aw_iload_n dX5_copyFrom_12 rfl ?_
        refine aw_aload_n dX5_copyFrom_13 rfl ?_
        refine aw_get dX5_copyFrom_14 flX5_11 (tr_c18 hO) rfl ?_
        refine aw_iload_n dX5_copyFrom_17 rfl ?_
        refine aw_ialdN dX5_copyFrom_18 (tr_c19 hO) rfl (by omega) (by decide) ?_
        refine aw_iN_tr9 dX5_copyFrom_19 hT rfl (by omega) (fun h hT ho => ?_)
        have hO := tr_off hO ho hds
        have hF := hF.trans ho
        refine aw_inc (w := 1) dX5_copyFrom_20 rfl (by decide) (by decide) ?_
        refine aw_goto (tgt := 2) dX5_copyFrom_23 (by decide) ?_
        exact aw_loc [0, 1, 2] (ls2 := [(0, .ref (t + 18)), (1, .ref (s + 18)), (2, .int (nI (j + 1)))]) (by first | (rw [nI_succ]; rfl) | rfl) (ih (j + 1) _ _ (by omega) hT hO hF heq)
  exact aw_loc [0, 1, 2] (ls2 := [(0, .ref (t + 18)), (1, .ref (s + 18)), (2, .int (nI 0))]) rfl (key (112) 0 _ _ (by first | rfl | omega) hT hO hF rfl)
set_option maxHeartbeats 4000000 in
set_option maxRecDepth 100000 in
theorem tX4_drop {l : Launch} {E : aw_E} {d n t : Nat} {h0 : ah} {T0 : sT} (hT : is_tr h0 t T0) : am l E mX4_drop d 0 0 [.ref (t + 13)] n h0 (tr_post n h0 t (none) (sS 10 T0 3 0)) := by
  refine am_of (by decide +kernel) (Nat.le_of_ble_eq_true rfl) ?_
  have hF : ah_off h0 h0 t 20 := ah_off.rf
  refine aw_aload_n dX4_drop_0 rfl ?_
  refine aw_iconst (v := 0) dX4_drop_1 (by decide) ?_
  refine aw_pf_tr3 dX4_drop_2 fpX4_24 hT (fun h hT ho => ?_)
  have hF := hF.trans ho
  exact aw_vret dX4_drop_5 rfl (⟨rfl, rfl, hT, hF⟩)
set_option maxHeartbeats 4000000 in
set_option maxRecDepth 100000 in
theorem tX4_add {l : Launch} {E : aw_E} {d n t : Nat} {h0 : ah} {T0 : sT} (hT : is_tr h0 t T0) {p n' w' d' : Int32} (g0 : ¬ T0 10 3 < 0) (g6 : ¬ 6 ≤ T0 10 3) : am l E mX4_add d 0 0 [.ref (t + 13), .int p, .int n', .int w', .int d'] n h0 (tr_post n h0 t (some (.int (T0 10 3 + 1))) (nAddS T0 p n' w' d')) := by
  refine am_of (by decide +kernel) (Nat.le_of_ble_eq_true rfl) ?_
  have hF : ah_off h0 h0 t 20 := ah_off.rf
  refine aw_aload_n dX4_add_0 rfl ?_
  refine aw_get dX4_add_1 flX4_24 (tr_c13 hT) rfl ?_
  refine aw_if_lt (tgt := 16) dX4_add_4 (by decide) (fun c4 => ?_) (fun c4 => ?_)
  · refine aw_bipush (v := -4) dX4_add_16 (by decide) ?_
    exact aw_iret dX4_add_18 rfl (absurd c4 g0)
  · refine aw_aload_n dX4_add_7 rfl ?_
    refine aw_get dX4_add_8 flX4_24 (tr_c13 hT) rfl ?_
    refine aw_bipush (v := 6) dX4_add_11 (by decide) ?_
    refine aw_icmp_lt (tgt := 19) dX4_add_13 (by decide) (fun c13 => ?_) (fun c13 => ?_)
    · refine aw_aload_n dX4_add_19 rfl ?_
      refine aw_get dX4_add_20 flX4_9 (tr_c13 hT) rfl ?_
      refine aw_aload_n dX4_add_23 rfl ?_
      refine aw_get dX4_add_24 flX4_24 (tr_c13 hT) rfl ?_
      refine aw_iload_n dX4_add_27 rfl ?_
      refine aw_ia_tr5 dX4_add_28 hT (vp_in_of6 g0 g6) (fun h hT ho => ?_)
      have hF := hF.trans ho
      refine aw_aload_n dX4_add_29 rfl ?_
      refine aw_get dX4_add_30 flX4_15 (tr_c13 hT) rfl ?_
      refine aw_aload_n dX4_add_33 rfl ?_
      refine aw_get dX4_add_34 flX4_24 (tr_c13 hT) rfl ?_
      refine aw_iload_n dX4_add_37 rfl ?_
      refine aw_ia_tr6 dX4_add_38 hT (vp_in_of6 g0 g6) (fun h hT ho => ?_)
      have hF := hF.trans ho
      refine aw_aload_n dX4_add_39 rfl ?_
      refine aw_get dX4_add_40 flX4_18 (tr_c13 hT) rfl ?_
      refine aw_aload_n dX4_add_43 rfl ?_
      refine aw_get dX4_add_44 flX4_24 (tr_c13 hT) rfl ?_
      refine aw_iload_n dX4_add_47 rfl ?_
      refine aw_ia_tr7 dX4_add_48 hT (vp_in_of6 g0 g6) (fun h hT ho => ?_)
      have hF := hF.trans ho
      refine aw_aload_n dX4_add_49 rfl ?_
      refine aw_get dX4_add_50 flX4_21 (tr_c13 hT) rfl ?_
      refine aw_aload_n dX4_add_53 rfl ?_
      refine aw_get dX4_add_54 flX4_24 (tr_c13 hT) rfl ?_
      refine aw_iload dX4_add_57 rfl ?_
      refine aw_ia_tr8 dX4_add_59 hT (vp_in_of6 g0 g6) (fun h hT ho => ?_)
      have hF := hF.trans ho
      refine aw_aload_n dX4_add_60 rfl ?_
      refine aw_dup dX4_add_61 rfl ?_
      refine aw_get dX4_add_62 flX4_24 (tr_c13 hT) rfl ?_
      refine aw_iconst (v := 1) dX4_add_65 (by decide) ?_
      refine aw_iadd dX4_add_66 ?_
      refine aw_pf_tr3 dX4_add_67 fpX4_24 hT (fun h hT ho => ?_)
      have hF := hF.trans ho
      refine aw_aload_n dX4_add_70 rfl ?_
      refine aw_get dX4_add_71 flX4_24 (tr_c13 hT) rfl ?_
      exact aw_iret dX4_add_74 rfl (⟨rfl, rfl, hT, hF⟩)
    · refine aw_bipush (v := -4) dX4_add_16 (by decide) ?_
      exact aw_iret dX4_add_18 rfl (absurd (Int32.not_lt.mp c13) g6)
set_option maxHeartbeats 4000000 in
set_option maxRecDepth 100000 in
theorem tX4_copyFrom {l : Launch} {E : aw_E} {d n t s : Nat} {h0 : ah} {T0 O : sT} (hT : is_tr h0 t T0) (hO : is_tr h0 s O) (hds : s + 20 ≤ t ∨ t + 20 ≤ s) : am l E mX4_copyFrom d 0 0 [.ref (t + 13), .ref (s + 13)] n h0 (tr_post n h0 t (none) (nCopyF O T0)) := by
  refine am_of (by decide +kernel) (Nat.le_of_ble_eq_true rfl) ?_
  have hF : ah_off h0 h0 t 20 := ah_off.rf
  refine aw_iconst (v := 0) dX4_copyFrom_0 (by decide) ?_
  refine aw_istore_n dX4_copyFrom_1 (by decide) ?_
  have key : ∀ (k j : Nat) (h : ah) (T : sT), j + k = 6 → is_tr h t T → is_tr h s O → ah_off h0 h t 20 → nCopy O 6 0 T0 = nCopy O k j T → aw l E mX4_copyFrom (aw_Z E (tr_post n h0 t (none) (nCopyF O T0))) d 0 0 2 [(0, .ref (t + 13)), (1, .ref (s + 13)), (2, .int (nI j))] [] n h := by
    intro k
    induction k with
    | zero =>
      intro j h T hj hT hO hF heq
      refine aw_iload_n dX4_copyFrom_2 rfl ?_
      refine aw_bipush (v := 6) dX4_copyFrom_3 (by decide) ?_
      refine aw_icmp_ge (tgt := 62) dX4_copyFrom_5 (by decide) (fun c5 => ?_) (fun c5 => ?_)
      · refine aw_aload_n dX4_copyFrom_62 rfl ?_
        refine aw_aload_n dX4_copyFrom_63 rfl ?_
        refine aw_get dX4_copyFrom_64 flX4_24 (tr_c13 hO) rfl ?_
        refine aw_pf_tr3 dX4_copyFrom_67 fpX4_24 hT (fun h hT ho => ?_)
        have hO := tr_off hO ho hds
        have hF := hF.trans ho
        exact aw_vret dX4_copyFrom_70 rfl (⟨rfl, rfl, is_of (P := is_tr _ t) (congrArg (fun Z => sS 10 Z 3 (O 10 3)) heq) hT, hF⟩)
      · exact absurd ((nI_leI (a := 6) (b := j) (by omega) (by omega)).mpr (by omega)) c5
    | succ k ih =>
      intro j h T hj hT hO hF heq
      refine aw_iload_n dX4_copyFrom_2 rfl ?_
      refine aw_bipush (v := 6) dX4_copyFrom_3 (by decide) ?_
      refine aw_icmp_ge (tgt := 62) dX4_copyFrom_5 (by decide) (fun c5 => ?_) (fun c5 => ?_)
      · exact absurd ((nI_leI (a := 6) (b := j) (by omega) (by omega)).mp c5) (by omega)
      · refine aw_aload_n dX4_copyFrom_8 rfl ?_
        refine aw_get dX4_copyFrom_9 flX4_9 (tr_c13 hT) rfl ?_
        refine aw_iload_n dX4_copyFrom_12 rfl ?_
        refine aw_aload_n dX4_copyFrom_13 rfl ?_
        refine aw_get dX4_copyFrom_14 flX4_9 (tr_c13 hO) rfl ?_
        refine aw_iload_n dX4_copyFrom_17 rfl ?_
        refine aw_ialdN dX4_copyFrom_18 (tr_c14 hO) rfl (by omega) (by decide) ?_
        refine aw_iN_tr5 dX4_copyFrom_19 hT rfl (by omega) (fun h hT ho => ?_)
        have hO := tr_off hO ho hds
        have hF := hF.trans ho
        refine aw_aload_n dX4_copyFrom_20 rfl ?_
        refine aw_get dX4_copyFrom_21 flX4_15 (tr_c13 hT) rfl ?_
        refine aw_iload_n dX4_copyFrom_24 rfl ?_
        refine aw_aload_n dX4_copyFrom_25 rfl ?_
        refine aw_get dX4_copyFrom_26 flX4_15 (tr_c13 hO) rfl ?_
        refine aw_iload_n dX4_copyFrom_29 rfl ?_
        refine aw_ialdN dX4_copyFrom_30 (tr_c15 hO) rfl (by omega) (by decide) ?_
        refine aw_iN_tr6 dX4_copyFrom_31 hT rfl (by omega) (fun h hT ho => ?_)
        have hO := tr_off hO ho hds
        have hF := hF.trans ho
        refine aw_aload_n dX4_copyFrom_32 rfl ?_
        refine aw_get dX4_copyFrom_33 flX4_18 (tr_c13 hT) rfl ?_
        refine aw_iload_n dX4_copyFrom_36 rfl ?_
        refine aw_aload_n dX4_copyFrom_37 rfl ?_
        refine aw_get dX4_copyFrom_38 flX4_18 (tr_c13 hO) rfl ?_
        refine aw_iload_n dX4_copyFrom_41 rfl ?_
        refine aw_ialdN dX4_copyFrom_42 (tr_c16 hO) rfl (by omega) (by decide) ?_
        refine aw_iN_tr7 dX4_copyFrom_43 hT rfl (by omega) (fun h hT ho => ?_)
        have hO := tr_off hO ho hds
        have hF := hF.trans ho
        refine aw_aload_n dX4_copyFrom_44 rfl ?_
        refine aw_get dX4_copyFrom_45 flX4_21 (tr_c13 hT) rfl ?_
        refine aw_iload_n dX4_copyFrom_48 rfl ?_
        refine aw_aload_n dX4_copyFrom_49 rfl ?_
        refine aw_get dX4_copyFrom_50 flX4_21 (tr_c13 hO) rfl ?_
        refine aw_iload_n dX4_copyFrom_53 rfl ?_
        refine aw_ialdN dX4_copyFrom_54 (tr_c17 hO) rfl (by omega) (by decide) ?_
        refine aw_iN_tr8 dX4_copyFrom_55 hT rfl (by omega) (fun h hT ho => ?_)
        have hO := tr_off hO ho hds
        have hF := hF.trans ho
        refine aw_inc (w := 1) dX4_copyFrom_56 rfl (by decide) (by decide) ?_
        refine aw_goto (tgt := 2) dX4_copyFrom_59 (by decide) ?_
        exact aw_loc [0, 1, 2] (ls2 := [(0, .ref (t + 13)), (1, .ref (s + 13)), (2, .int (nI (j + 1)))]) (by first | (rw [nI_succ]; rfl) | rfl) (ih (j + 1) _ _ (by omega) hT hO hF heq)
  exact aw_loc [0, 1, 2] (ls2 := [(0, .ref (t + 13)), (1, .ref (s + 13)), (2, .int (nI 0))]) rfl (key (6) 0 _ _ (by first | rfl | omega) hT hO hF rfl)
set_option maxHeartbeats 4000000 in
set_option maxRecDepth 100000 in
theorem tX9_empty {l : Launch} {E : aw_E} {d n t : Nat} {h0 : ah} {T0 : sT} (hT : is_tr h0 t T0) : am l E mX9_empty (d + 1) 0 0 [.ref t] n h0 (tr_post n h0 t (none) (trEmpty T0)) := by
  refine am_of (by decide +kernel) (Nat.le_of_ble_eq_true rfl) ?_
  have hF : ah_off h0 h0 t 20 := ah_off.rf
  refine aw_aload_n dX9_empty_0 rfl ?_
  refine aw_iconst (v := 0) dX9_empty_1 (by decide) ?_
  refine aw_pf_tr0 dX9_empty_2 fpX9_67 hT (fun h hT ho => ?_)
  have hF := hF.trans ho
  refine aw_aload_n dX9_empty_5 rfl ?_
  refine aw_iconst (v := 0) dX9_empty_6 (by decide) ?_
  refine aw_pf_tr1 dX9_empty_7 fpX9_71 hT (fun h hT ho => ?_)
  have hF := hF.trans ho
  refine aw_aload_n dX9_empty_10 rfl ?_
  refine aw_iconst (v := 0) dX9_empty_11 (by decide) ?_
  refine aw_pf_tr2 dX9_empty_12 fpX9_74 hT (fun h hT ho => ?_)
  have hF := hF.trans ho
  refine aw_aload_n dX9_empty_15 rfl ?_
  refine aw_get dX9_empty_16 flX9_56 (tr_c0 hT) rfl ?_
  refine aw_callV0e dX9_empty_19 cmX4_drop cvX9_77 (tr_c13 hT) (Nat.le_of_ble_eq_true rfl) (tX4_drop hT) (fun r n' h' hq => ?_)
  obtain ⟨rfl, rfl, hT, ho⟩ := hq
  have hF := hF.trans ho
  refine aw_aload_n dX9_empty_22 rfl ?_
  refine aw_get dX9_empty_23 flX9_63 (tr_c0 hT) rfl ?_
  refine aw_callV0e dX9_empty_26 cmX5_drop cvX9_80 (tr_c18 hT) (Nat.le_of_ble_eq_true rfl) (tX5_drop hT) (fun r n' h' hq => ?_)
  obtain ⟨rfl, rfl, hT, ho⟩ := hq
  have hF := hF.trans ho
  exact aw_vret dX9_empty_29 rfl (⟨rfl, rfl, hT, hF⟩)
set_option maxHeartbeats 4000000 in
set_option maxRecDepth 100000 in
theorem tX9_forgetSteps {l : Launch} {E : aw_E} {d n t : Nat} {h0 : ah} {T0 : sT} (hT : is_tr h0 t T0) : am l E mX9_forgetSteps (d + 1) 0 0 [.ref t] n h0 (tr_post n h0 t (none) (sS 10 T0 4 0)) := by
  refine am_of (by decide +kernel) (Nat.le_of_ble_eq_true rfl) ?_
  have hF : ah_off h0 h0 t 20 := ah_off.rf
  refine aw_aload_n dX9_forgetSteps_0 rfl ?_
  refine aw_get dX9_forgetSteps_1 flX9_63 (tr_c0 hT) rfl ?_
  refine aw_callV0e dX9_forgetSteps_4 cmX5_drop cvX9_80 (tr_c18 hT) (Nat.le_of_ble_eq_true rfl) (tX5_drop hT) (fun r n' h' hq => ?_)
  obtain ⟨rfl, rfl, hT, ho⟩ := hq
  have hF := hF.trans ho
  exact aw_vret dX9_forgetSteps_7 rfl (⟨rfl, rfl, hT, hF⟩)
set_option maxHeartbeats 4000000 in
set_option maxRecDepth 100000 in
theorem tX9_copyFrom {l : Launch} {E : aw_E} {d n t s : Nat} {h0 : ah} {T0 O : sT} (hT : is_tr h0 t T0) (hO : is_tr h0 s O) (hds : s + 20 ≤ t ∨ t + 20 ≤ s) : am l E mX9_copyFrom (d + 1) 0 0 [.ref t, .ref s] n h0 (tr_post n h0 t (none) (trCopyF O T0)) := by
  refine am_of (by decide +kernel) (Nat.le_of_ble_eq_true rfl) ?_
  have hF : ah_off h0 h0 t 20 := ah_off.rf
  refine aw_aload_n dX9_copyFrom_0 rfl ?_
  refine aw_ifnonnull (tgt := 5) dX9_copyFrom_1 (by decide) ?_
  refine aw_iconst (v := 0) dX9_copyFrom_5 (by decide) ?_
  refine aw_istore_n dX9_copyFrom_6 (by decide) ?_
  have key : ∀ (k j : Nat) (h : ah) (T : sT), j + k = 6 → is_tr h t T → is_tr h s O → ah_off h0 h t 20 → trCopy O 6 0 T0 = trCopy O k j T → aw l E mX9_copyFrom (aw_Z E (tr_post n h0 t (none) (trCopyF O T0))) (d + 1) 0 0 7 [(0, .ref t), (1, .ref s), (2, .int (nI j))] [] n h := by
    intro k
    induction k with
    | zero =>
      intro j h T hj hT hO hF heq
      refine aw_iload_n dX9_copyFrom_7 rfl ?_
      refine aw_bipush (v := 6) dX9_copyFrom_8 (by decide) ?_
      refine aw_icmp_ge (tgt := 79) dX9_copyFrom_10 (by decide) (fun c10 => ?_) (fun c10 => ?_)
      · refine aw_aload_n dX9_copyFrom_79 rfl ?_
        refine aw_aload_n dX9_copyFrom_80 rfl ?_
        refine aw_get dX9_copyFrom_81 flX9_67 (tr_c0 hO) rfl ?_
        refine aw_pf_tr0 dX9_copyFrom_84 fpX9_67 hT (fun h hT ho => ?_)
        have hO := tr_off hO ho hds
        have hF := hF.trans ho
        refine aw_aload_n dX9_copyFrom_87 rfl ?_
        refine aw_aload_n dX9_copyFrom_88 rfl ?_
        refine aw_get dX9_copyFrom_89 flX9_71 (tr_c0 hO) rfl ?_
        refine aw_pf_tr1 dX9_copyFrom_92 fpX9_71 hT (fun h hT ho => ?_)
        have hO := tr_off hO ho hds
        have hF := hF.trans ho
        refine aw_aload_n dX9_copyFrom_95 rfl ?_
        refine aw_aload_n dX9_copyFrom_96 rfl ?_
        refine aw_get dX9_copyFrom_97 flX9_74 (tr_c0 hO) rfl ?_
        refine aw_pf_tr2 dX9_copyFrom_100 fpX9_74 hT (fun h hT ho => ?_)
        have hO := tr_off hO ho hds
        have hF := hF.trans ho
        refine aw_aload_n dX9_copyFrom_103 rfl ?_
        refine aw_get dX9_copyFrom_104 flX9_56 (tr_c0 hT) rfl ?_
        refine aw_aload_n dX9_copyFrom_107 rfl ?_
        refine aw_get dX9_copyFrom_108 flX9_56 (tr_c0 hO) rfl ?_
        refine aw_callV1e dX9_copyFrom_111 cmX4_copyFrom cvX9_81 (tr_c13 hT) (Nat.le_of_ble_eq_true rfl) (tX4_copyFrom hT hO hds) (fun r n' h' hq => ?_)
        obtain ⟨rfl, rfl, hT, ho⟩ := hq
        have hO := tr_off hO ho hds
        have hF := hF.trans ho
        refine aw_aload_n dX9_copyFrom_114 rfl ?_
        refine aw_get dX9_copyFrom_115 flX9_63 (tr_c0 hT) rfl ?_
        refine aw_aload_n dX9_copyFrom_118 rfl ?_
        refine aw_get dX9_copyFrom_119 flX9_63 (tr_c0 hO) rfl ?_
        refine aw_callV1e dX9_copyFrom_122 cmX5_copyFrom cvX9_85 (tr_c18 hT) (Nat.le_of_ble_eq_true rfl) (tX5_copyFrom hT hO hds) (fun r n' h' hq => ?_)
        obtain ⟨rfl, rfl, hT, ho⟩ := hq
        have hO := tr_off hO ho hds
        have hF := hF.trans ho
        exact aw_vret dX9_copyFrom_125 rfl (⟨rfl, rfl, is_of (P := is_tr _ t) (congrArg (fun Z => pCopyF O (nCopyF O (sS 10 (sS 10 (sS 10 Z 0 (O 10 0)) 1 (O 10 1)) 2 (O 10 2)))) heq) hT, hF⟩)
      · exact absurd ((nI_leI (a := 6) (b := j) (by omega) (by omega)).mpr (by omega)) c10
    | succ k ih =>
      intro j h T hj hT hO hF heq
      refine aw_iload_n dX9_copyFrom_7 rfl ?_
      refine aw_bipush (v := 6) dX9_copyFrom_8 (by decide) ?_
      refine aw_icmp_ge (tgt := 79) dX9_copyFrom_10 (by decide) (fun c10 => ?_) (fun c10 => ?_)
      · exact absurd ((nI_leI (a := 6) (b := j) (by omega) (by omega)).mp c10) (by omega)
      · refine aw_aload_n dX9_copyFrom_13 rfl ?_
        refine aw_get dX9_copyFrom_14 flX9_37 (tr_c0 hT) rfl ?_
        refine aw_iload_n dX9_copyFrom_17 rfl ?_
        refine aw_aload_n dX9_copyFrom_18 rfl ?_
        refine aw_get dX9_copyFrom_19 flX9_37 (tr_c0 hO) rfl ?_
        refine aw_iload_n dX9_copyFrom_22 rfl ?_
        refine aw_ialdN dX9_copyFrom_23 (tr_c8 hO) rfl (by omega) (by decide) ?_
        refine aw_iN_tr0 dX9_copyFrom_24 hT rfl (by omega) (fun h hT ho => ?_)
        have hO := tr_off hO ho hds
        have hF := hF.trans ho
        refine aw_aload_n dX9_copyFrom_25 rfl ?_
        refine aw_get dX9_copyFrom_26 flX9_41 (tr_c0 hT) rfl ?_
        refine aw_iload_n dX9_copyFrom_29 rfl ?_
        refine aw_aload_n dX9_copyFrom_30 rfl ?_
        refine aw_get dX9_copyFrom_31 flX9_41 (tr_c0 hO) rfl ?_
        refine aw_iload_n dX9_copyFrom_34 rfl ?_
        refine aw_ialdN dX9_copyFrom_35 (tr_c9 hO) rfl (by omega) (by decide) ?_
        refine aw_iN_tr1 dX9_copyFrom_36 hT rfl (by omega) (fun h hT ho => ?_)
        have hO := tr_off hO ho hds
        have hF := hF.trans ho
        refine aw_aload_n dX9_copyFrom_37 rfl ?_
        refine aw_get dX9_copyFrom_38 flX9_44 (tr_c0 hT) rfl ?_
        refine aw_iload_n dX9_copyFrom_41 rfl ?_
        refine aw_aload_n dX9_copyFrom_42 rfl ?_
        refine aw_get dX9_copyFrom_43 flX9_44 (tr_c0 hO) rfl ?_
        refine aw_iload_n dX9_copyFrom_46 rfl ?_
        refine aw_ialdN dX9_copyFrom_47 (tr_c10 hO) rfl (by omega) (by decide) ?_
        refine aw_iN_tr2 dX9_copyFrom_48 hT rfl (by omega) (fun h hT ho => ?_)
        have hO := tr_off hO ho hds
        have hF := hF.trans ho
        refine aw_aload_n dX9_copyFrom_49 rfl ?_
        refine aw_get dX9_copyFrom_50 flX9_47 (tr_c0 hT) rfl ?_
        refine aw_iload_n dX9_copyFrom_53 rfl ?_
        refine aw_aload_n dX9_copyFrom_54 rfl ?_
        refine aw_get dX9_copyFrom_55 flX9_47 (tr_c0 hO) rfl ?_
        refine aw_iload_n dX9_copyFrom_58 rfl ?_
        refine aw_ialdN dX9_copyFrom_59 (tr_c11 hO) rfl (by omega) (by decide) ?_
        refine aw_iN_tr3 dX9_copyFrom_60 hT rfl (by omega) (fun h hT ho => ?_)
        have hO := tr_off hO ho hds
        have hF := hF.trans ho
        refine aw_aload_n dX9_copyFrom_61 rfl ?_
        refine aw_get dX9_copyFrom_62 flX9_50 (tr_c0 hT) rfl ?_
        refine aw_iload_n dX9_copyFrom_65 rfl ?_
        refine aw_aload_n dX9_copyFrom_66 rfl ?_
        refine aw_get dX9_copyFrom_67 flX9_50 (tr_c0 hO) rfl ?_
        refine aw_iload_n dX9_copyFrom_70 rfl ?_
        refine aw_ialdN dX9_copyFrom_71 (tr_c12 hO) rfl (by omega) (by decide) ?_
        refine aw_iN_tr4 dX9_copyFrom_72 hT rfl (by omega) (fun h hT ho => ?_)
        have hO := tr_off hO ho hds
        have hF := hF.trans ho
        refine aw_inc (w := 1) dX9_copyFrom_73 rfl (by decide) (by decide) ?_
        refine aw_goto (tgt := 7) dX9_copyFrom_76 (by decide) ?_
        exact aw_loc [0, 1, 2] (ls2 := [(0, .ref t), (1, .ref s), (2, .int (nI (j + 1)))]) (by first | (rw [nI_succ]; rfl) | rfl) (ih (j + 1) _ _ (by omega) hT hO hF heq)
  exact aw_loc [0, 1, 2] (ls2 := [(0, .ref t), (1, .ref s), (2, .int (nI 0))]) rfl (key (6) 0 _ _ (by first | rfl | omega) hT hO hF rfl)
set_option maxHeartbeats 4000000 in
set_option maxRecDepth 100000 in
theorem tX9_allPieces {l : Launch} {E : aw_E} {d n t : Nat} {h : ah} {T : sT} (hT : is_tr h t T) : am l E mX9_allPieces (d + 2) 0 0 [.ref t] n h (aw_eq n h (some (.int (trAllP T)))) := by
  refine am_of (by decide +kernel) (Nat.le_of_ble_eq_true rfl) ?_
  refine aw_iconst (v := 0) dX9_allPieces_0 (by decide) ?_
  refine aw_istore_n dX9_allPieces_1 (by decide) ?_
  refine aw_iconst (v := 0) dX9_allPieces_2 (by decide) ?_
  refine aw_istore_n dX9_allPieces_3 (by decide) ?_
  have hN := clamp_lt (T 10 0)
  have key : ∀ (k j : Nat) (s : Int32), j + k = (T 10 0).toNatClampNeg → trAllP T = lpSum (fun j => trG 2 T (nI j)) k j s → aw l E mX9_allPieces (aw_Z E (aw_eq n h (some (.int (trAllP T))))) (d + 2) 0 0 4 [(0, .ref t), (1, .int s), (2, .int (nI j))] [] n h := by
    intro k
    induction k with
    | zero =>
      intro j s hj  heq
      refine aw_iload_n dX9_allPieces_4 rfl ?_
      refine aw_aload_n dX9_allPieces_5 rfl ?_
      refine aw_get dX9_allPieces_6 flX9_67 (tr_c0 hT) rfl ?_
      refine aw_icmp_ge (tgt := 26) dX9_allPieces_9 (by decide) (fun c9 => ?_) (fun c9 => ?_)
      · refine aw_iload_n dX9_allPieces_26 rfl ?_
        exact aw_iret dX9_allPieces_27 rfl (⟨congrArg (fun z => some (Value.int z)) heq, rfl, rfl⟩)
      · exact absurd ((i_le_nI (x := T 10 0) (j := j) (by omega)).mpr (by omega)) c9
    | succ k ih =>
      intro j s hj  heq
      refine aw_iload_n dX9_allPieces_4 rfl ?_
      refine aw_aload_n dX9_allPieces_5 rfl ?_
      refine aw_get dX9_allPieces_6 flX9_67 (tr_c0 hT) rfl ?_
      refine aw_icmp_ge (tgt := 26) dX9_allPieces_9 (by decide) (fun c9 => ?_) (fun c9 => ?_)
      · exact absurd ((i_le_nI (x := T 10 0) (j := j) (by omega)).mp c9) (by omega)
      · refine aw_iload_n dX9_allPieces_12 rfl ?_
        refine aw_aload_n dX9_allPieces_13 rfl ?_
        refine aw_iload_n dX9_allPieces_14 rfl ?_
        refine aw_callV1p dX9_allPieces_15 cmX9_piecesOf cvX9_98 (tr_c0 hT) (Nat.le_of_ble_eq_true rfl) (tX9_piecesOf hT) ?_
        refine aw_iadd dX9_allPieces_18 ?_
        refine aw_istore_n dX9_allPieces_19 (by decide) ?_
        refine aw_inc (w := 1) dX9_allPieces_20 rfl (by decide) (by decide) ?_
        refine aw_goto (tgt := 4) dX9_allPieces_23 (by decide) ?_
        exact aw_loc [0, 1, 2] (ls2 := [(0, .ref t), (1, .int (s + trG 2 T (nI j))), (2, .int (nI (j + 1)))]) (by first | (rw [nI_succ]; rfl) | rfl) (ih (j + 1) (s + trG 2 T (nI j)) (by omega)  heq)
  exact aw_loc [0, 1, 2] (ls2 := [(0, .ref t), (1, .int 0), (2, .int (nI 0))]) rfl (key ((T 10 0).toNatClampNeg) 0 0 (by first | rfl | omega)  rfl)
set_option maxHeartbeats 4000000 in
set_option maxRecDepth 100000 in
theorem tX9_allWeight {l : Launch} {E : aw_E} {d n t : Nat} {h : ah} {T : sT} (hT : is_tr h t T) : am l E mX9_allWeight (d + 5) 0 0 [.ref t] n h (aw_eq n h (some (.int (trAllW T)))) := by
  refine am_of (by decide +kernel) (Nat.le_of_ble_eq_true rfl) ?_
  refine aw_iconst (v := 0) dX9_allWeight_0 (by decide) ?_
  refine aw_istore_n dX9_allWeight_1 (by decide) ?_
  refine aw_iconst (v := 0) dX9_allWeight_2 (by decide) ?_
  refine aw_istore_n dX9_allWeight_3 (by decide) ?_
  have hN := clamp_lt (T 10 0)
  have key : ∀ (k j : Nat) (s : Int32), j + k = (T 10 0).toNatClampNeg → trAllW T = lpSum (fun j => trOwn T (nI j)) k j s → aw l E mX9_allWeight (aw_Z E (aw_eq n h (some (.int (trAllW T))))) (d + 5) 0 0 4 [(0, .ref t), (1, .int s), (2, .int (nI j))] [] n h := by
    intro k
    induction k with
    | zero =>
      intro j s hj  heq
      refine aw_iload_n dX9_allWeight_4 rfl ?_
      refine aw_aload_n dX9_allWeight_5 rfl ?_
      refine aw_get dX9_allWeight_6 flX9_67 (tr_c0 hT) rfl ?_
      refine aw_icmp_ge (tgt := 26) dX9_allWeight_9 (by decide) (fun c9 => ?_) (fun c9 => ?_)
      · refine aw_iload_n dX9_allWeight_26 rfl ?_
        exact aw_iret dX9_allWeight_27 rfl (⟨congrArg (fun z => some (Value.int z)) heq, rfl, rfl⟩)
      · exact absurd ((i_le_nI (x := T 10 0) (j := j) (by omega)).mpr (by omega)) c9
    | succ k ih =>
      intro j s hj  heq
      refine aw_iload_n dX9_allWeight_4 rfl ?_
      refine aw_aload_n dX9_allWeight_5 rfl ?_
      refine aw_get dX9_allWeight_6 flX9_67 (tr_c0 hT) rfl ?_
      refine aw_icmp_ge (tgt := 26) dX9_allWeight_9 (by decide) (fun c9 => ?_) (fun c9 => ?_)
      · exact absurd ((i_le_nI (x := T 10 0) (j := j) (by omega)).mp c9) (by omega)
      · refine aw_iload_n dX9_allWeight_12 rfl ?_
        refine aw_aload_n dX9_allWeight_13 rfl ?_
        refine aw_iload_n dX9_allWeight_14 rfl ?_
        refine aw_callV1p dX9_allWeight_15 cmX9_ownWeight cvX9_147 (tr_c0 hT) (Nat.le_of_ble_eq_true rfl) (tX9_ownWeight hT) ?_
        refine aw_iadd dX9_allWeight_18 ?_
        refine aw_istore_n dX9_allWeight_19 (by decide) ?_
        refine aw_inc (w := 1) dX9_allWeight_20 rfl (by decide) (by decide) ?_
        refine aw_goto (tgt := 4) dX9_allWeight_23 (by decide) ?_
        exact aw_loc [0, 1, 2] (ls2 := [(0, .ref t), (1, .int (s + trOwn T (nI j))), (2, .int (nI (j + 1)))]) (by first | (rw [nI_succ]; rfl) | rfl) (ih (j + 1) (s + trOwn T (nI j)) (by omega)  heq)
  exact aw_loc [0, 1, 2] (ls2 := [(0, .ref t), (1, .int 0), (2, .int (nI 0))]) rfl (key ((T 10 0).toNatClampNeg) 0 0 (by first | rfl | omega)  rfl)
set_option maxHeartbeats 4000000 in
set_option maxRecDepth 100000 in
theorem tX9_join {l : Launch} {E : aw_E} {d n t : Nat} {h0 : ah} {T0 : sT} (hT : is_tr h0 t T0) {k h' n' p' : Int32} (g0 : ¬ T0 10 0 < 0) (g6 : ¬ 6 ≤ T0 10 0) : am l E mX9_join d 0 0 [.ref t, .int k, .int h', .int n', .int p'] n h0 (tr_post n h0 t (some (.int (T0 10 0))) (trJoin T0 k h' n' p')) := by
  refine am_of (by decide +kernel) (Nat.le_of_ble_eq_true rfl) ?_
  have hF : ah_off h0 h0 t 20 := ah_off.rf
  refine aw_aload_n dX9_join_0 rfl ?_
  refine aw_get dX9_join_1 flX9_67 (tr_c0 hT) rfl ?_
  refine aw_istore dX9_join_4 (by decide) ?_
  refine aw_iload dX9_join_6 rfl ?_
  refine aw_if_lt (tgt := 18) dX9_join_8 (by decide) (fun c8 => ?_) (fun c8 => ?_)
  · refine aw_bipush (v := -4) dX9_join_18 (by decide) ?_
    exact aw_iret dX9_join_20 rfl (absurd c8 g0)
  · refine aw_iload dX9_join_11 rfl ?_
    refine aw_bipush (v := 6) dX9_join_13 (by decide) ?_
    refine aw_icmp_lt (tgt := 21) dX9_join_15 (by decide) (fun c15 => ?_) (fun c15 => ?_)
    · refine aw_aload_n dX9_join_21 rfl ?_
      refine aw_get dX9_join_22 flX9_37 (tr_c0 hT) rfl ?_
      refine aw_iload dX9_join_25 rfl ?_
      refine aw_iload_n dX9_join_27 rfl ?_
      refine aw_ia_tr0 dX9_join_28 hT (vp_in_of6 g0 g6) (fun h hT ho => ?_)
      have hF := hF.trans ho
      refine aw_aload_n dX9_join_29 rfl ?_
      refine aw_get dX9_join_30 flX9_41 (tr_c0 hT) rfl ?_
      refine aw_iload dX9_join_33 rfl ?_
      refine aw_iload_n dX9_join_35 rfl ?_
      refine aw_ia_tr1 dX9_join_36 hT (vp_in_of6 g0 g6) (fun h hT ho => ?_)
      have hF := hF.trans ho
      refine aw_aload_n dX9_join_37 rfl ?_
      refine aw_get dX9_join_38 flX9_44 (tr_c0 hT) rfl ?_
      refine aw_iload dX9_join_41 rfl ?_
      refine aw_iload_n dX9_join_43 rfl ?_
      refine aw_ia_tr2 dX9_join_44 hT (vp_in_of6 g0 g6) (fun h hT ho => ?_)
      have hF := hF.trans ho
      refine aw_aload_n dX9_join_45 rfl ?_
      refine aw_get dX9_join_46 flX9_47 (tr_c0 hT) rfl ?_
      refine aw_iload dX9_join_49 rfl ?_
      refine aw_iload dX9_join_51 rfl ?_
      refine aw_ia_tr3 dX9_join_53 hT (vp_in_of6 g0 g6) (fun h hT ho => ?_)
      have hF := hF.trans ho
      refine aw_aload_n dX9_join_54 rfl ?_
      refine aw_get dX9_join_55 flX9_50 (tr_c0 hT) rfl ?_
      refine aw_iload dX9_join_58 rfl ?_
      refine aw_iconst (v := 0) dX9_join_60 (by decide) ?_
      refine aw_ia_tr4 dX9_join_61 hT (vp_in_of6 g0 g6) (fun h hT ho => ?_)
      have hF := hF.trans ho
      refine aw_aload_n dX9_join_62 rfl ?_
      refine aw_iload dX9_join_63 rfl ?_
      refine aw_iconst (v := 1) dX9_join_65 (by decide) ?_
      refine aw_iadd dX9_join_66 ?_
      refine aw_pf_tr0 dX9_join_67 fpX9_67 hT (fun h hT ho => ?_)
      have hF := hF.trans ho
      refine aw_iload dX9_join_70 rfl ?_
      exact aw_iret dX9_join_72 rfl (⟨rfl, rfl, hT, hF⟩)
    · refine aw_bipush (v := -4) dX9_join_18 (by decide) ?_
      exact aw_iret dX9_join_20 rfl (absurd (Int32.not_lt.mp c15) g6)
set_option maxHeartbeats 4000000 in
set_option maxRecDepth 100000 in
theorem tX9_tellHands {l : Launch} {E : aw_E} {d n t : Nat} {h0 : ah} {T0 : sT} (hT : is_tr h0 t T0) {p b : Int32} : am l E mX9_tellHands (d + 1) 0 0 [.ref t, .int p, .int b] n h0 (tr_post n h0 t (none) (trHands T0 p b)) := by
  refine am_of (by decide +kernel) (Nat.le_of_ble_eq_true rfl) ?_
  have hF : ah_off h0 h0 t 20 := ah_off.rf
  refine aw_aload_n dX9_tellHands_0 rfl ?_
  refine aw_iload_n dX9_tellHands_1 rfl ?_
  refine aw_callV1p dX9_tellHands_2 cmX9_isThere cvX9_88 (tr_c0 hT) (Nat.le_of_ble_eq_true rfl) (tX9_isThere hT) ?_
  refine aw_if_eq (tgt := 15) dX9_tellHands_5 (by decide) (fun c5 => ?_) (fun c5 => ?_)
  · exact aw_vret dX9_tellHands_15 rfl (⟨rfl, rfl, is_of (P := is_tr _ t) (if_pos c5) hT, hF⟩)
  · refine aw_aload_n dX9_tellHands_8 rfl ?_
    refine aw_get dX9_tellHands_9 flX9_50 (tr_c0 hT) rfl ?_
    refine aw_iload_n dX9_tellHands_12 rfl ?_
    refine aw_iload_n dX9_tellHands_13 rfl ?_
    refine aw_ia_tr4 dX9_tellHands_14 hT (trIs_in c5) (fun h hT ho => ?_)
    have hF := hF.trans ho
    exact aw_vret dX9_tellHands_15 rfl (⟨rfl, rfl, is_of (P := is_tr _ t) (if_neg c5) hT, hF⟩)
set_option maxHeartbeats 4000000 in
set_option maxRecDepth 100000 in
theorem tX9_tellLie {l : Launch} {E : aw_E} {d n t : Nat} {h0 : ah} {T0 : sT} (hT : is_tr h0 t T0) {p s : Int32} : am l E mX9_tellLie (d + 3) 0 0 [.ref t, .int p, .int s] n h0 (tr_post n h0 t (none) (trLie T0 p s)) := by
  refine am_of (by decide +kernel) (Nat.le_of_ble_eq_true rfl) ?_
  have hF : ah_off h0 h0 t 20 := ah_off.rf
  refine aw_aload_n dX9_tellLie_0 rfl ?_
  refine aw_iload_n dX9_tellLie_1 rfl ?_
  refine aw_callV1p dX9_tellLie_2 cmX9_isThere cvX9_88 (tr_c0 hT) (Nat.le_of_ble_eq_true rfl) (tX9_isThere hT) ?_
  refine aw_if_eq (tgt := 32) dX9_tellLie_5 (by decide) (fun c5 => ?_) (fun c5 => ?_)
  · exact aw_vret dX9_tellLie_32 rfl (⟨rfl, rfl, is_of (P := is_tr _ t) (if_pos c5) hT, hF⟩)
  · refine aw_aload_n dX9_tellLie_8 rfl ?_
    refine aw_get dX9_tellLie_9 flX9_41 (tr_c0 hT) rfl ?_
    refine aw_iload_n dX9_tellLie_12 rfl ?_
    refine aw_aload_n dX9_tellLie_13 rfl ?_
    refine aw_iload_n dX9_tellLie_14 rfl ?_
    refine aw_iload_n dX9_tellLie_15 rfl ?_
    refine aw_callV2p dX9_tellLie_16 cmX9_honestyBehindLie cvX9_101 (tr_c0 hT) (Nat.le_of_ble_eq_true rfl) (tX9_honestyBehindLie hT) ?_
    refine aw_ia_tr1 dX9_tellLie_19 hT (trIs_in c5) (fun h hT ho => ?_)
    have hF := hF.trans ho
    refine aw_aload_n dX9_tellLie_20 rfl ?_
    refine aw_dup dX9_tellLie_21 rfl ?_
    refine aw_get dX9_tellLie_22 flX9_74 (tr_c0 hT) rfl ?_
    refine aw_iconst (v := 1) dX9_tellLie_25 (by decide) ?_
    refine aw_iload_n dX9_tellLie_26 rfl ?_
    refine aw_ishl dX9_tellLie_27 ?_
    refine aw_ior dX9_tellLie_28 ?_
    refine aw_pf_tr2 dX9_tellLie_29 fpX9_74 hT (fun h hT ho => ?_)
    have hF := hF.trans ho
    exact aw_vret dX9_tellLie_32 rfl (⟨rfl, rfl, is_of (P := is_tr _ t) (if_neg c5) hT, hF⟩)
set_option maxHeartbeats 4000000 in
set_option maxRecDepth 100000 in
theorem tX9_handOn {l : Launch} {E : aw_E} {d n t : Nat} {h0 : ah} {T0 : sT} (hT : is_tr h0 t T0) {p q m : Int32} : am l E mX9_handOn (d + 1) 0 0 [.ref t, .int p, .int q, .int m] n h0 (tr_post n h0 t (none) (trHandOn T0 p q m)) := by
  refine am_of (by decide +kernel) (Nat.le_of_ble_eq_true rfl) ?_
  have hF : ah_off h0 h0 t 20 := ah_off.rf
  refine aw_aload_n dX9_handOn_0 rfl ?_
  refine aw_iload_n dX9_handOn_1 rfl ?_
  refine aw_callV1p dX9_handOn_2 cmX9_isThere cvX9_88 (tr_c0 hT) (Nat.le_of_ble_eq_true rfl) (tX9_isThere hT) ?_
  refine aw_if_eq (tgt := 36) dX9_handOn_5 (by decide) (fun c5 => ?_) (fun c5 => ?_)
  · exact aw_vret dX9_handOn_36 rfl (⟨rfl, rfl, is_of (P := is_tr _ t) (if_pos c5) hT, hF⟩)
  · refine aw_aload_n dX9_handOn_8 rfl ?_
    refine aw_iload_n dX9_handOn_9 rfl ?_
    refine aw_callV1p dX9_handOn_10 cmX9_isThere cvX9_88 (tr_c0 hT) (Nat.le_of_ble_eq_true rfl) (tX9_isThere hT) ?_
    refine aw_if_eq (tgt := 36) dX9_handOn_13 (by decide) (fun c13 => ?_) (fun c13 => ?_)
    · exact aw_vret dX9_handOn_36 rfl (⟨rfl, rfl, is_of (P := is_tr _ t) ((if_neg c5).trans (if_pos c13)) hT, hF⟩)
    · refine aw_aload_n dX9_handOn_16 rfl ?_
      refine aw_get dX9_handOn_17 flX9_44 (tr_c0 hT) rfl ?_
      refine aw_iload_n dX9_handOn_20 rfl ?_
      refine aw_dup2 dX9_handOn_21 rfl rfl ?_
      refine aw_iald dX9_handOn_22 (tr_c10 hT) (trIs_in c5) ?_
      refine aw_iload_n dX9_handOn_23 rfl ?_
      refine aw_isub dX9_handOn_24 ?_
      refine aw_ia_tr2 dX9_handOn_25 hT (trIs_in c5) (fun h hT ho => ?_)
      have hF := hF.trans ho
      refine aw_aload_n dX9_handOn_26 rfl ?_
      refine aw_get dX9_handOn_27 flX9_44 (tr_c0 hT) rfl ?_
      refine aw_iload_n dX9_handOn_30 rfl ?_
      refine aw_dup2 dX9_handOn_31 rfl rfl ?_
      refine aw_iald dX9_handOn_32 (tr_c10 hT) (trIs_in c13) ?_
      refine aw_iload_n dX9_handOn_33 rfl ?_
      refine aw_iadd dX9_handOn_34 ?_
      refine aw_ia_tr2 dX9_handOn_35 hT (trIs_in c13) (fun h hT ho => ?_)
      have hF := hF.trans ho
      exact aw_vret dX9_handOn_36 rfl (⟨rfl, rfl, is_of (P := is_tr _ t) ((if_neg c5).trans (if_neg c13)) hT, hF⟩)
set_option maxHeartbeats 4000000 in
set_option maxRecDepth 100000 in
theorem tX9_passDay {l : Launch} {E : aw_E} {d n t : Nat} {h0 : ah} {T0 : sT} (hT : is_tr h0 t T0) : am l E mX9_passDay (d + 3) 0 0 [.ref t] n h0 (tr_post n h0 t (none) (trPassDay T0)) := by
  refine am_of (by decide +kernel) (Nat.le_of_ble_eq_true rfl) ?_
  have hF : ah_off h0 h0 t 20 := ah_off.rf
  refine aw_iconst (v := 0) dX9_passDay_0 (by decide) ?_
  refine aw_istore_n dX9_passDay_1 (by decide) ?_
  have hN := clamp_lt (T0 10 0)
  have key : ∀ (k j : Nat) (h : ah) (T : sT), j + k = (T0 10 0).toNatClampNeg → T 10 0 = T0 10 0 → is_tr h t T → ah_off h0 h t 20 → trPass (T0 10 0).toNatClampNeg 0 T0 = trPass k j T → aw l E mX9_passDay (aw_Z E (tr_post n h0 t (none) (trPassDay T0))) (d + 3) 0 0 2 [(0, .ref t), (1, .int (nI j))] [] n h := by
    intro k
    induction k with
    | zero =>
      intro j h T hj hp hT hF heq
      refine aw_iload_n dX9_passDay_2 rfl ?_
      refine aw_aload_n dX9_passDay_3 rfl ?_
      refine aw_get dX9_passDay_4 flX9_67 (tr_c0 hT) rfl ?_
      refine aw_icmp_ge (tgt := 36) dX9_passDay_7 (by decide) (fun c7 => ?_) (fun c7 => ?_)
      · refine aw_aload_n dX9_passDay_36 rfl ?_
        refine aw_iconst (v := 0) dX9_passDay_37 (by decide) ?_
        refine aw_pf_tr2 dX9_passDay_38 fpX9_74 hT (fun h hT ho => ?_)
        have hF := hF.trans ho
        refine aw_aload_n dX9_passDay_41 rfl ?_
        refine aw_sipush (v := 999) dX9_passDay_42 (by decide) ?_
        refine aw_aload_n dX9_passDay_45 rfl ?_
        refine aw_get dX9_passDay_46 flX9_71 (tr_c0 hT) rfl ?_
        refine aw_iconst (v := 1) dX9_passDay_49 (by decide) ?_
        refine aw_iadd dX9_passDay_50 ?_
        refine aw_mmin dX9_passDay_51 mmX9_108 (Nat.le_of_ble_eq_true rfl) ?_
        refine aw_pf_tr1 dX9_passDay_54 fpX9_71 hT (fun h hT ho => ?_)
        have hF := hF.trans ho
        exact aw_vret dX9_passDay_57 rfl (⟨rfl, rfl, is_of (P := is_tr _ t) (congrArg (fun Z => sS 10 (sS 10 Z 2 0) 1 (iMin 999 (Z 10 1 + 1))) heq) hT, hF⟩)
      · exact absurd ((i_le_nI (x := T0 10 0) (j := j) (by omega)).mpr (by omega)) (hp ▸ c7)
    | succ k ih =>
      intro j h T hj hp hT hF heq
      refine aw_iload_n dX9_passDay_2 rfl ?_
      refine aw_aload_n dX9_passDay_3 rfl ?_
      refine aw_get dX9_passDay_4 flX9_67 (tr_c0 hT) rfl ?_
      refine aw_icmp_ge (tgt := 36) dX9_passDay_7 (by decide) (fun c7 => ?_) (fun c7 => ?_)
      · exact absurd ((i_le_nI (x := T0 10 0) (j := j) (by omega)).mp (hp ▸ c7)) (by omega)
      · refine aw_aload_n dX9_passDay_10 rfl ?_
        refine aw_iload_n dX9_passDay_11 rfl ?_
        refine aw_callV1p dX9_passDay_12 cmX9_isThere cvX9_88 (tr_c0 hT) (Nat.le_of_ble_eq_true rfl) (tX9_isThere hT) ?_
        refine aw_if_eq (tgt := 30) dX9_passDay_15 (by decide) (fun c15 => ?_) (fun c15 => ?_)
        · refine aw_inc (w := 1) dX9_passDay_30 rfl (by decide) (by decide) ?_
          refine aw_goto (tgt := 2) dX9_passDay_33 (by decide) ?_
          exact aw_loc [0, 1] (ls2 := [(0, .ref t), (1, .int (nI (j + 1)))]) (by first | (rw [nI_succ]; rfl) | rfl) (ih (j + 1) _ _ (by omega) (by exact hp) hT hF (heq.trans (congrArg (trPass k (j + 1)) (if_pos c15))))
        · refine aw_aload_n dX9_passDay_18 rfl ?_
          refine aw_get dX9_passDay_19 flX9_41 (tr_c0 hT) rfl ?_
          refine aw_iload_n dX9_passDay_22 rfl ?_
          refine aw_aload_n dX9_passDay_23 rfl ?_
          refine aw_iload_n dX9_passDay_24 rfl ?_
          refine aw_iconst (v := 1) dX9_passDay_25 (by decide) ?_
          refine aw_callV2p dX9_passDay_26 cmX9_honestyAfter cvX9_105 (tr_c0 hT) (Nat.le_of_ble_eq_true rfl) (tX9_honestyAfter hT) ?_
          refine aw_iN_tr1 dX9_passDay_29 hT rfl (trIs_lt (j := j) c15 (by omega)) (fun h hT ho => ?_)
          have hF := hF.trans ho
          refine aw_inc (w := 1) dX9_passDay_30 rfl (by decide) (by decide) ?_
          refine aw_goto (tgt := 2) dX9_passDay_33 (by decide) ?_
          exact aw_loc [0, 1] (ls2 := [(0, .ref t), (1, .int (nI (j + 1)))]) (by first | (rw [nI_succ]; rfl) | rfl) (ih (j + 1) _ _ (by omega) (by exact hp) hT hF (heq.trans (congrArg (trPass k (j + 1)) (if_neg c15))))
  exact aw_loc [0, 1] (ls2 := [(0, .ref t), (1, .int (nI 0))]) rfl (key ((T0 10 0).toNatClampNeg) 0 _ _ (by first | rfl | omega) rfl hT hF rfl)
set_option maxHeartbeats 4000000 in
set_option maxRecDepth 100000 in
theorem tX9_keepStep {l : Launch} {E : aw_E} {d n t : Nat} {h0 : ah} {T0 : sT} (hT : is_tr h0 t T0) : am l E mX9_keepStep (d + 2) 0 0 [.ref t] n h0 (tr_post n h0 t (none) (trKeep T0)) := by
  refine am_of (by decide +kernel) (Nat.le_of_ble_eq_true rfl) ?_
  have hF : ah_off h0 h0 t 20 := ah_off.rf
  refine aw_aload_n dX9_keepStep_0 rfl ?_
  refine aw_get dX9_keepStep_1 flX9_63 (tr_c0 hT) rfl ?_
  refine aw_callV0e dX9_keepStep_4 cmX5_open cvX9_117 (tr_c18 hT) (Nat.le_of_ble_eq_true rfl) (tX5_open hT) (fun r n' h' hq => ?_)
  obtain ⟨rfl, rfl, hT, ho⟩ := hq
  have hF := hF.trans ho
  refine aw_iconst (v := 0) dX9_keepStep_7 (by decide) ?_
  refine aw_istore_n dX9_keepStep_8 (by decide) ?_
  have key : ∀ (k j : Nat) (h : ah) (T : sT), j + k = 6 → is_tr h t T → ah_off h0 h t 20 → trKeep6 6 0 (pOpen T0) = trKeep6 k j T → aw l E mX9_keepStep (aw_Z E (tr_post n h0 t (none) (trKeep T0))) (d + 2) 0 0 9 [(0, .ref t), (1, .int (nI j))] [] n h := by
    intro k
    induction k with
    | zero =>
      intro j h T hj hT hF heq
      refine aw_iload_n dX9_keepStep_9 rfl ?_
      refine aw_bipush (v := 6) dX9_keepStep_10 (by decide) ?_
      refine aw_icmp_ge (tgt := 52) dX9_keepStep_12 (by decide) (fun c12 => ?_) (fun c12 => ?_)
      · refine aw_aload_n dX9_keepStep_52 rfl ?_
        refine aw_get dX9_keepStep_53 flX9_63 (tr_c0 hT) rfl ?_
        refine aw_bipush (v := 12) dX9_keepStep_56 (by decide) ?_
        refine aw_aload_n dX9_keepStep_58 rfl ?_
        refine aw_get dX9_keepStep_59 flX9_74 (tr_c0 hT) rfl ?_
        refine aw_callV2e dX9_keepStep_62 cmX5_put cvX9_120 (tr_c18 hT) (Nat.le_of_ble_eq_true rfl) (tX5_put hT) (fun r n' h' hq => ?_)
        obtain ⟨rfl, rfl, hT, ho⟩ := hq
        have hF := hF.trans ho
        refine aw_aload_n dX9_keepStep_65 rfl ?_
        refine aw_get dX9_keepStep_66 flX9_63 (tr_c0 hT) rfl ?_
        refine aw_bipush (v := 13) dX9_keepStep_69 (by decide) ?_
        refine aw_aload_n dX9_keepStep_71 rfl ?_
        refine aw_get dX9_keepStep_72 flX9_71 (tr_c0 hT) rfl ?_
        refine aw_callV2e dX9_keepStep_75 cmX5_put cvX9_120 (tr_c18 hT) (Nat.le_of_ble_eq_true rfl) (tX5_put hT) (fun r n' h' hq => ?_)
        obtain ⟨rfl, rfl, hT, ho⟩ := hq
        have hF := hF.trans ho
        exact aw_vret dX9_keepStep_78 rfl (⟨rfl, rfl, is_of (P := is_tr _ t) (congrArg (fun Z => trKeepD (trKeepL Z)) heq) hT, hF⟩)
      · exact absurd ((nI_leI (a := 6) (b := j) (by omega) (by omega)).mpr (by omega)) c12
    | succ k ih =>
      intro j h T hj hT hF heq
      refine aw_iload_n dX9_keepStep_9 rfl ?_
      refine aw_bipush (v := 6) dX9_keepStep_10 (by decide) ?_
      refine aw_icmp_ge (tgt := 52) dX9_keepStep_12 (by decide) (fun c12 => ?_) (fun c12 => ?_)
      · exact absurd ((nI_leI (a := 6) (b := j) (by omega) (by omega)).mp c12) (by omega)
      · refine aw_aload_n dX9_keepStep_15 rfl ?_
        refine aw_get dX9_keepStep_16 flX9_63 (tr_c0 hT) rfl ?_
        refine aw_iload_n dX9_keepStep_19 rfl ?_
        refine aw_aload_n dX9_keepStep_20 rfl ?_
        refine aw_get dX9_keepStep_21 flX9_41 (tr_c0 hT) rfl ?_
        refine aw_iload_n dX9_keepStep_24 rfl ?_
        refine aw_ialdN dX9_keepStep_25 (tr_c9 hT) rfl (by omega) (by decide) ?_
        refine aw_callV2e dX9_keepStep_26 cmX5_put cvX9_120 (tr_c18 hT) (Nat.le_of_ble_eq_true rfl) (tX5_put hT) (fun r n' h' hq => ?_)
        obtain ⟨rfl, rfl, hT, ho⟩ := hq
        have hF := hF.trans ho
        refine aw_aload_n dX9_keepStep_29 rfl ?_
        refine aw_get dX9_keepStep_30 flX9_63 (tr_c0 hT) rfl ?_
        refine aw_bipush (v := 6) dX9_keepStep_33 (by decide) ?_
        refine aw_iload_n dX9_keepStep_35 rfl ?_
        refine aw_iadd dX9_keepStep_36 ?_
        refine aw_aload_n dX9_keepStep_37 rfl ?_
        refine aw_get dX9_keepStep_38 flX9_44 (tr_c0 hT) rfl ?_
        refine aw_iload_n dX9_keepStep_41 rfl ?_
        refine aw_ialdN dX9_keepStep_42 (tr_c10 hT) rfl (by omega) (by decide) ?_
        refine aw_callV2e dX9_keepStep_43 cmX5_put cvX9_120 (tr_c18 hT) (Nat.le_of_ble_eq_true rfl) (tX5_put hT) (fun r n' h' hq => ?_)
        obtain ⟨rfl, rfl, hT, ho⟩ := hq
        have hF := hF.trans ho
        refine aw_inc (w := 1) dX9_keepStep_46 rfl (by decide) (by decide) ?_
        refine aw_goto (tgt := 9) dX9_keepStep_49 (by decide) ?_
        exact aw_loc [0, 1] (ls2 := [(0, .ref t), (1, .int (nI (j + 1)))]) (by first | (rw [nI_succ]; rfl) | rfl) (ih (j + 1) _ _ (by omega) hT hF heq)
  exact aw_loc [0, 1] (ls2 := [(0, .ref t), (1, .int (nI 0))]) rfl (key (6) 0 _ _ (by first | rfl | omega) hT hF rfl)
set_option maxHeartbeats 4000000 in
set_option maxRecDepth 100000 in
theorem tX9_stepBack {l : Launch} {E : aw_E} {d n t : Nat} {h0 : ah} {T0 : sT} (hT : is_tr h0 t T0) : am l E mX9_stepBack (d + 2) 0 0 [.ref t] n h0 (tr_post n h0 t (none) (trBack T0)) := by
  refine am_of (by decide +kernel) (Nat.le_of_ble_eq_true rfl) ?_
  have hF : ah_off h0 h0 t 20 := ah_off.rf
  refine aw_aload_n dX9_stepBack_0 rfl ?_
  refine aw_get dX9_stepBack_1 flX9_63 (tr_c0 hT) rfl ?_
  refine aw_callV0p dX9_stepBack_4 cmX5_size cvX9_113 (tr_c18 hT) (Nat.le_of_ble_eq_true rfl) (tX5_size hT) ?_
  refine aw_if_ne (tgt := 11) dX9_stepBack_7 (by decide) (fun c7 => ?_) (fun c7 => ?_)
  · refine aw_iconst (v := 0) dX9_stepBack_11 (by decide) ?_
    refine aw_istore_n dX9_stepBack_12 (by decide) ?_
    have key : ∀ (k j : Nat) (h : ah) (T : sT), j + k = 6 → is_tr h t T → ah_off h0 h t 20 → trBack6 6 0 T0 = trBack6 k j T → aw l E mX9_stepBack (aw_Z E (tr_post n h0 t (none) (trBack T0))) (d + 2) 0 0 13 [(0, .ref t), (1, .int (nI j))] [] n h := by
      intro k
      induction k with
      | zero =>
        intro j h T hj hT hF heq
        refine aw_iload_n dX9_stepBack_13 rfl ?_
        refine aw_bipush (v := 6) dX9_stepBack_14 (by decide) ?_
        refine aw_icmp_ge (tgt := 56) dX9_stepBack_16 (by decide) (fun c16 => ?_) (fun c16 => ?_)
        · refine aw_aload_n dX9_stepBack_56 rfl ?_
          refine aw_aload_n dX9_stepBack_57 rfl ?_
          refine aw_get dX9_stepBack_58 flX9_63 (tr_c0 hT) rfl ?_
          refine aw_bipush (v := 12) dX9_stepBack_61 (by decide) ?_
          refine aw_callV1p dX9_stepBack_63 cmX5_last cvX9_124 (tr_c18 hT) (Nat.le_of_ble_eq_true rfl) (tX5_last hT) ?_
          refine aw_pf_tr2 dX9_stepBack_66 fpX9_74 hT (fun h hT ho => ?_)
          have hF := hF.trans ho
          refine aw_aload_n dX9_stepBack_69 rfl ?_
          refine aw_aload_n dX9_stepBack_70 rfl ?_
          refine aw_get dX9_stepBack_71 flX9_63 (tr_c0 hT) rfl ?_
          refine aw_bipush (v := 13) dX9_stepBack_74 (by decide) ?_
          refine aw_callV1p dX9_stepBack_76 cmX5_last cvX9_124 (tr_c18 hT) (Nat.le_of_ble_eq_true rfl) (tX5_last hT) ?_
          refine aw_pf_tr1 dX9_stepBack_79 fpX9_71 hT (fun h hT ho => ?_)
          have hF := hF.trans ho
          refine aw_aload_n dX9_stepBack_82 rfl ?_
          refine aw_get dX9_stepBack_83 flX9_63 (tr_c0 hT) rfl ?_
          refine aw_callV0e dX9_stepBack_86 cmX5_dropLast cvX9_127 (tr_c18 hT) (Nat.le_of_ble_eq_true rfl) (tX5_dropLast hT) (fun r n' h' hq => ?_)
          obtain ⟨rfl, rfl, hT, ho⟩ := hq
          have hF := hF.trans ho
          exact aw_vret dX9_stepBack_89 rfl (⟨rfl, rfl, is_of (P := is_tr _ t) ((if_neg c7).trans (congrArg (fun Z => pDropLast (trBackD (trBackL Z))) heq)) hT, hF⟩)
        · exact absurd ((nI_leI (a := 6) (b := j) (by omega) (by omega)).mpr (by omega)) c16
      | succ k ih =>
        intro j h T hj hT hF heq
        refine aw_iload_n dX9_stepBack_13 rfl ?_
        refine aw_bipush (v := 6) dX9_stepBack_14 (by decide) ?_
        refine aw_icmp_ge (tgt := 56) dX9_stepBack_16 (by decide) (fun c16 => ?_) (fun c16 => ?_)
        · exact absurd ((nI_leI (a := 6) (b := j) (by omega) (by omega)).mp c16) (by omega)
        · refine aw_aload_n dX9_stepBack_19 rfl ?_
          refine aw_get dX9_stepBack_20 flX9_41 (tr_c0 hT) rfl ?_
          refine aw_iload_n dX9_stepBack_23 rfl ?_
          refine aw_aload_n dX9_stepBack_24 rfl ?_
          refine aw_get dX9_stepBack_25 flX9_63 (tr_c0 hT) rfl ?_
          refine aw_iload_n dX9_stepBack_28 rfl ?_
          refine aw_callV1p dX9_stepBack_29 cmX5_last cvX9_124 (tr_c18 hT) (Nat.le_of_ble_eq_true rfl) (tX5_last hT) ?_
          refine aw_iN_tr1 dX9_stepBack_32 hT rfl (by omega) (fun h hT ho => ?_)
          have hF := hF.trans ho
          refine aw_aload_n dX9_stepBack_33 rfl ?_
          refine aw_get dX9_stepBack_34 flX9_44 (tr_c0 hT) rfl ?_
          refine aw_iload_n dX9_stepBack_37 rfl ?_
          refine aw_aload_n dX9_stepBack_38 rfl ?_
          refine aw_get dX9_stepBack_39 flX9_63 (tr_c0 hT) rfl ?_
          refine aw_bipush (v := 6) dX9_stepBack_42 (by decide) ?_
          refine aw_iload_n dX9_stepBack_44 rfl ?_
          refine aw_iadd dX9_stepBack_45 ?_
          refine aw_callV1p dX9_stepBack_46 cmX5_last cvX9_124 (tr_c18 hT) (Nat.le_of_ble_eq_true rfl) (tX5_last hT) ?_
          refine aw_iN_tr2 dX9_stepBack_49 hT rfl (by omega) (fun h hT ho => ?_)
          have hF := hF.trans ho
          refine aw_inc (w := 1) dX9_stepBack_50 rfl (by decide) (by decide) ?_
          refine aw_goto (tgt := 13) dX9_stepBack_53 (by decide) ?_
          exact aw_loc [0, 1] (ls2 := [(0, .ref t), (1, .int (nI (j + 1)))]) (by first | (rw [nI_succ]; rfl) | rfl) (ih (j + 1) _ _ (by omega) hT hF heq)
    exact aw_loc [0, 1] (ls2 := [(0, .ref t), (1, .int (nI 0))]) rfl (key (6) 0 _ _ (by first | rfl | omega) hT hF rfl)
  · exact aw_vret dX9_stepBack_10 rfl (⟨rfl, rfl, is_of (P := is_tr _ t) (if_pos c7) hT, hF⟩)
set_option maxHeartbeats 4000000 in
set_option maxRecDepth 100000 in
theorem tX9_daysUntil {l : Launch} {E : aw_E} {d n t : Nat} {h : ah} {T : sT} (hT : is_tr h t T) {p w : Int32} : am l E mX9_daysUntil (d + 4) 0 0 [.ref t, .int p, .int w] n h (aw_eq n h (some (.int (trDays T p w)))) := by
  refine am_of (by decide +kernel) (Nat.le_of_ble_eq_true rfl) ?_
  refine aw_iconst (v := 0) dX9_daysUntil_0 (by decide) ?_
  refine aw_istore_n dX9_daysUntil_1 (by decide) ?_
  have key : ∀ (k j : Nat), j + k = 61 → trDays T p w = iFirst (fun j w => kW (trG 0 T p) (trG 2 T p) (trAft T p (nI j)) (T 10 1 + nI j) < w) w k j  → aw l E mX9_daysUntil (aw_Z E (aw_eq n h (some (.int (trDays T p w))))) (d + 4) 0 0 2 [(0, .ref t), (1, .int p), (2, .int w), (3, .int (nI j))] [] n h := by
    intro k
    induction k with
    | zero =>
      intro j  hj  heq
      refine aw_iload_n dX9_daysUntil_2 rfl ?_
      refine aw_bipush (v := 60) dX9_daysUntil_3 (by decide) ?_
      refine aw_icmp_gt (tgt := 46) dX9_daysUntil_5 (by decide) (fun c5 => ?_) (fun c5 => ?_)
      · refine aw_iconst (v := -1) dX9_daysUntil_46 (by decide) ?_
        exact aw_iret dX9_daysUntil_47 rfl (⟨congrArg (fun z => some (Value.int z)) heq, rfl, rfl⟩)
      · exact absurd ((nI_ltI (a := 60) (b := j) (by omega) (by omega)).mpr (by omega)) c5
    | succ k ih =>
      intro j  hj  heq
      refine aw_iload_n dX9_daysUntil_2 rfl ?_
      refine aw_bipush (v := 60) dX9_daysUntil_3 (by decide) ?_
      refine aw_icmp_gt (tgt := 46) dX9_daysUntil_5 (by decide) (fun c5 => ?_) (fun c5 => ?_)
      · exact absurd ((nI_ltI (a := 60) (b := j) (by omega) (by omega)).mp c5) (by omega)
      · refine aw_aload_n dX9_daysUntil_8 rfl ?_
        refine aw_aload_n dX9_daysUntil_9 rfl ?_
        refine aw_iload_n dX9_daysUntil_10 rfl ?_
        refine aw_callV1p dX9_daysUntil_11 cmX9_kindOf cvX9_138 (tr_c0 hT) (Nat.le_of_ble_eq_true rfl) (tX9_kindOf hT) ?_
        refine aw_aload_n dX9_daysUntil_14 rfl ?_
        refine aw_iload_n dX9_daysUntil_15 rfl ?_
        refine aw_callV1p dX9_daysUntil_16 cmX9_piecesOf cvX9_98 (tr_c0 hT) (Nat.le_of_ble_eq_true rfl) (tX9_piecesOf hT) ?_
        refine aw_aload_n dX9_daysUntil_19 rfl ?_
        refine aw_iload_n dX9_daysUntil_20 rfl ?_
        refine aw_iload_n dX9_daysUntil_21 rfl ?_
        refine aw_callV2p dX9_daysUntil_22 cmX9_honestyAfter cvX9_105 (tr_c0 hT) (Nat.le_of_ble_eq_true rfl) (tX9_honestyAfter hT) ?_
        refine aw_aload_n dX9_daysUntil_25 rfl ?_
        refine aw_get dX9_daysUntil_26 flX9_71 (tr_c0 hT) rfl ?_
        refine aw_iload_n dX9_daysUntil_29 rfl ?_
        refine aw_iadd dX9_daysUntil_30 ?_
        refine aw_callV4p dX9_daysUntil_31 cmX9_weightBy cvX9_150 (tr_c0 hT) (Nat.le_of_ble_eq_true rfl) (tX9_weightBy hT) ?_
        refine aw_iload_n dX9_daysUntil_34 rfl ?_
        refine aw_icmp_lt (tgt := 40) dX9_daysUntil_35 (by decide) (fun c35 => ?_) (fun c35 => ?_)
        · refine aw_inc (w := 1) dX9_daysUntil_40 rfl (by decide) (by decide) ?_
          refine aw_goto (tgt := 2) dX9_daysUntil_43 (by decide) ?_
          exact aw_loc [0, 1, 2, 3] (ls2 := [(0, .ref t), (1, .int p), (2, .int w), (3, .int (nI (j + 1)))]) (by first | (rw [nI_succ]; rfl) | rfl) (ih (j + 1)  (by omega) (heq.trans (if_pos c35)))
        · refine aw_iload_n dX9_daysUntil_38 rfl ?_
          exact aw_iret dX9_daysUntil_39 rfl (⟨congrArg (fun z => some (Value.int z)) (heq.trans (if_neg c35)), rfl, rfl⟩)
  exact aw_loc [0, 1, 2, 3] (ls2 := [(0, .ref t), (1, .int p), (2, .int w), (3, .int (nI 0))]) rfl (key (61) 0  (by first | rfl | omega)  rfl)
set_option maxHeartbeats 4000000 in
set_option maxRecDepth 100000 in
theorem tX9_fewestPieces {l : Launch} {E : aw_E} {d n t : Nat} {h : ah} {T : sT} (hT : is_tr h t T) {p w : Int32} : am l E mX9_fewestPieces (d + 4) 0 0 [.ref t, .int p, .int w] n h (aw_eq n h (some (.int (trFew T p w)))) := by
  refine am_of (by decide +kernel) (Nat.le_of_ble_eq_true rfl) ?_
  refine aw_iconst (v := 0) dX9_fewestPieces_0 (by decide) ?_
  refine aw_istore_n dX9_fewestPieces_1 (by decide) ?_
  have key : ∀ (k j : Nat), j + k = 100 → trFew T p w = iFirst (fun j w => trWW T p (nI j) < w) w k j  → aw l E mX9_fewestPieces (aw_Z E (aw_eq n h (some (.int (trFew T p w))))) (d + 4) 0 0 2 [(0, .ref t), (1, .int p), (2, .int w), (3, .int (nI j))] [] n h := by
    intro k
    induction k with
    | zero =>
      intro j  hj  heq
      refine aw_iload_n dX9_fewestPieces_2 rfl ?_
      refine aw_bipush (v := 99) dX9_fewestPieces_3 (by decide) ?_
      refine aw_icmp_gt (tgt := 26) dX9_fewestPieces_5 (by decide) (fun c5 => ?_) (fun c5 => ?_)
      · refine aw_iconst (v := -1) dX9_fewestPieces_26 (by decide) ?_
        exact aw_iret dX9_fewestPieces_27 rfl (⟨congrArg (fun z => some (Value.int z)) heq, rfl, rfl⟩)
      · exact absurd ((nI_ltI (a := 99) (b := j) (by omega) (by omega)).mpr (by omega)) c5
    | succ k ih =>
      intro j  hj  heq
      refine aw_iload_n dX9_fewestPieces_2 rfl ?_
      refine aw_bipush (v := 99) dX9_fewestPieces_3 (by decide) ?_
      refine aw_icmp_gt (tgt := 26) dX9_fewestPieces_5 (by decide) (fun c5 => ?_) (fun c5 => ?_)
      · exact absurd ((nI_ltI (a := 99) (b := j) (by omega) (by omega)).mp c5) (by omega)
      · refine aw_aload_n dX9_fewestPieces_8 rfl ?_
        refine aw_iload_n dX9_fewestPieces_9 rfl ?_
        refine aw_iload_n dX9_fewestPieces_10 rfl ?_
        refine aw_callV2p dX9_fewestPieces_11 cmX9_weightWith cvX9_144 (tr_c0 hT) (Nat.le_of_ble_eq_true rfl) (tX9_weightWith hT) ?_
        refine aw_iload_n dX9_fewestPieces_14 rfl ?_
        refine aw_icmp_lt (tgt := 20) dX9_fewestPieces_15 (by decide) (fun c15 => ?_) (fun c15 => ?_)
        · refine aw_inc (w := 1) dX9_fewestPieces_20 rfl (by decide) (by decide) ?_
          refine aw_goto (tgt := 2) dX9_fewestPieces_23 (by decide) ?_
          exact aw_loc [0, 1, 2, 3] (ls2 := [(0, .ref t), (1, .int p), (2, .int w), (3, .int (nI (j + 1)))]) (by first | (rw [nI_succ]; rfl) | rfl) (ih (j + 1)  (by omega) (heq.trans (if_pos c15)))
        · refine aw_iload_n dX9_fewestPieces_18 rfl ?_
          exact aw_iret dX9_fewestPieces_19 rfl (⟨congrArg (fun z => some (Value.int z)) (heq.trans (if_neg c15)), rfl, rfl⟩)
  exact aw_loc [0, 1, 2, 3] (ls2 := [(0, .ref t), (1, .int p), (2, .int w), (3, .int (nI 0))]) rfl (key (100) 0  (by first | rfl | omega)  rfl)
