/-! THE READER; SHELVES. -/
set_option maxHeartbeats 1000000 in
set_option maxRecDepth 100000 in
theorem tX7_length {l : Launch} {E : aw_E} {d n r : Nat} {h : ah} {R : sT} (hR : is_rd h r R) : am l E mX7_length d 0 0 [.ref r] n h (aw_eq n h (some (.int (R 10 0)))) := by
  refine am_of (by decide +kernel) (Nat.le_of_ble_eq_true rfl) ?_
  refine aw_aload_n dX7_length_0 rfl ?_
  refine aw_get dX7_length_1 flX7_19 (rd_c0 hR) rfl ?_
  exact aw_iret dX7_length_4 rfl (⟨rfl, rfl, rfl⟩)
set_option maxHeartbeats 1000000 in
set_option maxRecDepth 100000 in
theorem tX7_faultAt {l : Launch} {E : aw_E} {d n r : Nat} {h : ah} {R : sT} (hR : is_rd h r R) : am l E mX7_faultAt d 0 0 [.ref r] n h (aw_eq n h (some (.int (R 10 5)))) := by
  refine am_of (by decide +kernel) (Nat.le_of_ble_eq_true rfl) ?_
  refine aw_aload_n dX7_faultAt_0 rfl ?_
  refine aw_get dX7_faultAt_1 flX7_15 (rd_c0 hR) rfl ?_
  exact aw_iret dX7_faultAt_4 rfl (⟨rfl, rfl, rfl⟩)
set_option maxHeartbeats 1000000 in
set_option maxRecDepth 100000 in
theorem tX7_drop {l : Launch} {E : aw_E} {d n r : Nat} {h0 : ah} {R0 : sT} (hR : is_rd h0 r R0) : am l E mX7_drop d 0 0 [.ref r] n h0 (rd_post n h0 r (none) (sS 10 R0 0 0)) := by
  refine am_of (by decide +kernel) (Nat.le_of_ble_eq_true rfl) ?_
  have hF : ah_off h0 h0 r 2 := ah_off.rf
  refine aw_aload_n dX7_drop_0 rfl ?_
  refine aw_iconst (v := 0) dX7_drop_1 (by decide) ?_
  refine aw_pf_rd0 dX7_drop_2 fpX7_19 hR (fun h hR ho => ?_)
  have hF := hF.trans ho
  exact aw_vret dX7_drop_5 rfl (⟨rfl, rfl, hR, hF⟩)
set_option maxHeartbeats 1000000 in
set_option maxRecDepth 100000 in
theorem tX7_append {l : Launch} {E : aw_E} {d n r : Nat} {h0 : ah} {R0 : sT} (hR : is_rd h0 r R0) {c : Int32} (g0 : ¬ R0 10 0 < 0) (g6 : ¬ 150 ≤ R0 10 0) : am l E mX7_append d 0 0 [.ref r, .int c] n h0 (rd_post n h0 r (some (.int (R0 10 0 + 1))) (sS 10 (sA R0 0 (upd (R0 0) (R0 10 0).toNatClampNeg c)) 0 (R0 10 0 + 1))) := by
  refine am_of (by decide +kernel) (Nat.le_of_ble_eq_true rfl) ?_
  have hF : ah_off h0 h0 r 2 := ah_off.rf
  refine aw_aload_n dX7_append_0 rfl ?_
  refine aw_get dX7_append_1 flX7_19 (rd_c0 hR) rfl ?_
  refine aw_if_lt (tgt := 17) dX7_append_4 (by decide) (fun c4 => ?_) (fun c4 => ?_)
  · refine aw_bipush (v := -4) dX7_append_17 (by decide) ?_
    exact aw_iret dX7_append_19 rfl (absurd c4 g0)
  · refine aw_aload_n dX7_append_7 rfl ?_
    refine aw_get dX7_append_8 flX7_19 (rd_c0 hR) rfl ?_
    refine aw_sipush (v := 150) dX7_append_11 (by decide) ?_
    refine aw_icmp_lt (tgt := 20) dX7_append_14 (by decide) (fun c14 => ?_) (fun c14 => ?_)
    · refine aw_aload_n dX7_append_20 rfl ?_
      refine aw_get dX7_append_21 flX7_9 (rd_c0 hR) rfl ?_
      refine aw_aload_n dX7_append_24 rfl ?_
      refine aw_get dX7_append_25 flX7_19 (rd_c0 hR) rfl ?_
      refine aw_iload_n dX7_append_28 rfl ?_
      refine aw_ia_rd0 dX7_append_29 hR (vp_in_ofN (N := 150) g0 g6 (by decide)) (fun h hR ho => ?_)
      have hF := hF.trans ho
      refine aw_aload_n dX7_append_30 rfl ?_
      refine aw_dup dX7_append_31 rfl ?_
      refine aw_get dX7_append_32 flX7_19 (rd_c0 hR) rfl ?_
      refine aw_iconst (v := 1) dX7_append_35 (by decide) ?_
      refine aw_iadd dX7_append_36 ?_
      refine aw_pf_rd0 dX7_append_37 fpX7_19 hR (fun h hR ho => ?_)
      have hF := hF.trans ho
      refine aw_aload_n dX7_append_40 rfl ?_
      refine aw_get dX7_append_41 flX7_19 (rd_c0 hR) rfl ?_
      exact aw_iret dX7_append_44 rfl (⟨rfl, rfl, hR, hF⟩)
    · refine aw_bipush (v := -4) dX7_append_17 (by decide) ?_
      exact aw_iret dX7_append_19 rfl (absurd (Int32.not_lt.mp c14) g6)
set_option maxHeartbeats 1000000 in
set_option maxRecDepth 100000 in
theorem tX7_byteAt {l : Launch} {E : aw_E} {d n r : Nat} {h : ah} {R : sT} (hR : is_rd h r R) {i : Int32} : am l E mX7_byteAt d 0 0 [.ref r, .int i] n h (aw_eq n h (some (.int (rByte R i)))) := by
  refine am_of (by decide +kernel) (Nat.le_of_ble_eq_true rfl) ?_
  refine aw_iload_n dX7_byteAt_0 rfl ?_
  refine aw_if_lt (tgt := 28) dX7_byteAt_1 (by decide) (fun c1 => ?_) (fun c1 => ?_)
  · refine aw_iconst (v := -1) dX7_byteAt_28 (by decide) ?_
    exact aw_iret dX7_byteAt_29 rfl (⟨congrArg (fun z => some (Value.int z)) (if_pos c1), rfl, rfl⟩)
  · refine aw_iload_n dX7_byteAt_4 rfl ?_
    refine aw_aload_n dX7_byteAt_5 rfl ?_
    refine aw_get dX7_byteAt_6 flX7_19 (rd_c0 hR) rfl ?_
    refine aw_icmp_ge (tgt := 28) dX7_byteAt_9 (by decide) (fun c9 => ?_) (fun c9 => ?_)
    · refine aw_iconst (v := -1) dX7_byteAt_28 (by decide) ?_
      exact aw_iret dX7_byteAt_29 rfl (⟨congrArg (fun z => some (Value.int z)) ((if_neg c1).trans (if_pos c9)), rfl, rfl⟩)
    · refine aw_iload_n dX7_byteAt_12 rfl ?_
      refine aw_sipush (v := 150) dX7_byteAt_13 (by decide) ?_
      refine aw_icmp_ge (tgt := 28) dX7_byteAt_16 (by decide) (fun c16 => ?_) (fun c16 => ?_)
      · refine aw_iconst (v := -1) dX7_byteAt_28 (by decide) ?_
        exact aw_iret dX7_byteAt_29 rfl (⟨congrArg (fun z => some (Value.int z)) (((if_neg c1).trans (if_neg c9)).trans (if_pos c16)), rfl, rfl⟩)
      · refine aw_aload_n dX7_byteAt_19 rfl ?_
        refine aw_get dX7_byteAt_20 flX7_9 (rd_c0 hR) rfl ?_
        refine aw_iload_n dX7_byteAt_23 rfl ?_
        refine aw_iald dX7_byteAt_24 (rd_c1 hR) (vp_in_ofN (N := 150) c1 c16 (by decide)) ?_
        refine aw_goto (tgt := 29) dX7_byteAt_25 (by decide) ?_
        exact aw_iret dX7_byteAt_29 rfl (⟨congrArg (fun z => some (Value.int z)) (((if_neg c1).trans (if_neg c9)).trans (if_neg c16)), rfl, rfl⟩)
set_option maxHeartbeats 1000000 in
set_option maxRecDepth 100000 in
theorem tX7_runEnd {l : Launch} {E : aw_E} {d n r : Nat} {h : ah} {R : sT} (hR : is_rd h r R) {a : Nat} {x lo hi : Int32} (hx : x = nI a) (ha : a ≤ rL R) : am l E mX7_runEnd (d + 1) 0 0 [.ref r, .int x, .int lo, .int hi] n h (aw_eq n h (some (.int (nI (rRun R lo hi (rL R - a) a))))) := by
  refine am_of (by decide +kernel) (Nat.le_of_ble_eq_true rfl) ?_
  subst hx
  refine aw_iload_n dX7_runEnd_0 rfl ?_
  refine aw_istore dX7_runEnd_1 (by decide) ?_
  have hN1 := clamp_lt (R 10 0)
  have hNN : rL R = (R 10 0).toNatClampNeg := rfl
  have key : ∀ (k j : Nat), j + k = rL R → rRun R lo hi (rL R - a) a = rRun R lo hi k j  → aw l E mX7_runEnd (aw_Z E (aw_eq n h (some (.int (nI (rRun R lo hi (rL R - a) a)))))) (d + 1) 0 0 3 [(0, .ref r), (2, .int lo), (3, .int hi), (4, .int (nI j))] [] n h := by
    intro k
    induction k with
    | zero =>
      intro j  hj  heq
      refine aw_iload dX7_runEnd_3 rfl ?_
      refine aw_aload_n dX7_runEnd_5 rfl ?_
      refine aw_get dX7_runEnd_6 flX7_19 (rd_c0 hR) rfl ?_
      refine aw_icmp_ge (tgt := 38) dX7_runEnd_9 (by decide) (fun c9 => ?_) (fun c9 => ?_)
      · refine aw_iload dX7_runEnd_38 rfl ?_
        exact aw_iret dX7_runEnd_40 rfl (⟨congrArg (fun z => some (Value.int (nI z))) heq, rfl, rfl⟩)
      · exact absurd ((i_le_nI (x := R 10 0) (j := j) (by omega)).mpr (by omega)) c9
    | succ k ih =>
      intro j  hj  heq
      refine aw_iload dX7_runEnd_3 rfl ?_
      refine aw_aload_n dX7_runEnd_5 rfl ?_
      refine aw_get dX7_runEnd_6 flX7_19 (rd_c0 hR) rfl ?_
      refine aw_icmp_ge (tgt := 38) dX7_runEnd_9 (by decide) (fun c9 => ?_) (fun c9 => ?_)
      · exact absurd ((i_le_nI (x := R 10 0) (j := j) (by omega)).mp c9) (by omega)
      · refine aw_aload_n dX7_runEnd_12 rfl ?_
        refine aw_iload dX7_runEnd_13 rfl ?_
        refine aw_callV1p dX7_runEnd_15 cmX7_byteAt cvX7_96 (rd_c0 hR) (Nat.le_of_ble_eq_true rfl) (tX7_byteAt hR) ?_
        refine aw_iload_n dX7_runEnd_18 rfl ?_
        refine aw_icmp_lt (tgt := 38) dX7_runEnd_19 (by decide) (fun c19 => ?_) (fun c19 => ?_)
        · refine aw_iload dX7_runEnd_38 rfl ?_
          exact aw_iret dX7_runEnd_40 rfl (⟨congrArg (fun z => some (Value.int (nI z))) (heq.trans (if_pos c19)), rfl, rfl⟩)
        · refine aw_aload_n dX7_runEnd_22 rfl ?_
          refine aw_iload dX7_runEnd_23 rfl ?_
          refine aw_callV1p dX7_runEnd_25 cmX7_byteAt cvX7_96 (rd_c0 hR) (Nat.le_of_ble_eq_true rfl) (tX7_byteAt hR) ?_
          refine aw_iload_n dX7_runEnd_28 rfl ?_
          refine aw_icmp_gt (tgt := 38) dX7_runEnd_29 (by decide) (fun c29 => ?_) (fun c29 => ?_)
          · refine aw_iload dX7_runEnd_38 rfl ?_
            exact aw_iret dX7_runEnd_40 rfl (⟨congrArg (fun z => some (Value.int (nI z))) (heq.trans ((if_neg c19).trans (if_pos c29))), rfl, rfl⟩)
          · refine aw_inc (w := 1) dX7_runEnd_32 rfl (by decide) (by decide) ?_
            refine aw_goto (tgt := 3) dX7_runEnd_35 (by decide) ?_
            exact aw_loc [0, 2, 3, 4] (ls2 := [(0, .ref r), (2, .int lo), (3, .int hi), (4, .int (nI (j + 1)))]) (by first | (rw [nI_succ]; rfl) | rfl) (ih (j + 1)  (by omega)  (heq.trans ((if_neg c19).trans (if_neg c29))))
  exact aw_loc [0, 2, 3, 4] (ls2 := [(0, .ref r), (2, .int lo), (3, .int hi), (4, .int (nI a))]) rfl (key (rL R - a) a  (by first | rfl | omega)  rfl)
set_option maxHeartbeats 1000000 in
set_option maxRecDepth 100000 in
theorem tX7_numberBetween {l : Launch} {E : aw_E} {d n r : Nat} {h : ah} {R : sT} (hR : is_rd h r R) {s e : Int32} : am l E mX7_numberBetween (d + 1) 0 0 [.ref r, .int s, .int e] n h (aw_eq n h (some (.int (rNum R s e)))) := by
  refine am_of (by decide +kernel) (Nat.le_of_ble_eq_true rfl) ?_
  refine aw_aload_n dX7_numberBetween_0 rfl ?_
  refine aw_iload_n dX7_numberBetween_1 rfl ?_
  refine aw_iconst (v := 1) dX7_numberBetween_2 (by decide) ?_
  refine aw_isub dX7_numberBetween_3 ?_
  refine aw_callV1p dX7_numberBetween_4 cmX7_byteAt cvX7_96 (rd_c0 hR) (Nat.le_of_ble_eq_true rfl) (tX7_byteAt hR) ?_
  refine aw_bipush (v := 48) dX7_numberBetween_7 (by decide) ?_
  refine aw_isub dX7_numberBetween_9 ?_
  refine aw_istore_n dX7_numberBetween_10 (by decide) ?_
  refine aw_iload_n dX7_numberBetween_11 rfl ?_
  refine aw_iload_n dX7_numberBetween_12 rfl ?_
  refine aw_isub dX7_numberBetween_13 ?_
  by_cases g1 : e - s = 1
  · refine aw_lookup (off := 26) (tgt := 40) dX7_numberBetween_14 (by decide) (by rw [g1]; decide) (by decide) ?_
    refine aw_iload_n dX7_numberBetween_40 rfl ?_
    exact aw_iret dX7_numberBetween_41 rfl (⟨congrArg (fun z => some (Value.int z)) (if_pos g1), rfl, rfl⟩)
  · by_cases g2 : e - s = 2
    · refine aw_lookup (off := 28) (tgt := 42) dX7_numberBetween_14 (by decide) (by rw [g2]; decide) (by decide) ?_
      refine aw_bipush (v := 10) dX7_numberBetween_42 (by decide) ?_
      refine aw_aload_n dX7_numberBetween_44 rfl ?_
      refine aw_iload_n dX7_numberBetween_45 rfl ?_
      refine aw_callV1p dX7_numberBetween_46 cmX7_byteAt cvX7_96 (rd_c0 hR) (Nat.le_of_ble_eq_true rfl) (tX7_byteAt hR) ?_
      refine aw_bipush (v := 48) dX7_numberBetween_49 (by decide) ?_
      refine aw_isub dX7_numberBetween_51 ?_
      refine aw_imul dX7_numberBetween_52 ?_
      refine aw_iload_n dX7_numberBetween_53 rfl ?_
      refine aw_iadd dX7_numberBetween_54 ?_
      exact aw_iret dX7_numberBetween_55 rfl (⟨congrArg (fun z => some (Value.int z)) ((if_neg g1).trans (if_pos g2)), rfl, rfl⟩)
    · refine aw_lookup (off := 42) (tgt := 56) dX7_numberBetween_14 (by decide) ((lv_osw (x := e - s) (k := 1) (a := 1) (o := 26) (r := [(2, 28)]) g1 (by decide)).trans ((lv_osw (x := e - s) (k := 2) (a := 2) (o := 28) (r := []) g2 (by decide)).trans rfl)) (by decide) ?_
      refine aw_iconst (v := -1) dX7_numberBetween_56 (by decide) ?_
      exact aw_iret dX7_numberBetween_57 rfl (⟨congrArg (fun z => some (Value.int z)) ((if_neg g1).trans (if_neg g2)), rfl, rfl⟩)
set_option maxHeartbeats 1000000 in
set_option maxRecDepth 100000 in
theorem tX7_step {l : Launch} {E : aw_E} {d n r : Nat} {h0 : ah} {R0 : sT} (hR : is_rd h0 r R0) (hok : rOk R0) : am l E mX7_step (d + 2) 0 0 [.ref r] n h0 (rd_post n h0 r (none) (rStep R0)) := by
  refine am_of (by decide +kernel) (Nat.le_of_ble_eq_true rfl) ?_
  have hF : ah_off h0 h0 r 2 := ah_off.rf
  refine aw_aload_n dX7_step_0 rfl ?_
  refine aw_aload_n dX7_step_1 rfl ?_
  refine aw_aload_n dX7_step_2 rfl ?_
  refine aw_get dX7_step_3 flX7_27 (rd_c0 hR) rfl ?_
  refine aw_bipush (v := 32) dX7_step_6 (by decide) ?_
  refine aw_bipush (v := 32) dX7_step_8 (by decide) ?_
  refine aw_callV3p dX7_step_10 cmX7_runEnd cvX7_104 (rd_c0 hR) (Nat.le_of_ble_eq_true rfl) (tX7_runEnd hR (a := rE R0) hok.2.2.1 hok.2.2.2) ?_
  refine aw_pf_rd1 dX7_step_13 fpX7_89 hR (fun h hR ho => ?_)
  have hF := hF.trans ho
  refine aw_aload_n dX7_step_16 rfl ?_
  refine aw_aload_n dX7_step_17 rfl ?_
  refine aw_get dX7_step_18 flX7_89 (rd_c0 hR) rfl ?_
  refine aw_callV1p dX7_step_21 cmX7_byteAt cvX7_96 (rd_c0 hR) (Nat.le_of_ble_eq_true rfl) (tX7_byteAt hR) ?_
  refine aw_istore_n dX7_step_24 (by decide) ?_
  refine aw_iload_n dX7_step_25 rfl ?_
  refine aw_iconst (v := -1) dX7_step_26 (by decide) ?_
  refine aw_icmp_ne (tgt := 46) dX7_step_27 (by decide) (fun c27 => ?_) (fun c27 => ?_)
  · refine aw_iload_n dX7_step_46 rfl ?_
    refine aw_bipush (v := 97) dX7_step_47 (by decide) ?_
    refine aw_icmp_lt (tgt := 82) dX7_step_49 (by decide) (fun c49 => ?_) (fun c49 => ?_)
    · refine aw_iload_n dX7_step_82 rfl ?_
      refine aw_bipush (v := 48) dX7_step_83 (by decide) ?_
      refine aw_icmp_lt (tgt := 134) dX7_step_85 (by decide) (fun c85 => ?_) (fun c85 => ?_)
      · refine aw_aload_n dX7_step_134 rfl ?_
        refine aw_iload_n dX7_step_135 rfl ?_
        refine aw_bipush (v := 59) dX7_step_136 (by decide) ?_
        refine aw_icmp_ne (tgt := 145) dX7_step_138 (by decide) (fun c138 => ?_) (fun c138 => ?_)
        · refine aw_iconst (v := 4) dX7_step_145 (by decide) ?_
          refine aw_pf_rd3 dX7_step_146 fpX7_36 hR (fun h hR ho => ?_)
          have hF := hF.trans ho
          refine aw_aload_n dX7_step_149 rfl ?_
          refine aw_aload_n dX7_step_150 rfl ?_
          refine aw_get dX7_step_151 flX7_89 (rd_c0 hR) rfl ?_
          refine aw_iconst (v := 1) dX7_step_154 (by decide) ?_
          refine aw_iadd dX7_step_155 ?_
          refine aw_pf_rd2 dX7_step_156 fpX7_27 hR (fun h hR ho => ?_)
          have hF := hF.trans ho
          exact aw_vret dX7_step_159 rfl (⟨rfl, rfl, is_of (P := is_rd _ r) ((((if_neg c27).trans (if_pos c49)).trans (if_pos c85)).trans (congrArg (fun z => sS 10 (sS 10 (rSt1 R0) 3 z) 2 (nI (rStart R0) + 1)) (if_neg c138))) hR, hF⟩)
        · refine aw_iconst (v := 3) dX7_step_141 (by decide) ?_
          refine aw_goto (tgt := 146) dX7_step_142 (by decide) ?_
          refine aw_pf_rd3 dX7_step_146 fpX7_36 hR (fun h hR ho => ?_)
          have hF := hF.trans ho
          refine aw_aload_n dX7_step_149 rfl ?_
          refine aw_aload_n dX7_step_150 rfl ?_
          refine aw_get dX7_step_151 flX7_89 (rd_c0 hR) rfl ?_
          refine aw_iconst (v := 1) dX7_step_154 (by decide) ?_
          refine aw_iadd dX7_step_155 ?_
          refine aw_pf_rd2 dX7_step_156 fpX7_27 hR (fun h hR ho => ?_)
          have hF := hF.trans ho
          exact aw_vret dX7_step_159 rfl (⟨rfl, rfl, is_of (P := is_rd _ r) ((((if_neg c27).trans (if_pos c49)).trans (if_pos c85)).trans (congrArg (fun z => sS 10 (sS 10 (rSt1 R0) 3 z) 2 (nI (rStart R0) + 1)) (if_pos c138))) hR, hF⟩)
      · refine aw_iload_n dX7_step_88 rfl ?_
        refine aw_bipush (v := 57) dX7_step_89 (by decide) ?_
        refine aw_icmp_gt (tgt := 134) dX7_step_91 (by decide) (fun c91 => ?_) (fun c91 => ?_)
        · refine aw_aload_n dX7_step_134 rfl ?_
          refine aw_iload_n dX7_step_135 rfl ?_
          refine aw_bipush (v := 59) dX7_step_136 (by decide) ?_
          refine aw_icmp_ne (tgt := 145) dX7_step_138 (by decide) (fun c138 => ?_) (fun c138 => ?_)
          · refine aw_iconst (v := 4) dX7_step_145 (by decide) ?_
            refine aw_pf_rd3 dX7_step_146 fpX7_36 hR (fun h hR ho => ?_)
            have hF := hF.trans ho
            refine aw_aload_n dX7_step_149 rfl ?_
            refine aw_aload_n dX7_step_150 rfl ?_
            refine aw_get dX7_step_151 flX7_89 (rd_c0 hR) rfl ?_
            refine aw_iconst (v := 1) dX7_step_154 (by decide) ?_
            refine aw_iadd dX7_step_155 ?_
            refine aw_pf_rd2 dX7_step_156 fpX7_27 hR (fun h hR ho => ?_)
            have hF := hF.trans ho
            exact aw_vret dX7_step_159 rfl (⟨rfl, rfl, is_of (P := is_rd _ r) (((((if_neg c27).trans (if_pos c49)).trans (if_neg c85)).trans (if_pos c91)).trans (congrArg (fun z => sS 10 (sS 10 (rSt1 R0) 3 z) 2 (nI (rStart R0) + 1)) (if_neg c138))) hR, hF⟩)
          · refine aw_iconst (v := 3) dX7_step_141 (by decide) ?_
            refine aw_goto (tgt := 146) dX7_step_142 (by decide) ?_
            refine aw_pf_rd3 dX7_step_146 fpX7_36 hR (fun h hR ho => ?_)
            have hF := hF.trans ho
            refine aw_aload_n dX7_step_149 rfl ?_
            refine aw_aload_n dX7_step_150 rfl ?_
            refine aw_get dX7_step_151 flX7_89 (rd_c0 hR) rfl ?_
            refine aw_iconst (v := 1) dX7_step_154 (by decide) ?_
            refine aw_iadd dX7_step_155 ?_
            refine aw_pf_rd2 dX7_step_156 fpX7_27 hR (fun h hR ho => ?_)
            have hF := hF.trans ho
            exact aw_vret dX7_step_159 rfl (⟨rfl, rfl, is_of (P := is_rd _ r) (((((if_neg c27).trans (if_pos c49)).trans (if_neg c85)).trans (if_pos c91)).trans (congrArg (fun z => sS 10 (sS 10 (rSt1 R0) 3 z) 2 (nI (rStart R0) + 1)) (if_pos c138))) hR, hF⟩)
        · refine aw_aload_n dX7_step_94 rfl ?_
          refine aw_iconst (v := 2) dX7_step_95 (by decide) ?_
          refine aw_pf_rd3 dX7_step_96 fpX7_36 hR (fun h hR ho => ?_)
          have hF := hF.trans ho
          refine aw_aload_n dX7_step_99 rfl ?_
          refine aw_aload_n dX7_step_100 rfl ?_
          refine aw_aload_n dX7_step_101 rfl ?_
          refine aw_get dX7_step_102 flX7_89 (rd_c0 hR) rfl ?_
          refine aw_bipush (v := 48) dX7_step_105 (by decide) ?_
          refine aw_bipush (v := 57) dX7_step_107 (by decide) ?_
          refine aw_callV3p dX7_step_109 cmX7_runEnd cvX7_104 (rd_c0 hR) (Nat.le_of_ble_eq_true rfl) (tX7_runEnd hR (a := rStart R0) rfl (rStart_le hok)) ?_
          refine aw_pf_rd2 dX7_step_112 fpX7_27 hR (fun h hR ho => ?_)
          have hF := hF.trans ho
          refine aw_aload_n dX7_step_115 rfl ?_
          refine aw_aload_n dX7_step_116 rfl ?_
          refine aw_aload_n dX7_step_117 rfl ?_
          refine aw_get dX7_step_118 flX7_89 (rd_c0 hR) rfl ?_
          refine aw_aload_n dX7_step_121 rfl ?_
          refine aw_get dX7_step_122 flX7_27 (rd_c0 hR) rfl ?_
          refine aw_callV2p dX7_step_125 cmX7_numberBetween cvX7_108 (rd_c0 hR) (Nat.le_of_ble_eq_true rfl) (tX7_numberBetween hR) ?_
          refine aw_pf_rd4 dX7_step_128 fpX7_79 hR (fun h hR ho => ?_)
          have hF := hF.trans ho
          refine aw_goto (tgt := 159) dX7_step_131 (by decide) ?_
          exact aw_vret dX7_step_159 rfl (⟨rfl, rfl, is_of (P := is_rd _ r) ((((if_neg c27).trans (if_pos c49)).trans (if_neg c85)).trans (if_neg c91)) hR, hF⟩)
    · refine aw_iload_n dX7_step_52 rfl ?_
      refine aw_bipush (v := 122) dX7_step_53 (by decide) ?_
      refine aw_icmp_gt (tgt := 82) dX7_step_55 (by decide) (fun c55 => ?_) (fun c55 => ?_)
      · refine aw_iload_n dX7_step_82 rfl ?_
        refine aw_bipush (v := 48) dX7_step_83 (by decide) ?_
        refine aw_icmp_lt (tgt := 134) dX7_step_85 (by decide) (fun c85 => ?_) (fun c85 => ?_)
        · refine aw_aload_n dX7_step_134 rfl ?_
          refine aw_iload_n dX7_step_135 rfl ?_
          refine aw_bipush (v := 59) dX7_step_136 (by decide) ?_
          refine aw_icmp_ne (tgt := 145) dX7_step_138 (by decide) (fun c138 => ?_) (fun c138 => ?_)
          · refine aw_iconst (v := 4) dX7_step_145 (by decide) ?_
            refine aw_pf_rd3 dX7_step_146 fpX7_36 hR (fun h hR ho => ?_)
            have hF := hF.trans ho
            refine aw_aload_n dX7_step_149 rfl ?_
            refine aw_aload_n dX7_step_150 rfl ?_
            refine aw_get dX7_step_151 flX7_89 (rd_c0 hR) rfl ?_
            refine aw_iconst (v := 1) dX7_step_154 (by decide) ?_
            refine aw_iadd dX7_step_155 ?_
            refine aw_pf_rd2 dX7_step_156 fpX7_27 hR (fun h hR ho => ?_)
            have hF := hF.trans ho
            exact aw_vret dX7_step_159 rfl (⟨rfl, rfl, is_of (P := is_rd _ r) (((((if_neg c27).trans (if_neg c49)).trans (if_pos c55)).trans (if_pos c85)).trans (congrArg (fun z => sS 10 (sS 10 (rSt1 R0) 3 z) 2 (nI (rStart R0) + 1)) (if_neg c138))) hR, hF⟩)
          · refine aw_iconst (v := 3) dX7_step_141 (by decide) ?_
            refine aw_goto (tgt := 146) dX7_step_142 (by decide) ?_
            refine aw_pf_rd3 dX7_step_146 fpX7_36 hR (fun h hR ho => ?_)
            have hF := hF.trans ho
            refine aw_aload_n dX7_step_149 rfl ?_
            refine aw_aload_n dX7_step_150 rfl ?_
            refine aw_get dX7_step_151 flX7_89 (rd_c0 hR) rfl ?_
            refine aw_iconst (v := 1) dX7_step_154 (by decide) ?_
            refine aw_iadd dX7_step_155 ?_
            refine aw_pf_rd2 dX7_step_156 fpX7_27 hR (fun h hR ho => ?_)
            have hF := hF.trans ho
            exact aw_vret dX7_step_159 rfl (⟨rfl, rfl, is_of (P := is_rd _ r) (((((if_neg c27).trans (if_neg c49)).trans (if_pos c55)).trans (if_pos c85)).trans (congrArg (fun z => sS 10 (sS 10 (rSt1 R0) 3 z) 2 (nI (rStart R0) + 1)) (if_pos c138))) hR, hF⟩)
        · refine aw_iload_n dX7_step_88 rfl ?_
          refine aw_bipush (v := 57) dX7_step_89 (by decide) ?_
          refine aw_icmp_gt (tgt := 134) dX7_step_91 (by decide) (fun c91 => ?_) (fun c91 => ?_)
          · refine aw_aload_n dX7_step_134 rfl ?_
            refine aw_iload_n dX7_step_135 rfl ?_
            refine aw_bipush (v := 59) dX7_step_136 (by decide) ?_
            refine aw_icmp_ne (tgt := 145) dX7_step_138 (by decide) (fun c138 => ?_) (fun c138 => ?_)
            · refine aw_iconst (v := 4) dX7_step_145 (by decide) ?_
              refine aw_pf_rd3 dX7_step_146 fpX7_36 hR (fun h hR ho => ?_)
              have hF := hF.trans ho
              refine aw_aload_n dX7_step_149 rfl ?_
              refine aw_aload_n dX7_step_150 rfl ?_
              refine aw_get dX7_step_151 flX7_89 (rd_c0 hR) rfl ?_
              refine aw_iconst (v := 1) dX7_step_154 (by decide) ?_
              refine aw_iadd dX7_step_155 ?_
              refine aw_pf_rd2 dX7_step_156 fpX7_27 hR (fun h hR ho => ?_)
              have hF := hF.trans ho
              exact aw_vret dX7_step_159 rfl (⟨rfl, rfl, is_of (P := is_rd _ r) ((((((if_neg c27).trans (if_neg c49)).trans (if_pos c55)).trans (if_neg c85)).trans (if_pos c91)).trans (congrArg (fun z => sS 10 (sS 10 (rSt1 R0) 3 z) 2 (nI (rStart R0) + 1)) (if_neg c138))) hR, hF⟩)
            · refine aw_iconst (v := 3) dX7_step_141 (by decide) ?_
              refine aw_goto (tgt := 146) dX7_step_142 (by decide) ?_
              refine aw_pf_rd3 dX7_step_146 fpX7_36 hR (fun h hR ho => ?_)
              have hF := hF.trans ho
              refine aw_aload_n dX7_step_149 rfl ?_
              refine aw_aload_n dX7_step_150 rfl ?_
              refine aw_get dX7_step_151 flX7_89 (rd_c0 hR) rfl ?_
              refine aw_iconst (v := 1) dX7_step_154 (by decide) ?_
              refine aw_iadd dX7_step_155 ?_
              refine aw_pf_rd2 dX7_step_156 fpX7_27 hR (fun h hR ho => ?_)
              have hF := hF.trans ho
              exact aw_vret dX7_step_159 rfl (⟨rfl, rfl, is_of (P := is_rd _ r) ((((((if_neg c27).trans (if_neg c49)).trans (if_pos c55)).trans (if_neg c85)).trans (if_pos c91)).trans (congrArg (fun z => sS 10 (sS 10 (rSt1 R0) 3 z) 2 (nI (rStart R0) + 1)) (if_pos c138))) hR, hF⟩)
          · refine aw_aload_n dX7_step_94 rfl ?_
            refine aw_iconst (v := 2) dX7_step_95 (by decide) ?_
            refine aw_pf_rd3 dX7_step_96 fpX7_36 hR (fun h hR ho => ?_)
            have hF := hF.trans ho
            refine aw_aload_n dX7_step_99 rfl ?_
            refine aw_aload_n dX7_step_100 rfl ?_
            refine aw_aload_n dX7_step_101 rfl ?_
            refine aw_get dX7_step_102 flX7_89 (rd_c0 hR) rfl ?_
            refine aw_bipush (v := 48) dX7_step_105 (by decide) ?_
            refine aw_bipush (v := 57) dX7_step_107 (by decide) ?_
            refine aw_callV3p dX7_step_109 cmX7_runEnd cvX7_104 (rd_c0 hR) (Nat.le_of_ble_eq_true rfl) (tX7_runEnd hR (a := rStart R0) rfl (rStart_le hok)) ?_
            refine aw_pf_rd2 dX7_step_112 fpX7_27 hR (fun h hR ho => ?_)
            have hF := hF.trans ho
            refine aw_aload_n dX7_step_115 rfl ?_
            refine aw_aload_n dX7_step_116 rfl ?_
            refine aw_aload_n dX7_step_117 rfl ?_
            refine aw_get dX7_step_118 flX7_89 (rd_c0 hR) rfl ?_
            refine aw_aload_n dX7_step_121 rfl ?_
            refine aw_get dX7_step_122 flX7_27 (rd_c0 hR) rfl ?_
            refine aw_callV2p dX7_step_125 cmX7_numberBetween cvX7_108 (rd_c0 hR) (Nat.le_of_ble_eq_true rfl) (tX7_numberBetween hR) ?_
            refine aw_pf_rd4 dX7_step_128 fpX7_79 hR (fun h hR ho => ?_)
            have hF := hF.trans ho
            refine aw_goto (tgt := 159) dX7_step_131 (by decide) ?_
            exact aw_vret dX7_step_159 rfl (⟨rfl, rfl, is_of (P := is_rd _ r) (((((if_neg c27).trans (if_neg c49)).trans (if_pos c55)).trans (if_neg c85)).trans (if_neg c91)) hR, hF⟩)
      · refine aw_aload_n dX7_step_58 rfl ?_
        refine aw_iconst (v := 1) dX7_step_59 (by decide) ?_
        refine aw_pf_rd3 dX7_step_60 fpX7_36 hR (fun h hR ho => ?_)
        have hF := hF.trans ho
        refine aw_aload_n dX7_step_63 rfl ?_
        refine aw_aload_n dX7_step_64 rfl ?_
        refine aw_aload_n dX7_step_65 rfl ?_
        refine aw_get dX7_step_66 flX7_89 (rd_c0 hR) rfl ?_
        refine aw_bipush (v := 97) dX7_step_69 (by decide) ?_
        refine aw_bipush (v := 122) dX7_step_71 (by decide) ?_
        refine aw_callV3p dX7_step_73 cmX7_runEnd cvX7_104 (rd_c0 hR) (Nat.le_of_ble_eq_true rfl) (tX7_runEnd hR (a := rStart R0) rfl (rStart_le hok)) ?_
        refine aw_pf_rd2 dX7_step_76 fpX7_27 hR (fun h hR ho => ?_)
        have hF := hF.trans ho
        refine aw_goto (tgt := 159) dX7_step_79 (by decide) ?_
        exact aw_vret dX7_step_159 rfl (⟨rfl, rfl, is_of (P := is_rd _ r) (((if_neg c27).trans (if_neg c49)).trans (if_neg c55)) hR, hF⟩)
  · refine aw_aload_n dX7_step_30 rfl ?_
    refine aw_iconst (v := 0) dX7_step_31 (by decide) ?_
    refine aw_pf_rd3 dX7_step_32 fpX7_36 hR (fun h hR ho => ?_)
    have hF := hF.trans ho
    refine aw_aload_n dX7_step_35 rfl ?_
    refine aw_aload_n dX7_step_36 rfl ?_
    refine aw_get dX7_step_37 flX7_89 (rd_c0 hR) rfl ?_
    refine aw_pf_rd2 dX7_step_40 fpX7_27 hR (fun h hR ho => ?_)
    have hF := hF.trans ho
    refine aw_goto (tgt := 159) dX7_step_43 (by decide) ?_
    exact aw_vret dX7_step_159 rfl (⟨rfl, rfl, is_of (P := is_rd _ r) (if_pos c27) hR, hF⟩)
set_option maxHeartbeats 1000000 in
set_option maxRecDepth 100000 in
theorem tX7_failHere {l : Launch} {E : aw_E} {d n r : Nat} {h0 : ah} {R0 : sT} (hR : is_rd h0 r R0) : am l E mX7_failHere d 0 0 [.ref r] n h0 (rd_post n h0 r (none) (rFail R0)) := by
  refine am_of (by decide +kernel) (Nat.le_of_ble_eq_true rfl) ?_
  have hF : ah_off h0 h0 r 2 := ah_off.rf
  refine aw_aload_n dX7_failHere_0 rfl ?_
  refine aw_get dX7_failHere_1 flX7_15 (rd_c0 hR) rfl ?_
  refine aw_iconst (v := -1) dX7_failHere_4 (by decide) ?_
  refine aw_icmp_ne (tgt := 16) dX7_failHere_5 (by decide) (fun c5 => ?_) (fun c5 => ?_)
  · exact aw_vret dX7_failHere_16 rfl (⟨rfl, rfl, is_of (P := is_rd _ r) (if_neg c5) hR, hF⟩)
  · refine aw_aload_n dX7_failHere_8 rfl ?_
    refine aw_aload_n dX7_failHere_9 rfl ?_
    refine aw_get dX7_failHere_10 flX7_89 (rd_c0 hR) rfl ?_
    refine aw_pf_rd5 dX7_failHere_13 fpX7_15 hR (fun h hR ho => ?_)
    have hF := hF.trans ho
    exact aw_vret dX7_failHere_16 rfl (⟨rfl, rfl, is_of (P := is_rd _ r) (if_pos c5) hR, hF⟩)
set_option maxHeartbeats 1000000 in
set_option maxRecDepth 100000 in
theorem tX7_takeNumber {l : Launch} {E : aw_E} {d n r : Nat} {h0 : ah} {R0 : sT} (hR : is_rd h0 r R0) {lo hi : Int32} (hok : rOk R0) : am l E mX7_takeNumber (d + 3) 0 0 [.ref r, .int lo, .int hi] n h0 (rd_post n h0 r (some (.int (rTnV R0 lo hi))) (rTnS R0 lo hi)) := by
  refine am_of (by decide +kernel) (Nat.le_of_ble_eq_true rfl) ?_
  have hF : ah_off h0 h0 r 2 := ah_off.rf
  refine aw_aload_n dX7_takeNumber_0 rfl ?_
  refine aw_get dX7_takeNumber_1 flX7_36 (rd_c0 hR) rfl ?_
  refine aw_iconst (v := 2) dX7_takeNumber_4 (by decide) ?_
  refine aw_icmp_ne (tgt := 24) dX7_takeNumber_5 (by decide) (fun c5 => ?_) (fun c5 => ?_)
  · refine aw_aload_n dX7_takeNumber_24 rfl ?_
    refine aw_callV0e dX7_takeNumber_25 cmX7_failHere cvX7_63 (rd_c0 hR) (Nat.le_of_ble_eq_true rfl) (tX7_failHere hR) (fun r n' h' hq => ?_)
    obtain ⟨rfl, rfl, hR, ho⟩ := hq
    have hF := hF.trans ho
    try have hok := rOk_fail hok
    refine aw_aload_n dX7_takeNumber_28 rfl ?_
    refine aw_get dX7_takeNumber_29 flX7_15 (rd_c0 hR) rfl ?_
    refine aw_iconst (v := -1) dX7_takeNumber_32 (by decide) ?_
    refine aw_icmp_eq (tgt := 38) dX7_takeNumber_33 (by decide) (fun c33 => ?_) (fun c33 => ?_)
    · refine aw_aload_n dX7_takeNumber_38 rfl ?_
      refine aw_get dX7_takeNumber_39 flX7_79 (rd_c0 hR) rfl ?_
      refine aw_istore_n dX7_takeNumber_42 (by decide) ?_
      refine aw_aload_n dX7_takeNumber_43 rfl ?_
      refine aw_callV0e dX7_takeNumber_44 cmX7_step cvX7_30 (rd_c0 hR) (Nat.le_of_ble_eq_true rfl) (tX7_step hR hok) (fun r n' h' hq => ?_)
      obtain ⟨rfl, rfl, hR, ho⟩ := hq
      have hF := hF.trans ho
      have hok := rOk_step hok
      refine aw_iload_n dX7_takeNumber_47 rfl ?_
      exact aw_iret dX7_takeNumber_48 rfl (⟨congrArg (fun z => some (Value.int z)) (by unfold rTnV; rw [(show rTn1 R0 lo hi = _ from (if_neg c5))]; exact if_pos c33), rfl, is_of (P := is_rd _ r) (by unfold rTnS; rw [(show rTn1 R0 lo hi = _ from (if_neg c5))]; exact if_pos c33) hR, hF⟩)
    · refine aw_iconst (v := 0) dX7_takeNumber_36 (by decide) ?_
      exact aw_iret dX7_takeNumber_37 rfl (⟨congrArg (fun z => some (Value.int z)) (by unfold rTnV; rw [(show rTn1 R0 lo hi = _ from (if_neg c5))]; exact if_neg c33), rfl, is_of (P := is_rd _ r) (by unfold rTnS; rw [(show rTn1 R0 lo hi = _ from (if_neg c5))]; exact if_neg c33) hR, hF⟩)
  · refine aw_aload_n dX7_takeNumber_8 rfl ?_
    refine aw_get dX7_takeNumber_9 flX7_79 (rd_c0 hR) rfl ?_
    refine aw_iload_n dX7_takeNumber_12 rfl ?_
    refine aw_icmp_lt (tgt := 24) dX7_takeNumber_13 (by decide) (fun c13 => ?_) (fun c13 => ?_)
    · refine aw_aload_n dX7_takeNumber_24 rfl ?_
      refine aw_callV0e dX7_takeNumber_25 cmX7_failHere cvX7_63 (rd_c0 hR) (Nat.le_of_ble_eq_true rfl) (tX7_failHere hR) (fun r n' h' hq => ?_)
      obtain ⟨rfl, rfl, hR, ho⟩ := hq
      have hF := hF.trans ho
      try have hok := rOk_fail hok
      refine aw_aload_n dX7_takeNumber_28 rfl ?_
      refine aw_get dX7_takeNumber_29 flX7_15 (rd_c0 hR) rfl ?_
      refine aw_iconst (v := -1) dX7_takeNumber_32 (by decide) ?_
      refine aw_icmp_eq (tgt := 38) dX7_takeNumber_33 (by decide) (fun c33 => ?_) (fun c33 => ?_)
      · refine aw_aload_n dX7_takeNumber_38 rfl ?_
        refine aw_get dX7_takeNumber_39 flX7_79 (rd_c0 hR) rfl ?_
        refine aw_istore_n dX7_takeNumber_42 (by decide) ?_
        refine aw_aload_n dX7_takeNumber_43 rfl ?_
        refine aw_callV0e dX7_takeNumber_44 cmX7_step cvX7_30 (rd_c0 hR) (Nat.le_of_ble_eq_true rfl) (tX7_step hR hok) (fun r n' h' hq => ?_)
        obtain ⟨rfl, rfl, hR, ho⟩ := hq
        have hF := hF.trans ho
        have hok := rOk_step hok
        refine aw_iload_n dX7_takeNumber_47 rfl ?_
        exact aw_iret dX7_takeNumber_48 rfl (⟨congrArg (fun z => some (Value.int z)) (by unfold rTnV; rw [(show rTn1 R0 lo hi = _ from ((if_pos c5).trans (if_pos c13)))]; exact if_pos c33), rfl, is_of (P := is_rd _ r) (by unfold rTnS; rw [(show rTn1 R0 lo hi = _ from ((if_pos c5).trans (if_pos c13)))]; exact if_pos c33) hR, hF⟩)
      · refine aw_iconst (v := 0) dX7_takeNumber_36 (by decide) ?_
        exact aw_iret dX7_takeNumber_37 rfl (⟨congrArg (fun z => some (Value.int z)) (by unfold rTnV; rw [(show rTn1 R0 lo hi = _ from ((if_pos c5).trans (if_pos c13)))]; exact if_neg c33), rfl, is_of (P := is_rd _ r) (by unfold rTnS; rw [(show rTn1 R0 lo hi = _ from ((if_pos c5).trans (if_pos c13)))]; exact if_neg c33) hR, hF⟩)
    · refine aw_aload_n dX7_takeNumber_16 rfl ?_
      refine aw_get dX7_takeNumber_17 flX7_79 (rd_c0 hR) rfl ?_
      refine aw_iload_n dX7_takeNumber_20 rfl ?_
      refine aw_icmp_le (tgt := 28) dX7_takeNumber_21 (by decide) (fun c21 => ?_) (fun c21 => ?_)
      · refine aw_aload_n dX7_takeNumber_28 rfl ?_
        refine aw_get dX7_takeNumber_29 flX7_15 (rd_c0 hR) rfl ?_
        refine aw_iconst (v := -1) dX7_takeNumber_32 (by decide) ?_
        refine aw_icmp_eq (tgt := 38) dX7_takeNumber_33 (by decide) (fun c33 => ?_) (fun c33 => ?_)
        · refine aw_aload_n dX7_takeNumber_38 rfl ?_
          refine aw_get dX7_takeNumber_39 flX7_79 (rd_c0 hR) rfl ?_
          refine aw_istore_n dX7_takeNumber_42 (by decide) ?_
          refine aw_aload_n dX7_takeNumber_43 rfl ?_
          refine aw_callV0e dX7_takeNumber_44 cmX7_step cvX7_30 (rd_c0 hR) (Nat.le_of_ble_eq_true rfl) (tX7_step hR hok) (fun r n' h' hq => ?_)
          obtain ⟨rfl, rfl, hR, ho⟩ := hq
          have hF := hF.trans ho
          have hok := rOk_step hok
          refine aw_iload_n dX7_takeNumber_47 rfl ?_
          exact aw_iret dX7_takeNumber_48 rfl (⟨congrArg (fun z => some (Value.int z)) (by unfold rTnV; rw [(show rTn1 R0 lo hi = _ from (((if_pos c5).trans (if_neg c13)).trans (if_pos c21)))]; exact if_pos c33), rfl, is_of (P := is_rd _ r) (by unfold rTnS; rw [(show rTn1 R0 lo hi = _ from (((if_pos c5).trans (if_neg c13)).trans (if_pos c21)))]; exact if_pos c33) hR, hF⟩)
        · refine aw_iconst (v := 0) dX7_takeNumber_36 (by decide) ?_
          exact aw_iret dX7_takeNumber_37 rfl (⟨congrArg (fun z => some (Value.int z)) (by unfold rTnV; rw [(show rTn1 R0 lo hi = _ from (((if_pos c5).trans (if_neg c13)).trans (if_pos c21)))]; exact if_neg c33), rfl, is_of (P := is_rd _ r) (by unfold rTnS; rw [(show rTn1 R0 lo hi = _ from (((if_pos c5).trans (if_neg c13)).trans (if_pos c21)))]; exact if_neg c33) hR, hF⟩)
      · refine aw_aload_n dX7_takeNumber_24 rfl ?_
        refine aw_callV0e dX7_takeNumber_25 cmX7_failHere cvX7_63 (rd_c0 hR) (Nat.le_of_ble_eq_true rfl) (tX7_failHere hR) (fun r n' h' hq => ?_)
        obtain ⟨rfl, rfl, hR, ho⟩ := hq
        have hF := hF.trans ho
        try have hok := rOk_fail hok
        refine aw_aload_n dX7_takeNumber_28 rfl ?_
        refine aw_get dX7_takeNumber_29 flX7_15 (rd_c0 hR) rfl ?_
        refine aw_iconst (v := -1) dX7_takeNumber_32 (by decide) ?_
        refine aw_icmp_eq (tgt := 38) dX7_takeNumber_33 (by decide) (fun c33 => ?_) (fun c33 => ?_)
        · refine aw_aload_n dX7_takeNumber_38 rfl ?_
          refine aw_get dX7_takeNumber_39 flX7_79 (rd_c0 hR) rfl ?_
          refine aw_istore_n dX7_takeNumber_42 (by decide) ?_
          refine aw_aload_n dX7_takeNumber_43 rfl ?_
          refine aw_callV0e dX7_takeNumber_44 cmX7_step cvX7_30 (rd_c0 hR) (Nat.le_of_ble_eq_true rfl) (tX7_step hR hok) (fun r n' h' hq => ?_)
          obtain ⟨rfl, rfl, hR, ho⟩ := hq
          have hF := hF.trans ho
          have hok := rOk_step hok
          refine aw_iload_n dX7_takeNumber_47 rfl ?_
          exact aw_iret dX7_takeNumber_48 rfl (⟨congrArg (fun z => some (Value.int z)) (by unfold rTnV; rw [(show rTn1 R0 lo hi = _ from (((if_pos c5).trans (if_neg c13)).trans (if_neg c21)))]; exact if_pos c33), rfl, is_of (P := is_rd _ r) (by unfold rTnS; rw [(show rTn1 R0 lo hi = _ from (((if_pos c5).trans (if_neg c13)).trans (if_neg c21)))]; exact if_pos c33) hR, hF⟩)
        · refine aw_iconst (v := 0) dX7_takeNumber_36 (by decide) ?_
          exact aw_iret dX7_takeNumber_37 rfl (⟨congrArg (fun z => some (Value.int z)) (by unfold rTnV; rw [(show rTn1 R0 lo hi = _ from (((if_pos c5).trans (if_neg c13)).trans (if_neg c21)))]; exact if_neg c33), rfl, is_of (P := is_rd _ r) (by unfold rTnS; rw [(show rTn1 R0 lo hi = _ from (((if_pos c5).trans (if_neg c13)).trans (if_neg c21)))]; exact if_neg c33) hR, hF⟩)
set_option maxHeartbeats 1000000 in
set_option maxRecDepth 100000 in
theorem tX7_takeStop {l : Launch} {E : aw_E} {d n r : Nat} {h0 : ah} {R0 : sT} (hR : is_rd h0 r R0) (hok : rOk R0) : am l E mX7_takeStop (d + 3) 0 0 [.ref r] n h0 (rd_post n h0 r (none) (rTs R0)) := by
  refine am_of (by decide +kernel) (Nat.le_of_ble_eq_true rfl) ?_
  have hF : ah_off h0 h0 r 2 := ah_off.rf
  refine aw_aload_n dX7_takeStop_0 rfl ?_
  refine aw_get dX7_takeStop_1 flX7_36 (rd_c0 hR) rfl ?_
  refine aw_iconst (v := 3) dX7_takeStop_4 (by decide) ?_
  refine aw_icmp_eq (tgt := 12) dX7_takeStop_5 (by decide) (fun c5 => ?_) (fun c5 => ?_)
  · refine aw_aload_n dX7_takeStop_12 rfl ?_
    refine aw_get dX7_takeStop_13 flX7_15 (rd_c0 hR) rfl ?_
    refine aw_iconst (v := -1) dX7_takeStop_16 (by decide) ?_
    refine aw_icmp_ne (tgt := 24) dX7_takeStop_17 (by decide) (fun c17 => ?_) (fun c17 => ?_)
    · exact aw_vret dX7_takeStop_24 rfl (⟨rfl, rfl, is_of (P := is_rd _ r) (by unfold rTs; rw [(show rTs1 R0 = _ from (if_pos c5))]; exact if_neg c17) hR, hF⟩)
    · refine aw_aload_n dX7_takeStop_20 rfl ?_
      refine aw_callV0e dX7_takeStop_21 cmX7_step cvX7_30 (rd_c0 hR) (Nat.le_of_ble_eq_true rfl) (tX7_step hR hok) (fun r n' h' hq => ?_)
      obtain ⟨rfl, rfl, hR, ho⟩ := hq
      have hF := hF.trans ho
      have hok := rOk_step hok
      exact aw_vret dX7_takeStop_24 rfl (⟨rfl, rfl, is_of (P := is_rd _ r) (by unfold rTs; rw [(show rTs1 R0 = _ from (if_pos c5))]; exact if_pos c17) hR, hF⟩)
  · refine aw_aload_n dX7_takeStop_8 rfl ?_
    refine aw_callV0e dX7_takeStop_9 cmX7_failHere cvX7_63 (rd_c0 hR) (Nat.le_of_ble_eq_true rfl) (tX7_failHere hR) (fun r n' h' hq => ?_)
    obtain ⟨rfl, rfl, hR, ho⟩ := hq
    have hF := hF.trans ho
    try have hok := rOk_fail hok
    refine aw_aload_n dX7_takeStop_12 rfl ?_
    refine aw_get dX7_takeStop_13 flX7_15 (rd_c0 hR) rfl ?_
    refine aw_iconst (v := -1) dX7_takeStop_16 (by decide) ?_
    refine aw_icmp_ne (tgt := 24) dX7_takeStop_17 (by decide) (fun c17 => ?_) (fun c17 => ?_)
    · exact aw_vret dX7_takeStop_24 rfl (⟨rfl, rfl, is_of (P := is_rd _ r) (by unfold rTs; rw [(show rTs1 R0 = _ from (if_neg c5))]; exact if_neg c17) hR, hF⟩)
    · refine aw_aload_n dX7_takeStop_20 rfl ?_
      refine aw_callV0e dX7_takeStop_21 cmX7_step cvX7_30 (rd_c0 hR) (Nat.le_of_ble_eq_true rfl) (tX7_step hR hok) (fun r n' h' hq => ?_)
      obtain ⟨rfl, rfl, hR, ho⟩ := hq
      have hF := hF.trans ho
      have hok := rOk_step hok
      exact aw_vret dX7_takeStop_24 rfl (⟨rfl, rfl, is_of (P := is_rd _ r) (by unfold rTs; rw [(show rTs1 R0 = _ from (if_neg c5))]; exact if_pos c17) hR, hF⟩)
set_option maxHeartbeats 1000000 in
set_option maxRecDepth 100000 in
theorem tX7_isWord {l : Launch} {E : aw_E} {d n r : Nat} {h : ah} {R : sT} (hR : is_rd h r R) {adK adV : Nat → Nat} {fm : Value} {sb sL : Nat} {xs : Nat → Int32} (hG : E.2.2.2 = gV E.2.2.1 adK adV fm sb sL xs) (hfm : fm.category = 1) {i : Nat} (hi : i < 4) : am l E mX7_isWord (d + 4) 0 0 [.ref r, .ref (adK i)] n h (aw_eq n h (some (.int (rIsW R i)))) := by
  refine am_of (by decide +kernel) (Nat.le_of_ble_eq_true rfl) ?_
  refine aw_aload_n dX7_isWord_0 rfl ?_
  refine aw_get dX7_isWord_1 flX7_36 (rd_c0 hR) rfl ?_
  refine aw_iconst (v := 1) dX7_isWord_4 (by decide) ?_
  refine aw_icmp_ne (tgt := 24) dX7_isWord_5 (by decide) (fun c5 => ?_) (fun c5 => ?_)
  · refine aw_iconst (v := 0) dX7_isWord_24 (by decide) ?_
    exact aw_zret dX7_isWord_25 rfl rfl (⟨congrArg (fun z => some (Value.int z)) (if_neg c5), rfl, rfl⟩)
  · refine aw_aload_n dX7_isWord_8 rfl ?_
    refine aw_get dX7_isWord_9 flX7_27 (rd_c0 hR) rfl ?_
    refine aw_aload_n dX7_isWord_12 rfl ?_
    refine aw_get dX7_isWord_13 flX7_89 (rd_c0 hR) rfl ?_
    refine aw_isub dX7_isWord_16 ?_
    refine aw_aload_n dX7_isWord_17 rfl ?_
    refine aw_callK (As := []) dX7_isWord_18 cmJ0_length_8abf5 sm_92 sm_92i sm_92s (fun U H hV => by rw [hG] at hV; obtain ⟨cell, g1, g2, g3, -⟩ := (hV.1.1 i hi).1; exact ⟨cell, g1, g2, g3⟩) rfl rfl (Nat.le_of_ble_eq_true rfl) (tJ0_length hG hi) ?_
    refine aw_icmp_eq (tgt := 26) dX7_isWord_21 (by decide) (fun c21 => ?_) (fun c21 => ?_)
    · refine aw_iconst (v := 0) dX7_isWord_26 (by decide) ?_
      refine aw_istore_n dX7_isWord_27 (by decide) ?_
      have hs := kLen_s i hi
      have key : ∀ (k j : Nat), j + k = kLen.getD i 0 → lpAll (fun j => rByte R (R 10 1 + nI j) = (kByt.getD i []).getD j 0) (kLen.getD i 0) 0 = lpAll (fun j => rByte R (R 10 1 + nI j) = (kByt.getD i []).getD j 0) k j  → aw l E mX7_isWord (aw_Z E (aw_eq n h (some (.int (rIsW R i))))) (d + 4) 0 0 28 [(0, .ref r), (1, .ref (adK i)), (2, .int (nI j))] [] n h := by
        intro k
        induction k with
        | zero =>
          intro j  hj  heq
          refine aw_iload_n dX7_isWord_28 rfl ?_
          refine aw_aload_n dX7_isWord_29 rfl ?_
          refine aw_callK (As := []) dX7_isWord_30 cmJ0_length_8abf5 sm_92 sm_92i sm_92s (fun U H hV => by rw [hG] at hV; obtain ⟨cell, g1, g2, g3, -⟩ := (hV.1.1 i hi).1; exact ⟨cell, g1, g2, g3⟩) rfl rfl (Nat.le_of_ble_eq_true rfl) (tJ0_length hG hi) ?_
          refine aw_icmp_ge (tgt := 62) dX7_isWord_33 (by decide) (fun c33 => ?_) (fun c33 => ?_)
          · refine aw_iconst (v := 1) dX7_isWord_62 (by decide) ?_
            exact aw_zret dX7_isWord_63 rfl rfl (⟨congrArg (fun z => some (Value.int z)) ((if_pos c5).trans ((if_pos c21).trans heq)), rfl, rfl⟩)
          · exact absurd ((nI_leI (a := (kLen.getD i 0)) (b := j) (by omega) (by omega)).mpr (by omega)) c33
        | succ k ih =>
          intro j  hj  heq
          refine aw_iload_n dX7_isWord_28 rfl ?_
          refine aw_aload_n dX7_isWord_29 rfl ?_
          refine aw_callK (As := []) dX7_isWord_30 cmJ0_length_8abf5 sm_92 sm_92i sm_92s (fun U H hV => by rw [hG] at hV; obtain ⟨cell, g1, g2, g3, -⟩ := (hV.1.1 i hi).1; exact ⟨cell, g1, g2, g3⟩) rfl rfl (Nat.le_of_ble_eq_true rfl) (tJ0_length hG hi) ?_
          refine aw_icmp_ge (tgt := 62) dX7_isWord_33 (by decide) (fun c33 => ?_) (fun c33 => ?_)
          · exact absurd ((nI_leI (a := (kLen.getD i 0)) (b := j) (by omega) (by omega)).mp c33) (by omega)
          · refine aw_aload_n dX7_isWord_36 rfl ?_
            refine aw_aload_n dX7_isWord_37 rfl ?_
            refine aw_get dX7_isWord_38 flX7_89 (rd_c0 hR) rfl ?_
            refine aw_iload_n dX7_isWord_41 rfl ?_
            refine aw_iadd dX7_isWord_42 ?_
            refine aw_callV1p dX7_isWord_43 cmX7_byteAt cvX7_96 (rd_c0 hR) (Nat.le_of_ble_eq_true rfl) (tX7_byteAt hR) ?_
            refine aw_aload_n dX7_isWord_46 rfl ?_
            refine aw_iload_n dX7_isWord_47 rfl ?_
            refine aw_callK (As := [.int (nI j)]) dX7_isWord_48 cmJ0_charAt_5068e sm_100 sm_100i sm_100s (fun U H hV => by rw [hG] at hV; obtain ⟨cell, g1, g2, g3, -⟩ := (hV.1.1 i hi).1; exact ⟨cell, g1, g2, g3⟩) rfl rfl (Nat.le_of_ble_eq_true rfl) (tJ0_charAt hG hfm hi (by omega)) ?_
            refine aw_icmp_eq (tgt := 56) dX7_isWord_51 (by decide) (fun c51 => ?_) (fun c51 => ?_)
            · refine aw_inc (w := 1) dX7_isWord_56 rfl (by decide) (by decide) ?_
              refine aw_goto (tgt := 28) dX7_isWord_59 (by decide) ?_
              exact aw_loc [0, 1, 2] (ls2 := [(0, .ref r), (1, .ref (adK i)), (2, .int (nI (j + 1)))]) (by first | (rw [nI_succ]; rfl) | rfl) (ih (j + 1)  (by omega)  (heq.trans (if_pos c51)))
            · refine aw_iconst (v := 0) dX7_isWord_54 (by decide) ?_
              exact aw_zret dX7_isWord_55 rfl rfl (⟨congrArg (fun z => some (Value.int z)) ((if_pos c5).trans ((if_pos c21).trans (heq.trans (if_neg c51)))), rfl, rfl⟩)
      exact aw_loc [0, 1, 2] (ls2 := [(0, .ref r), (1, .ref (adK i)), (2, .int (nI 0))]) rfl (key (kLen.getD i 0) 0  (by first | rfl | omega)  rfl)
    · refine aw_iconst (v := 0) dX7_isWord_24 (by decide) ?_
      exact aw_zret dX7_isWord_25 rfl rfl (⟨congrArg (fun z => some (Value.int z)) ((if_pos c5).trans (if_neg c21)), rfl, rfl⟩)
set_option maxHeartbeats 1000000 in
set_option maxRecDepth 100000 in
theorem tX7_takeGold {l : Launch} {E : aw_E} {d n r : Nat} {h0 : ah} {R0 : sT} (hR : is_rd h0 r R0) {adK adV : Nat → Nat} {fm : Value} {sb sL : Nat} {xs : Nat → Int32} (hG : E.2.2.2 = gV E.2.2.1 adK adV fm sb sL xs) (hfm : fm.category = 1) (hok : rOk R0) : am l E mX7_takeGold (d + 5) 0 0 [.ref r] n h0 (rd_post n h0 r (none) (rTg R0)) := by
  refine am_of (by decide +kernel) (Nat.le_of_ble_eq_true rfl) ?_
  have hF : ah_off h0 h0 r 2 := ah_off.rf
  refine aw_aload_n dX7_takeGold_0 rfl ?_
  refine aw_ldcS dX7_takeGold_1 (fun U H hV => by rw [hG] at hV; exact hV.2.1 0 (by decide)) ?_
  refine aw_callV1p dX7_takeGold_3 cmX7_isWord cvX7_41 (rd_c0 hR) (Nat.le_of_ble_eq_true rfl) (tX7_isWord hR hG hfm (i := 0) (by decide)) ?_
  refine aw_if_ne (tgt := 14) dX7_takeGold_6 (by decide) (fun c6 => ?_) (fun c6 => ?_)
  · refine aw_aload_n dX7_takeGold_14 rfl ?_
    refine aw_callV0e dX7_takeGold_15 cmX7_step cvX7_30 (rd_c0 hR) (Nat.le_of_ble_eq_true rfl) (tX7_step hR hok) (fun r n' h' hq => ?_)
    obtain ⟨rfl, rfl, hR, ho⟩ := hq
    have hF := hF.trans ho
    have hok := rOk_step hok
    refine aw_aload_n dX7_takeGold_18 rfl ?_
    refine aw_callV0e dX7_takeGold_19 cmX7_takeStop cvX7_68 (rd_c0 hR) (Nat.le_of_ble_eq_true rfl) (tX7_takeStop hR hok) (fun r n' h' hq => ?_)
    obtain ⟨rfl, rfl, hR, ho⟩ := hq
    have hF := hF.trans ho
    have hok := rOk_ts hok
    exact aw_vret dX7_takeGold_22 rfl (⟨rfl, rfl, is_of (P := is_rd _ r) (if_neg c6) hR, hF⟩)
  · refine aw_aload_n dX7_takeGold_9 rfl ?_
    refine aw_callV0e dX7_takeGold_10 cmX7_failHere cvX7_63 (rd_c0 hR) (Nat.le_of_ble_eq_true rfl) (tX7_failHere hR) (fun r n' h' hq => ?_)
    obtain ⟨rfl, rfl, hR, ho⟩ := hq
    have hF := hF.trans ho
    try have hok := rOk_fail hok
    exact aw_vret dX7_takeGold_13 rfl (⟨rfl, rfl, is_of (P := is_rd _ r) (if_pos c6) hR, hF⟩)
set_option maxHeartbeats 1000000 in
set_option maxRecDepth 100000 in
theorem tX7_takeOne {l : Launch} {E : aw_E} {d n r t : Nat} {h0 : ah} {R0 T0 : sT} (hR : is_rd h0 r R0) (hT : is_tr h0 t T0) (hdr : t + 20 ≤ r) (hok : rOk R0) (g0 : ¬ T0 10 0 < 0) (g6 : ¬ 6 ≤ T0 10 0) : am l E mX7_takeOne (d + 4) 0 0 [.ref r, .ref t] n h0 (rt_post n h0 r t (none) (rOneR R0) (rOneT R0 T0)) := by
  refine am_of (by decide +kernel) (Nat.le_of_ble_eq_true rfl) ?_
  have hF2 : ∀ a : Nat, (a < t ∨ t + 20 ≤ a) → (a < r ∨ r + 2 ≤ a) → h0 a = h0 a := fun _ _ _ => rfl
  refine aw_aload_n dX7_takeOne_0 rfl ?_
  refine aw_callV0e dX7_takeOne_1 cmX7_step cvX7_30 (rd_c0 hR) (Nat.le_of_ble_eq_true rfl) (tX7_step hR hok) (fun r n' h' hq => ?_)
  obtain ⟨rfl, rfl, hR, ho⟩ := hq
  have hT := tr_off hT ho (Or.inl hdr)
  have hF2 := fun (a : Nat) (p1 : a < t ∨ t + 20 ≤ a) (p2 : a < r ∨ r + 2 ≤ a) => (ho a p2).trans (hF2 a p1 p2)
  have hok := rOk_step hok
  refine aw_aload_n dX7_takeOne_4 rfl ?_
  refine aw_iconst (v := 0) dX7_takeOne_5 (by decide) ?_
  refine aw_iconst (v := 5) dX7_takeOne_6 (by decide) ?_
  refine aw_callV2e dX7_takeOne_7 cmX7_takeNumber cvX7_71 (rd_c0 hR) (Nat.le_of_ble_eq_true rfl) (tX7_takeNumber hR hok) (fun r n' h' hq => ?_)
  obtain ⟨rfl, rfl, hR, ho⟩ := hq
  have hT := tr_off hT ho (Or.inl hdr)
  have hF2 := fun (a : Nat) (p1 : a < t ∨ t + 20 ≤ a) (p2 : a < r ∨ r + 2 ≤ a) => (ho a p2).trans (hF2 a p1 p2)
  have hok := rOk_tnH hR hok
  refine aw_istore_n dX7_takeOne_10 (by decide) ?_
  refine aw_aload_n dX7_takeOne_11 rfl ?_
  refine aw_iconst (v := 0) dX7_takeOne_12 (by decide) ?_
  refine aw_bipush (v := 12) dX7_takeOne_13 (by decide) ?_
  refine aw_callV2e dX7_takeOne_15 cmX7_takeNumber cvX7_71 (rd_c0 hR) (Nat.le_of_ble_eq_true rfl) (tX7_takeNumber hR hok) (fun r n' h' hq => ?_)
  obtain ⟨rfl, rfl, hR, ho⟩ := hq
  have hT := tr_off hT ho (Or.inl hdr)
  have hF2 := fun (a : Nat) (p1 : a < t ∨ t + 20 ≤ a) (p2 : a < r ∨ r + 2 ≤ a) => (ho a p2).trans (hF2 a p1 p2)
  have hok := rOk_tnH hR hok
  refine aw_istore_n dX7_takeOne_18 (by decide) ?_
  refine aw_aload_n dX7_takeOne_19 rfl ?_
  refine aw_iconst (v := 0) dX7_takeOne_20 (by decide) ?_
  refine aw_bipush (v := 30) dX7_takeOne_21 (by decide) ?_
  refine aw_callV2e dX7_takeOne_23 cmX7_takeNumber cvX7_71 (rd_c0 hR) (Nat.le_of_ble_eq_true rfl) (tX7_takeNumber hR hok) (fun r n' h' hq => ?_)
  obtain ⟨rfl, rfl, hR, ho⟩ := hq
  have hT := tr_off hT ho (Or.inl hdr)
  have hF2 := fun (a : Nat) (p1 : a < t ∨ t + 20 ≤ a) (p2 : a < r ∨ r + 2 ≤ a) => (ho a p2).trans (hF2 a p1 p2)
  have hok := rOk_tnH hR hok
  refine aw_istore dX7_takeOne_26 (by decide) ?_
  refine aw_aload_n dX7_takeOne_28 rfl ?_
  refine aw_iconst (v := 0) dX7_takeOne_29 (by decide) ?_
  refine aw_bipush (v := 20) dX7_takeOne_30 (by decide) ?_
  refine aw_callV2e dX7_takeOne_32 cmX7_takeNumber cvX7_71 (rd_c0 hR) (Nat.le_of_ble_eq_true rfl) (tX7_takeNumber hR hok) (fun r n' h' hq => ?_)
  obtain ⟨rfl, rfl, hR, ho⟩ := hq
  have hT := tr_off hT ho (Or.inl hdr)
  have hF2 := fun (a : Nat) (p1 : a < t ∨ t + 20 ≤ a) (p2 : a < r ∨ r + 2 ≤ a) => (ho a p2).trans (hF2 a p1 p2)
  have hok := rOk_tnH hR hok
  refine aw_istore dX7_takeOne_35 (by decide) ?_
  refine aw_aload_n dX7_takeOne_37 rfl ?_
  refine aw_callV0e dX7_takeOne_38 cmX7_takeStop cvX7_68 (rd_c0 hR) (Nat.le_of_ble_eq_true rfl) (tX7_takeStop hR hok) (fun r n' h' hq => ?_)
  obtain ⟨rfl, rfl, hR, ho⟩ := hq
  have hT := tr_off hT ho (Or.inl hdr)
  have hF2 := fun (a : Nat) (p1 : a < t ∨ t + 20 ≤ a) (p2 : a < r ∨ r + 2 ≤ a) => (ho a p2).trans (hF2 a p1 p2)
  have hok := rOk_ts hok
  refine aw_aload_n dX7_takeOne_41 rfl ?_
  refine aw_iload_n dX7_takeOne_42 rfl ?_
  refine aw_iload_n dX7_takeOne_43 rfl ?_
  refine aw_iload dX7_takeOne_44 rfl ?_
  refine aw_iload dX7_takeOne_46 rfl ?_
  refine aw_callV4e dX7_takeOne_48 cmX9_join cvX7_75 (tr_c0 hT) (Nat.le_of_ble_eq_true rfl) (tX9_join hT g0 g6) (fun r n' h' hq => ?_)
  obtain ⟨rfl, rfl, hT, ho⟩ := hq
  have hR := rd_off hR ho (Or.inr hdr)
  have hF2 := fun (a : Nat) (p1 : a < t ∨ t + 20 ≤ a) (p2 : a < r ∨ r + 2 ≤ a) => (ho a p1).trans (hF2 a p1 p2)
  refine aw_pop dX7_takeOne_51 rfl ?_
  exact aw_vret dX7_takeOne_52 rfl (⟨rfl, rfl, hR, hT, hF2⟩)
set_option maxHeartbeats 1000000 in
set_option maxRecDepth 100000 in
theorem tX7_takeLie {l : Launch} {E : aw_E} {d n r t : Nat} {h0 : ah} {R0 T0 : sT} (hR : is_rd h0 r R0) (hT : is_tr h0 t T0) (hdr : t + 20 ≤ r) (hok : rOk R0) : am l E mX7_takeLie (d + 4) 0 0 [.ref r, .ref t] n h0 (rt_post n h0 r t (none) (rLieR R0 T0) (rLieT R0 T0)) := by
  refine am_of (by decide +kernel) (Nat.le_of_ble_eq_true rfl) ?_
  have hF2 : ∀ a : Nat, (a < t ∨ t + 20 ≤ a) → (a < r ∨ r + 2 ≤ a) → h0 a = h0 a := fun _ _ _ => rfl
  refine aw_aload_n dX7_takeLie_0 rfl ?_
  refine aw_callV0e dX7_takeLie_1 cmX7_step cvX7_30 (rd_c0 hR) (Nat.le_of_ble_eq_true rfl) (tX7_step hR hok) (fun r n' h' hq => ?_)
  obtain ⟨rfl, rfl, hR, ho⟩ := hq
  have hT := tr_off hT ho (Or.inl hdr)
  have hF2 := fun (a : Nat) (p1 : a < t ∨ t + 20 ≤ a) (p2 : a < r ∨ r + 2 ≤ a) => (ho a p2).trans (hF2 a p1 p2)
  have hok := rOk_step hok
  refine aw_aload_n dX7_takeLie_4 rfl ?_
  refine aw_iconst (v := 0) dX7_takeLie_5 (by decide) ?_
  refine aw_aload_n dX7_takeLie_6 rfl ?_
  refine aw_callV0p dX7_takeLie_7 cmX9_people cvX7_45 (tr_c0 hT) (Nat.le_of_ble_eq_true rfl) (tX9_people hT) ?_
  refine aw_iconst (v := 1) dX7_takeLie_10 (by decide) ?_
  refine aw_isub dX7_takeLie_11 ?_
  refine aw_callV2e dX7_takeLie_12 cmX7_takeNumber cvX7_71 (rd_c0 hR) (Nat.le_of_ble_eq_true rfl) (tX7_takeNumber hR hok) (fun r n' h' hq => ?_)
  obtain ⟨rfl, rfl, hR, ho⟩ := hq
  have hT := tr_off hT ho (Or.inl hdr)
  have hF2 := fun (a : Nat) (p1 : a < t ∨ t + 20 ≤ a) (p2 : a < r ∨ r + 2 ≤ a) => (ho a p2).trans (hF2 a p1 p2)
  have hok := rOk_tnH hR hok
  refine aw_istore_n dX7_takeLie_15 (by decide) ?_
  refine aw_aload_n dX7_takeLie_16 rfl ?_
  refine aw_iconst (v := 1) dX7_takeLie_17 (by decide) ?_
  refine aw_iconst (v := 4) dX7_takeLie_18 (by decide) ?_
  refine aw_callV2e dX7_takeLie_19 cmX7_takeNumber cvX7_71 (rd_c0 hR) (Nat.le_of_ble_eq_true rfl) (tX7_takeNumber hR hok) (fun r n' h' hq => ?_)
  obtain ⟨rfl, rfl, hR, ho⟩ := hq
  have hT := tr_off hT ho (Or.inl hdr)
  have hF2 := fun (a : Nat) (p1 : a < t ∨ t + 20 ≤ a) (p2 : a < r ∨ r + 2 ≤ a) => (ho a p2).trans (hF2 a p1 p2)
  have hok := rOk_tnH hR hok
  refine aw_istore_n dX7_takeLie_22 (by decide) ?_
  refine aw_aload_n dX7_takeLie_23 rfl ?_
  refine aw_callV0e dX7_takeLie_24 cmX7_takeStop cvX7_68 (rd_c0 hR) (Nat.le_of_ble_eq_true rfl) (tX7_takeStop hR hok) (fun r n' h' hq => ?_)
  obtain ⟨rfl, rfl, hR, ho⟩ := hq
  have hT := tr_off hT ho (Or.inl hdr)
  have hF2 := fun (a : Nat) (p1 : a < t ∨ t + 20 ≤ a) (p2 : a < r ∨ r + 2 ≤ a) => (ho a p2).trans (hF2 a p1 p2)
  have hok := rOk_ts hok
  refine aw_aload_n dX7_takeLie_27 rfl ?_
  refine aw_iload_n dX7_takeLie_28 rfl ?_
  refine aw_iload_n dX7_takeLie_29 rfl ?_
  refine aw_callV2e dX7_takeLie_30 cmX9_tellLie cvX7_86 (tr_c0 hT) (Nat.le_of_ble_eq_true rfl) (tX9_tellLie hT) (fun r n' h' hq => ?_)
  obtain ⟨rfl, rfl, hT, ho⟩ := hq
  have hR := rd_off hR ho (Or.inr hdr)
  have hF2 := fun (a : Nat) (p1 : a < t ∨ t + 20 ≤ a) (p2 : a < r ∨ r + 2 ≤ a) => (ho a p1).trans (hF2 a p1 p2)
  exact aw_vret dX7_takeLie_33 rfl (⟨rfl, rfl, hR, hT, hF2⟩)
set_option maxHeartbeats 1000000 in
set_option maxRecDepth 100000 in
theorem tX7_takeHands {l : Launch} {E : aw_E} {d n r t : Nat} {h0 : ah} {R0 T0 : sT} (hR : is_rd h0 r R0) (hT : is_tr h0 t T0) (hdr : t + 20 ≤ r) (hok : rOk R0) : am l E mX7_takeHands (d + 4) 0 0 [.ref r, .ref t] n h0 (rt_post n h0 r t (none) (rHanR R0 T0) (rHanT R0 T0)) := by
  refine am_of (by decide +kernel) (Nat.le_of_ble_eq_true rfl) ?_
  have hF2 : ∀ a : Nat, (a < t ∨ t + 20 ≤ a) → (a < r ∨ r + 2 ≤ a) → h0 a = h0 a := fun _ _ _ => rfl
  refine aw_aload_n dX7_takeHands_0 rfl ?_
  refine aw_callV0e dX7_takeHands_1 cmX7_step cvX7_30 (rd_c0 hR) (Nat.le_of_ble_eq_true rfl) (tX7_step hR hok) (fun r n' h' hq => ?_)
  obtain ⟨rfl, rfl, hR, ho⟩ := hq
  have hT := tr_off hT ho (Or.inl hdr)
  have hF2 := fun (a : Nat) (p1 : a < t ∨ t + 20 ≤ a) (p2 : a < r ∨ r + 2 ≤ a) => (ho a p2).trans (hF2 a p1 p2)
  have hok := rOk_step hok
  refine aw_aload_n dX7_takeHands_4 rfl ?_
  refine aw_callV0p dX7_takeHands_5 cmX9_people cvX7_45 (tr_c0 hT) (Nat.le_of_ble_eq_true rfl) (tX9_people hT) ?_
  refine aw_iconst (v := 1) dX7_takeHands_8 (by decide) ?_
  refine aw_isub dX7_takeHands_9 ?_
  refine aw_istore_n dX7_takeHands_10 (by decide) ?_
  refine aw_aload_n dX7_takeHands_11 rfl ?_
  refine aw_iconst (v := 0) dX7_takeHands_12 (by decide) ?_
  refine aw_iload_n dX7_takeHands_13 rfl ?_
  refine aw_callV2e dX7_takeHands_14 cmX7_takeNumber cvX7_71 (rd_c0 hR) (Nat.le_of_ble_eq_true rfl) (tX7_takeNumber hR hok) (fun r n' h' hq => ?_)
  obtain ⟨rfl, rfl, hR, ho⟩ := hq
  have hT := tr_off hT ho (Or.inl hdr)
  have hF2 := fun (a : Nat) (p1 : a < t ∨ t + 20 ≤ a) (p2 : a < r ∨ r + 2 ≤ a) => (ho a p2).trans (hF2 a p1 p2)
  have hok := rOk_tnH hR hok
  refine aw_istore_n dX7_takeHands_17 (by decide) ?_
  refine aw_iconst (v := 0) dX7_takeHands_18 (by decide) ?_
  refine aw_istore dX7_takeHands_19 (by decide) ?_
  refine aw_iconst (v := 0) dX7_takeHands_21 (by decide) ?_
  refine aw_istore dX7_takeHands_22 (by decide) ?_
  have key : ∀ (k j : Nat) (h : ah) (R : sT) (b : Int32), j + k = 150 → is_rd h r R → is_tr h t T0 → rOk R → (∀ a : Nat, (a < t ∨ t + 20 ≤ a) → (a < r ∨ r + 2 ≤ a) → h a = h0 a) → rHanL R0 T0 = rThL (T0 10 0 - 1) (rHanP R0 T0) k j R b → aw l E mX7_takeHands (aw_Z E (rt_post n h0 r t (none) (rHanR R0 T0) (rHanT R0 T0))) (d + 4) 0 0 24 [(0, .ref r), (1, .ref t), (2, .int (T0 10 0 - 1)), (3, .int (rHanP R0 T0)), (4, .int b), (5, .int (nI j))] [] n h := by
    intro k
    induction k with
    | zero =>
      intro j h R b hj hR hT hok hF2 heq
      refine aw_iload dX7_takeHands_24 rfl ?_
      refine aw_sipush (v := 150) dX7_takeHands_26 (by decide) ?_
      refine aw_icmp_ge (tgt := 82) dX7_takeHands_29 (by decide) (fun c29 => ?_) (fun c29 => ?_)
      · refine aw_aload_n dX7_takeHands_82 rfl ?_
        refine aw_callV0e dX7_takeHands_83 cmX7_takeStop cvX7_68 (rd_c0 hR) (Nat.le_of_ble_eq_true rfl) (tX7_takeStop hR hok) (fun r n' h' hq => ?_)
        obtain ⟨rfl, rfl, hR, ho⟩ := hq
        have hT := tr_off hT ho (Or.inl hdr)
        have hF2 := fun (a : Nat) (p1 : a < t ∨ t + 20 ≤ a) (p2 : a < r ∨ r + 2 ≤ a) => (ho a p2).trans (hF2 a p1 p2)
        have hok := rOk_ts hok
        refine aw_aload_n dX7_takeHands_86 rfl ?_
        refine aw_iload_n dX7_takeHands_87 rfl ?_
        refine aw_iload dX7_takeHands_88 rfl ?_
        refine aw_callV2e dX7_takeHands_90 cmX9_tellHands cvX7_82 (tr_c0 hT) (Nat.le_of_ble_eq_true rfl) (tX9_tellHands hT) (fun r n' h' hq => ?_)
        obtain ⟨rfl, rfl, hT, ho⟩ := hq
        have hR := rd_off hR ho (Or.inr hdr)
        have hF2 := fun (a : Nat) (p1 : a < t ∨ t + 20 ≤ a) (p2 : a < r ∨ r + 2 ≤ a) => (ho a p1).trans (hF2 a p1 p2)
        exact aw_vret dX7_takeHands_93 rfl (⟨rfl, rfl, by unfold rHanR; rw [show rHanL R0 T0 = (R, b) from heq]; exact hR, by unfold rHanT; rw [show rHanL R0 T0 = (R, b) from heq]; exact hT, hF2⟩)
      · exact absurd ((nI_leI (a := 150) (b := j) (by omega) (by omega)).mpr (by omega)) c29
    | succ k ih =>
      intro j h R b hj hR hT hok hF2 heq
      refine aw_iload dX7_takeHands_24 rfl ?_
      refine aw_sipush (v := 150) dX7_takeHands_26 (by decide) ?_
      refine aw_icmp_ge (tgt := 82) dX7_takeHands_29 (by decide) (fun c29 => ?_) (fun c29 => ?_)
      · exact absurd ((nI_leI (a := 150) (b := j) (by omega) (by omega)).mp c29) (by omega)
      · refine aw_aload_n dX7_takeHands_32 rfl ?_
        refine aw_get dX7_takeHands_33 flX7_15 (rd_c0 hR) rfl ?_
        refine aw_iconst (v := -1) dX7_takeHands_36 (by decide) ?_
        refine aw_icmp_ne (tgt := 82) dX7_takeHands_37 (by decide) (fun c37 => ?_) (fun c37 => ?_)
        · refine aw_aload_n dX7_takeHands_82 rfl ?_
          refine aw_callV0e dX7_takeHands_83 cmX7_takeStop cvX7_68 (rd_c0 hR) (Nat.le_of_ble_eq_true rfl) (tX7_takeStop hR hok) (fun r n' h' hq => ?_)
          obtain ⟨rfl, rfl, hR, ho⟩ := hq
          have hT := tr_off hT ho (Or.inl hdr)
          have hF2 := fun (a : Nat) (p1 : a < t ∨ t + 20 ≤ a) (p2 : a < r ∨ r + 2 ≤ a) => (ho a p2).trans (hF2 a p1 p2)
          have hok := rOk_ts hok
          refine aw_aload_n dX7_takeHands_86 rfl ?_
          refine aw_iload_n dX7_takeHands_87 rfl ?_
          refine aw_iload dX7_takeHands_88 rfl ?_
          refine aw_callV2e dX7_takeHands_90 cmX9_tellHands cvX7_82 (tr_c0 hT) (Nat.le_of_ble_eq_true rfl) (tX9_tellHands hT) (fun r n' h' hq => ?_)
          obtain ⟨rfl, rfl, hT, ho⟩ := hq
          have hR := rd_off hR ho (Or.inr hdr)
          have hF2 := fun (a : Nat) (p1 : a < t ∨ t + 20 ≤ a) (p2 : a < r ∨ r + 2 ≤ a) => (ho a p1).trans (hF2 a p1 p2)
          exact aw_vret dX7_takeHands_93 rfl (⟨rfl, rfl, by unfold rHanR; rw [show rHanL R0 T0 = (R, b) from (heq.trans (if_neg c37))]; exact hR, by unfold rHanT; rw [show rHanL R0 T0 = (R, b) from (heq.trans (if_neg c37))]; exact hT, hF2⟩)
        · refine aw_aload_n dX7_takeHands_40 rfl ?_
          refine aw_get dX7_takeHands_41 flX7_36 (rd_c0 hR) rfl ?_
          refine aw_iconst (v := 2) dX7_takeHands_44 (by decide) ?_
          refine aw_icmp_ne (tgt := 82) dX7_takeHands_45 (by decide) (fun c45 => ?_) (fun c45 => ?_)
          · refine aw_aload_n dX7_takeHands_82 rfl ?_
            refine aw_callV0e dX7_takeHands_83 cmX7_takeStop cvX7_68 (rd_c0 hR) (Nat.le_of_ble_eq_true rfl) (tX7_takeStop hR hok) (fun r n' h' hq => ?_)
            obtain ⟨rfl, rfl, hR, ho⟩ := hq
            have hT := tr_off hT ho (Or.inl hdr)
            have hF2 := fun (a : Nat) (p1 : a < t ∨ t + 20 ≤ a) (p2 : a < r ∨ r + 2 ≤ a) => (ho a p2).trans (hF2 a p1 p2)
            have hok := rOk_ts hok
            refine aw_aload_n dX7_takeHands_86 rfl ?_
            refine aw_iload_n dX7_takeHands_87 rfl ?_
            refine aw_iload dX7_takeHands_88 rfl ?_
            refine aw_callV2e dX7_takeHands_90 cmX9_tellHands cvX7_82 (tr_c0 hT) (Nat.le_of_ble_eq_true rfl) (tX9_tellHands hT) (fun r n' h' hq => ?_)
            obtain ⟨rfl, rfl, hT, ho⟩ := hq
            have hR := rd_off hR ho (Or.inr hdr)
            have hF2 := fun (a : Nat) (p1 : a < t ∨ t + 20 ≤ a) (p2 : a < r ∨ r + 2 ≤ a) => (ho a p1).trans (hF2 a p1 p2)
            exact aw_vret dX7_takeHands_93 rfl (⟨rfl, rfl, by unfold rHanR; rw [show rHanL R0 T0 = (R, b) from (heq.trans ((if_pos c37).trans (if_neg c45)))]; exact hR, by unfold rHanT; rw [show rHanL R0 T0 = (R, b) from (heq.trans ((if_pos c37).trans (if_neg c45)))]; exact hT, hF2⟩)
          · refine aw_aload_n dX7_takeHands_48 rfl ?_
            refine aw_get dX7_takeHands_49 flX7_79 (rd_c0 hR) rfl ?_
            refine aw_iload_n dX7_takeHands_52 rfl ?_
            refine aw_icmp_ne (tgt := 63) dX7_takeHands_53 (by decide) (fun c53 => ?_) (fun c53 => ?_)
            · refine aw_iload dX7_takeHands_63 rfl ?_
              refine aw_iconst (v := 1) dX7_takeHands_65 (by decide) ?_
              refine aw_aload_n dX7_takeHands_66 rfl ?_
              refine aw_iconst (v := 0) dX7_takeHands_67 (by decide) ?_
              refine aw_iload_n dX7_takeHands_68 rfl ?_
              refine aw_callV2e dX7_takeHands_69 cmX7_takeNumber cvX7_71 (rd_c0 hR) (Nat.le_of_ble_eq_true rfl) (tX7_takeNumber hR hok) (fun r n' h' hq => ?_)
              obtain ⟨rfl, rfl, hR, ho⟩ := hq
              have hT := tr_off hT ho (Or.inl hdr)
              have hF2 := fun (a : Nat) (p1 : a < t ∨ t + 20 ≤ a) (p2 : a < r ∨ r + 2 ≤ a) => (ho a p2).trans (hF2 a p1 p2)
              have hok := rOk_tnH hR hok
              refine aw_ishl dX7_takeHands_72 ?_
              refine aw_ior dX7_takeHands_73 ?_
              refine aw_istore dX7_takeHands_74 (by decide) ?_
              refine aw_inc (w := 1) dX7_takeHands_76 rfl (by decide) (by decide) ?_
              refine aw_goto (tgt := 24) dX7_takeHands_79 (by decide) ?_
              exact aw_loc [0, 1, 2, 3, 4, 5] (ls2 := [(0, .ref r), (1, .ref t), (2, .int (T0 10 0 - 1)), (3, .int (rHanP R0 T0)), (4, .int _), (5, .int (nI (j + 1)))]) (by first | (rw [nI_succ]; rfl) | rfl) (ih (j + 1) _ _ _ (by omega) hR hT hok hF2 (heq.trans (((if_pos c37).trans (if_pos c45)).trans (if_neg c53))))
            · refine aw_aload_n dX7_takeHands_56 rfl ?_
              refine aw_callV0e dX7_takeHands_57 cmX7_failHere cvX7_63 (rd_c0 hR) (Nat.le_of_ble_eq_true rfl) (tX7_failHere hR) (fun r n' h' hq => ?_)
              obtain ⟨rfl, rfl, hR, ho⟩ := hq
              have hT := tr_off hT ho (Or.inl hdr)
              have hF2 := fun (a : Nat) (p1 : a < t ∨ t + 20 ≤ a) (p2 : a < r ∨ r + 2 ≤ a) => (ho a p2).trans (hF2 a p1 p2)
              try have hok := rOk_fail hok
              refine aw_goto (tgt := 76) dX7_takeHands_60 (by decide) ?_
              refine aw_inc (w := 1) dX7_takeHands_76 rfl (by decide) (by decide) ?_
              refine aw_goto (tgt := 24) dX7_takeHands_79 (by decide) ?_
              exact aw_loc [0, 1, 2, 3, 4, 5] (ls2 := [(0, .ref r), (1, .ref t), (2, .int (T0 10 0 - 1)), (3, .int (rHanP R0 T0)), (4, .int b), (5, .int (nI (j + 1)))]) (by first | (rw [nI_succ]; rfl) | rfl) (ih (j + 1) _ _ b (by omega) hR hT hok hF2 (heq.trans (((if_pos c37).trans (if_pos c45)).trans (if_pos c53))))
  exact aw_loc [0, 1, 2, 3, 4, 5] (ls2 := [(0, .ref r), (1, .ref t), (2, .int (T0 10 0 - 1)), (3, .int (rHanP R0 T0)), (4, .int 0), (5, .int (nI 0))]) rfl (key (150) 0 _ _ 0 (by first | rfl | omega) hR hT hok hF2 rfl)
theorem rItems_s {X : (sT × sT) × Int32} {k j : Nat} {R T A B : sT} {x : Int32} (h : X = rItems (k + 1) j R T x) (h1 : R 10 5 = -1) (h2 : ¬ R 10 3 = 0) (e : rItem R T = (A, B)) : X = rItems k (j + 1) A B (x + 1) := by
  rw [h, rItems, if_pos h1, if_neg h2, e]
theorem rOk_one {R : sT} (h : rOk R) : rOk (rOneR R) := rOk_ts (rOk_tn (rOk_tn (rOk_tn (rOk_tn (rOk_step h) _ _) _ _) _ _) _ _)
theorem rOk_lie {R T : sT} (h : rOk R) : rOk (rLieR R T) := rOk_ts (rOk_tn (rOk_tn (rOk_step h) _ _) _ _)
theorem rOk_thl (last p : Int32) : ∀ (k j : Nat) (R : sT) (b : Int32), rOk R → rOk (rThL last p k j R b).1
  | 0, _, _, _, h => h
  | k + 1, j, R, b, h => by
    unfold rThL
    by_cases h1 : R 10 5 = -1
    · rw [if_pos h1]
      by_cases h2 : R 10 3 = 2
      · rw [if_pos h2]
        by_cases h3 : R 10 4 = p
        · rw [if_pos h3]; exact rOk_thl last p k (j + 1) _ _ (rOk_fail h)
        · rw [if_neg h3]; exact rOk_thl last p k (j + 1) _ _ (rOk_tn h _ _)
      · rw [if_neg h2]; exact h
    · rw [if_neg h1]; exact h
theorem rOk_han {R T : sT} (h : rOk R) : rOk (rHanR R T) := rOk_ts (rOk_thl _ _ _ _ _ _ (rOk_tn (rOk_step h) _ _))
theorem jo_pos {T : sT} (g0 : ¬ T 10 0 < 0) (g6 : ¬ 6 ≤ T 10 0) : ¬ T 10 0 + 1 < 0 := by
  have hin := vp_in_of6 g0 g6
  obtain ⟨j, hj, e⟩ := vp_in_of hin (by decide)
  rw [e, nI_1]
  exact nI_pos (by omega)
theorem ha_peo {R T : sT} : rHanT R T 10 0 = T 10 0 := by
  unfold rHanT trHands
  by_cases h : trIs T (rHanP R T) = 0
  · rw [if_pos h]
  · rw [if_neg h]; rfl
theorem li_peo {R T : sT} : rLieT R T 10 0 = T 10 0 := by
  unfold rLieT trLie
  by_cases h : trIs T (rTnV (rStep R) 0 (T 10 0 - 1)) = 0
  · rw [if_pos h]
  · rw [if_neg h]; rfl
theorem rOk_beg {R : sT} (h0 : R 10 0 = nI (rL R)) (h1 : rL R ≤ 150) : rOk (sS 10 (sS 10 R 5 (-1)) 2 0) := ⟨h0, h1, rfl, Nat.zero_le _⟩
set_option maxHeartbeats 1000000 in
set_option maxRecDepth 100000 in
theorem tX7_readInto {l : Launch} {E : aw_E} {d n r t : Nat} {h0 : ah} {R0 T0 : sT} (hR : is_rd h0 r R0) (hT : is_tr h0 t T0) (hdr : t + 20 ≤ r) (hl0 : R0 10 0 = nI (rL R0)) (hl1 : rL R0 ≤ 150) {adK adV : Nat → Nat} {fm : Value} {sb sL : Nat} {xs : Nat → Int32} (hG : E.2.2.2 = gV E.2.2.1 adK adV fm sb sL xs) (hfm : fm.category = 1) : am l E mX7_readInto (d + 6) 0 0 [.ref r, .ref t] n h0 (rt_post n h0 r t (some (.int (rRead R0 T0).2)) ((rRead R0 T0).1.1) ((rRead R0 T0).1.2)) := by
  refine am_of (by decide +kernel) (Nat.le_of_ble_eq_true rfl) ?_
  have hF2 : ∀ a : Nat, (a < t ∨ t + 20 ≤ a) → (a < r ∨ r + 2 ≤ a) → h0 a = h0 a := fun _ _ _ => rfl
  refine aw_aload_n dX7_readInto_0 rfl ?_
  refine aw_callV0e dX7_readInto_1 cmX9_empty cvX7_22 (tr_c0 hT) (Nat.le_of_ble_eq_true rfl) (tX9_empty hT) (fun r n' h' hq => ?_)
  obtain ⟨rfl, rfl, hT, ho⟩ := hq
  have hR := rd_off hR ho (Or.inr hdr)
  have hF2 := fun (a : Nat) (p1 : a < t ∨ t + 20 ≤ a) (p2 : a < r ∨ r + 2 ≤ a) => (ho a p1).trans (hF2 a p1 p2)
  refine aw_aload_n dX7_readInto_4 rfl ?_
  refine aw_iconst (v := -1) dX7_readInto_5 (by decide) ?_
  refine aw_pf_rd5 dX7_readInto_6 fpX7_15 hR (fun h hR ho => ?_)
  have hT := tr_off hT ho (Or.inl hdr)
  have hF2 := fun (a : Nat) (p1 : a < t ∨ t + 20 ≤ a) (p2 : a < r ∨ r + 2 ≤ a) => (ho a p2).trans (hF2 a p1 p2)
  refine aw_aload_n dX7_readInto_9 rfl ?_
  refine aw_iconst (v := 0) dX7_readInto_10 (by decide) ?_
  refine aw_pf_rd2 dX7_readInto_11 fpX7_27 hR (fun h hR ho => ?_)
  have hT := tr_off hT ho (Or.inl hdr)
  have hF2 := fun (a : Nat) (p1 : a < t ∨ t + 20 ≤ a) (p2 : a < r ∨ r + 2 ≤ a) => (ho a p2).trans (hF2 a p1 p2)
  refine aw_aload_n dX7_readInto_14 rfl ?_
  have hok := rOk_beg hl0 hl1
  refine aw_callV0e dX7_readInto_15 cmX7_step cvX7_30 (rd_c0 hR) (Nat.le_of_ble_eq_true rfl) (tX7_step hR hok) (fun r n' h' hq => ?_)
  obtain ⟨rfl, rfl, hR, ho⟩ := hq
  have hT := tr_off hT ho (Or.inl hdr)
  have hF2 := fun (a : Nat) (p1 : a < t ∨ t + 20 ≤ a) (p2 : a < r ∨ r + 2 ≤ a) => (ho a p2).trans (hF2 a p1 p2)
  have hok := rOk_step hok
  refine aw_aload_n dX7_readInto_18 rfl ?_
  refine aw_callV0e dX7_readInto_19 cmX7_takeGold cvX7_33 (rd_c0 hR) (Nat.le_of_ble_eq_true rfl) (tX7_takeGold hR hG hfm hok) (fun r n' h' hq => ?_)
  obtain ⟨rfl, rfl, hR, ho⟩ := hq
  have hT := tr_off hT ho (Or.inl hdr)
  have hF2 := fun (a : Nat) (p1 : a < t ∨ t + 20 ≤ a) (p2 : a < r ∨ r + 2 ≤ a) => (ho a p2).trans (hF2 a p1 p2)
  have hok := rOk_tg hok
  refine aw_iconst (v := 1) dX7_readInto_22 (by decide) ?_
  refine aw_istore_n dX7_readInto_23 (by decide) ?_
  refine aw_iconst (v := 0) dX7_readInto_24 (by decide) ?_
  refine aw_istore_n dX7_readInto_25 (by decide) ?_
  have key : ∀ (k j : Nat) (h : ah) (R T : sT) (x : Int32), j + k = 150 → is_rd h r R → is_tr h t T → rOk R → ¬ T 10 0 < 0 → (∀ a : Nat, (a < t ∨ t + 20 ≤ a) → (a < r ∨ r + 2 ≤ a) → h a = h0 a) → rRead R0 T0 = rItems k j R T x → aw l E mX7_readInto (aw_Z E (rt_post n h0 r t (some (.int (rRead R0 T0).2)) ((rRead R0 T0).1.1) ((rRead R0 T0).1.2))) (d + 6) 0 0 26 [(0, .ref r), (1, .ref t), (2, .int x), (3, .int (nI j))] [] n h := by
    intro k
    induction k with
    | zero =>
      intro j h R T x hj hR hT hok g0 hF2 heq
      refine aw_iload_n dX7_readInto_26 rfl ?_
      refine aw_sipush (v := 150) dX7_readInto_27 (by decide) ?_
      refine aw_icmp_ge (tgt := 121) dX7_readInto_30 (by decide) (fun c30 => ?_) (fun c30 => ?_)
      · refine aw_iload_n dX7_readInto_121 rfl ?_
        exact aw_iret dX7_readInto_122 rfl (⟨by rw [show rRead R0 T0 = ((R, T), x) from heq], rfl, by rw [show rRead R0 T0 = ((R, T), x) from heq]; exact hR, by rw [show rRead R0 T0 = ((R, T), x) from heq]; exact hT, hF2⟩)
      · exact absurd ((nI_leI (a := 150) (b := j) (by omega) (by omega)).mpr (by omega)) c30
    | succ k ih =>
      intro j h R T x hj hR hT hok g0 hF2 heq
      refine aw_iload_n dX7_readInto_26 rfl ?_
      refine aw_sipush (v := 150) dX7_readInto_27 (by decide) ?_
      refine aw_icmp_ge (tgt := 121) dX7_readInto_30 (by decide) (fun c30 => ?_) (fun c30 => ?_)
      · exact absurd ((nI_leI (a := 150) (b := j) (by omega) (by omega)).mp c30) (by omega)
      · refine aw_aload_n dX7_readInto_33 rfl ?_
        refine aw_get dX7_readInto_34 flX7_15 (rd_c0 hR) rfl ?_
        refine aw_iconst (v := -1) dX7_readInto_37 (by decide) ?_
        refine aw_icmp_ne (tgt := 121) dX7_readInto_38 (by decide) (fun c38 => ?_) (fun c38 => ?_)
        · refine aw_iload_n dX7_readInto_121 rfl ?_
          exact aw_iret dX7_readInto_122 rfl (⟨by rw [show rRead R0 T0 = ((R, T), x) from (heq.trans (if_neg c38))], rfl, by rw [show rRead R0 T0 = ((R, T), x) from (heq.trans (if_neg c38))]; exact hR, by rw [show rRead R0 T0 = ((R, T), x) from (heq.trans (if_neg c38))]; exact hT, hF2⟩)
        · refine aw_aload_n dX7_readInto_41 rfl ?_
          refine aw_get dX7_readInto_42 flX7_36 (rd_c0 hR) rfl ?_
          refine aw_if_eq (tgt := 121) dX7_readInto_45 (by decide) (fun c45 => ?_) (fun c45 => ?_)
          · refine aw_iload_n dX7_readInto_121 rfl ?_
            exact aw_iret dX7_readInto_122 rfl (⟨by rw [show rRead R0 T0 = ((R, T), x) from (heq.trans ((if_pos c38).trans (if_pos c45)))], rfl, by rw [show rRead R0 T0 = ((R, T), x) from (heq.trans ((if_pos c38).trans (if_pos c45)))]; exact hR, by rw [show rRead R0 T0 = ((R, T), x) from (heq.trans ((if_pos c38).trans (if_pos c45)))]; exact hT, hF2⟩)
          · refine aw_inc (w := 1) dX7_readInto_48 rfl (by decide) (by decide) ?_
            refine aw_aload_n dX7_readInto_51 rfl ?_
            refine aw_ldcS dX7_readInto_52 (fun U H hV => by rw [hG] at hV; exact hV.2.1 1 (by decide)) ?_
            refine aw_callV1p dX7_readInto_54 cmX7_isWord cvX7_41 (rd_c0 hR) (Nat.le_of_ble_eq_true rfl) (tX7_isWord hR hG hfm (i := 1) (by decide)) ?_
            refine aw_if_eq (tgt := 77) dX7_readInto_57 (by decide) (fun c57 => ?_) (fun c57 => ?_)
            · refine aw_aload_n dX7_readInto_77 rfl ?_
              refine aw_ldcS dX7_readInto_78 (fun U H hV => by rw [hG] at hV; exact hV.2.1 2 (by decide)) ?_
              refine aw_callV1p dX7_readInto_80 cmX7_isWord cvX7_41 (rd_c0 hR) (Nat.le_of_ble_eq_true rfl) (tX7_isWord hR hG hfm (i := 2) (by decide)) ?_
              refine aw_if_eq (tgt := 94) dX7_readInto_83 (by decide) (fun c83 => ?_) (fun c83 => ?_)
              · refine aw_aload_n dX7_readInto_94 rfl ?_
                refine aw_ldcS dX7_readInto_95 (fun U H hV => by rw [hG] at hV; exact hV.2.1 3 (by decide)) ?_
                refine aw_callV1p dX7_readInto_97 cmX7_isWord cvX7_41 (rd_c0 hR) (Nat.le_of_ble_eq_true rfl) (tX7_isWord hR hG hfm (i := 3) (by decide)) ?_
                refine aw_if_eq (tgt := 111) dX7_readInto_100 (by decide) (fun c100 => ?_) (fun c100 => ?_)
                · refine aw_aload_n dX7_readInto_111 rfl ?_
                  refine aw_callV0e dX7_readInto_112 cmX7_failHere cvX7_63 (rd_c0 hR) (Nat.le_of_ble_eq_true rfl) (tX7_failHere hR) (fun r n' h' hq => ?_)
                  obtain ⟨rfl, rfl, hR, ho⟩ := hq
                  have hT := tr_off hT ho (Or.inl hdr)
                  have hF2 := fun (a : Nat) (p1 : a < t ∨ t + 20 ≤ a) (p2 : a < r ∨ r + 2 ≤ a) => (ho a p2).trans (hF2 a p1 p2)
                  try have hok := rOk_fail hok
                  refine aw_inc (w := 1) dX7_readInto_115 rfl (by decide) (by decide) ?_
                  refine aw_goto (tgt := 26) dX7_readInto_118 (by decide) ?_
                  exact aw_loc [0, 1, 2, 3] (ls2 := [(0, .ref r), (1, .ref t), (2, .int (x + 1)), (3, .int (nI (j + 1)))]) (by first | (rw [nI_succ]; rfl) | rfl) (ih (j + 1) _ _ _ (x + 1) (by omega) hR hT hok g0 hF2 (rItems_s heq c38 c45 (show rItem R T = (rFail R, T) from (((if_pos c57).trans (if_pos c83)).trans (if_pos c100)))))
                · refine aw_aload_n dX7_readInto_103 rfl ?_
                  refine aw_aload_n dX7_readInto_104 rfl ?_
                  refine aw_callV1e dX7_readInto_105 cmX7_takeLie cvX7_60 (rd_c0 hR) (Nat.le_of_ble_eq_true rfl) (tX7_takeLie hR hT hdr hok) (fun r n' h' hq => ?_)
                  obtain ⟨rfl, rfl, hR, hT, ho2⟩ := hq
                  have hF2 := fun (a : Nat) (p1 : a < t ∨ t + 20 ≤ a) (p2 : a < r ∨ r + 2 ≤ a) => (ho2 a p1 p2).trans (hF2 a p1 p2)
                  have hok := rOk_lie hok (T := T)
                  have g0 := (li_peo (R := R) (T := T)).symm ▸ g0
                  refine aw_goto (tgt := 115) dX7_readInto_108 (by decide) ?_
                  refine aw_inc (w := 1) dX7_readInto_115 rfl (by decide) (by decide) ?_
                  refine aw_goto (tgt := 26) dX7_readInto_118 (by decide) ?_
                  exact aw_loc [0, 1, 2, 3] (ls2 := [(0, .ref r), (1, .ref t), (2, .int (x + 1)), (3, .int (nI (j + 1)))]) (by first | (rw [nI_succ]; rfl) | rfl) (ih (j + 1) _ _ _ (x + 1) (by omega) hR hT hok g0 hF2 (rItems_s heq c38 c45 (show rItem R T = (rLieR R T, rLieT R T) from (((if_pos c57).trans (if_pos c83)).trans (if_neg c100)))))
              · refine aw_aload_n dX7_readInto_86 rfl ?_
                refine aw_aload_n dX7_readInto_87 rfl ?_
                refine aw_callV1e dX7_readInto_88 cmX7_takeHands cvX7_55 (rd_c0 hR) (Nat.le_of_ble_eq_true rfl) (tX7_takeHands hR hT hdr hok) (fun r n' h' hq => ?_)
                obtain ⟨rfl, rfl, hR, hT, ho2⟩ := hq
                have hF2 := fun (a : Nat) (p1 : a < t ∨ t + 20 ≤ a) (p2 : a < r ∨ r + 2 ≤ a) => (ho2 a p1 p2).trans (hF2 a p1 p2)
                have hok := rOk_han hok (T := T)
                have g0 := (ha_peo (R := R) (T := T)).symm ▸ g0
                refine aw_goto (tgt := 115) dX7_readInto_91 (by decide) ?_
                refine aw_inc (w := 1) dX7_readInto_115 rfl (by decide) (by decide) ?_
                refine aw_goto (tgt := 26) dX7_readInto_118 (by decide) ?_
                exact aw_loc [0, 1, 2, 3] (ls2 := [(0, .ref r), (1, .ref t), (2, .int (x + 1)), (3, .int (nI (j + 1)))]) (by first | (rw [nI_succ]; rfl) | rfl) (ih (j + 1) _ _ _ (x + 1) (by omega) hR hT hok g0 hF2 (rItems_s heq c38 c45 (show rItem R T = (rHanR R T, rHanT R T) from ((if_pos c57).trans (if_neg c83)))))
            · refine aw_aload_n dX7_readInto_60 rfl ?_
              refine aw_callV0p dX7_readInto_61 cmX9_people cvX7_45 (tr_c0 hT) (Nat.le_of_ble_eq_true rfl) (tX9_people hT) ?_
              refine aw_bipush (v := 6) dX7_readInto_64 (by decide) ?_
              refine aw_icmp_ge (tgt := 77) dX7_readInto_66 (by decide) (fun c66 => ?_) (fun c66 => ?_)
              · refine aw_aload_n dX7_readInto_77 rfl ?_
                refine aw_ldcS dX7_readInto_78 (fun U H hV => by rw [hG] at hV; exact hV.2.1 2 (by decide)) ?_
                refine aw_callV1p dX7_readInto_80 cmX7_isWord cvX7_41 (rd_c0 hR) (Nat.le_of_ble_eq_true rfl) (tX7_isWord hR hG hfm (i := 2) (by decide)) ?_
                refine aw_if_eq (tgt := 94) dX7_readInto_83 (by decide) (fun c83 => ?_) (fun c83 => ?_)
                · refine aw_aload_n dX7_readInto_94 rfl ?_
                  refine aw_ldcS dX7_readInto_95 (fun U H hV => by rw [hG] at hV; exact hV.2.1 3 (by decide)) ?_
                  refine aw_callV1p dX7_readInto_97 cmX7_isWord cvX7_41 (rd_c0 hR) (Nat.le_of_ble_eq_true rfl) (tX7_isWord hR hG hfm (i := 3) (by decide)) ?_
                  refine aw_if_eq (tgt := 111) dX7_readInto_100 (by decide) (fun c100 => ?_) (fun c100 => ?_)
                  · refine aw_aload_n dX7_readInto_111 rfl ?_
                    refine aw_callV0e dX7_readInto_112 cmX7_failHere cvX7_63 (rd_c0 hR) (Nat.le_of_ble_eq_true rfl) (tX7_failHere hR) (fun r n' h' hq => ?_)
                    obtain ⟨rfl, rfl, hR, ho⟩ := hq
                    have hT := tr_off hT ho (Or.inl hdr)
                    have hF2 := fun (a : Nat) (p1 : a < t ∨ t + 20 ≤ a) (p2 : a < r ∨ r + 2 ≤ a) => (ho a p2).trans (hF2 a p1 p2)
                    try have hok := rOk_fail hok
                    refine aw_inc (w := 1) dX7_readInto_115 rfl (by decide) (by decide) ?_
                    refine aw_goto (tgt := 26) dX7_readInto_118 (by decide) ?_
                    exact aw_loc [0, 1, 2, 3] (ls2 := [(0, .ref r), (1, .ref t), (2, .int (x + 1)), (3, .int (nI (j + 1)))]) (by first | (rw [nI_succ]; rfl) | rfl) (ih (j + 1) _ _ _ (x + 1) (by omega) hR hT hok g0 hF2 (rItems_s heq c38 c45 (show rItem R T = (rFail R, T) from ((((if_neg c57).trans (if_pos c66)).trans (if_pos c83)).trans (if_pos c100)))))
                  · refine aw_aload_n dX7_readInto_103 rfl ?_
                    refine aw_aload_n dX7_readInto_104 rfl ?_
                    refine aw_callV1e dX7_readInto_105 cmX7_takeLie cvX7_60 (rd_c0 hR) (Nat.le_of_ble_eq_true rfl) (tX7_takeLie hR hT hdr hok) (fun r n' h' hq => ?_)
                    obtain ⟨rfl, rfl, hR, hT, ho2⟩ := hq
                    have hF2 := fun (a : Nat) (p1 : a < t ∨ t + 20 ≤ a) (p2 : a < r ∨ r + 2 ≤ a) => (ho2 a p1 p2).trans (hF2 a p1 p2)
                    have hok := rOk_lie hok (T := T)
                    have g0 := (li_peo (R := R) (T := T)).symm ▸ g0
                    refine aw_goto (tgt := 115) dX7_readInto_108 (by decide) ?_
                    refine aw_inc (w := 1) dX7_readInto_115 rfl (by decide) (by decide) ?_
                    refine aw_goto (tgt := 26) dX7_readInto_118 (by decide) ?_
                    exact aw_loc [0, 1, 2, 3] (ls2 := [(0, .ref r), (1, .ref t), (2, .int (x + 1)), (3, .int (nI (j + 1)))]) (by first | (rw [nI_succ]; rfl) | rfl) (ih (j + 1) _ _ _ (x + 1) (by omega) hR hT hok g0 hF2 (rItems_s heq c38 c45 (show rItem R T = (rLieR R T, rLieT R T) from ((((if_neg c57).trans (if_pos c66)).trans (if_pos c83)).trans (if_neg c100)))))
                · refine aw_aload_n dX7_readInto_86 rfl ?_
                  refine aw_aload_n dX7_readInto_87 rfl ?_
                  refine aw_callV1e dX7_readInto_88 cmX7_takeHands cvX7_55 (rd_c0 hR) (Nat.le_of_ble_eq_true rfl) (tX7_takeHands hR hT hdr hok) (fun r n' h' hq => ?_)
                  obtain ⟨rfl, rfl, hR, hT, ho2⟩ := hq
                  have hF2 := fun (a : Nat) (p1 : a < t ∨ t + 20 ≤ a) (p2 : a < r ∨ r + 2 ≤ a) => (ho2 a p1 p2).trans (hF2 a p1 p2)
                  have hok := rOk_han hok (T := T)
                  have g0 := (ha_peo (R := R) (T := T)).symm ▸ g0
                  refine aw_goto (tgt := 115) dX7_readInto_91 (by decide) ?_
                  refine aw_inc (w := 1) dX7_readInto_115 rfl (by decide) (by decide) ?_
                  refine aw_goto (tgt := 26) dX7_readInto_118 (by decide) ?_
                  exact aw_loc [0, 1, 2, 3] (ls2 := [(0, .ref r), (1, .ref t), (2, .int (x + 1)), (3, .int (nI (j + 1)))]) (by first | (rw [nI_succ]; rfl) | rfl) (ih (j + 1) _ _ _ (x + 1) (by omega) hR hT hok g0 hF2 (rItems_s heq c38 c45 (show rItem R T = (rHanR R T, rHanT R T) from (((if_neg c57).trans (if_pos c66)).trans (if_neg c83)))))
              · refine aw_aload_n dX7_readInto_69 rfl ?_
                refine aw_aload_n dX7_readInto_70 rfl ?_
                refine aw_callV1e dX7_readInto_71 cmX7_takeOne cvX7_49 (rd_c0 hR) (Nat.le_of_ble_eq_true rfl) (tX7_takeOne hR hT hdr hok g0 c66) (fun r n' h' hq => ?_)
                obtain ⟨rfl, rfl, hR, hT, ho2⟩ := hq
                have hF2 := fun (a : Nat) (p1 : a < t ∨ t + 20 ≤ a) (p2 : a < r ∨ r + 2 ≤ a) => (ho2 a p1 p2).trans (hF2 a p1 p2)
                have hok := rOk_one hok
                have g0 := jo_pos g0 c66
                refine aw_goto (tgt := 115) dX7_readInto_74 (by decide) ?_
                refine aw_inc (w := 1) dX7_readInto_115 rfl (by decide) (by decide) ?_
                refine aw_goto (tgt := 26) dX7_readInto_118 (by decide) ?_
                exact aw_loc [0, 1, 2, 3] (ls2 := [(0, .ref r), (1, .ref t), (2, .int (x + 1)), (3, .int (nI (j + 1)))]) (by first | (rw [nI_succ]; rfl) | rfl) (ih (j + 1) _ _ _ (x + 1) (by omega) hR hT hok g0 hF2 (rItems_s heq c38 c45 (show rItem R T = (rOneR R, rOneT R T) from ((if_neg c57).trans (if_neg c66)))))
  exact aw_loc [0, 1, 2, 3] (ls2 := [(0, .ref r), (1, .ref t), (2, .int 1), (3, .int (nI 0))]) rfl (key (150) 0 _ _ _ 1 (by first | rfl | omega) hR hT hok (show ¬ (0 : Int32) < 0 by decide) hF2 rfl)
theorem sh_pow : ∀ {m : Nat}, m ≤ 6 → (1 : Int32) <<< (nI m &&& 31) = nI (2 ^ m) := by
  intro m hm
  rcases (show m = 0 ∨ m = 1 ∨ m = 2 ∨ m = 3 ∨ m = 4 ∨ m = 5 ∨ m = 6 by omega) with rfl | rfl | rfl | rfl | rfl | rfl | rfl <;> decide
theorem pow64 : ∀ {m : Nat}, m ≤ 6 → 2 ^ m ≤ 64 := by
  intro m hm
  rcases (show m = 0 ∨ m = 1 ∨ m = 2 ∨ m = 3 ∨ m = 4 ∨ m = 5 ∨ m = 6 by omega) with rfl | rfl | rfl | rfl | rfl | rfl | rfl <;> decide
set_option maxHeartbeats 1000000 in
set_option maxRecDepth 100000 in
theorem tX10_shelve {l : Launch} {E : aw_E} {d n w t : Nat} {h0 : ah} {V0 T : sT} (hW : is_wy h0 w V0) (hT : is_tr h0 t T) (hdw : t + 20 ≤ w) {a c : Int32} {m : Nat} (hb : T 10 0 = nI m) (hm : m ≤ 6) : am l E mX10_shelve (d + 5) 0 0 [.ref w, .ref t, .int a, .int c] n h0 (wy_post n h0 w (some (.int (if nI m = 0 then 0 else wLight (wShel T V0 a c m) 0))) (wShel T V0 a c m)) := by
  refine am_of (by decide +kernel) (Nat.le_of_ble_eq_true rfl) ?_
  have hF : ah_off h0 h0 w 5 := ah_off.rf
  have h64 := pow64 hm
  refine aw_aload_n dX10_shelve_0 rfl ?_
  refine aw_aload_n dX10_shelve_1 rfl ?_
  refine aw_iload_n dX10_shelve_2 rfl ?_
  refine aw_iload_n dX10_shelve_3 rfl ?_
  refine aw_callV3e dX10_shelve_4 cmX10_weighBags cvX10_65 (wy_c0 hW) (Nat.le_of_ble_eq_true rfl) (tX10_weighBags hW hT hdw) (fun r n' h' hq => ?_)
  obtain ⟨rfl, rfl, hW, ho⟩ := hq
  have hT := tr_off hT ho (Or.inl hdw)
  have hF := hF.trans ho
  refine aw_aload_n dX10_shelve_7 rfl ?_
  refine aw_callV0p dX10_shelve_8 cmX9_people cvX10_28 (tr_c0 hT) (Nat.le_of_ble_eq_true rfl) (tX9_people hT) ?_
  rw [hb]
  refine aw_istore dX10_shelve_11 (by decide) ?_
  refine aw_iconst (v := 1) dX10_shelve_13 (by decide) ?_
  refine aw_iload dX10_shelve_14 rfl ?_
  refine aw_ishl dX10_shelve_16 ?_
  rw [sh_pow hm]
  refine aw_iconst (v := 1) dX10_shelve_17 (by decide) ?_
  refine aw_isub dX10_shelve_18 ?_
  refine aw_istore dX10_shelve_19 (by decide) ?_
  refine aw_iload dX10_shelve_21 rfl ?_
  refine aw_istore dX10_shelve_23 (by decide) ?_
  have key : ∀ (k : Nat) (h : ah) (V : sT), k ≤ 64 → is_wy h w V → ah_off h0 h w 5 → wShel T V0 a c m = wShelL (nI (2 ^ m) - 1) m k V → aw l E mX10_shelve (aw_Z E (wy_post n h0 w (some (.int (if nI m = 0 then 0 else wLight (wShel T V0 a c m) 0))) (wShel T V0 a c m))) (d + 5) 0 0 25 [(0, .ref w), (4, .int (nI m)), (5, .int (nI (2 ^ m) - 1)), (6, .int (nI k + (-1)))] [] n h := by
    intro k
    induction k with
    | zero =>
      intro h V hk hW hF heq
      refine aw_iload dX10_shelve_25 rfl ?_
      refine aw_if_lt (tgt := 100) dX10_shelve_27 (by decide) (fun c27 => ?_) (fun c27 => ?_)
      · refine aw_iload dX10_shelve_100 rfl ?_
        refine aw_if_ne (tgt := 109) dX10_shelve_102 (by decide) (fun c102 => ?_) (fun c102 => ?_)
        · refine aw_aload_n dX10_shelve_109 rfl ?_
          refine aw_iconst (v := 0) dX10_shelve_110 (by decide) ?_
          refine aw_callV1p dX10_shelve_111 cmX10_lightestOf cvX10_83 (wy_c0 hW) (Nat.le_of_ble_eq_true rfl) (tX10_lightestOf hW) ?_
          exact aw_iret dX10_shelve_114 rfl (⟨by rw [show wShel T V0 a c m = V from heq]; exact congrArg (fun z => some (Value.int z)) (if_neg c102), rfl, is_of (P := is_wy _ w) heq hW, hF⟩)
        · refine aw_iconst (v := 0) dX10_shelve_105 (by decide) ?_
          refine aw_goto (tgt := 114) dX10_shelve_106 (by decide) ?_
          exact aw_iret dX10_shelve_114 rfl (⟨by rw [show wShel T V0 a c m = V from heq]; exact congrArg (fun z => some (Value.int z)) (if_pos c102), rfl, is_of (P := is_wy _ w) heq hW, hF⟩)
      · exact absurd (by decide) c27
    | succ k ih =>
      intro h V hk hW hF heq
      rw [pk_m1]
      refine aw_iload dX10_shelve_25 rfl ?_
      refine aw_if_lt (tgt := 100) dX10_shelve_27 (by decide) (fun c27 => ?_) (fun c27 => ?_)
      · exact absurd c27 (nI_pos (by omega))
      · refine aw_iload dX10_shelve_30 rfl ?_
        refine aw_iload dX10_shelve_32 rfl ?_
        refine aw_icmp_ne (tgt := 42) dX10_shelve_34 (by decide) (fun c34 => ?_) (fun c34 => ?_)
        · refine aw_iconst (v := -1) dX10_shelve_42 (by decide) ?_
          refine aw_istore dX10_shelve_43 (by decide) ?_
          refine aw_iconst (v := 0) dX10_shelve_45 (by decide) ?_
          refine aw_istore dX10_shelve_46 (by decide) ?_
          have key2 : ∀ (k2 j2 : Nat) (x : Int32), j2 + k2 = m → wBestL V (nI k) m 0 (-1) = wBestL V (nI k) k2 j2 x → aw l E mX10_shelve (aw_Z E (wy_post n h0 w (some (.int (if nI m = 0 then 0 else wLight (wShel T V0 a c m) 0))) (wShel T V0 a c m))) (d + 5) 0 0 48 [(0, .ref w), (4, .int (nI m)), (5, .int (nI (2 ^ m) - 1)), (6, .int (nI k)), (7, .int x), (8, .int (nI j2))] [] n h := by
            intro k2
            induction k2 with
            | zero =>
              intro j2 x hj2  heq2
              refine aw_iload dX10_shelve_48 rfl ?_
              refine aw_iload dX10_shelve_50 rfl ?_
              refine aw_icmp_ge (tgt := 86) dX10_shelve_52 (by decide) (fun c52 => ?_) (fun c52 => ?_)
              · refine aw_aload_n dX10_shelve_86 rfl ?_
                refine aw_iload dX10_shelve_87 rfl ?_
                refine aw_iload dX10_shelve_89 rfl ?_
                refine aw_callV2e dX10_shelve_91 cmX10_putLightest cvX10_79 (wy_c0 hW) (Nat.le_of_ble_eq_true rfl) (tX10_putLightest hW) (fun r n' h' hq => ?_)
                obtain ⟨rfl, rfl, hW, ho⟩ := hq
                have hF := hF.trans ho
                refine aw_inc (w := (-1)) dX10_shelve_94 rfl (by decide) (by decide) ?_
                refine aw_goto (tgt := 25) dX10_shelve_97 (by decide) ?_
                exact aw_loc [0, 4, 5, 6] (ls2 := [(0, .ref w), (4, .int (nI m)), (5, .int (nI (2 ^ m) - 1)), (6, .int (nI k + (-1)))]) rfl (ih _ _ (by omega) hW hF (heq.trans (congrArg (fun z => wShelL (nI (2 ^ m) - 1) m k (wPutL V (nI k) z)) ((congrArg (wBestL V (nI k) m 0) (if_neg c34)).trans heq2))))
              · exact absurd ((nI_leI (a := m) (b := j2) (by omega) (by omega)).mpr (by omega)) c52
            | succ k2 ih2 =>
              intro j2 x hj2  heq2
              refine aw_iload dX10_shelve_48 rfl ?_
              refine aw_iload dX10_shelve_50 rfl ?_
              refine aw_icmp_ge (tgt := 86) dX10_shelve_52 (by decide) (fun c52 => ?_) (fun c52 => ?_)
              · exact absurd ((nI_leI (a := m) (b := j2) (by omega) (by omega)).mp c52) (by omega)
              · refine aw_iload dX10_shelve_55 rfl ?_
                refine aw_iload dX10_shelve_57 rfl ?_
                refine aw_ishr dX10_shelve_59 ?_
                refine aw_iconst (v := 1) dX10_shelve_60 (by decide) ?_
                refine aw_iand dX10_shelve_61 ?_
                refine aw_if_ne (tgt := 80) dX10_shelve_62 (by decide) (fun c62 => ?_) (fun c62 => ?_)
                · refine aw_inc (w := 1) dX10_shelve_80 rfl (by decide) (by decide) ?_
                  refine aw_goto (tgt := 48) dX10_shelve_83 (by decide) ?_
                  exact aw_loc [0, 4, 5, 6, 7, 8] (ls2 := [(0, .ref w), (4, .int (nI m)), (5, .int (nI (2 ^ m) - 1)), (6, .int (nI k)), (7, .int x), (8, .int (nI (j2 + 1)))]) (by first | (rw [nI_succ]; rfl) | rfl) (ih2 (j2 + 1) x (by omega)  (heq2.trans (congrArg (wBestL V (nI k) k2 (j2 + 1)) (if_neg c62))))
                · refine aw_iload dX10_shelve_65 rfl ?_
                  refine aw_aload_n dX10_shelve_67 rfl ?_
                  refine aw_iload dX10_shelve_68 rfl ?_
                  refine aw_iload dX10_shelve_70 rfl ?_
                  refine aw_callV2p dX10_shelve_72 cmX10_lightestWith cvX10_70 (wy_c0 hW) (Nat.le_of_ble_eq_true rfl) (tX10_lightestWith hW) ?_
                  refine aw_mmax dX10_shelve_75 mmX10_74 (Nat.le_of_ble_eq_true rfl) ?_
                  refine aw_istore dX10_shelve_78 (by decide) ?_
                  refine aw_inc (w := 1) dX10_shelve_80 rfl (by decide) (by decide) ?_
                  refine aw_goto (tgt := 48) dX10_shelve_83 (by decide) ?_
                  exact aw_loc [0, 4, 5, 6, 7, 8] (ls2 := [(0, .ref w), (4, .int (nI m)), (5, .int (nI (2 ^ m) - 1)), (6, .int (nI k)), (7, .int _), (8, .int (nI (j2 + 1)))]) (by first | (rw [nI_succ]; rfl) | rfl) (ih2 (j2 + 1) _ (by omega)  (heq2.trans (congrArg (wBestL V (nI k) k2 (j2 + 1)) (if_pos c62))))
          exact aw_loc [0, 4, 5, 6, 7, 8] (ls2 := [(0, .ref w), (4, .int (nI m)), (5, .int (nI (2 ^ m) - 1)), (6, .int (nI k)), (7, .int (-1)), (8, .int (nI 0))]) rfl (key2 (m) 0 (-1) (by first | rfl | omega)  rfl)
        · refine aw_ldc dX10_shelve_37 kcX10_69 ?_
          refine aw_goto (tgt := 43) dX10_shelve_39 (by decide) ?_
          refine aw_istore dX10_shelve_43 (by decide) ?_
          refine aw_iconst (v := 0) dX10_shelve_45 (by decide) ?_
          refine aw_istore dX10_shelve_46 (by decide) ?_
          have key2 : ∀ (k2 j2 : Nat) (x : Int32), j2 + k2 = m → wBestL V (nI k) m 0 1000000 = wBestL V (nI k) k2 j2 x → aw l E mX10_shelve (aw_Z E (wy_post n h0 w (some (.int (if nI m = 0 then 0 else wLight (wShel T V0 a c m) 0))) (wShel T V0 a c m))) (d + 5) 0 0 48 [(0, .ref w), (4, .int (nI m)), (5, .int (nI (2 ^ m) - 1)), (6, .int (nI k)), (7, .int x), (8, .int (nI j2))] [] n h := by
            intro k2
            induction k2 with
            | zero =>
              intro j2 x hj2  heq2
              refine aw_iload dX10_shelve_48 rfl ?_
              refine aw_iload dX10_shelve_50 rfl ?_
              refine aw_icmp_ge (tgt := 86) dX10_shelve_52 (by decide) (fun c52 => ?_) (fun c52 => ?_)
              · refine aw_aload_n dX10_shelve_86 rfl ?_
                refine aw_iload dX10_shelve_87 rfl ?_
                refine aw_iload dX10_shelve_89 rfl ?_
                refine aw_callV2e dX10_shelve_91 cmX10_putLightest cvX10_79 (wy_c0 hW) (Nat.le_of_ble_eq_true rfl) (tX10_putLightest hW) (fun r n' h' hq => ?_)
                obtain ⟨rfl, rfl, hW, ho⟩ := hq
                have hF := hF.trans ho
                refine aw_inc (w := (-1)) dX10_shelve_94 rfl (by decide) (by decide) ?_
                refine aw_goto (tgt := 25) dX10_shelve_97 (by decide) ?_
                exact aw_loc [0, 4, 5, 6] (ls2 := [(0, .ref w), (4, .int (nI m)), (5, .int (nI (2 ^ m) - 1)), (6, .int (nI k + (-1)))]) rfl (ih _ _ (by omega) hW hF (heq.trans (congrArg (fun z => wShelL (nI (2 ^ m) - 1) m k (wPutL V (nI k) z)) ((congrArg (wBestL V (nI k) m 0) (if_pos c34)).trans heq2))))
              · exact absurd ((nI_leI (a := m) (b := j2) (by omega) (by omega)).mpr (by omega)) c52
            | succ k2 ih2 =>
              intro j2 x hj2  heq2
              refine aw_iload dX10_shelve_48 rfl ?_
              refine aw_iload dX10_shelve_50 rfl ?_
              refine aw_icmp_ge (tgt := 86) dX10_shelve_52 (by decide) (fun c52 => ?_) (fun c52 => ?_)
              · exact absurd ((nI_leI (a := m) (b := j2) (by omega) (by omega)).mp c52) (by omega)
              · refine aw_iload dX10_shelve_55 rfl ?_
                refine aw_iload dX10_shelve_57 rfl ?_
                refine aw_ishr dX10_shelve_59 ?_
                refine aw_iconst (v := 1) dX10_shelve_60 (by decide) ?_
                refine aw_iand dX10_shelve_61 ?_
                refine aw_if_ne (tgt := 80) dX10_shelve_62 (by decide) (fun c62 => ?_) (fun c62 => ?_)
                · refine aw_inc (w := 1) dX10_shelve_80 rfl (by decide) (by decide) ?_
                  refine aw_goto (tgt := 48) dX10_shelve_83 (by decide) ?_
                  exact aw_loc [0, 4, 5, 6, 7, 8] (ls2 := [(0, .ref w), (4, .int (nI m)), (5, .int (nI (2 ^ m) - 1)), (6, .int (nI k)), (7, .int x), (8, .int (nI (j2 + 1)))]) (by first | (rw [nI_succ]; rfl) | rfl) (ih2 (j2 + 1) x (by omega)  (heq2.trans (congrArg (wBestL V (nI k) k2 (j2 + 1)) (if_neg c62))))
                · refine aw_iload dX10_shelve_65 rfl ?_
                  refine aw_aload_n dX10_shelve_67 rfl ?_
                  refine aw_iload dX10_shelve_68 rfl ?_
                  refine aw_iload dX10_shelve_70 rfl ?_
                  refine aw_callV2p dX10_shelve_72 cmX10_lightestWith cvX10_70 (wy_c0 hW) (Nat.le_of_ble_eq_true rfl) (tX10_lightestWith hW) ?_
                  refine aw_mmax dX10_shelve_75 mmX10_74 (Nat.le_of_ble_eq_true rfl) ?_
                  refine aw_istore dX10_shelve_78 (by decide) ?_
                  refine aw_inc (w := 1) dX10_shelve_80 rfl (by decide) (by decide) ?_
                  refine aw_goto (tgt := 48) dX10_shelve_83 (by decide) ?_
                  exact aw_loc [0, 4, 5, 6, 7, 8] (ls2 := [(0, .ref w), (4, .int (nI m)), (5, .int (nI (2 ^ m) - 1)), (6, .int (nI k)), (7, .int _), (8, .int (nI (j2 + 1)))]) (by first | (rw [nI_succ]; rfl) | rfl) (ih2 (j2 + 1) _ (by omega)  (heq2.trans (congrArg (wBestL V (nI k) k2 (j2 + 1)) (if_pos c62))))
          exact aw_loc [0, 4, 5, 6, 7, 8] (ls2 := [(0, .ref w), (4, .int (nI m)), (5, .int (nI (2 ^ m) - 1)), (6, .int (nI k)), (7, .int 1000000), (8, .int (nI 0))]) rfl (key2 (m) 0 1000000 (by first | rfl | omega)  rfl)
  exact aw_loc [0, 4, 5, 6] (ls2 := [(0, .ref w), (4, .int (nI m)), (5, .int (nI (2 ^ m) - 1)), (6, .int (nI (2 ^ m) + (-1)))]) (by rw [← Int32.sub_eq_add_neg]; rfl) (key (2 ^ m) _ _ h64 hW hF rfl)
