/-! HONESTGOLD'S OWN METHODS. -/
set_option maxHeartbeats 1000000 in
set_option maxRecDepth 100000 in
theorem tX11_within {l : Launch} {E : aw_E} {d n : Nat} {h : ah} {v a b : Int32} : am l E mX11_within d 0 0 [.int v, .int a, .int b] n h (aw_eq n h (some (.int (iW v a b)))) := by
  refine am_of (by decide +kernel) (Nat.le_of_ble_eq_true rfl) ?_
  refine aw_iload_n dX11_within_0 rfl ?_
  refine aw_iload_n dX11_within_1 rfl ?_
  refine aw_icmp_lt (tgt := 14) dX11_within_2 (by decide) (fun c2 => ?_) (fun c2 => ?_)
  · refine aw_iconst (v := 0) dX11_within_14 (by decide) ?_
    exact aw_zret dX11_within_15 rfl rfl (⟨congrArg (fun z => some (Value.int z)) (if_pos c2), rfl, rfl⟩)
  · refine aw_iload_n dX11_within_5 rfl ?_
    refine aw_iload_n dX11_within_6 rfl ?_
    refine aw_icmp_gt (tgt := 14) dX11_within_7 (by decide) (fun c7 => ?_) (fun c7 => ?_)
    · refine aw_iconst (v := 0) dX11_within_14 (by decide) ?_
      exact aw_zret dX11_within_15 rfl rfl (⟨congrArg (fun z => some (Value.int z)) ((if_neg c2).trans (if_pos c7)), rfl, rfl⟩)
    · refine aw_iconst (v := 1) dX11_within_10 (by decide) ?_
      refine aw_goto (tgt := 15) dX11_within_11 (by decide) ?_
      exact aw_zret dX11_within_15 rfl rfl (⟨congrArg (fun z => some (Value.int z)) ((if_neg c2).trans (if_neg c7)), rfl, rfl⟩)
set_option maxHeartbeats 1000000 in
set_option maxRecDepth 100000 in
theorem tX11_isContent {l : Launch} {E : aw_E} {d n : Nat} {h : ah} {t' l' o' : Int32} : am l E mX11_isContent d 0 0 [.int t', .int l', .int o'] n h (aw_eq n h (some (.int (iCon t' l' o')))) := by
  refine am_of (by decide +kernel) (Nat.le_of_ble_eq_true rfl) ?_
  refine aw_iload_n dX11_isContent_0 rfl ?_
  refine aw_if_eq (tgt := 8) dX11_isContent_1 (by decide) (fun c1 => ?_) (fun c1 => ?_)
  · refine aw_iconst (v := 3) dX11_isContent_8 (by decide) ?_
    refine aw_istore_n dX11_isContent_9 (by decide) ?_
    refine aw_iload_n dX11_isContent_10 rfl ?_
    refine aw_if_eq (tgt := 27) dX11_isContent_11 (by decide) (fun c11 => ?_) (fun c11 => ?_)
    · refine aw_iload_n dX11_isContent_27 rfl ?_
      refine aw_iload_n dX11_isContent_28 rfl ?_
      refine aw_icmp_lt (tgt := 36) dX11_isContent_29 (by decide) (fun c29 => ?_) (fun c29 => ?_)
      · refine aw_iconst (v := 0) dX11_isContent_36 (by decide) ?_
        exact aw_zret dX11_isContent_37 rfl rfl (⟨congrArg (fun z => some (Value.int z)) (((if_pos c1).trans (if_pos c11)).trans (if_pos c29)), rfl, rfl⟩)
      · refine aw_iconst (v := 1) dX11_isContent_32 (by decide) ?_
        refine aw_goto (tgt := 37) dX11_isContent_33 (by decide) ?_
        exact aw_zret dX11_isContent_37 rfl rfl (⟨congrArg (fun z => some (Value.int z)) (((if_pos c1).trans (if_pos c11)).trans (if_neg c29)), rfl, rfl⟩)
    · refine aw_iload_n dX11_isContent_14 rfl ?_
      refine aw_iload_n dX11_isContent_15 rfl ?_
      refine aw_icmp_lt (tgt := 23) dX11_isContent_16 (by decide) (fun c16 => ?_) (fun c16 => ?_)
      · refine aw_iconst (v := 0) dX11_isContent_23 (by decide) ?_
        refine aw_goto (tgt := 37) dX11_isContent_24 (by decide) ?_
        exact aw_zret dX11_isContent_37 rfl rfl (⟨congrArg (fun z => some (Value.int z)) (((if_pos c1).trans (if_neg c11)).trans (if_pos c16)), rfl, rfl⟩)
      · refine aw_iconst (v := 1) dX11_isContent_19 (by decide) ?_
        refine aw_goto (tgt := 37) dX11_isContent_20 (by decide) ?_
        exact aw_zret dX11_isContent_37 rfl rfl (⟨congrArg (fun z => some (Value.int z)) (((if_pos c1).trans (if_neg c11)).trans (if_neg c16)), rfl, rfl⟩)
  · refine aw_iconst (v := 1) dX11_isContent_4 (by decide) ?_
    refine aw_goto (tgt := 9) dX11_isContent_5 (by decide) ?_
    refine aw_istore_n dX11_isContent_9 (by decide) ?_
    refine aw_iload_n dX11_isContent_10 rfl ?_
    refine aw_if_eq (tgt := 27) dX11_isContent_11 (by decide) (fun c11 => ?_) (fun c11 => ?_)
    · refine aw_iload_n dX11_isContent_27 rfl ?_
      refine aw_iload_n dX11_isContent_28 rfl ?_
      refine aw_icmp_lt (tgt := 36) dX11_isContent_29 (by decide) (fun c29 => ?_) (fun c29 => ?_)
      · refine aw_iconst (v := 0) dX11_isContent_36 (by decide) ?_
        exact aw_zret dX11_isContent_37 rfl rfl (⟨congrArg (fun z => some (Value.int z)) (((if_neg c1).trans (if_pos c11)).trans (if_pos c29)), rfl, rfl⟩)
      · refine aw_iconst (v := 1) dX11_isContent_32 (by decide) ?_
        refine aw_goto (tgt := 37) dX11_isContent_33 (by decide) ?_
        exact aw_zret dX11_isContent_37 rfl rfl (⟨congrArg (fun z => some (Value.int z)) (((if_neg c1).trans (if_pos c11)).trans (if_neg c29)), rfl, rfl⟩)
    · refine aw_iload_n dX11_isContent_14 rfl ?_
      refine aw_iload_n dX11_isContent_15 rfl ?_
      refine aw_icmp_lt (tgt := 23) dX11_isContent_16 (by decide) (fun c16 => ?_) (fun c16 => ?_)
      · refine aw_iconst (v := 0) dX11_isContent_23 (by decide) ?_
        refine aw_goto (tgt := 37) dX11_isContent_24 (by decide) ?_
        exact aw_zret dX11_isContent_37 rfl rfl (⟨congrArg (fun z => some (Value.int z)) (((if_neg c1).trans (if_neg c11)).trans (if_pos c16)), rfl, rfl⟩)
      · refine aw_iconst (v := 1) dX11_isContent_19 (by decide) ?_
        refine aw_goto (tgt := 37) dX11_isContent_20 (by decide) ?_
        exact aw_zret dX11_isContent_37 rfl rfl (⟨congrArg (fun z => some (Value.int z)) (((if_neg c1).trans (if_neg c11)).trans (if_neg c16)), rfl, rfl⟩)
set_option maxHeartbeats 1000000 in
set_option maxRecDepth 100000 in
theorem tX11_twoOfThem {l : Launch} {E : aw_E} {d n x : Nat} {h : ah} {g : Nat → Option Nat} {C : sT} {L : Nat → Int64} {T : sT} (hC : is_hg h x C L g) (hT : is_tr h (x + 1) T) {p q : Int32} : am l E mX11_twoOfThem (d + 1) 0 0 [.ref x, .int p, .int q] n h (aw_eq n h (some (.int (x2 T p q)))) := by
  refine am_of (by decide +kernel) (Nat.le_of_ble_eq_true rfl) ?_
  refine aw_aload_n dX11_twoOfThem_0 rfl ?_
  refine aw_get dX11_twoOfThem_1 flX11_10 (hg_c0 hC) rfl ?_
  refine aw_iload_n dX11_twoOfThem_4 rfl ?_
  refine aw_callV1p dX11_twoOfThem_5 cmX9_isThere cvX11_100 (tr_c0 hT) (Nat.le_of_ble_eq_true rfl) (tX9_isThere hT) ?_
  refine aw_if_eq (tgt := 31) dX11_twoOfThem_8 (by decide) (fun c8 => ?_) (fun c8 => ?_)
  · refine aw_iconst (v := 0) dX11_twoOfThem_31 (by decide) ?_
    exact aw_zret dX11_twoOfThem_32 rfl rfl (⟨congrArg (fun z => some (Value.int z)) (if_pos c8), rfl, rfl⟩)
  · refine aw_aload_n dX11_twoOfThem_11 rfl ?_
    refine aw_get dX11_twoOfThem_12 flX11_10 (hg_c0 hC) rfl ?_
    refine aw_iload_n dX11_twoOfThem_15 rfl ?_
    refine aw_callV1p dX11_twoOfThem_16 cmX9_isThere cvX11_100 (tr_c0 hT) (Nat.le_of_ble_eq_true rfl) (tX9_isThere hT) ?_
    refine aw_if_eq (tgt := 31) dX11_twoOfThem_19 (by decide) (fun c19 => ?_) (fun c19 => ?_)
    · refine aw_iconst (v := 0) dX11_twoOfThem_31 (by decide) ?_
      exact aw_zret dX11_twoOfThem_32 rfl rfl (⟨congrArg (fun z => some (Value.int z)) ((if_neg c8).trans (if_pos c19)), rfl, rfl⟩)
    · refine aw_iload_n dX11_twoOfThem_22 rfl ?_
      refine aw_iload_n dX11_twoOfThem_23 rfl ?_
      refine aw_icmp_eq (tgt := 31) dX11_twoOfThem_24 (by decide) (fun c24 => ?_) (fun c24 => ?_)
      · refine aw_iconst (v := 0) dX11_twoOfThem_31 (by decide) ?_
        exact aw_zret dX11_twoOfThem_32 rfl rfl (⟨congrArg (fun z => some (Value.int z)) (((if_neg c8).trans (if_neg c19)).trans (if_pos c24)), rfl, rfl⟩)
      · refine aw_iconst (v := 1) dX11_twoOfThem_27 (by decide) ?_
        refine aw_goto (tgt := 32) dX11_twoOfThem_28 (by decide) ?_
        exact aw_zret dX11_twoOfThem_32 rfl rfl (⟨congrArg (fun z => some (Value.int z)) (((if_neg c8).trans (if_neg c19)).trans (if_neg c24)), rfl, rfl⟩)
set_option maxHeartbeats 1000000 in
set_option maxRecDepth 100000 in
theorem tX11_counted {l : Launch} {E : aw_E} {d n x : Nat} {h : ah} {g : Nat → Option Nat} {C : sT} {L : Nat → Int64} {T R : sT} (hC : is_hg h x C L g) (hT : is_tr h (x + 1) T) (hR : is_rd h (x + 42) R) {w : Int32} : am l E mX11_counted (d + 3) 0 0 [.ref x, .int w] n h (aw_eq n h (some (.int (xCnt T R w)))) := by
  refine am_of (by decide +kernel) (Nat.le_of_ble_eq_true rfl) ?_
  refine aw_iload_n dX11_counted_0 rfl ?_
  by_cases g0 : w = 0
  · refine aw_tableIn (off := 39) (tgt := 40) dX11_counted_1 (by rw [g0]; decide) (by rw [g0]; decide) (by rw [g0]; rfl) (by decide) ?_
    refine aw_aload_n dX11_counted_40 rfl ?_
    refine aw_get dX11_counted_41 flX11_10 (hg_c0 hC) rfl ?_
    refine aw_callV0p dX11_counted_44 cmX9_people cvX11_44 (tr_c0 hT) (Nat.le_of_ble_eq_true rfl) (tX9_people hT) ?_
    exact aw_iret dX11_counted_47 rfl (⟨congrArg (fun z => some (Value.int z)) (if_pos g0), rfl, rfl⟩)
  · skip
    by_cases g1 : w = 1
    · refine aw_tableIn (off := 47) (tgt := 48) dX11_counted_1 (by rw [g1]; decide) (by rw [g1]; decide) (by rw [g1]; rfl) (by decide) ?_
      refine aw_aload_n dX11_counted_48 rfl ?_
      refine aw_get dX11_counted_49 flX11_10 (hg_c0 hC) rfl ?_
      refine aw_callV0p dX11_counted_52 cmX9_today cvX11_126 (tr_c0 hT) (Nat.le_of_ble_eq_true rfl) (tX9_today hT) ?_
      exact aw_iret dX11_counted_55 rfl (⟨congrArg (fun z => some (Value.int z)) ((if_neg g0).trans (if_pos g1)), rfl, rfl⟩)
    · skip
      by_cases g2 : w = 2
      · refine aw_tableIn (off := 55) (tgt := 56) dX11_counted_1 (by rw [g2]; decide) (by rw [g2]; decide) (by rw [g2]; rfl) (by decide) ?_
        refine aw_aload_n dX11_counted_56 rfl ?_
        refine aw_get dX11_counted_57 flX11_10 (hg_c0 hC) rfl ?_
        refine aw_callV0p dX11_counted_60 cmX9_allPieces cvX11_252 (tr_c0 hT) (Nat.le_of_ble_eq_true rfl) (tX9_allPieces hT) ?_
        exact aw_iret dX11_counted_63 rfl (⟨congrArg (fun z => some (Value.int z)) (((if_neg g0).trans (if_neg g1)).trans (if_pos g2)), rfl, rfl⟩)
      · skip
        by_cases g3 : w = 3
        · refine aw_tableIn (off := 63) (tgt := 64) dX11_counted_1 (by rw [g3]; decide) (by rw [g3]; decide) (by rw [g3]; rfl) (by decide) ?_
          refine aw_aload_n dX11_counted_64 rfl ?_
          refine aw_get dX11_counted_65 flX11_10 (hg_c0 hC) rfl ?_
          refine aw_callV0p dX11_counted_68 cmX9_liars cvX11_255 (tr_c0 hT) (Nat.le_of_ble_eq_true rfl) (tX9_liars hT) ?_
          exact aw_iret dX11_counted_71 rfl (⟨congrArg (fun z => some (Value.int z)) ((((if_neg g0).trans (if_neg g1)).trans (if_neg g2)).trans (if_pos g3)), rfl, rfl⟩)
        · skip
          by_cases g4 : w = 4
          · refine aw_tableIn (off := 71) (tgt := 72) dX11_counted_1 (by rw [g4]; decide) (by rw [g4]; decide) (by rw [g4]; rfl) (by decide) ?_
            refine aw_aload_n dX11_counted_72 rfl ?_
            refine aw_get dX11_counted_73 flX11_10 (hg_c0 hC) rfl ?_
            refine aw_callV0p dX11_counted_76 cmX9_notes cvX11_180 (tr_c0 hT) (Nat.le_of_ble_eq_true rfl) (tX9_notes hT) ?_
            refine aw_callV0p dX11_counted_79 cmX4_size cvX11_184 (tr_c13 hT) (Nat.le_of_ble_eq_true rfl) (tX4_size hT) ?_
            exact aw_iret dX11_counted_82 rfl (⟨congrArg (fun z => some (Value.int z)) (((((if_neg g0).trans (if_neg g1)).trans (if_neg g2)).trans (if_neg g3)).trans (if_pos g4)), rfl, rfl⟩)
          · skip
            by_cases g5 : w = 5
            · refine aw_tableIn (off := 82) (tgt := 83) dX11_counted_1 (by rw [g5]; decide) (by rw [g5]; decide) (by rw [g5]; rfl) (by decide) ?_
              refine aw_aload_n dX11_counted_83 rfl ?_
              refine aw_get dX11_counted_84 flX11_10 (hg_c0 hC) rfl ?_
              refine aw_callV0p dX11_counted_87 cmX9_steps cvX11_129 (tr_c0 hT) (Nat.le_of_ble_eq_true rfl) (tX9_steps hT) ?_
              exact aw_iret dX11_counted_90 rfl (⟨congrArg (fun z => some (Value.int z)) ((((((if_neg g0).trans (if_neg g1)).trans (if_neg g2)).trans (if_neg g3)).trans (if_neg g4)).trans (if_pos g5)), rfl, rfl⟩)
            · skip
              refine aw_tableOut (tgt := 91) dX11_counted_1 (tbl_out 5 (by decide) (fun j hj => by rcases (show j = 0 ∨ j = 1 ∨ j = 2 ∨ j = 3 ∨ j = 4 ∨ j = 5 by omega) with rfl | rfl | rfl | rfl | rfl | rfl <;> assumption)) (by decide) ?_
              refine aw_aload_n dX11_counted_91 rfl ?_
              refine aw_get dX11_counted_92 flX11_26 (hg_c0 hC) rfl ?_
              refine aw_callV0p dX11_counted_95 cmX7_length cvX11_80 (rd_c0 hR) (Nat.le_of_ble_eq_true rfl) (tX7_length hR) ?_
              exact aw_iret dX11_counted_98 rfl (⟨congrArg (fun z => some (Value.int z)) ((((((if_neg g0).trans (if_neg g1)).trans (if_neg g2)).trans (if_neg g3)).trans (if_neg g4)).trans (if_neg g5)), rfl, rfl⟩)
set_option maxHeartbeats 1000000 in
set_option maxRecDepth 100000 in
theorem tX11_refuseBad {l : Launch} {E : aw_E} {d n x : Nat} {h0 : ah} {g : Nat → Option Nat} {C : sT} {L : Nat → Int64} (hC : is_hg h0 x C L g) : am l E mX11_refuseBad d 0 0 [.ref x] n h0 (hg_post n h0 x g (some (.int (-2))) (xB C) L) := by
  refine am_of (by decide +kernel) (Nat.le_of_ble_eq_true rfl) ?_
  have hF : ah_off h0 h0 x 1 := ah_off.rf
  refine aw_aload_n dX11_refuseBad_0 rfl ?_
  refine aw_dup dX11_refuseBad_1 rfl ?_
  refine aw_get dX11_refuseBad_2 flX11_231 (hg_c0 hC) rfl ?_
  refine aw_iconst (v := 1) dX11_refuseBad_5 (by decide) ?_
  refine aw_iadd dX11_refuseBad_6 ?_
  refine aw_pf_hg0 dX11_refuseBad_7 fpX11_231 hC (fun h hC ho => ?_)
  have hF := hF.trans ho
  refine aw_bipush (v := -2) dX11_refuseBad_10 (by decide) ?_
  exact aw_iret dX11_refuseBad_12 rfl (⟨rfl, rfl, hC, hF⟩)
set_option maxHeartbeats 1000000 in
set_option maxRecDepth 100000 in
theorem tX11_refuseNo {l : Launch} {E : aw_E} {d n x : Nat} {h0 : ah} {g : Nat → Option Nat} {C : sT} {L : Nat → Int64} (hC : is_hg h0 x C L g) : am l E mX11_refuseNo d 0 0 [.ref x] n h0 (hg_post n h0 x g (some (.int (-3))) (xN C) L) := by
  refine am_of (by decide +kernel) (Nat.le_of_ble_eq_true rfl) ?_
  have hF : ah_off h0 h0 x 1 := ah_off.rf
  refine aw_aload_n dX11_refuseNo_0 rfl ?_
  refine aw_dup dX11_refuseNo_1 rfl ?_
  refine aw_get dX11_refuseNo_2 flX11_235 (hg_c0 hC) rfl ?_
  refine aw_iconst (v := 1) dX11_refuseNo_5 (by decide) ?_
  refine aw_iadd dX11_refuseNo_6 ?_
  refine aw_pf_hg1 dX11_refuseNo_7 fpX11_235 hC (fun h hC ho => ?_)
  have hF := hF.trans ho
  refine aw_bipush (v := -3) dX11_refuseNo_10 (by decide) ?_
  exact aw_iret dX11_refuseNo_12 rfl (⟨rfl, rfl, hC, hF⟩)
set_option maxHeartbeats 1000000 in
set_option maxRecDepth 100000 in
theorem tX11_refuseFull {l : Launch} {E : aw_E} {d n x : Nat} {h0 : ah} {g : Nat → Option Nat} {C : sT} {L : Nat → Int64} (hC : is_hg h0 x C L g) : am l E mX11_refuseFull d 0 0 [.ref x] n h0 (hg_post n h0 x g (some (.int (-4))) (xU C) L) := by
  refine am_of (by decide +kernel) (Nat.le_of_ble_eq_true rfl) ?_
  have hF : ah_off h0 h0 x 1 := ah_off.rf
  refine aw_aload_n dX11_refuseFull_0 rfl ?_
  refine aw_dup dX11_refuseFull_1 rfl ?_
  refine aw_get dX11_refuseFull_2 flX11_238 (hg_c0 hC) rfl ?_
  refine aw_iconst (v := 1) dX11_refuseFull_5 (by decide) ?_
  refine aw_iadd dX11_refuseFull_6 ?_
  refine aw_pf_hg2 dX11_refuseFull_7 fpX11_238 hC (fun h hC ho => ?_)
  have hF := hF.trans ho
  refine aw_bipush (v := -4) dX11_refuseFull_10 (by decide) ?_
  exact aw_iret dX11_refuseFull_12 rfl (⟨rfl, rfl, hC, hF⟩)
set_option maxHeartbeats 1000000 in
set_option maxRecDepth 100000 in
theorem tX11_keepFraction {l : Launch} {E : aw_E} {d n x : Nat} {h0 : ah} {g : Nat → Option Nat} {C : sT} {L : Nat → Int64} (hC : is_hg h0 x C L g) {o u : Int64} : am l E mX11_keepFraction d 0 0 [.ref x, .long o, .long u] n h0 (hg_post n h0 x g none C (kFracL L o u)) := by
  refine am_of (by decide +kernel) (Nat.le_of_ble_eq_true rfl) ?_
  have hF : ah_off h0 h0 x 1 := ah_off.rf
  refine aw_lload_n dX11_keepFraction_0 rfl ?_
  refine aw_lstore dX11_keepFraction_1 (by decide) ?_
  refine aw_lload_n dX11_keepFraction_3 rfl ?_
  refine aw_lstore dX11_keepFraction_4 (by decide) ?_
  refine aw_iconst (v := 0) dX11_keepFraction_6 (by decide) ?_
  refine aw_istore dX11_keepFraction_7 (by decide) ?_
  have key : ∀ (k j : Nat) (a b : Int64), j + k = 100 → kFrac 100 0 o u = kFrac k j a b → aw l E mX11_keepFraction (aw_Z E (hg_post n h0 x g none C (kFracL L o u))) d 0 0 9 [(0, .ref x), (1, .long o), (3, .long u), (5, .long a), (7, .long b), (9, .int (nI j))] [] n h0 := by
    intro k
    induction k with
    | zero =>
      intro j a b hj  heq
      refine aw_iload dX11_keepFraction_9 rfl ?_
      refine aw_bipush (v := 100) dX11_keepFraction_11 (by decide) ?_
      refine aw_icmp_ge (tgt := 44) dX11_keepFraction_13 (by decide) (fun c13 => ?_) (fun c13 => ?_)
      · refine aw_lload dX11_keepFraction_44 rfl ?_
        refine aw_lconst (v := 0) dX11_keepFraction_46 (by decide) ?_
        refine aw_lcmp dX11_keepFraction_47 ?_
        refine aw_if_le (tgt := 67) dX11_keepFraction_48 (by decide) (fun c48 => ?_) (fun c48 => ?_)
        · exact aw_vret dX11_keepFraction_67 rfl (⟨rfl, rfl, by unfold kFracL; rw [show kFrac 100 0 o u = a from heq, if_pos c48]; exact hC, hF⟩)
        · refine aw_aload_n dX11_keepFraction_51 rfl ?_
          refine aw_lload_n dX11_keepFraction_52 rfl ?_
          refine aw_lload dX11_keepFraction_53 rfl ?_
          refine aw_ldiv dX11_keepFraction_55 (lg_cmp_pos c48) ?_
          refine aw_pl_hg0 dX11_keepFraction_56 fpX11_37 hC (fun h hC ho => ?_)
          have hF := hF.trans ho
          refine aw_aload_n dX11_keepFraction_59 rfl ?_
          refine aw_lload_n dX11_keepFraction_60 rfl ?_
          refine aw_lload dX11_keepFraction_61 rfl ?_
          refine aw_ldiv dX11_keepFraction_63 (lg_cmp_pos c48) ?_
          refine aw_pl_hg1 dX11_keepFraction_64 fpX11_41 hC (fun h hC ho => ?_)
          have hF := hF.trans ho
          exact aw_vret dX11_keepFraction_67 rfl (⟨rfl, rfl, by unfold kFracL; rw [show kFrac 100 0 o u = a from heq, if_neg c48]; exact hC, hF⟩)
      · exact absurd ((nI_leI (a := 100) (b := j) (by omega) (by omega)).mpr (by omega)) c13
    | succ k ih =>
      intro j a b hj  heq
      refine aw_iload dX11_keepFraction_9 rfl ?_
      refine aw_bipush (v := 100) dX11_keepFraction_11 (by decide) ?_
      refine aw_icmp_ge (tgt := 44) dX11_keepFraction_13 (by decide) (fun c13 => ?_) (fun c13 => ?_)
      · exact absurd ((nI_leI (a := 100) (b := j) (by omega) (by omega)).mp c13) (by omega)
      · refine aw_lload dX11_keepFraction_16 rfl ?_
        refine aw_lconst (v := 0) dX11_keepFraction_18 (by decide) ?_
        refine aw_lcmp dX11_keepFraction_19 ?_
        refine aw_if_eq (tgt := 44) dX11_keepFraction_20 (by decide) (fun c20 => ?_) (fun c20 => ?_)
        · refine aw_lload dX11_keepFraction_44 rfl ?_
          refine aw_lconst (v := 0) dX11_keepFraction_46 (by decide) ?_
          refine aw_lcmp dX11_keepFraction_47 ?_
          refine aw_if_le (tgt := 67) dX11_keepFraction_48 (by decide) (fun c48 => ?_) (fun c48 => ?_)
          · exact aw_vret dX11_keepFraction_67 rfl (⟨rfl, rfl, by unfold kFracL; rw [show kFrac 100 0 o u = a from (heq.trans (if_pos c20)), if_pos c48]; exact hC, hF⟩)
          · refine aw_aload_n dX11_keepFraction_51 rfl ?_
            refine aw_lload_n dX11_keepFraction_52 rfl ?_
            refine aw_lload dX11_keepFraction_53 rfl ?_
            refine aw_ldiv dX11_keepFraction_55 (lg_cmp_pos c48) ?_
            refine aw_pl_hg0 dX11_keepFraction_56 fpX11_37 hC (fun h hC ho => ?_)
            have hF := hF.trans ho
            refine aw_aload_n dX11_keepFraction_59 rfl ?_
            refine aw_lload_n dX11_keepFraction_60 rfl ?_
            refine aw_lload dX11_keepFraction_61 rfl ?_
            refine aw_ldiv dX11_keepFraction_63 (lg_cmp_pos c48) ?_
            refine aw_pl_hg1 dX11_keepFraction_64 fpX11_41 hC (fun h hC ho => ?_)
            have hF := hF.trans ho
            exact aw_vret dX11_keepFraction_67 rfl (⟨rfl, rfl, by unfold kFracL; rw [show kFrac 100 0 o u = a from (heq.trans (if_pos c20)), if_neg c48]; exact hC, hF⟩)
        · refine aw_lload dX11_keepFraction_23 rfl ?_
          refine aw_lload dX11_keepFraction_25 rfl ?_
          refine aw_lrem dX11_keepFraction_27 (lg_cmp_ne c20) ?_
          refine aw_lstore dX11_keepFraction_28 (by decide) ?_
          refine aw_lload dX11_keepFraction_30 rfl ?_
          refine aw_lstore dX11_keepFraction_32 (by decide) ?_
          refine aw_lload dX11_keepFraction_34 rfl ?_
          refine aw_lstore dX11_keepFraction_36 (by decide) ?_
          refine aw_inc (w := 1) dX11_keepFraction_38 rfl (by decide) (by decide) ?_
          refine aw_goto (tgt := 9) dX11_keepFraction_41 (by decide) ?_
          exact aw_loc [0, 1, 3, 5, 7, 9] (ls2 := [(0, .ref x), (1, .long o), (3, .long u), (5, .long _), (7, .long _), (9, .int (nI (j + 1)))]) (by first | (rw [nI_succ]; rfl) | rfl) (ih (j + 1) _ _ (by omega)  (heq.trans (if_neg c20)))
  exact aw_loc [0, 1, 3, 5, 7, 9] (ls2 := [(0, .ref x), (1, .long o), (3, .long u), (5, .long o), (7, .long u), (9, .int (nI 0))]) rfl (key (100) 0 o u (by first | rfl | omega)  rfl)
set_option maxHeartbeats 1000000 in
set_option maxRecDepth 100000 in
theorem tX11_gold {l : Launch} {E : aw_E} {d n x : Nat} {h0 : ah} {g : Nat → Option Nat} {C : sT} {L : Nat → Int64} {T A R V : sT} (hX : is_x h0 x g (C, L, T, A, R, V)) : am l E mX11_gold (d + 2) 0 0 [.ref x] n h0 (x_post n h0 x g (xGold C L T A R V)) := by
  refine am_of (by decide +kernel) (Nat.le_of_ble_eq_true rfl) ?_
  obtain ⟨hC, hT, hA, hR, hW⟩ := hX
  dsimp only at hC hT hA hR hW
  have hF : ah_off h0 h0 x 49 := ah_off.rf
  refine aw_aload_n dX11_gold_0 rfl ?_
  refine aw_get dX11_gold_1 flX11_10 (hg_c0 hC) rfl ?_
  refine aw_callV0p dX11_gold_4 cmX9_people cvX11_44 (tr_c0 hT) (Nat.le_of_ble_eq_true rfl) (tX9_people hT) ?_
  refine aw_istore_n dX11_gold_7 (by decide) ?_
  refine aw_aload_n dX11_gold_8 rfl ?_
  refine aw_get dX11_gold_9 flX11_10 (hg_c0 hC) rfl ?_
  refine aw_callV0e dX11_gold_12 cmX9_empty cvX11_48 (tr_c0 hT) (Nat.le_of_ble_eq_true rfl) (tX9_empty hT) (fun r n' h' hq => ?_)
  obtain ⟨rfl, rfl, hT, ho⟩ := hq
  have hC := hg_off hC ho (by omega) (by omega)
  have hA := tr_off hA ho (by omega)
  have hR := rd_off hR ho (by omega)
  have hW := wy_off hW ho (by omega)
  have hF := hF.trans (ho.wide (by omega) (by omega))
  refine aw_iload_n dX11_gold_15 rfl ?_
  exact aw_iret dX11_gold_16 rfl (x_fin rfl hC hT hA hR hW hF)
set_option maxHeartbeats 1000000 in
set_option maxRecDepth 100000 in
theorem tX11_one {l : Launch} {E : aw_E} {d n x : Nat} {h0 : ah} {g : Nat → Option Nat} {C : sT} {L : Nat → Int64} {T A R V : sT} (hX : is_x h0 x g (C, L, T, A, R, V)) {k h' n' p' : Int32} (hp0 : ¬ T 10 0 < 0) : am l E mX11_one (d + 2) 0 0 [.ref x, .int k, .int h', .int n', .int p'] n h0 (x_post n h0 x g (xOne C L T A R V k h' n' p')) := by
  refine am_of (by decide +kernel) (Nat.le_of_ble_eq_true rfl) ?_
  obtain ⟨hC, hT, hA, hR, hW⟩ := hX
  dsimp only at hC hT hA hR hW
  have hF : ah_off h0 h0 x 49 := ah_off.rf
  refine aw_iload_n dX11_one_0 rfl ?_
  refine aw_iconst (v := 0) dX11_one_1 (by decide) ?_
  refine aw_iconst (v := 5) dX11_one_2 (by decide) ?_
  refine aw_callS3p dX11_one_3 cmX11_within csX11_51 (Nat.le_of_ble_eq_true rfl) tX11_within ?_
  refine aw_if_eq (tgt := 40) dX11_one_6 (by decide) (fun c6 => ?_) (fun c6 => ?_)
  · refine aw_aload_n dX11_one_40 rfl ?_
    refine aw_callV0e dX11_one_41 cmX11_refuseBad cvX11_55 (hg_c0 hC) (Nat.le_of_ble_eq_true rfl) (tX11_refuseBad hC) (fun r n' h' hq => ?_)
    obtain ⟨rfl, rfl, hC, ho⟩ := hq
    have hT := tr_off hT ho (by omega)
    have hA := tr_off hA ho (by omega)
    have hR := rd_off hR ho (by omega)
    have hW := wy_off hW ho (by omega)
    have hF := hF.trans (ho.wide (by omega) (by omega))
    exact aw_iret dX11_one_44 rfl (x_fin (if_pos c6) hC hT hA hR hW hF)
  · refine aw_iload_n dX11_one_9 rfl ?_
    refine aw_iconst (v := 0) dX11_one_10 (by decide) ?_
    refine aw_bipush (v := 12) dX11_one_11 (by decide) ?_
    refine aw_callS3p dX11_one_13 cmX11_within csX11_51 (Nat.le_of_ble_eq_true rfl) tX11_within ?_
    refine aw_if_eq (tgt := 40) dX11_one_16 (by decide) (fun c16 => ?_) (fun c16 => ?_)
    · refine aw_aload_n dX11_one_40 rfl ?_
      refine aw_callV0e dX11_one_41 cmX11_refuseBad cvX11_55 (hg_c0 hC) (Nat.le_of_ble_eq_true rfl) (tX11_refuseBad hC) (fun r n' h' hq => ?_)
      obtain ⟨rfl, rfl, hC, ho⟩ := hq
      have hT := tr_off hT ho (by omega)
      have hA := tr_off hA ho (by omega)
      have hR := rd_off hR ho (by omega)
      have hW := wy_off hW ho (by omega)
      have hF := hF.trans (ho.wide (by omega) (by omega))
      exact aw_iret dX11_one_44 rfl (x_fin ((if_neg c6).trans (if_pos c16)) hC hT hA hR hW hF)
    · refine aw_iload_n dX11_one_19 rfl ?_
      refine aw_iconst (v := 0) dX11_one_20 (by decide) ?_
      refine aw_bipush (v := 30) dX11_one_21 (by decide) ?_
      refine aw_callS3p dX11_one_23 cmX11_within csX11_51 (Nat.le_of_ble_eq_true rfl) tX11_within ?_
      refine aw_if_eq (tgt := 40) dX11_one_26 (by decide) (fun c26 => ?_) (fun c26 => ?_)
      · refine aw_aload_n dX11_one_40 rfl ?_
        refine aw_callV0e dX11_one_41 cmX11_refuseBad cvX11_55 (hg_c0 hC) (Nat.le_of_ble_eq_true rfl) (tX11_refuseBad hC) (fun r n' h' hq => ?_)
        obtain ⟨rfl, rfl, hC, ho⟩ := hq
        have hT := tr_off hT ho (by omega)
        have hA := tr_off hA ho (by omega)
        have hR := rd_off hR ho (by omega)
        have hW := wy_off hW ho (by omega)
        have hF := hF.trans (ho.wide (by omega) (by omega))
        exact aw_iret dX11_one_44 rfl (x_fin (((if_neg c6).trans (if_neg c16)).trans (if_pos c26)) hC hT hA hR hW hF)
      · refine aw_iload dX11_one_29 rfl ?_
        refine aw_iconst (v := 0) dX11_one_31 (by decide) ?_
        refine aw_bipush (v := 20) dX11_one_32 (by decide) ?_
        refine aw_callS3p dX11_one_34 cmX11_within csX11_51 (Nat.le_of_ble_eq_true rfl) tX11_within ?_
        refine aw_if_ne (tgt := 45) dX11_one_37 (by decide) (fun c37 => ?_) (fun c37 => ?_)
        · refine aw_aload_n dX11_one_45 rfl ?_
          refine aw_get dX11_one_46 flX11_10 (hg_c0 hC) rfl ?_
          refine aw_callV0p dX11_one_49 cmX9_people cvX11_44 (tr_c0 hT) (Nat.le_of_ble_eq_true rfl) (tX9_people hT) ?_
          refine aw_bipush (v := 6) dX11_one_52 (by decide) ?_
          refine aw_icmp_lt (tgt := 62) dX11_one_54 (by decide) (fun c54 => ?_) (fun c54 => ?_)
          · refine aw_aload_n dX11_one_62 rfl ?_
            refine aw_get dX11_one_63 flX11_10 (hg_c0 hC) rfl ?_
            refine aw_callV0e dX11_one_66 cmX9_forgetSteps cvX11_61 (tr_c0 hT) (Nat.le_of_ble_eq_true rfl) (tX9_forgetSteps hT) (fun r n' h' hq => ?_)
            obtain ⟨rfl, rfl, hT, ho⟩ := hq
            have hC := hg_off hC ho (by omega) (by omega)
            have hA := tr_off hA ho (by omega)
            have hR := rd_off hR ho (by omega)
            have hW := wy_off hW ho (by omega)
            have hF := hF.trans (ho.wide (by omega) (by omega))
            refine aw_aload_n dX11_one_69 rfl ?_
            refine aw_get dX11_one_70 flX11_10 (hg_c0 hC) rfl ?_
            refine aw_iload_n dX11_one_73 rfl ?_
            refine aw_iload_n dX11_one_74 rfl ?_
            refine aw_iload_n dX11_one_75 rfl ?_
            refine aw_iload dX11_one_76 rfl ?_
            refine aw_callV4e dX11_one_78 cmX9_join cvX11_64 (tr_c0 hT) (Nat.le_of_ble_eq_true rfl) (tX9_join hT hp0 (Int32.not_le.mpr c54)) (fun r n' h' hq => ?_)
            obtain ⟨rfl, rfl, hT, ho⟩ := hq
            have hC := hg_off hC ho (by omega) (by omega)
            have hA := tr_off hA ho (by omega)
            have hR := rd_off hR ho (by omega)
            have hW := wy_off hW ho (by omega)
            have hF := hF.trans (ho.wide (by omega) (by omega))
            exact aw_iret dX11_one_81 rfl (x_fin (((((if_neg c6).trans (if_neg c16)).trans (if_neg c26)).trans (if_neg c37)).trans (if_pos c54)) hC hT hA hR hW hF)
          · refine aw_aload_n dX11_one_57 rfl ?_
            refine aw_callV0e dX11_one_58 cmX11_refuseFull cvX11_58 (hg_c0 hC) (Nat.le_of_ble_eq_true rfl) (tX11_refuseFull hC) (fun r n' h' hq => ?_)
            obtain ⟨rfl, rfl, hC, ho⟩ := hq
            have hT := tr_off hT ho (by omega)
            have hA := tr_off hA ho (by omega)
            have hR := rd_off hR ho (by omega)
            have hW := wy_off hW ho (by omega)
            have hF := hF.trans (ho.wide (by omega) (by omega))
            exact aw_iret dX11_one_61 rfl (x_fin (((((if_neg c6).trans (if_neg c16)).trans (if_neg c26)).trans (if_neg c37)).trans (if_neg c54)) hC hT hA hR hW hF)
        · refine aw_aload_n dX11_one_40 rfl ?_
          refine aw_callV0e dX11_one_41 cmX11_refuseBad cvX11_55 (hg_c0 hC) (Nat.le_of_ble_eq_true rfl) (tX11_refuseBad hC) (fun r n' h' hq => ?_)
          obtain ⟨rfl, rfl, hC, ho⟩ := hq
          have hT := tr_off hT ho (by omega)
          have hA := tr_off hA ho (by omega)
          have hR := rd_off hR ho (by omega)
          have hW := wy_off hW ho (by omega)
          have hF := hF.trans (ho.wide (by omega) (by omega))
          exact aw_iret dX11_one_44 rfl (x_fin ((((if_neg c6).trans (if_neg c16)).trans (if_neg c26)).trans (if_pos c37)) hC hT hA hR hW hF)
set_option maxHeartbeats 1000000 in
set_option maxRecDepth 100000 in
theorem tX11_hands {l : Launch} {E : aw_E} {d n x : Nat} {h0 : ah} {g : Nat → Option Nat} {C : sT} {L : Nat → Int64} {T A R V : sT} (hX : is_x h0 x g (C, L, T, A, R, V)) {p q i : Int32} : am l E mX11_hands (d + 2) 0 0 [.ref x, .int p, .int q, .int i] n h0 (x_post n h0 x g (xHands C L T A R V p q i)) := by
  refine am_of (by decide +kernel) (Nat.le_of_ble_eq_true rfl) ?_
  obtain ⟨hC, hT, hA, hR, hW⟩ := hX
  dsimp only at hC hT hA hR hW
  have hF : ah_off h0 h0 x 49 := ah_off.rf
  refine aw_aload_n dX11_hands_0 rfl ?_
  refine aw_iload_n dX11_hands_1 rfl ?_
  refine aw_iload_n dX11_hands_2 rfl ?_
  refine aw_callV2p dX11_hands_3 cmX11_twoOfThem cvX11_68 (hg_c0 hC) (Nat.le_of_ble_eq_true rfl) (tX11_twoOfThem hC hT) ?_
  refine aw_if_eq (tgt := 18) dX11_hands_6 (by decide) (fun c6 => ?_) (fun c6 => ?_)
  · refine aw_aload_n dX11_hands_18 rfl ?_
    refine aw_callV0e dX11_hands_19 cmX11_refuseBad cvX11_55 (hg_c0 hC) (Nat.le_of_ble_eq_true rfl) (tX11_refuseBad hC) (fun r n' h' hq => ?_)
    obtain ⟨rfl, rfl, hC, ho⟩ := hq
    have hT := tr_off hT ho (by omega)
    have hA := tr_off hA ho (by omega)
    have hR := rd_off hR ho (by omega)
    have hW := wy_off hW ho (by omega)
    have hF := hF.trans (ho.wide (by omega) (by omega))
    exact aw_iret dX11_hands_22 rfl (x_fin (if_pos c6) hC hT hA hR hW hF)
  · refine aw_iload_n dX11_hands_9 rfl ?_
    refine aw_iconst (v := 0) dX11_hands_10 (by decide) ?_
    refine aw_iconst (v := 1) dX11_hands_11 (by decide) ?_
    refine aw_callS3p dX11_hands_12 cmX11_within csX11_51 (Nat.le_of_ble_eq_true rfl) tX11_within ?_
    refine aw_if_ne (tgt := 23) dX11_hands_15 (by decide) (fun c15 => ?_) (fun c15 => ?_)
    · refine aw_aload_n dX11_hands_23 rfl ?_
      refine aw_get dX11_hands_24 flX11_10 (hg_c0 hC) rfl ?_
      refine aw_iload_n dX11_hands_27 rfl ?_
      refine aw_callV1p dX11_hands_28 cmX9_handsOf cvX11_72 (tr_c0 hT) (Nat.le_of_ble_eq_true rfl) (tX9_handsOf hT) ?_
      refine aw_istore dX11_hands_31 (by decide) ?_
      refine aw_iconst (v := 1) dX11_hands_33 (by decide) ?_
      refine aw_iload_n dX11_hands_34 rfl ?_
      refine aw_ishl dX11_hands_35 ?_
      refine aw_istore dX11_hands_36 (by decide) ?_
      refine aw_aload_n dX11_hands_38 rfl ?_
      refine aw_get dX11_hands_39 flX11_10 (hg_c0 hC) rfl ?_
      refine aw_callV0e dX11_hands_42 cmX9_forgetSteps cvX11_61 (tr_c0 hT) (Nat.le_of_ble_eq_true rfl) (tX9_forgetSteps hT) (fun r n' h' hq => ?_)
      obtain ⟨rfl, rfl, hT, ho⟩ := hq
      have hC := hg_off hC ho (by omega) (by omega)
      have hA := tr_off hA ho (by omega)
      have hR := rd_off hR ho (by omega)
      have hW := wy_off hW ho (by omega)
      have hF := hF.trans (ho.wide (by omega) (by omega))
      refine aw_aload_n dX11_hands_45 rfl ?_
      refine aw_get dX11_hands_46 flX11_10 (hg_c0 hC) rfl ?_
      refine aw_iload_n dX11_hands_49 rfl ?_
      refine aw_iload_n dX11_hands_50 rfl ?_
      refine aw_iconst (v := 1) dX11_hands_51 (by decide) ?_
      refine aw_icmp_ne (tgt := 63) dX11_hands_52 (by decide) (fun c52 => ?_) (fun c52 => ?_)
      · refine aw_iload dX11_hands_63 rfl ?_
        refine aw_iload dX11_hands_65 rfl ?_
        refine aw_iconst (v := -1) dX11_hands_67 (by decide) ?_
        refine aw_ixor dX11_hands_68 ?_
        refine aw_iand dX11_hands_69 ?_
        refine aw_callV2e dX11_hands_70 cmX9_tellHands cvX11_76 (tr_c0 hT) (Nat.le_of_ble_eq_true rfl) (tX9_tellHands hT) (fun r n' h' hq => ?_)
        obtain ⟨rfl, rfl, hT, ho⟩ := hq
        have hC := hg_off hC ho (by omega) (by omega)
        have hA := tr_off hA ho (by omega)
        have hR := rd_off hR ho (by omega)
        have hW := wy_off hW ho (by omega)
        have hF := hF.trans (ho.wide (by omega) (by omega))
        refine aw_iload dX11_hands_73 rfl ?_
        refine aw_iload dX11_hands_75 rfl ?_
        refine aw_iand dX11_hands_77 ?_
        refine aw_if_eq (tgt := 85) dX11_hands_78 (by decide) (fun c78 => ?_) (fun c78 => ?_)
        · refine aw_iconst (v := 0) dX11_hands_85 (by decide) ?_
          exact aw_iret dX11_hands_86 rfl (x_fin ((((if_neg c6).trans (if_neg c15)).trans (if_neg c52)).trans (if_pos c78)) hC hT hA hR hW hF)
        · refine aw_iconst (v := 1) dX11_hands_81 (by decide) ?_
          refine aw_goto (tgt := 86) dX11_hands_82 (by decide) ?_
          exact aw_iret dX11_hands_86 rfl (x_fin ((((if_neg c6).trans (if_neg c15)).trans (if_neg c52)).trans (if_neg c78)) hC hT hA hR hW hF)
      · refine aw_iload dX11_hands_55 rfl ?_
        refine aw_iload dX11_hands_57 rfl ?_
        refine aw_ior dX11_hands_59 ?_
        refine aw_goto (tgt := 70) dX11_hands_60 (by decide) ?_
        refine aw_callV2e dX11_hands_70 cmX9_tellHands cvX11_76 (tr_c0 hT) (Nat.le_of_ble_eq_true rfl) (tX9_tellHands hT) (fun r n' h' hq => ?_)
        obtain ⟨rfl, rfl, hT, ho⟩ := hq
        have hC := hg_off hC ho (by omega) (by omega)
        have hA := tr_off hA ho (by omega)
        have hR := rd_off hR ho (by omega)
        have hW := wy_off hW ho (by omega)
        have hF := hF.trans (ho.wide (by omega) (by omega))
        refine aw_iload dX11_hands_73 rfl ?_
        refine aw_iload dX11_hands_75 rfl ?_
        refine aw_iand dX11_hands_77 ?_
        refine aw_if_eq (tgt := 85) dX11_hands_78 (by decide) (fun c78 => ?_) (fun c78 => ?_)
        · refine aw_iconst (v := 0) dX11_hands_85 (by decide) ?_
          exact aw_iret dX11_hands_86 rfl (x_fin ((((if_neg c6).trans (if_neg c15)).trans (if_pos c52)).trans (if_pos c78)) hC hT hA hR hW hF)
        · refine aw_iconst (v := 1) dX11_hands_81 (by decide) ?_
          refine aw_goto (tgt := 86) dX11_hands_82 (by decide) ?_
          exact aw_iret dX11_hands_86 rfl (x_fin ((((if_neg c6).trans (if_neg c15)).trans (if_pos c52)).trans (if_neg c78)) hC hT hA hR hW hF)
    · refine aw_aload_n dX11_hands_18 rfl ?_
      refine aw_callV0e dX11_hands_19 cmX11_refuseBad cvX11_55 (hg_c0 hC) (Nat.le_of_ble_eq_true rfl) (tX11_refuseBad hC) (fun r n' h' hq => ?_)
      obtain ⟨rfl, rfl, hC, ho⟩ := hq
      have hT := tr_off hT ho (by omega)
      have hA := tr_off hA ho (by omega)
      have hR := rd_off hR ho (by omega)
      have hW := wy_off hW ho (by omega)
      have hF := hF.trans (ho.wide (by omega) (by omega))
      exact aw_iret dX11_hands_22 rfl (x_fin ((if_neg c6).trans (if_pos c15)) hC hT hA hR hW hF)
set_option maxHeartbeats 1000000 in
set_option maxRecDepth 100000 in
theorem tX11_type {l : Launch} {E : aw_E} {d n x : Nat} {h0 : ah} {g : Nat → Option Nat} {C : sT} {L : Nat → Int64} {T A R V : sT} (hX : is_x h0 x g (C, L, T, A, R, V)) {c : Int32} (hl0 : ¬ R 10 0 < 0) : am l E mX11_type (d + 1) 0 0 [.ref x, .int c] n h0 (x_post n h0 x g (xType C L T A R V c)) := by
  refine am_of (by decide +kernel) (Nat.le_of_ble_eq_true rfl) ?_
  obtain ⟨hC, hT, hA, hR, hW⟩ := hX
  dsimp only at hC hT hA hR hW
  have hF : ah_off h0 h0 x 49 := ah_off.rf
  refine aw_iload_n dX11_type_0 rfl ?_
  refine aw_iconst (v := 0) dX11_type_1 (by decide) ?_
  refine aw_bipush (v := 127) dX11_type_2 (by decide) ?_
  refine aw_callS3p dX11_type_4 cmX11_within csX11_51 (Nat.le_of_ble_eq_true rfl) tX11_within ?_
  refine aw_if_ne (tgt := 15) dX11_type_7 (by decide) (fun c7 => ?_) (fun c7 => ?_)
  · refine aw_aload_n dX11_type_15 rfl ?_
    refine aw_get dX11_type_16 flX11_26 (hg_c0 hC) rfl ?_
    refine aw_callV0p dX11_type_19 cmX7_length cvX11_80 (rd_c0 hR) (Nat.le_of_ble_eq_true rfl) (tX7_length hR) ?_
    refine aw_sipush (v := 150) dX11_type_22 (by decide) ?_
    refine aw_icmp_lt (tgt := 33) dX11_type_25 (by decide) (fun c25 => ?_) (fun c25 => ?_)
    · refine aw_aload_n dX11_type_33 rfl ?_
      refine aw_get dX11_type_34 flX11_26 (hg_c0 hC) rfl ?_
      refine aw_iload_n dX11_type_37 rfl ?_
      refine aw_callV1e dX11_type_38 cmX7_append cvX11_83 (rd_c0 hR) (Nat.le_of_ble_eq_true rfl) (tX7_append hR hl0 (Int32.not_le.mpr c25)) (fun r n' h' hq => ?_)
      obtain ⟨rfl, rfl, hR, ho⟩ := hq
      have hC := hg_off hC ho (by omega) (by omega)
      have hT := tr_off hT ho (by omega)
      have hA := tr_off hA ho (by omega)
      have hW := wy_off hW ho (by omega)
      have hF := hF.trans (ho.wide (by omega) (by omega))
      exact aw_iret dX11_type_41 rfl (x_fin ((if_neg c7).trans (if_pos c25)) hC hT hA hR hW hF)
    · refine aw_aload_n dX11_type_28 rfl ?_
      refine aw_callV0e dX11_type_29 cmX11_refuseFull cvX11_58 (hg_c0 hC) (Nat.le_of_ble_eq_true rfl) (tX11_refuseFull hC) (fun r n' h' hq => ?_)
      obtain ⟨rfl, rfl, hC, ho⟩ := hq
      have hT := tr_off hT ho (by omega)
      have hA := tr_off hA ho (by omega)
      have hR := rd_off hR ho (by omega)
      have hW := wy_off hW ho (by omega)
      have hF := hF.trans (ho.wide (by omega) (by omega))
      exact aw_iret dX11_type_32 rfl (x_fin ((if_neg c7).trans (if_neg c25)) hC hT hA hR hW hF)
  · refine aw_aload_n dX11_type_10 rfl ?_
    refine aw_callV0e dX11_type_11 cmX11_refuseBad cvX11_55 (hg_c0 hC) (Nat.le_of_ble_eq_true rfl) (tX11_refuseBad hC) (fun r n' h' hq => ?_)
    obtain ⟨rfl, rfl, hC, ho⟩ := hq
    have hT := tr_off hT ho (by omega)
    have hA := tr_off hA ho (by omega)
    have hR := rd_off hR ho (by omega)
    have hW := wy_off hW ho (by omega)
    have hF := hF.trans (ho.wide (by omega) (by omega))
    exact aw_iret dX11_type_14 rfl (x_fin (if_pos c7) hC hT hA hR hW hF)
set_option maxHeartbeats 1000000 in
set_option maxRecDepth 100000 in
theorem tX11_clear {l : Launch} {E : aw_E} {d n x : Nat} {h0 : ah} {g : Nat → Option Nat} {C : sT} {L : Nat → Int64} {T A R V : sT} (hX : is_x h0 x g (C, L, T, A, R, V)) : am l E mX11_clear (d + 1) 0 0 [.ref x] n h0 (x_post n h0 x g (xClear C L T A R V)) := by
  refine am_of (by decide +kernel) (Nat.le_of_ble_eq_true rfl) ?_
  obtain ⟨hC, hT, hA, hR, hW⟩ := hX
  dsimp only at hC hT hA hR hW
  have hF : ah_off h0 h0 x 49 := ah_off.rf
  refine aw_aload_n dX11_clear_0 rfl ?_
  refine aw_get dX11_clear_1 flX11_26 (hg_c0 hC) rfl ?_
  refine aw_callV0p dX11_clear_4 cmX7_length cvX11_80 (rd_c0 hR) (Nat.le_of_ble_eq_true rfl) (tX7_length hR) ?_
  refine aw_istore_n dX11_clear_7 (by decide) ?_
  refine aw_aload_n dX11_clear_8 rfl ?_
  refine aw_get dX11_clear_9 flX11_26 (hg_c0 hC) rfl ?_
  refine aw_callV0e dX11_clear_12 cmX7_drop cvX11_86 (rd_c0 hR) (Nat.le_of_ble_eq_true rfl) (tX7_drop hR) (fun r n' h' hq => ?_)
  obtain ⟨rfl, rfl, hR, ho⟩ := hq
  have hC := hg_off hC ho (by omega) (by omega)
  have hT := tr_off hT ho (by omega)
  have hA := tr_off hA ho (by omega)
  have hW := wy_off hW ho (by omega)
  have hF := hF.trans (ho.wide (by omega) (by omega))
  refine aw_iload_n dX11_clear_15 rfl ?_
  exact aw_iret dX11_clear_16 rfl (x_fin rfl hC hT hA hR hW hF)
set_option maxHeartbeats 1000000 in
set_option maxRecDepth 100000 in
theorem tX11_read {l : Launch} {E : aw_E} {d n x : Nat} {h0 : ah} {g : Nat → Option Nat} {C : sT} {L : Nat → Int64} {T A R V : sT} (hX : is_x h0 x g (C, L, T, A, R, V)) {adK adV : Nat → Nat} {fm : Value} {sb sL : Nat} {xs : Nat → Int32} (hG : E.2.2.2 = gV E.2.2.1 adK adV fm sb sL xs) (hfm : fm.category = 1) (hr0 : R 10 0 = nI (rL R)) (hr1 : rL R ≤ 150) : am l E mX11_read (d + 7) 0 0 [.ref x] n h0 (x_post n h0 x g (xRead C L T A R V)) := by
  refine am_of (by decide +kernel) (Nat.le_of_ble_eq_true rfl) ?_
  obtain ⟨hC, hT, hA, hR, hW⟩ := hX
  dsimp only at hC hT hA hR hW
  have hF : ah_off h0 h0 x 49 := ah_off.rf
  refine aw_aload_n dX11_read_0 rfl ?_
  refine aw_get dX11_read_1 flX11_26 (hg_c0 hC) rfl ?_
  refine aw_aload_n dX11_read_4 rfl ?_
  refine aw_get dX11_read_5 flX11_16 (hg_c0 hC) rfl ?_
  refine aw_callV1e dX11_read_8 cmX7_readInto cvX11_89 (rd_c0 hR) (Nat.le_of_ble_eq_true rfl) (tX7_readInto hR hA (by omega) hr0 hr1 hG hfm) (fun r n' h' hq => ?_)
  obtain ⟨rfl, rfl, hR, hA, ho2⟩ := hq
  have hC : is_hg _ x C L g := ⟨(ho2 x (by omega) (by omega)).trans hC.1, (ho2 (x + 41) (by omega) (by omega)).trans hC.2⟩
  have hT : is_tr _ (x + 1) T := fun j hj => (ho2 (x + 1 + j) (by omega) (by omega)).trans (hT j hj)
  have hW : is_wy _ (x + 44) V := fun j hj => (ho2 (x + 44 + j) (by omega) (by omega)).trans (hW j hj)
  have hF : ah_off h0 _ x 49 := fun a ha => (ho2 a (by omega) (by omega)).trans (hF a ha)
  refine aw_istore_n dX11_read_11 (by decide) ?_
  refine aw_aload_n dX11_read_12 rfl ?_
  refine aw_get dX11_read_13 flX11_26 (hg_c0 hC) rfl ?_
  refine aw_callV0p dX11_read_16 cmX7_faultAt cvX11_93 (rd_c0 hR) (Nat.le_of_ble_eq_true rfl) (tX7_faultAt hR) ?_
  refine aw_if_lt (tgt := 33) dX11_read_19 (by decide) (fun c19 => ?_) (fun c19 => ?_)
  · refine aw_aload_n dX11_read_33 rfl ?_
    refine aw_get dX11_read_34 flX11_10 (hg_c0 hC) rfl ?_
    refine aw_aload_n dX11_read_37 rfl ?_
    refine aw_get dX11_read_38 flX11_16 (hg_c0 hC) rfl ?_
    refine aw_callV1e dX11_read_41 cmX9_copyFrom cvX11_96 (tr_c0 hT) (Nat.le_of_ble_eq_true rfl) (tX9_copyFrom hT hA (by omega)) (fun r n' h' hq => ?_)
    obtain ⟨rfl, rfl, hT, ho⟩ := hq
    have hC := hg_off hC ho (by omega) (by omega)
    have hA := tr_off hA ho (by omega)
    have hR := rd_off hR ho (by omega)
    have hW := wy_off hW ho (by omega)
    have hF := hF.trans (ho.wide (by omega) (by omega))
    refine aw_iload_n dX11_read_44 rfl ?_
    exact aw_iret dX11_read_45 rfl (x_fin (if_pos c19) hC hT hA hR hW hF)
  · refine aw_bipush (v := -10) dX11_read_22 (by decide) ?_
    refine aw_aload_n dX11_read_24 rfl ?_
    refine aw_get dX11_read_25 flX11_26 (hg_c0 hC) rfl ?_
    refine aw_callV0p dX11_read_28 cmX7_faultAt cvX11_93 (rd_c0 hR) (Nat.le_of_ble_eq_true rfl) (tX7_faultAt hR) ?_
    refine aw_isub dX11_read_31 ?_
    exact aw_iret dX11_read_32 rfl (x_fin (if_neg c19) hC hT hA hR hW hF)
set_option maxHeartbeats 1000000 in
set_option maxRecDepth 100000 in
theorem tX11_lie {l : Launch} {E : aw_E} {d n x : Nat} {h0 : ah} {g : Nat → Option Nat} {C : sT} {L : Nat → Int64} {T A R V : sT} (hX : is_x h0 x g (C, L, T, A, R, V)) {p s : Int32} : am l E mX11_lie (d + 4) 0 0 [.ref x, .int p, .int s] n h0 (x_post n h0 x g (xLie C L T A R V p s)) := by
  refine am_of (by decide +kernel) (Nat.le_of_ble_eq_true rfl) ?_
  obtain ⟨hC, hT, hA, hR, hW⟩ := hX
  dsimp only at hC hT hA hR hW
  have hF : ah_off h0 h0 x 49 := ah_off.rf
  refine aw_aload_n dX11_lie_0 rfl ?_
  refine aw_get dX11_lie_1 flX11_10 (hg_c0 hC) rfl ?_
  refine aw_iload_n dX11_lie_4 rfl ?_
  refine aw_callV1p dX11_lie_5 cmX9_isThere cvX11_100 (tr_c0 hT) (Nat.le_of_ble_eq_true rfl) (tX9_isThere hT) ?_
  refine aw_if_eq (tgt := 20) dX11_lie_8 (by decide) (fun c8 => ?_) (fun c8 => ?_)
  · refine aw_aload_n dX11_lie_20 rfl ?_
    refine aw_callV0e dX11_lie_21 cmX11_refuseBad cvX11_55 (hg_c0 hC) (Nat.le_of_ble_eq_true rfl) (tX11_refuseBad hC) (fun r n' h' hq => ?_)
    obtain ⟨rfl, rfl, hC, ho⟩ := hq
    have hT := tr_off hT ho (by omega)
    have hA := tr_off hA ho (by omega)
    have hR := rd_off hR ho (by omega)
    have hW := wy_off hW ho (by omega)
    have hF := hF.trans (ho.wide (by omega) (by omega))
    exact aw_iret dX11_lie_24 rfl (x_fin (if_pos c8) hC hT hA hR hW hF)
  · refine aw_iload_n dX11_lie_11 rfl ?_
    refine aw_iconst (v := 1) dX11_lie_12 (by decide) ?_
    refine aw_iconst (v := 4) dX11_lie_13 (by decide) ?_
    refine aw_callS3p dX11_lie_14 cmX11_within csX11_51 (Nat.le_of_ble_eq_true rfl) tX11_within ?_
    refine aw_if_ne (tgt := 25) dX11_lie_17 (by decide) (fun c17 => ?_) (fun c17 => ?_)
    · refine aw_aload_n dX11_lie_25 rfl ?_
      refine aw_get dX11_lie_26 flX11_10 (hg_c0 hC) rfl ?_
      refine aw_callV0e dX11_lie_29 cmX9_keepStep cvX11_104 (tr_c0 hT) (Nat.le_of_ble_eq_true rfl) (tX9_keepStep hT) (fun r n' h' hq => ?_)
      obtain ⟨rfl, rfl, hT, ho⟩ := hq
      have hC := hg_off hC ho (by omega) (by omega)
      have hA := tr_off hA ho (by omega)
      have hR := rd_off hR ho (by omega)
      have hW := wy_off hW ho (by omega)
      have hF := hF.trans (ho.wide (by omega) (by omega))
      refine aw_aload_n dX11_lie_32 rfl ?_
      refine aw_get dX11_lie_33 flX11_10 (hg_c0 hC) rfl ?_
      refine aw_iload_n dX11_lie_36 rfl ?_
      refine aw_iload_n dX11_lie_37 rfl ?_
      refine aw_callV2e dX11_lie_38 cmX9_tellLie cvX11_107 (tr_c0 hT) (Nat.le_of_ble_eq_true rfl) (tX9_tellLie hT) (fun r n' h' hq => ?_)
      obtain ⟨rfl, rfl, hT, ho⟩ := hq
      have hC := hg_off hC ho (by omega) (by omega)
      have hA := tr_off hA ho (by omega)
      have hR := rd_off hR ho (by omega)
      have hW := wy_off hW ho (by omega)
      have hF := hF.trans (ho.wide (by omega) (by omega))
      refine aw_aload_n dX11_lie_41 rfl ?_
      refine aw_get dX11_lie_42 flX11_10 (hg_c0 hC) rfl ?_
      refine aw_iload_n dX11_lie_45 rfl ?_
      refine aw_callV1p dX11_lie_46 cmX9_honestyOf cvX11_110 (tr_c0 hT) (Nat.le_of_ble_eq_true rfl) (tX9_honestyOf hT) ?_
      exact aw_iret dX11_lie_49 rfl (x_fin ((if_neg c8).trans (if_neg c17)) hC hT hA hR hW hF)
    · refine aw_aload_n dX11_lie_20 rfl ?_
      refine aw_callV0e dX11_lie_21 cmX11_refuseBad cvX11_55 (hg_c0 hC) (Nat.le_of_ble_eq_true rfl) (tX11_refuseBad hC) (fun r n' h' hq => ?_)
      obtain ⟨rfl, rfl, hC, ho⟩ := hq
      have hT := tr_off hT ho (by omega)
      have hA := tr_off hA ho (by omega)
      have hR := rd_off hR ho (by omega)
      have hW := wy_off hW ho (by omega)
      have hF := hF.trans (ho.wide (by omega) (by omega))
      exact aw_iret dX11_lie_24 rfl (x_fin ((if_neg c8).trans (if_pos c17)) hC hT hA hR hW hF)
set_option maxHeartbeats 1000000 in
set_option maxRecDepth 100000 in
theorem tX11_give {l : Launch} {E : aw_E} {d n x : Nat} {h0 : ah} {g : Nat → Option Nat} {C : sT} {L : Nat → Int64} {T A R V : sT} (hX : is_x h0 x g (C, L, T, A, R, V)) {p q m : Int32} : am l E mX11_give (d + 3) 0 0 [.ref x, .int p, .int q, .int m] n h0 (x_post n h0 x g (xGive C L T A R V p q m)) := by
  refine am_of (by decide +kernel) (Nat.le_of_ble_eq_true rfl) ?_
  obtain ⟨hC, hT, hA, hR, hW⟩ := hX
  dsimp only at hC hT hA hR hW
  have hF : ah_off h0 h0 x 49 := ah_off.rf
  refine aw_aload_n dX11_give_0 rfl ?_
  refine aw_iload_n dX11_give_1 rfl ?_
  refine aw_iload_n dX11_give_2 rfl ?_
  refine aw_callV2p dX11_give_3 cmX11_twoOfThem cvX11_68 (hg_c0 hC) (Nat.le_of_ble_eq_true rfl) (tX11_twoOfThem hC hT) ?_
  refine aw_if_eq (tgt := 19) dX11_give_6 (by decide) (fun c6 => ?_) (fun c6 => ?_)
  · refine aw_aload_n dX11_give_19 rfl ?_
    refine aw_callV0e dX11_give_20 cmX11_refuseBad cvX11_55 (hg_c0 hC) (Nat.le_of_ble_eq_true rfl) (tX11_refuseBad hC) (fun r n' h' hq => ?_)
    obtain ⟨rfl, rfl, hC, ho⟩ := hq
    have hT := tr_off hT ho (by omega)
    have hA := tr_off hA ho (by omega)
    have hR := rd_off hR ho (by omega)
    have hW := wy_off hW ho (by omega)
    have hF := hF.trans (ho.wide (by omega) (by omega))
    exact aw_iret dX11_give_23 rfl (x_fin (if_pos c6) hC hT hA hR hW hF)
  · refine aw_iload_n dX11_give_9 rfl ?_
    refine aw_iconst (v := 1) dX11_give_10 (by decide) ?_
    refine aw_bipush (v := 99) dX11_give_11 (by decide) ?_
    refine aw_callS3p dX11_give_13 cmX11_within csX11_51 (Nat.le_of_ble_eq_true rfl) tX11_within ?_
    refine aw_if_ne (tgt := 24) dX11_give_16 (by decide) (fun c16 => ?_) (fun c16 => ?_)
    · refine aw_aload_n dX11_give_24 rfl ?_
      refine aw_get dX11_give_25 flX11_10 (hg_c0 hC) rfl ?_
      refine aw_iload_n dX11_give_28 rfl ?_
      refine aw_callV1p dX11_give_29 cmX9_handsOf cvX11_72 (tr_c0 hT) (Nat.le_of_ble_eq_true rfl) (tX9_handsOf hT) ?_
      refine aw_iconst (v := 1) dX11_give_32 (by decide) ?_
      refine aw_iload_n dX11_give_33 rfl ?_
      refine aw_ishl dX11_give_34 ?_
      refine aw_iand dX11_give_35 ?_
      refine aw_if_eq (tgt := 51) dX11_give_36 (by decide) (fun c36 => ?_) (fun c36 => ?_)
      · refine aw_aload_n dX11_give_51 rfl ?_
        refine aw_callV0e dX11_give_52 cmX11_refuseNo cvX11_116 (hg_c0 hC) (Nat.le_of_ble_eq_true rfl) (tX11_refuseNo hC) (fun r n' h' hq => ?_)
        obtain ⟨rfl, rfl, hC, ho⟩ := hq
        have hT := tr_off hT ho (by omega)
        have hA := tr_off hA ho (by omega)
        have hR := rd_off hR ho (by omega)
        have hW := wy_off hW ho (by omega)
        have hF := hF.trans (ho.wide (by omega) (by omega))
        exact aw_iret dX11_give_55 rfl (x_fin (((if_neg c6).trans (if_neg c16)).trans (if_pos c36)) hC hT hA hR hW hF)
      · refine aw_aload_n dX11_give_39 rfl ?_
        refine aw_get dX11_give_40 flX11_10 (hg_c0 hC) rfl ?_
        refine aw_iload_n dX11_give_43 rfl ?_
        refine aw_callV1p dX11_give_44 cmX9_piecesOf cvX11_113 (tr_c0 hT) (Nat.le_of_ble_eq_true rfl) (tX9_piecesOf hT) ?_
        refine aw_iload_n dX11_give_47 rfl ?_
        refine aw_icmp_ge (tgt := 56) dX11_give_48 (by decide) (fun c48 => ?_) (fun c48 => ?_)
        · refine aw_aload_n dX11_give_56 rfl ?_
          refine aw_get dX11_give_57 flX11_10 (hg_c0 hC) rfl ?_
          refine aw_callV0e dX11_give_60 cmX9_keepStep cvX11_104 (tr_c0 hT) (Nat.le_of_ble_eq_true rfl) (tX9_keepStep hT) (fun r n' h' hq => ?_)
          obtain ⟨rfl, rfl, hT, ho⟩ := hq
          have hC := hg_off hC ho (by omega) (by omega)
          have hA := tr_off hA ho (by omega)
          have hR := rd_off hR ho (by omega)
          have hW := wy_off hW ho (by omega)
          have hF := hF.trans (ho.wide (by omega) (by omega))
          refine aw_aload_n dX11_give_63 rfl ?_
          refine aw_get dX11_give_64 flX11_10 (hg_c0 hC) rfl ?_
          refine aw_iload_n dX11_give_67 rfl ?_
          refine aw_iload_n dX11_give_68 rfl ?_
          refine aw_iload_n dX11_give_69 rfl ?_
          refine aw_callV3e dX11_give_70 cmX9_handOn cvX11_119 (tr_c0 hT) (Nat.le_of_ble_eq_true rfl) (tX9_handOn hT) (fun r n' h' hq => ?_)
          obtain ⟨rfl, rfl, hT, ho⟩ := hq
          have hC := hg_off hC ho (by omega) (by omega)
          have hA := tr_off hA ho (by omega)
          have hR := rd_off hR ho (by omega)
          have hW := wy_off hW ho (by omega)
          have hF := hF.trans (ho.wide (by omega) (by omega))
          refine aw_aload_n dX11_give_73 rfl ?_
          refine aw_get dX11_give_74 flX11_10 (hg_c0 hC) rfl ?_
          refine aw_iload_n dX11_give_77 rfl ?_
          refine aw_callV1p dX11_give_78 cmX9_piecesOf cvX11_113 (tr_c0 hT) (Nat.le_of_ble_eq_true rfl) (tX9_piecesOf hT) ?_
          exact aw_iret dX11_give_81 rfl (x_fin ((((if_neg c6).trans (if_neg c16)).trans (if_neg c36)).trans (if_pos c48)) hC hT hA hR hW hF)
        · refine aw_aload_n dX11_give_51 rfl ?_
          refine aw_callV0e dX11_give_52 cmX11_refuseNo cvX11_116 (hg_c0 hC) (Nat.le_of_ble_eq_true rfl) (tX11_refuseNo hC) (fun r n' h' hq => ?_)
          obtain ⟨rfl, rfl, hC, ho⟩ := hq
          have hT := tr_off hT ho (by omega)
          have hA := tr_off hA ho (by omega)
          have hR := rd_off hR ho (by omega)
          have hW := wy_off hW ho (by omega)
          have hF := hF.trans (ho.wide (by omega) (by omega))
          exact aw_iret dX11_give_55 rfl (x_fin ((((if_neg c6).trans (if_neg c16)).trans (if_neg c36)).trans (if_neg c48)) hC hT hA hR hW hF)
    · refine aw_aload_n dX11_give_19 rfl ?_
      refine aw_callV0e dX11_give_20 cmX11_refuseBad cvX11_55 (hg_c0 hC) (Nat.le_of_ble_eq_true rfl) (tX11_refuseBad hC) (fun r n' h' hq => ?_)
      obtain ⟨rfl, rfl, hC, ho⟩ := hq
      have hT := tr_off hT ho (by omega)
      have hA := tr_off hA ho (by omega)
      have hR := rd_off hR ho (by omega)
      have hW := wy_off hW ho (by omega)
      have hF := hF.trans (ho.wide (by omega) (by omega))
      exact aw_iret dX11_give_23 rfl (x_fin ((if_neg c6).trans (if_pos c16)) hC hT hA hR hW hF)
set_option maxHeartbeats 1000000 in
set_option maxRecDepth 100000 in
theorem tX11_day {l : Launch} {E : aw_E} {d n x : Nat} {h0 : ah} {g : Nat → Option Nat} {C : sT} {L : Nat → Int64} {T A R V : sT} (hX : is_x h0 x g (C, L, T, A, R, V)) : am l E mX11_day (d + 4) 0 0 [.ref x] n h0 (x_post n h0 x g (xDay C L T A R V)) := by
  refine am_of (by decide +kernel) (Nat.le_of_ble_eq_true rfl) ?_
  obtain ⟨hC, hT, hA, hR, hW⟩ := hX
  dsimp only at hC hT hA hR hW
  have hF : ah_off h0 h0 x 49 := ah_off.rf
  refine aw_aload_n dX11_day_0 rfl ?_
  refine aw_get dX11_day_1 flX11_10 (hg_c0 hC) rfl ?_
  refine aw_callV0e dX11_day_4 cmX9_keepStep cvX11_104 (tr_c0 hT) (Nat.le_of_ble_eq_true rfl) (tX9_keepStep hT) (fun r n' h' hq => ?_)
  obtain ⟨rfl, rfl, hT, ho⟩ := hq
  have hC := hg_off hC ho (by omega) (by omega)
  have hA := tr_off hA ho (by omega)
  have hR := rd_off hR ho (by omega)
  have hW := wy_off hW ho (by omega)
  have hF := hF.trans (ho.wide (by omega) (by omega))
  refine aw_aload_n dX11_day_7 rfl ?_
  refine aw_get dX11_day_8 flX11_10 (hg_c0 hC) rfl ?_
  refine aw_callV0e dX11_day_11 cmX9_passDay cvX11_123 (tr_c0 hT) (Nat.le_of_ble_eq_true rfl) (tX9_passDay hT) (fun r n' h' hq => ?_)
  obtain ⟨rfl, rfl, hT, ho⟩ := hq
  have hC := hg_off hC ho (by omega) (by omega)
  have hA := tr_off hA ho (by omega)
  have hR := rd_off hR ho (by omega)
  have hW := wy_off hW ho (by omega)
  have hF := hF.trans (ho.wide (by omega) (by omega))
  refine aw_aload_n dX11_day_14 rfl ?_
  refine aw_get dX11_day_15 flX11_10 (hg_c0 hC) rfl ?_
  refine aw_callV0p dX11_day_18 cmX9_today cvX11_126 (tr_c0 hT) (Nat.le_of_ble_eq_true rfl) (tX9_today hT) ?_
  exact aw_iret dX11_day_21 rfl (x_fin rfl hC hT hA hR hW hF)
set_option maxHeartbeats 1000000 in
set_option maxRecDepth 100000 in
theorem tX11_undo {l : Launch} {E : aw_E} {d n x : Nat} {h0 : ah} {g : Nat → Option Nat} {C : sT} {L : Nat → Int64} {T A R V : sT} (hX : is_x h0 x g (C, L, T, A, R, V)) : am l E mX11_undo (d + 3) 0 0 [.ref x] n h0 (x_post n h0 x g (xUndo C L T A R V)) := by
  refine am_of (by decide +kernel) (Nat.le_of_ble_eq_true rfl) ?_
  obtain ⟨hC, hT, hA, hR, hW⟩ := hX
  dsimp only at hC hT hA hR hW
  have hF : ah_off h0 h0 x 49 := ah_off.rf
  refine aw_aload_n dX11_undo_0 rfl ?_
  refine aw_get dX11_undo_1 flX11_10 (hg_c0 hC) rfl ?_
  refine aw_callV0p dX11_undo_4 cmX9_steps cvX11_129 (tr_c0 hT) (Nat.le_of_ble_eq_true rfl) (tX9_steps hT) ?_
  refine aw_if_ne (tgt := 15) dX11_undo_7 (by decide) (fun c7 => ?_) (fun c7 => ?_)
  · refine aw_aload_n dX11_undo_15 rfl ?_
    refine aw_get dX11_undo_16 flX11_10 (hg_c0 hC) rfl ?_
    refine aw_callV0e dX11_undo_19 cmX9_stepBack cvX11_132 (tr_c0 hT) (Nat.le_of_ble_eq_true rfl) (tX9_stepBack hT) (fun r n' h' hq => ?_)
    obtain ⟨rfl, rfl, hT, ho⟩ := hq
    have hC := hg_off hC ho (by omega) (by omega)
    have hA := tr_off hA ho (by omega)
    have hR := rd_off hR ho (by omega)
    have hW := wy_off hW ho (by omega)
    have hF := hF.trans (ho.wide (by omega) (by omega))
    refine aw_aload_n dX11_undo_22 rfl ?_
    refine aw_get dX11_undo_23 flX11_10 (hg_c0 hC) rfl ?_
    refine aw_callV0p dX11_undo_26 cmX9_today cvX11_126 (tr_c0 hT) (Nat.le_of_ble_eq_true rfl) (tX9_today hT) ?_
    exact aw_iret dX11_undo_29 rfl (x_fin (if_neg c7) hC hT hA hR hW hF)
  · refine aw_aload_n dX11_undo_10 rfl ?_
    refine aw_callV0e dX11_undo_11 cmX11_refuseNo cvX11_116 (hg_c0 hC) (Nat.le_of_ble_eq_true rfl) (tX11_refuseNo hC) (fun r n' h' hq => ?_)
    obtain ⟨rfl, rfl, hC, ho⟩ := hq
    have hT := tr_off hT ho (by omega)
    have hA := tr_off hA ho (by omega)
    have hR := rd_off hR ho (by omega)
    have hW := wy_off hW ho (by omega)
    have hF := hF.trans (ho.wide (by omega) (by omega))
    exact aw_iret dX11_undo_14 rfl (x_fin (if_pos c7) hC hT hA hR hW hF)
set_option maxHeartbeats 1000000 in
set_option maxRecDepth 100000 in
theorem tX11_of {l : Launch} {E : aw_E} {d n x : Nat} {h0 : ah} {g : Nat → Option Nat} {C : sT} {L : Nat → Int64} {T A R V : sT} (hX : is_x h0 x g (C, L, T, A, R, V)) {p w : Int32} : am l E mX11_of (d + 5) 0 0 [.ref x, .int p, .int w] n h0 (x_post n h0 x g (xOf C L T A R V p w)) := by
  refine am_of (by decide +kernel) (Nat.le_of_ble_eq_true rfl) ?_
  obtain ⟨hC, hT, hA, hR, hW⟩ := hX
  dsimp only at hC hT hA hR hW
  have hF : ah_off h0 h0 x 49 := ah_off.rf
  refine aw_aload_n dX11_of_0 rfl ?_
  refine aw_get dX11_of_1 flX11_10 (hg_c0 hC) rfl ?_
  refine aw_iload_n dX11_of_4 rfl ?_
  refine aw_callV1p dX11_of_5 cmX9_isThere cvX11_100 (tr_c0 hT) (Nat.le_of_ble_eq_true rfl) (tX9_isThere hT) ?_
  refine aw_if_ne (tgt := 16) dX11_of_8 (by decide) (fun c8 => ?_) (fun c8 => ?_)
  · refine aw_iload_n dX11_of_16 rfl ?_
    by_cases g0 : w = 0
    · refine aw_tableIn (off := 43) (tgt := 60) dX11_of_17 (by rw [g0]; decide) (by rw [g0]; decide) (by rw [g0]; rfl) (by decide) ?_
      refine aw_aload_n dX11_of_60 rfl ?_
      refine aw_get dX11_of_61 flX11_10 (hg_c0 hC) rfl ?_
      refine aw_iload_n dX11_of_64 rfl ?_
      refine aw_callV1p dX11_of_65 cmX9_kindOf cvX11_135 (tr_c0 hT) (Nat.le_of_ble_eq_true rfl) (tX9_kindOf hT) ?_
      exact aw_iret dX11_of_68 rfl (x_fin ((if_neg c8).trans (if_pos g0)) hC hT hA hR hW hF)
    · skip
      by_cases g1 : w = 1
      · refine aw_tableIn (off := 52) (tgt := 69) dX11_of_17 (by rw [g1]; decide) (by rw [g1]; decide) (by rw [g1]; rfl) (by decide) ?_
        refine aw_aload_n dX11_of_69 rfl ?_
        refine aw_get dX11_of_70 flX11_10 (hg_c0 hC) rfl ?_
        refine aw_iload_n dX11_of_73 rfl ?_
        refine aw_callV1p dX11_of_74 cmX9_honestyOf cvX11_110 (tr_c0 hT) (Nat.le_of_ble_eq_true rfl) (tX9_honestyOf hT) ?_
        exact aw_iret dX11_of_77 rfl (x_fin (((if_neg c8).trans (if_neg g0)).trans (if_pos g1)) hC hT hA hR hW hF)
      · skip
        by_cases g2 : w = 2
        · refine aw_tableIn (off := 61) (tgt := 78) dX11_of_17 (by rw [g2]; decide) (by rw [g2]; decide) (by rw [g2]; rfl) (by decide) ?_
          refine aw_aload_n dX11_of_78 rfl ?_
          refine aw_get dX11_of_79 flX11_10 (hg_c0 hC) rfl ?_
          refine aw_iload_n dX11_of_82 rfl ?_
          refine aw_callV1p dX11_of_83 cmX9_piecesOf cvX11_113 (tr_c0 hT) (Nat.le_of_ble_eq_true rfl) (tX9_piecesOf hT) ?_
          exact aw_iret dX11_of_86 rfl (x_fin ((((if_neg c8).trans (if_neg g0)).trans (if_neg g1)).trans (if_pos g2)) hC hT hA hR hW hF)
        · skip
          by_cases g3 : w = 3
          · refine aw_tableIn (off := 70) (tgt := 87) dX11_of_17 (by rw [g3]; decide) (by rw [g3]; decide) (by rw [g3]; rfl) (by decide) ?_
            refine aw_aload_n dX11_of_87 rfl ?_
            refine aw_get dX11_of_88 flX11_10 (hg_c0 hC) rfl ?_
            refine aw_iload_n dX11_of_91 rfl ?_
            refine aw_callV1p dX11_of_92 cmX9_payOf cvX11_138 (tr_c0 hT) (Nat.le_of_ble_eq_true rfl) (tX9_payOf hT) ?_
            exact aw_iret dX11_of_95 rfl (x_fin (((((if_neg c8).trans (if_neg g0)).trans (if_neg g1)).trans (if_neg g2)).trans (if_pos g3)) hC hT hA hR hW hF)
          · skip
            by_cases g4 : w = 4
            · refine aw_tableIn (off := 79) (tgt := 96) dX11_of_17 (by rw [g4]; decide) (by rw [g4]; decide) (by rw [g4]; rfl) (by decide) ?_
              refine aw_aload_n dX11_of_96 rfl ?_
              refine aw_get dX11_of_97 flX11_10 (hg_c0 hC) rfl ?_
              refine aw_iload_n dX11_of_100 rfl ?_
              refine aw_callV1p dX11_of_101 cmX9_liedOf cvX11_141 (tr_c0 hT) (Nat.le_of_ble_eq_true rfl) (tX9_liedOf hT) ?_
              exact aw_iret dX11_of_104 rfl (x_fin ((((((if_neg c8).trans (if_neg g0)).trans (if_neg g1)).trans (if_neg g2)).trans (if_neg g3)).trans (if_pos g4)) hC hT hA hR hW hF)
            · skip
              by_cases g5 : w = 5
              · refine aw_tableIn (off := 88) (tgt := 105) dX11_of_17 (by rw [g5]; decide) (by rw [g5]; decide) (by rw [g5]; rfl) (by decide) ?_
                refine aw_aload_n dX11_of_105 rfl ?_
                refine aw_get dX11_of_106 flX11_10 (hg_c0 hC) rfl ?_
                refine aw_iload_n dX11_of_109 rfl ?_
                refine aw_callV1p dX11_of_110 cmX9_handsOf cvX11_72 (tr_c0 hT) (Nat.le_of_ble_eq_true rfl) (tX9_handsOf hT) ?_
                exact aw_iret dX11_of_113 rfl (x_fin (((((((if_neg c8).trans (if_neg g0)).trans (if_neg g1)).trans (if_neg g2)).trans (if_neg g3)).trans (if_neg g4)).trans (if_pos g5)) hC hT hA hR hW hF)
              · skip
                by_cases g6 : w = 6
                · refine aw_tableIn (off := 97) (tgt := 114) dX11_of_17 (by rw [g6]; decide) (by rw [g6]; decide) (by rw [g6]; rfl) (by decide) ?_
                  refine aw_aload_n dX11_of_114 rfl ?_
                  refine aw_get dX11_of_115 flX11_10 (hg_c0 hC) rfl ?_
                  refine aw_iload_n dX11_of_118 rfl ?_
                  refine aw_callV1p dX11_of_119 cmX9_ownWeight cvX11_144 (tr_c0 hT) (Nat.le_of_ble_eq_true rfl) (tX9_ownWeight hT) ?_
                  exact aw_iret dX11_of_122 rfl (x_fin ((((((((if_neg c8).trans (if_neg g0)).trans (if_neg g1)).trans (if_neg g2)).trans (if_neg g3)).trans (if_neg g4)).trans (if_neg g5)).trans (if_pos g6)) hC hT hA hR hW hF)
                · skip
                  refine aw_tableOut (tgt := 123) dX11_of_17 (tbl_out 6 (by decide) (fun j hj => by rcases (show j = 0 ∨ j = 1 ∨ j = 2 ∨ j = 3 ∨ j = 4 ∨ j = 5 ∨ j = 6 by omega) with rfl | rfl | rfl | rfl | rfl | rfl | rfl <;> assumption)) (by decide) ?_
                  refine aw_aload_n dX11_of_123 rfl ?_
                  refine aw_callV0e dX11_of_124 cmX11_refuseBad cvX11_55 (hg_c0 hC) (Nat.le_of_ble_eq_true rfl) (tX11_refuseBad hC) (fun r n' h' hq => ?_)
                  obtain ⟨rfl, rfl, hC, ho⟩ := hq
                  have hT := tr_off hT ho (by omega)
                  have hA := tr_off hA ho (by omega)
                  have hR := rd_off hR ho (by omega)
                  have hW := wy_off hW ho (by omega)
                  have hF := hF.trans (ho.wide (by omega) (by omega))
                  exact aw_iret dX11_of_127 rfl (x_fin ((((((((if_neg c8).trans (if_neg g0)).trans (if_neg g1)).trans (if_neg g2)).trans (if_neg g3)).trans (if_neg g4)).trans (if_neg g5)).trans (if_neg g6)) hC hT hA hR hW hF)
  · refine aw_aload_n dX11_of_11 rfl ?_
    refine aw_callV0e dX11_of_12 cmX11_refuseBad cvX11_55 (hg_c0 hC) (Nat.le_of_ble_eq_true rfl) (tX11_refuseBad hC) (fun r n' h' hq => ?_)
    obtain ⟨rfl, rfl, hC, ho⟩ := hq
    have hT := tr_off hT ho (by omega)
    have hA := tr_off hA ho (by omega)
    have hR := rd_off hR ho (by omega)
    have hW := wy_off hW ho (by omega)
    have hF := hF.trans (ho.wide (by omega) (by omega))
    exact aw_iret dX11_of_15 rfl (x_fin (if_pos c8) hC hT hA hR hW hF)
set_option maxHeartbeats 1000000 in
set_option maxRecDepth 100000 in
theorem tX11_weighs {l : Launch} {E : aw_E} {d n x : Nat} {h0 : ah} {g : Nat → Option Nat} {C : sT} {L : Nat → Int64} {T A R V : sT} (hX : is_x h0 x g (C, L, T, A, R, V)) {p m : Int32} : am l E mX11_weighs (d + 4) 0 0 [.ref x, .int p, .int m] n h0 (x_post n h0 x g (xWeighs C L T A R V p m)) := by
  refine am_of (by decide +kernel) (Nat.le_of_ble_eq_true rfl) ?_
  obtain ⟨hC, hT, hA, hR, hW⟩ := hX
  dsimp only at hC hT hA hR hW
  have hF : ah_off h0 h0 x 49 := ah_off.rf
  refine aw_aload_n dX11_weighs_0 rfl ?_
  refine aw_get dX11_weighs_1 flX11_10 (hg_c0 hC) rfl ?_
  refine aw_iload_n dX11_weighs_4 rfl ?_
  refine aw_callV1p dX11_weighs_5 cmX9_isThere cvX11_100 (tr_c0 hT) (Nat.le_of_ble_eq_true rfl) (tX9_isThere hT) ?_
  refine aw_if_eq (tgt := 21) dX11_weighs_8 (by decide) (fun c8 => ?_) (fun c8 => ?_)
  · refine aw_aload_n dX11_weighs_21 rfl ?_
    refine aw_callV0e dX11_weighs_22 cmX11_refuseBad cvX11_55 (hg_c0 hC) (Nat.le_of_ble_eq_true rfl) (tX11_refuseBad hC) (fun r n' h' hq => ?_)
    obtain ⟨rfl, rfl, hC, ho⟩ := hq
    have hT := tr_off hT ho (by omega)
    have hA := tr_off hA ho (by omega)
    have hR := rd_off hR ho (by omega)
    have hW := wy_off hW ho (by omega)
    have hF := hF.trans (ho.wide (by omega) (by omega))
    exact aw_iret dX11_weighs_25 rfl (x_fin (if_pos c8) hC hT hA hR hW hF)
  · refine aw_iload_n dX11_weighs_11 rfl ?_
    refine aw_iconst (v := 0) dX11_weighs_12 (by decide) ?_
    refine aw_bipush (v := 99) dX11_weighs_13 (by decide) ?_
    refine aw_callS3p dX11_weighs_15 cmX11_within csX11_51 (Nat.le_of_ble_eq_true rfl) tX11_within ?_
    refine aw_if_ne (tgt := 26) dX11_weighs_18 (by decide) (fun c18 => ?_) (fun c18 => ?_)
    · refine aw_aload_n dX11_weighs_26 rfl ?_
      refine aw_get dX11_weighs_27 flX11_10 (hg_c0 hC) rfl ?_
      refine aw_iload_n dX11_weighs_30 rfl ?_
      refine aw_iload_n dX11_weighs_31 rfl ?_
      refine aw_callV2p dX11_weighs_32 cmX9_weightWith cvX11_147 (tr_c0 hT) (Nat.le_of_ble_eq_true rfl) (tX9_weightWith hT) ?_
      exact aw_iret dX11_weighs_35 rfl (x_fin ((if_neg c8).trans (if_neg c18)) hC hT hA hR hW hF)
    · refine aw_aload_n dX11_weighs_21 rfl ?_
      refine aw_callV0e dX11_weighs_22 cmX11_refuseBad cvX11_55 (hg_c0 hC) (Nat.le_of_ble_eq_true rfl) (tX11_refuseBad hC) (fun r n' h' hq => ?_)
      obtain ⟨rfl, rfl, hC, ho⟩ := hq
      have hT := tr_off hT ho (by omega)
      have hA := tr_off hA ho (by omega)
      have hR := rd_off hR ho (by omega)
      have hW := wy_off hW ho (by omega)
      have hF := hF.trans (ho.wide (by omega) (by omega))
      exact aw_iret dX11_weighs_25 rfl (x_fin ((if_neg c8).trans (if_pos c18)) hC hT hA hR hW hF)
set_option maxHeartbeats 1000000 in
set_option maxRecDepth 100000 in
theorem tX11_all {l : Launch} {E : aw_E} {d n x : Nat} {h0 : ah} {g : Nat → Option Nat} {C : sT} {L : Nat → Int64} {T A R V : sT} (hX : is_x h0 x g (C, L, T, A, R, V)) : am l E mX11_all (d + 6) 0 0 [.ref x] n h0 (x_post n h0 x g (xAll C L T A R V)) := by
  refine am_of (by decide +kernel) (Nat.le_of_ble_eq_true rfl) ?_
  obtain ⟨hC, hT, hA, hR, hW⟩ := hX
  dsimp only at hC hT hA hR hW
  have hF : ah_off h0 h0 x 49 := ah_off.rf
  refine aw_aload_n dX11_all_0 rfl ?_
  refine aw_get dX11_all_1 flX11_10 (hg_c0 hC) rfl ?_
  refine aw_callV0p dX11_all_4 cmX9_allWeight cvX11_151 (tr_c0 hT) (Nat.le_of_ble_eq_true rfl) (tX9_allWeight hT) ?_
  exact aw_iret dX11_all_7 rfl (x_fin rfl hC hT hA hR hW hF)
set_option maxHeartbeats 1000000 in
set_option maxRecDepth 100000 in
theorem tX11_when {l : Launch} {E : aw_E} {d n x : Nat} {h0 : ah} {g : Nat → Option Nat} {C : sT} {L : Nat → Int64} {T A R V : sT} (hX : is_x h0 x g (C, L, T, A, R, V)) {p w : Int32} : am l E mX11_when (d + 5) 0 0 [.ref x, .int p, .int w] n h0 (x_post n h0 x g (xWhen C L T A R V p w)) := by
  refine am_of (by decide +kernel) (Nat.le_of_ble_eq_true rfl) ?_
  obtain ⟨hC, hT, hA, hR, hW⟩ := hX
  dsimp only at hC hT hA hR hW
  have hF : ah_off h0 h0 x 49 := ah_off.rf
  refine aw_aload_n dX11_when_0 rfl ?_
  refine aw_get dX11_when_1 flX11_10 (hg_c0 hC) rfl ?_
  refine aw_iload_n dX11_when_4 rfl ?_
  refine aw_callV1p dX11_when_5 cmX9_isThere cvX11_100 (tr_c0 hT) (Nat.le_of_ble_eq_true rfl) (tX9_isThere hT) ?_
  refine aw_if_eq (tgt := 22) dX11_when_8 (by decide) (fun c8 => ?_) (fun c8 => ?_)
  · refine aw_aload_n dX11_when_22 rfl ?_
    refine aw_callV0e dX11_when_23 cmX11_refuseBad cvX11_55 (hg_c0 hC) (Nat.le_of_ble_eq_true rfl) (tX11_refuseBad hC) (fun r n' h' hq => ?_)
    obtain ⟨rfl, rfl, hC, ho⟩ := hq
    have hT := tr_off hT ho (by omega)
    have hA := tr_off hA ho (by omega)
    have hR := rd_off hR ho (by omega)
    have hW := wy_off hW ho (by omega)
    have hF := hF.trans (ho.wide (by omega) (by omega))
    exact aw_iret dX11_when_26 rfl (x_fin (if_pos c8) hC hT hA hR hW hF)
  · refine aw_iload_n dX11_when_11 rfl ?_
    refine aw_iconst (v := 0) dX11_when_12 (by decide) ?_
    refine aw_sipush (v := 999) dX11_when_13 (by decide) ?_
    refine aw_callS3p dX11_when_16 cmX11_within csX11_51 (Nat.le_of_ble_eq_true rfl) tX11_within ?_
    refine aw_if_ne (tgt := 27) dX11_when_19 (by decide) (fun c19 => ?_) (fun c19 => ?_)
    · refine aw_aload_n dX11_when_27 rfl ?_
      refine aw_get dX11_when_28 flX11_10 (hg_c0 hC) rfl ?_
      refine aw_iload_n dX11_when_31 rfl ?_
      refine aw_iload_n dX11_when_32 rfl ?_
      refine aw_callV2p dX11_when_33 cmX9_daysUntil cvX11_154 (tr_c0 hT) (Nat.le_of_ble_eq_true rfl) (tX9_daysUntil hT) ?_
      exact aw_iret dX11_when_36 rfl (x_fin ((if_neg c8).trans (if_neg c19)) hC hT hA hR hW hF)
    · refine aw_aload_n dX11_when_22 rfl ?_
      refine aw_callV0e dX11_when_23 cmX11_refuseBad cvX11_55 (hg_c0 hC) (Nat.le_of_ble_eq_true rfl) (tX11_refuseBad hC) (fun r n' h' hq => ?_)
      obtain ⟨rfl, rfl, hC, ho⟩ := hq
      have hT := tr_off hT ho (by omega)
      have hA := tr_off hA ho (by omega)
      have hR := rd_off hR ho (by omega)
      have hW := wy_off hW ho (by omega)
      have hF := hF.trans (ho.wide (by omega) (by omega))
      exact aw_iret dX11_when_26 rfl (x_fin ((if_neg c8).trans (if_pos c19)) hC hT hA hR hW hF)
set_option maxHeartbeats 1000000 in
set_option maxRecDepth 100000 in
theorem tX11_debt {l : Launch} {E : aw_E} {d n x : Nat} {h0 : ah} {g : Nat → Option Nat} {C : sT} {L : Nat → Int64} {T A R V : sT} (hX : is_x h0 x g (C, L, T, A, R, V)) {p w : Int32} : am l E mX11_debt (d + 5) 0 0 [.ref x, .int p, .int w] n h0 (x_post n h0 x g (xDebt C L T A R V p w)) := by
  refine am_of (by decide +kernel) (Nat.le_of_ble_eq_true rfl) ?_
  obtain ⟨hC, hT, hA, hR, hW⟩ := hX
  dsimp only at hC hT hA hR hW
  have hF : ah_off h0 h0 x 49 := ah_off.rf
  refine aw_aload_n dX11_debt_0 rfl ?_
  refine aw_get dX11_debt_1 flX11_10 (hg_c0 hC) rfl ?_
  refine aw_iload_n dX11_debt_4 rfl ?_
  refine aw_callV1p dX11_debt_5 cmX9_isThere cvX11_100 (tr_c0 hT) (Nat.le_of_ble_eq_true rfl) (tX9_isThere hT) ?_
  refine aw_if_eq (tgt := 22) dX11_debt_8 (by decide) (fun c8 => ?_) (fun c8 => ?_)
  · refine aw_aload_n dX11_debt_22 rfl ?_
    refine aw_callV0e dX11_debt_23 cmX11_refuseBad cvX11_55 (hg_c0 hC) (Nat.le_of_ble_eq_true rfl) (tX11_refuseBad hC) (fun r n' h' hq => ?_)
    obtain ⟨rfl, rfl, hC, ho⟩ := hq
    have hT := tr_off hT ho (by omega)
    have hA := tr_off hA ho (by omega)
    have hR := rd_off hR ho (by omega)
    have hW := wy_off hW ho (by omega)
    have hF := hF.trans (ho.wide (by omega) (by omega))
    exact aw_iret dX11_debt_26 rfl (x_fin (if_pos c8) hC hT hA hR hW hF)
  · refine aw_iload_n dX11_debt_11 rfl ?_
    refine aw_iconst (v := 0) dX11_debt_12 (by decide) ?_
    refine aw_sipush (v := 999) dX11_debt_13 (by decide) ?_
    refine aw_callS3p dX11_debt_16 cmX11_within csX11_51 (Nat.le_of_ble_eq_true rfl) tX11_within ?_
    refine aw_if_ne (tgt := 27) dX11_debt_19 (by decide) (fun c19 => ?_) (fun c19 => ?_)
    · refine aw_aload_n dX11_debt_27 rfl ?_
      refine aw_get dX11_debt_28 flX11_10 (hg_c0 hC) rfl ?_
      refine aw_iload_n dX11_debt_31 rfl ?_
      refine aw_iload_n dX11_debt_32 rfl ?_
      refine aw_callV2p dX11_debt_33 cmX9_fewestPieces cvX11_165 (tr_c0 hT) (Nat.le_of_ble_eq_true rfl) (tX9_fewestPieces hT) ?_
      exact aw_iret dX11_debt_36 rfl (x_fin ((if_neg c8).trans (if_neg c19)) hC hT hA hR hW hF)
    · refine aw_aload_n dX11_debt_22 rfl ?_
      refine aw_callV0e dX11_debt_23 cmX11_refuseBad cvX11_55 (hg_c0 hC) (Nat.le_of_ble_eq_true rfl) (tX11_refuseBad hC) (fun r n' h' hq => ?_)
      obtain ⟨rfl, rfl, hC, ho⟩ := hq
      have hT := tr_off hT ho (by omega)
      have hA := tr_off hA ho (by omega)
      have hR := rd_off hR ho (by omega)
      have hW := wy_off hW ho (by omega)
      have hF := hF.trans (ho.wide (by omega) (by omega))
      exact aw_iret dX11_debt_26 rfl (x_fin ((if_neg c8).trans (if_pos c19)) hC hT hA hR hW hF)
set_option maxHeartbeats 1000000 in
set_option maxRecDepth 100000 in
theorem tX11_bag {l : Launch} {E : aw_E} {d n x : Nat} {h0 : ah} {g : Nat → Option Nat} {C : sT} {L : Nat → Int64} {T A R V : sT} (hX : is_x h0 x g (C, L, T, A, R, V)) {p q m i : Int32} : am l E mX11_bag (d + 6) 0 0 [.ref x, .int p, .int q, .int m, .int i] n h0 (x_post n h0 x g (xBag C L T A R V p q m i)) := by
  refine am_of (by decide +kernel) (Nat.le_of_ble_eq_true rfl) ?_
  obtain ⟨hC, hT, hA, hR, hW⟩ := hX
  dsimp only at hC hT hA hR hW
  have hF : ah_off h0 h0 x 49 := ah_off.rf
  refine aw_aload_n dX11_bag_0 rfl ?_
  refine aw_iload_n dX11_bag_1 rfl ?_
  refine aw_iload_n dX11_bag_2 rfl ?_
  refine aw_callV2p dX11_bag_3 cmX11_twoOfThem cvX11_68 (hg_c0 hC) (Nat.le_of_ble_eq_true rfl) (tX11_twoOfThem hC hT) ?_
  refine aw_if_eq (tgt := 25) dX11_bag_6 (by decide) (fun c6 => ?_) (fun c6 => ?_)
  · refine aw_aload_n dX11_bag_25 rfl ?_
    refine aw_callV0e dX11_bag_26 cmX11_refuseBad cvX11_55 (hg_c0 hC) (Nat.le_of_ble_eq_true rfl) (tX11_refuseBad hC) (fun r n' h' hq => ?_)
    obtain ⟨rfl, rfl, hC, ho⟩ := hq
    have hT := tr_off hT ho (by omega)
    have hA := tr_off hA ho (by omega)
    have hR := rd_off hR ho (by omega)
    have hW := wy_off hW ho (by omega)
    have hF := hF.trans (ho.wide (by omega) (by omega))
    refine aw_pop dX11_bag_29 rfl ?_
    refine aw_bipush (v := -10) dX11_bag_30 (by decide) ?_
    exact aw_iret dX11_bag_32 rfl (x_fin (if_pos c6) hC hT hA hR hW hF)
  · refine aw_iload_n dX11_bag_9 rfl ?_
    refine aw_iconst (v := 0) dX11_bag_10 (by decide) ?_
    refine aw_bipush (v := 99) dX11_bag_11 (by decide) ?_
    refine aw_callS3p dX11_bag_13 cmX11_within csX11_51 (Nat.le_of_ble_eq_true rfl) tX11_within ?_
    refine aw_if_eq (tgt := 25) dX11_bag_16 (by decide) (fun c16 => ?_) (fun c16 => ?_)
    · refine aw_aload_n dX11_bag_25 rfl ?_
      refine aw_callV0e dX11_bag_26 cmX11_refuseBad cvX11_55 (hg_c0 hC) (Nat.le_of_ble_eq_true rfl) (tX11_refuseBad hC) (fun r n' h' hq => ?_)
      obtain ⟨rfl, rfl, hC, ho⟩ := hq
      have hT := tr_off hT ho (by omega)
      have hA := tr_off hA ho (by omega)
      have hR := rd_off hR ho (by omega)
      have hW := wy_off hW ho (by omega)
      have hF := hF.trans (ho.wide (by omega) (by omega))
      refine aw_pop dX11_bag_29 rfl ?_
      refine aw_bipush (v := -10) dX11_bag_30 (by decide) ?_
      exact aw_iret dX11_bag_32 rfl (x_fin ((if_neg c6).trans (if_pos c16)) hC hT hA hR hW hF)
    · refine aw_iload dX11_bag_19 rfl ?_
      refine aw_iconst (v := -1) dX11_bag_21 (by decide) ?_
      refine aw_icmp_ge (tgt := 33) dX11_bag_22 (by decide) (fun c22 => ?_) (fun c22 => ?_)
      · refine aw_aload_n dX11_bag_33 rfl ?_
        refine aw_get dX11_bag_34 flX11_33 (hg_c0 hC) rfl ?_
        refine aw_aload_n dX11_bag_37 rfl ?_
        refine aw_get dX11_bag_38 flX11_10 (hg_c0 hC) rfl ?_
        refine aw_iload_n dX11_bag_41 rfl ?_
        refine aw_iload_n dX11_bag_42 rfl ?_
        refine aw_iload_n dX11_bag_43 rfl ?_
        refine aw_callV4e dX11_bag_44 cmX10_carry cvX11_157 (wy_c0 hW) (Nat.le_of_ble_eq_true rfl) (tX10_carry hW hT (by omega)) (fun r n' h' hq => ?_)
        obtain ⟨rfl, rfl, hW, ho⟩ := hq
        have hC := hg_off hC ho (by omega) (by omega)
        have hT := tr_off hT ho (by omega)
        have hA := tr_off hA ho (by omega)
        have hR := rd_off hR ho (by omega)
        have hF := hF.trans (ho.wide (by omega) (by omega))
        refine aw_istore dX11_bag_47 (by decide) ?_
        refine aw_iload dX11_bag_49 rfl ?_
        refine aw_iconst (v := -1) dX11_bag_51 (by decide) ?_
        refine aw_icmp_eq (tgt := 61) dX11_bag_52 (by decide) (fun c52 => ?_) (fun c52 => ?_)
        · refine aw_iload dX11_bag_61 rfl ?_
          exact aw_iret dX11_bag_63 rfl (x_fin ((((if_neg c6).trans (if_neg c16)).trans (if_pos c22)).trans (if_pos c52)) hC hT hA hR hW hF)
        · refine aw_iload dX11_bag_55 rfl ?_
          refine aw_iconst (v := -1) dX11_bag_57 (by decide) ?_
          refine aw_icmp_ne (tgt := 64) dX11_bag_58 (by decide) (fun c58 => ?_) (fun c58 => ?_)
          · refine aw_aload_n dX11_bag_64 rfl ?_
            refine aw_get dX11_bag_65 flX11_33 (hg_c0 hC) rfl ?_
            refine aw_aload_n dX11_bag_68 rfl ?_
            refine aw_get dX11_bag_69 flX11_10 (hg_c0 hC) rfl ?_
            refine aw_iload_n dX11_bag_72 rfl ?_
            refine aw_iload dX11_bag_73 rfl ?_
            refine aw_callV3p dX11_bag_75 cmX10_handAt cvX11_161 (wy_c0 hW) (Nat.le_of_ble_eq_true rfl) (tX10_handAt hW hT) ?_
            exact aw_iret dX11_bag_78 rfl (x_fin (((((if_neg c6).trans (if_neg c16)).trans (if_pos c22)).trans (if_neg c52)).trans (if_neg c58)) hC hT hA hR hW hF)
          · refine aw_iload dX11_bag_61 rfl ?_
            exact aw_iret dX11_bag_63 rfl (x_fin (((((if_neg c6).trans (if_neg c16)).trans (if_pos c22)).trans (if_neg c52)).trans (if_pos c58)) hC hT hA hR hW hF)
      · refine aw_aload_n dX11_bag_25 rfl ?_
        refine aw_callV0e dX11_bag_26 cmX11_refuseBad cvX11_55 (hg_c0 hC) (Nat.le_of_ble_eq_true rfl) (tX11_refuseBad hC) (fun r n' h' hq => ?_)
        obtain ⟨rfl, rfl, hC, ho⟩ := hq
        have hT := tr_off hT ho (by omega)
        have hA := tr_off hA ho (by omega)
        have hR := rd_off hR ho (by omega)
        have hW := wy_off hW ho (by omega)
        have hF := hF.trans (ho.wide (by omega) (by omega))
        refine aw_pop dX11_bag_29 rfl ?_
        refine aw_bipush (v := -10) dX11_bag_30 (by decide) ?_
        exact aw_iret dX11_bag_32 rfl (x_fin (((if_neg c6).trans (if_neg c16)).trans (if_neg c22)) hC hT hA hR hW hF)
set_option maxHeartbeats 1000000 in
set_option maxRecDepth 100000 in
theorem tX11_hire {l : Launch} {E : aw_E} {d n x : Nat} {h0 : ah} {g : Nat → Option Nat} {C : sT} {L : Nat → Int64} {T A R V : sT} (hX : is_x h0 x g (C, L, T, A, R, V)) {b m w : Int32} : am l E mX11_hire (d + 6) 0 0 [.ref x, .int b, .int m, .int w] n h0 (x_post n h0 x g (xHire C L T A R V b m w)) := by
  refine am_of (by decide +kernel) (Nat.le_of_ble_eq_true rfl) ?_
  obtain ⟨hC, hT, hA, hR, hW⟩ := hX
  dsimp only at hC hT hA hR hW
  have hF : ah_off h0 h0 x 49 := ah_off.rf
  refine aw_iload_n dX11_hire_0 rfl ?_
  refine aw_iconst (v := 0) dX11_hire_1 (by decide) ?_
  refine aw_bipush (v := 120) dX11_hire_2 (by decide) ?_
  refine aw_callS3p dX11_hire_4 cmX11_within csX11_51 (Nat.le_of_ble_eq_true rfl) tX11_within ?_
  refine aw_if_eq (tgt := 29) dX11_hire_7 (by decide) (fun c7 => ?_) (fun c7 => ?_)
  · refine aw_aload_n dX11_hire_29 rfl ?_
    refine aw_callV0e dX11_hire_30 cmX11_refuseBad cvX11_55 (hg_c0 hC) (Nat.le_of_ble_eq_true rfl) (tX11_refuseBad hC) (fun r n' h' hq => ?_)
    obtain ⟨rfl, rfl, hC, ho⟩ := hq
    have hT := tr_off hT ho (by omega)
    have hA := tr_off hA ho (by omega)
    have hR := rd_off hR ho (by omega)
    have hW := wy_off hW ho (by omega)
    have hF := hF.trans (ho.wide (by omega) (by omega))
    exact aw_iret dX11_hire_33 rfl (x_fin (if_pos c7) hC hT hA hR hW hF)
  · refine aw_iload_n dX11_hire_10 rfl ?_
    refine aw_iconst (v := 0) dX11_hire_11 (by decide) ?_
    refine aw_bipush (v := 99) dX11_hire_12 (by decide) ?_
    refine aw_callS3p dX11_hire_14 cmX11_within csX11_51 (Nat.le_of_ble_eq_true rfl) tX11_within ?_
    refine aw_if_eq (tgt := 29) dX11_hire_17 (by decide) (fun c17 => ?_) (fun c17 => ?_)
    · refine aw_aload_n dX11_hire_29 rfl ?_
      refine aw_callV0e dX11_hire_30 cmX11_refuseBad cvX11_55 (hg_c0 hC) (Nat.le_of_ble_eq_true rfl) (tX11_refuseBad hC) (fun r n' h' hq => ?_)
      obtain ⟨rfl, rfl, hC, ho⟩ := hq
      have hT := tr_off hT ho (by omega)
      have hA := tr_off hA ho (by omega)
      have hR := rd_off hR ho (by omega)
      have hW := wy_off hW ho (by omega)
      have hF := hF.trans (ho.wide (by omega) (by omega))
      exact aw_iret dX11_hire_33 rfl (x_fin ((if_neg c7).trans (if_pos c17)) hC hT hA hR hW hF)
    · refine aw_iload_n dX11_hire_20 rfl ?_
      refine aw_iconst (v := 0) dX11_hire_21 (by decide) ?_
      refine aw_iconst (v := 1) dX11_hire_22 (by decide) ?_
      refine aw_callS3p dX11_hire_23 cmX11_within csX11_51 (Nat.le_of_ble_eq_true rfl) tX11_within ?_
      refine aw_if_ne (tgt := 34) dX11_hire_26 (by decide) (fun c26 => ?_) (fun c26 => ?_)
      · refine aw_aload_n dX11_hire_34 rfl ?_
        refine aw_get dX11_hire_35 flX11_33 (hg_c0 hC) rfl ?_
        refine aw_aload_n dX11_hire_38 rfl ?_
        refine aw_get dX11_hire_39 flX11_10 (hg_c0 hC) rfl ?_
        refine aw_iload_n dX11_hire_42 rfl ?_
        refine aw_iload_n dX11_hire_43 rfl ?_
        refine aw_callV3e dX11_hire_44 cmX10_weighers cvX11_168 (wy_c0 hW) (Nat.le_of_ble_eq_true rfl) (tX10_weighers hW hT (by omega)) (fun r n' h' hq => ?_)
        obtain ⟨rfl, rfl, hW, ho⟩ := hq
        have hC := hg_off hC ho (by omega) (by omega)
        have hT := tr_off hT ho (by omega)
        have hA := tr_off hA ho (by omega)
        have hR := rd_off hR ho (by omega)
        have hF := hF.trans (ho.wide (by omega) (by omega))
        refine aw_istore dX11_hire_47 (by decide) ?_
        refine aw_iload_n dX11_hire_49 rfl ?_
        refine aw_if_ne (tgt := 58) dX11_hire_50 (by decide) (fun c50 => ?_) (fun c50 => ?_)
        · refine aw_aload_n dX11_hire_58 rfl ?_
          refine aw_get dX11_hire_59 flX11_33 (hg_c0 hC) rfl ?_
          refine aw_iload dX11_hire_62 rfl ?_
          refine aw_callV1p dX11_hire_64 cmX10_weightTogether cvX11_171 (wy_c0 hW) (Nat.le_of_ble_eq_true rfl) (tX10_weightTogether hW) ?_
          exact aw_iret dX11_hire_67 rfl (x_fin ((((if_neg c7).trans (if_neg c17)).trans (if_neg c26)).trans (if_neg c50)) hC hT hA hR hW hF)
        · refine aw_iload dX11_hire_53 rfl ?_
          refine aw_goto (tgt := 67) dX11_hire_55 (by decide) ?_
          exact aw_iret dX11_hire_67 rfl (x_fin ((((if_neg c7).trans (if_neg c17)).trans (if_neg c26)).trans (if_pos c50)) hC hT hA hR hW hF)
      · refine aw_aload_n dX11_hire_29 rfl ?_
        refine aw_callV0e dX11_hire_30 cmX11_refuseBad cvX11_55 (hg_c0 hC) (Nat.le_of_ble_eq_true rfl) (tX11_refuseBad hC) (fun r n' h' hq => ?_)
        obtain ⟨rfl, rfl, hC, ho⟩ := hq
        have hT := tr_off hT ho (by omega)
        have hA := tr_off hA ho (by omega)
        have hR := rd_off hR ho (by omega)
        have hW := wy_off hW ho (by omega)
        have hF := hF.trans (ho.wide (by omega) (by omega))
        exact aw_iret dX11_hire_33 rfl (x_fin (((if_neg c7).trans (if_neg c17)).trans (if_pos c26)) hC hT hA hR hW hF)
theorem trIs_pos {T : sT} {p : Int32} (h : ¬ trIs T p = 0) : ¬ p < 0 := by
  intro q
  exact h (if_pos q)
set_option maxHeartbeats 1000000 in
set_option maxRecDepth 100000 in
theorem tX11_shelves {l : Launch} {E : aw_E} {d n x : Nat} {h0 : ah} {g : Nat → Option Nat} {C : sT} {L : Nat → Int64} {T A R V : sT} (hX : is_x h0 x g (C, L, T, A, R, V)) {a c p : Int32} {m : Nat} (hb : T 10 0 = nI m) (hm : m ≤ 6) : am l E mX11_shelves (d + 6) 0 0 [.ref x, .int a, .int c, .int p] n h0 (x_post n h0 x g (xShelves C L T A R V a c p m)) := by
  refine am_of (by decide +kernel) (Nat.le_of_ble_eq_true rfl) ?_
  obtain ⟨hC, hT, hA, hR, hW⟩ := hX
  dsimp only at hC hT hA hR hW
  have hF : ah_off h0 h0 x 49 := ah_off.rf
  refine aw_iload_n dX11_shelves_0 rfl ?_
  refine aw_iconst (v := 0) dX11_shelves_1 (by decide) ?_
  refine aw_bipush (v := 20) dX11_shelves_2 (by decide) ?_
  refine aw_callS3p dX11_shelves_4 cmX11_within csX11_51 (Nat.le_of_ble_eq_true rfl) tX11_within ?_
  refine aw_if_eq (tgt := 36) dX11_shelves_7 (by decide) (fun c7 => ?_) (fun c7 => ?_)
  · refine aw_aload_n dX11_shelves_36 rfl ?_
    refine aw_callV0e dX11_shelves_37 cmX11_refuseBad cvX11_55 (hg_c0 hC) (Nat.le_of_ble_eq_true rfl) (tX11_refuseBad hC) (fun r n' h' hq => ?_)
    obtain ⟨rfl, rfl, hC, ho⟩ := hq
    have hT := tr_off hT ho (by omega)
    have hA := tr_off hA ho (by omega)
    have hR := rd_off hR ho (by omega)
    have hW := wy_off hW ho (by omega)
    have hF := hF.trans (ho.wide (by omega) (by omega))
    refine aw_pop dX11_shelves_40 rfl ?_
    refine aw_bipush (v := -10) dX11_shelves_41 (by decide) ?_
    exact aw_iret dX11_shelves_43 rfl (x_fin (if_pos c7) hC hT hA hR hW hF)
  · refine aw_iload_n dX11_shelves_10 rfl ?_
    refine aw_iconst (v := 0) dX11_shelves_11 (by decide) ?_
    refine aw_bipush (v := 9) dX11_shelves_12 (by decide) ?_
    refine aw_callS3p dX11_shelves_14 cmX11_within csX11_51 (Nat.le_of_ble_eq_true rfl) tX11_within ?_
    refine aw_if_eq (tgt := 36) dX11_shelves_17 (by decide) (fun c17 => ?_) (fun c17 => ?_)
    · refine aw_aload_n dX11_shelves_36 rfl ?_
      refine aw_callV0e dX11_shelves_37 cmX11_refuseBad cvX11_55 (hg_c0 hC) (Nat.le_of_ble_eq_true rfl) (tX11_refuseBad hC) (fun r n' h' hq => ?_)
      obtain ⟨rfl, rfl, hC, ho⟩ := hq
      have hT := tr_off hT ho (by omega)
      have hA := tr_off hA ho (by omega)
      have hR := rd_off hR ho (by omega)
      have hW := wy_off hW ho (by omega)
      have hF := hF.trans (ho.wide (by omega) (by omega))
      refine aw_pop dX11_shelves_40 rfl ?_
      refine aw_bipush (v := -10) dX11_shelves_41 (by decide) ?_
      exact aw_iret dX11_shelves_43 rfl (x_fin ((if_neg c7).trans (if_pos c17)) hC hT hA hR hW hF)
    · refine aw_iload_n dX11_shelves_20 rfl ?_
      refine aw_iconst (v := -1) dX11_shelves_21 (by decide) ?_
      refine aw_icmp_eq (tgt := 44) dX11_shelves_22 (by decide) (fun c22 => ?_) (fun c22 => ?_)
      · refine aw_aload_n dX11_shelves_44 rfl ?_
        refine aw_get dX11_shelves_45 flX11_33 (hg_c0 hC) rfl ?_
        refine aw_aload_n dX11_shelves_48 rfl ?_
        refine aw_get dX11_shelves_49 flX11_10 (hg_c0 hC) rfl ?_
        refine aw_iload_n dX11_shelves_52 rfl ?_
        refine aw_iload_n dX11_shelves_53 rfl ?_
        refine aw_callV3e dX11_shelves_54 cmX10_shelve cvX11_174 (wy_c0 hW) (Nat.le_of_ble_eq_true rfl) (tX10_shelve hW hT (by omega) hb hm) (fun r n' h' hq => ?_)
        obtain ⟨rfl, rfl, hW, ho⟩ := hq
        have hC := hg_off hC ho (by omega) (by omega)
        have hT := tr_off hT ho (by omega)
        have hA := tr_off hA ho (by omega)
        have hR := rd_off hR ho (by omega)
        have hF := hF.trans (ho.wide (by omega) (by omega))
        refine aw_istore dX11_shelves_57 (by decide) ?_
        refine aw_iload_n dX11_shelves_59 rfl ?_
        refine aw_iconst (v := -1) dX11_shelves_60 (by decide) ?_
        refine aw_icmp_ne (tgt := 69) dX11_shelves_61 (by decide) (fun c61 => ?_) (fun c61 => ?_)
        · exact absurd c22 c61
        · refine aw_iload dX11_shelves_64 rfl ?_
          refine aw_goto (tgt := 84) dX11_shelves_66 (by decide) ?_
          exact aw_iret dX11_shelves_84 rfl (x_fin ((((if_neg c7).trans (if_neg c17)).trans (if_pos c22)).trans (if_pos c61)) hC hT hA hR hW hF)
      · refine aw_aload_n dX11_shelves_25 rfl ?_
        refine aw_get dX11_shelves_26 flX11_10 (hg_c0 hC) rfl ?_
        refine aw_iload_n dX11_shelves_29 rfl ?_
        refine aw_callV1p dX11_shelves_30 cmX9_isThere cvX11_100 (tr_c0 hT) (Nat.le_of_ble_eq_true rfl) (tX9_isThere hT) ?_
        refine aw_if_ne (tgt := 44) dX11_shelves_33 (by decide) (fun c33 => ?_) (fun c33 => ?_)
        · refine aw_aload_n dX11_shelves_44 rfl ?_
          refine aw_get dX11_shelves_45 flX11_33 (hg_c0 hC) rfl ?_
          refine aw_aload_n dX11_shelves_48 rfl ?_
          refine aw_get dX11_shelves_49 flX11_10 (hg_c0 hC) rfl ?_
          refine aw_iload_n dX11_shelves_52 rfl ?_
          refine aw_iload_n dX11_shelves_53 rfl ?_
          refine aw_callV3e dX11_shelves_54 cmX10_shelve cvX11_174 (wy_c0 hW) (Nat.le_of_ble_eq_true rfl) (tX10_shelve hW hT (by omega) hb hm) (fun r n' h' hq => ?_)
          obtain ⟨rfl, rfl, hW, ho⟩ := hq
          have hC := hg_off hC ho (by omega) (by omega)
          have hT := tr_off hT ho (by omega)
          have hA := tr_off hA ho (by omega)
          have hR := rd_off hR ho (by omega)
          have hF := hF.trans (ho.wide (by omega) (by omega))
          refine aw_istore dX11_shelves_57 (by decide) ?_
          refine aw_iload_n dX11_shelves_59 rfl ?_
          refine aw_iconst (v := -1) dX11_shelves_60 (by decide) ?_
          refine aw_icmp_ne (tgt := 69) dX11_shelves_61 (by decide) (fun c61 => ?_) (fun c61 => ?_)
          · refine aw_aload_n dX11_shelves_69 rfl ?_
            refine aw_get dX11_shelves_70 flX11_33 (hg_c0 hC) rfl ?_
            refine aw_iload_n dX11_shelves_73 rfl ?_
            refine aw_aload_n dX11_shelves_74 rfl ?_
            refine aw_get dX11_shelves_75 flX11_10 (hg_c0 hC) rfl ?_
            refine aw_callV0p dX11_shelves_78 cmX9_people cvX11_44 (tr_c0 hT) (Nat.le_of_ble_eq_true rfl) (tX9_people hT) ?_
            refine aw_callV2p dX11_shelves_81 cmX10_bagOf cvX11_177 (wy_c0 hW) (Nat.le_of_ble_eq_true rfl) (tX10_bagOf hW (trIs_pos c33)) ?_
            exact aw_iret dX11_shelves_84 rfl (x_fin (((((if_neg c7).trans (if_neg c17)).trans (if_neg c22)).trans (if_neg c33)).trans (if_neg c61)) hC hT hA hR hW hF)
          · refine aw_iload dX11_shelves_64 rfl ?_
            refine aw_goto (tgt := 84) dX11_shelves_66 (by decide) ?_
            exact aw_iret dX11_shelves_84 rfl (x_fin (((((if_neg c7).trans (if_neg c17)).trans (if_neg c22)).trans (if_neg c33)).trans (if_pos c61)) hC hT hA hR hW hF)
        · refine aw_aload_n dX11_shelves_36 rfl ?_
          refine aw_callV0e dX11_shelves_37 cmX11_refuseBad cvX11_55 (hg_c0 hC) (Nat.le_of_ble_eq_true rfl) (tX11_refuseBad hC) (fun r n' h' hq => ?_)
          obtain ⟨rfl, rfl, hC, ho⟩ := hq
          have hT := tr_off hT ho (by omega)
          have hA := tr_off hA ho (by omega)
          have hR := rd_off hR ho (by omega)
          have hW := wy_off hW ho (by omega)
          have hF := hF.trans (ho.wide (by omega) (by omega))
          refine aw_pop dX11_shelves_40 rfl ?_
          refine aw_bipush (v := -10) dX11_shelves_41 (by decide) ?_
          exact aw_iret dX11_shelves_43 rfl (x_fin ((((if_neg c7).trans (if_neg c17)).trans (if_neg c22)).trans (if_pos c33)) hC hT hA hR hW hF)
set_option maxHeartbeats 1000000 in
set_option maxRecDepth 100000 in
theorem tX11_note {l : Launch} {E : aw_E} {d n x : Nat} {h0 : ah} {g : Nat → Option Nat} {C : sT} {L : Nat → Int64} {T A R V : sT} (hX : is_x h0 x g (C, L, T, A, R, V)) {p m w d' : Int32} (hn0 : ¬ T 10 3 < 0) : am l E mX11_note (d + 1) 0 0 [.ref x, .int p, .int m, .int w, .int d'] n h0 (x_post n h0 x g (xNote C L T A R V p m w d')) := by
  refine am_of (by decide +kernel) (Nat.le_of_ble_eq_true rfl) ?_
  obtain ⟨hC, hT, hA, hR, hW⟩ := hX
  dsimp only at hC hT hA hR hW
  have hF : ah_off h0 h0 x 49 := ah_off.rf
  refine aw_aload_n dX11_note_0 rfl ?_
  refine aw_get dX11_note_1 flX11_10 (hg_c0 hC) rfl ?_
  refine aw_iload_n dX11_note_4 rfl ?_
  refine aw_callV1p dX11_note_5 cmX9_isThere cvX11_100 (tr_c0 hT) (Nat.le_of_ble_eq_true rfl) (tX9_isThere hT) ?_
  refine aw_if_eq (tgt := 43) dX11_note_8 (by decide) (fun c8 => ?_) (fun c8 => ?_)
  · refine aw_aload_n dX11_note_43 rfl ?_
    refine aw_callV0e dX11_note_44 cmX11_refuseBad cvX11_55 (hg_c0 hC) (Nat.le_of_ble_eq_true rfl) (tX11_refuseBad hC) (fun r n' h' hq => ?_)
    obtain ⟨rfl, rfl, hC, ho⟩ := hq
    have hT := tr_off hT ho (by omega)
    have hA := tr_off hA ho (by omega)
    have hR := rd_off hR ho (by omega)
    have hW := wy_off hW ho (by omega)
    have hF := hF.trans (ho.wide (by omega) (by omega))
    exact aw_iret dX11_note_47 rfl (x_fin (if_pos c8) hC hT hA hR hW hF)
  · refine aw_iload_n dX11_note_11 rfl ?_
    refine aw_iconst (v := 0) dX11_note_12 (by decide) ?_
    refine aw_bipush (v := 99) dX11_note_13 (by decide) ?_
    refine aw_callS3p dX11_note_15 cmX11_within csX11_51 (Nat.le_of_ble_eq_true rfl) tX11_within ?_
    refine aw_if_eq (tgt := 43) dX11_note_18 (by decide) (fun c18 => ?_) (fun c18 => ?_)
    · refine aw_aload_n dX11_note_43 rfl ?_
      refine aw_callV0e dX11_note_44 cmX11_refuseBad cvX11_55 (hg_c0 hC) (Nat.le_of_ble_eq_true rfl) (tX11_refuseBad hC) (fun r n' h' hq => ?_)
      obtain ⟨rfl, rfl, hC, ho⟩ := hq
      have hT := tr_off hT ho (by omega)
      have hA := tr_off hA ho (by omega)
      have hR := rd_off hR ho (by omega)
      have hW := wy_off hW ho (by omega)
      have hF := hF.trans (ho.wide (by omega) (by omega))
      exact aw_iret dX11_note_47 rfl (x_fin ((if_neg c8).trans (if_pos c18)) hC hT hA hR hW hF)
    · refine aw_iload_n dX11_note_21 rfl ?_
      refine aw_iconst (v := 0) dX11_note_22 (by decide) ?_
      refine aw_sipush (v := 2000) dX11_note_23 (by decide) ?_
      refine aw_callS3p dX11_note_26 cmX11_within csX11_51 (Nat.le_of_ble_eq_true rfl) tX11_within ?_
      refine aw_if_eq (tgt := 43) dX11_note_29 (by decide) (fun c29 => ?_) (fun c29 => ?_)
      · refine aw_aload_n dX11_note_43 rfl ?_
        refine aw_callV0e dX11_note_44 cmX11_refuseBad cvX11_55 (hg_c0 hC) (Nat.le_of_ble_eq_true rfl) (tX11_refuseBad hC) (fun r n' h' hq => ?_)
        obtain ⟨rfl, rfl, hC, ho⟩ := hq
        have hT := tr_off hT ho (by omega)
        have hA := tr_off hA ho (by omega)
        have hR := rd_off hR ho (by omega)
        have hW := wy_off hW ho (by omega)
        have hF := hF.trans (ho.wide (by omega) (by omega))
        exact aw_iret dX11_note_47 rfl (x_fin (((if_neg c8).trans (if_neg c18)).trans (if_pos c29)) hC hT hA hR hW hF)
      · refine aw_iload dX11_note_32 rfl ?_
        refine aw_iconst (v := 0) dX11_note_34 (by decide) ?_
        refine aw_bipush (v := 99) dX11_note_35 (by decide) ?_
        refine aw_callS3p dX11_note_37 cmX11_within csX11_51 (Nat.le_of_ble_eq_true rfl) tX11_within ?_
        refine aw_if_ne (tgt := 48) dX11_note_40 (by decide) (fun c40 => ?_) (fun c40 => ?_)
        · refine aw_aload_n dX11_note_48 rfl ?_
          refine aw_get dX11_note_49 flX11_10 (hg_c0 hC) rfl ?_
          refine aw_callV0p dX11_note_52 cmX9_notes cvX11_180 (tr_c0 hT) (Nat.le_of_ble_eq_true rfl) (tX9_notes hT) ?_
          refine aw_callV0p dX11_note_55 cmX4_size cvX11_184 (tr_c13 hT) (Nat.le_of_ble_eq_true rfl) (tX4_size hT) ?_
          refine aw_bipush (v := 6) dX11_note_58 (by decide) ?_
          refine aw_icmp_lt (tgt := 68) dX11_note_60 (by decide) (fun c60 => ?_) (fun c60 => ?_)
          · refine aw_aload_n dX11_note_68 rfl ?_
            refine aw_get dX11_note_69 flX11_10 (hg_c0 hC) rfl ?_
            refine aw_callV0p dX11_note_72 cmX9_notes cvX11_180 (tr_c0 hT) (Nat.le_of_ble_eq_true rfl) (tX9_notes hT) ?_
            refine aw_iload_n dX11_note_75 rfl ?_
            refine aw_iload_n dX11_note_76 rfl ?_
            refine aw_iload_n dX11_note_77 rfl ?_
            refine aw_iload dX11_note_78 rfl ?_
            refine aw_callV4e dX11_note_80 cmX4_add cvX11_189 (tr_c13 hT) (Nat.le_of_ble_eq_true rfl) (tX4_add hT hn0 (Int32.not_le.mpr c60)) (fun r n' h' hq => ?_)
            obtain ⟨rfl, rfl, hT, ho⟩ := hq
            have hC := hg_off hC ho (by omega) (by omega)
            have hA := tr_off hA ho (by omega)
            have hR := rd_off hR ho (by omega)
            have hW := wy_off hW ho (by omega)
            have hF := hF.trans (ho.wide (by omega) (by omega))
            exact aw_iret dX11_note_83 rfl (x_fin (((((if_neg c8).trans (if_neg c18)).trans (if_neg c29)).trans (if_neg c40)).trans (if_pos c60)) hC hT hA hR hW hF)
          · refine aw_aload_n dX11_note_63 rfl ?_
            refine aw_callV0e dX11_note_64 cmX11_refuseFull cvX11_58 (hg_c0 hC) (Nat.le_of_ble_eq_true rfl) (tX11_refuseFull hC) (fun r n' h' hq => ?_)
            obtain ⟨rfl, rfl, hC, ho⟩ := hq
            have hT := tr_off hT ho (by omega)
            have hA := tr_off hA ho (by omega)
            have hR := rd_off hR ho (by omega)
            have hW := wy_off hW ho (by omega)
            have hF := hF.trans (ho.wide (by omega) (by omega))
            exact aw_iret dX11_note_67 rfl (x_fin (((((if_neg c8).trans (if_neg c18)).trans (if_neg c29)).trans (if_neg c40)).trans (if_neg c60)) hC hT hA hR hW hF)
        · refine aw_aload_n dX11_note_43 rfl ?_
          refine aw_callV0e dX11_note_44 cmX11_refuseBad cvX11_55 (hg_c0 hC) (Nat.le_of_ble_eq_true rfl) (tX11_refuseBad hC) (fun r n' h' hq => ?_)
          obtain ⟨rfl, rfl, hC, ho⟩ := hq
          have hT := tr_off hT ho (by omega)
          have hA := tr_off hA ho (by omega)
          have hR := rd_off hR ho (by omega)
          have hW := wy_off hW ho (by omega)
          have hF := hF.trans (ho.wide (by omega) (by omega))
          exact aw_iret dX11_note_47 rfl (x_fin ((((if_neg c8).trans (if_neg c18)).trans (if_neg c29)).trans (if_pos c40)) hC hT hA hR hW hF)
set_option maxHeartbeats 1000000 in
set_option maxRecDepth 100000 in
theorem tX11_forget {l : Launch} {E : aw_E} {d n x : Nat} {h0 : ah} {g : Nat → Option Nat} {C : sT} {L : Nat → Int64} {T A R V : sT} (hX : is_x h0 x g (C, L, T, A, R, V)) : am l E mX11_forget (d + 1) 0 0 [.ref x] n h0 (x_post n h0 x g (xForget C L T A R V)) := by
  refine am_of (by decide +kernel) (Nat.le_of_ble_eq_true rfl) ?_
  obtain ⟨hC, hT, hA, hR, hW⟩ := hX
  dsimp only at hC hT hA hR hW
  have hF : ah_off h0 h0 x 49 := ah_off.rf
  refine aw_aload_n dX11_forget_0 rfl ?_
  refine aw_get dX11_forget_1 flX11_10 (hg_c0 hC) rfl ?_
  refine aw_callV0p dX11_forget_4 cmX9_notes cvX11_180 (tr_c0 hT) (Nat.le_of_ble_eq_true rfl) (tX9_notes hT) ?_
  refine aw_callV0p dX11_forget_7 cmX4_size cvX11_184 (tr_c13 hT) (Nat.le_of_ble_eq_true rfl) (tX4_size hT) ?_
  refine aw_istore_n dX11_forget_10 (by decide) ?_
  refine aw_aload_n dX11_forget_11 rfl ?_
  refine aw_get dX11_forget_12 flX11_10 (hg_c0 hC) rfl ?_
  refine aw_callV0p dX11_forget_15 cmX9_notes cvX11_180 (tr_c0 hT) (Nat.le_of_ble_eq_true rfl) (tX9_notes hT) ?_
  refine aw_callV0e dX11_forget_18 cmX4_drop cvX11_192 (tr_c13 hT) (Nat.le_of_ble_eq_true rfl) (tX4_drop hT) (fun r n' h' hq => ?_)
  obtain ⟨rfl, rfl, hT, ho⟩ := hq
  have hC := hg_off hC ho (by omega) (by omega)
  have hA := tr_off hA ho (by omega)
  have hR := rd_off hR ho (by omega)
  have hW := wy_off hW ho (by omega)
  have hF := hF.trans (ho.wide (by omega) (by omega))
  refine aw_iload_n dX11_forget_21 rfl ?_
  exact aw_iret dX11_forget_22 rfl (x_fin rfl hC hT hA hR hW hF)
set_option maxHeartbeats 1000000 in
set_option maxRecDepth 100000 in
theorem tX11_is {l : Launch} {E : aw_E} {d n x : Nat} {h0 : ah} {g : Nat → Option Nat} {C : sT} {L : Nat → Int64} {T A R V : sT} (hX : is_x h0 x g (C, L, T, A, R, V)) {p w : Int32} : am l E mX11_is (d + 6) 0 0 [.ref x, .int p, .int w] n h0 (x_post n h0 x g (xIs C L T A R V p w)) := by
  refine am_of (by decide +kernel) (Nat.le_of_ble_eq_true rfl) ?_
  obtain ⟨hC, hT, hA, hR, hW⟩ := hX
  dsimp only at hC hT hA hR hW
  have hF : ah_off h0 h0 x 49 := ah_off.rf
  refine aw_aload_n dX11_is_0 rfl ?_
  refine aw_get dX11_is_1 flX11_10 (hg_c0 hC) rfl ?_
  refine aw_iload_n dX11_is_4 rfl ?_
  refine aw_callV1p dX11_is_5 cmX9_isThere cvX11_100 (tr_c0 hT) (Nat.le_of_ble_eq_true rfl) (tX9_isThere hT) ?_
  refine aw_if_eq (tgt := 20) dX11_is_8 (by decide) (fun c8 => ?_) (fun c8 => ?_)
  · refine aw_aload_n dX11_is_20 rfl ?_
    refine aw_callV0e dX11_is_21 cmX11_refuseBad cvX11_55 (hg_c0 hC) (Nat.le_of_ble_eq_true rfl) (tX11_refuseBad hC) (fun r n' h' hq => ?_)
    obtain ⟨rfl, rfl, hC, ho⟩ := hq
    have hT := tr_off hT ho (by omega)
    have hA := tr_off hA ho (by omega)
    have hR := rd_off hR ho (by omega)
    have hW := wy_off hW ho (by omega)
    have hF := hF.trans (ho.wide (by omega) (by omega))
    exact aw_iret dX11_is_24 rfl (x_fin (if_pos c8) hC hT hA hR hW hF)
  · refine aw_iload_n dX11_is_11 rfl ?_
    refine aw_iconst (v := 0) dX11_is_12 (by decide) ?_
    refine aw_iconst (v := 1) dX11_is_13 (by decide) ?_
    refine aw_callS3p dX11_is_14 cmX11_within csX11_51 (Nat.le_of_ble_eq_true rfl) tX11_within ?_
    refine aw_if_ne (tgt := 25) dX11_is_17 (by decide) (fun c17 => ?_) (fun c17 => ?_)
    · refine aw_iload_n dX11_is_25 rfl ?_
      refine aw_if_ne (tgt := 47) dX11_is_26 (by decide) (fun c26 => ?_) (fun c26 => ?_)
      · refine aw_aload_n dX11_is_47 rfl ?_
        refine aw_get dX11_is_48 flX11_10 (hg_c0 hC) rfl ?_
        refine aw_callV0p dX11_is_51 cmX9_notes cvX11_180 (tr_c0 hT) (Nat.le_of_ble_eq_true rfl) (tX9_notes hT) ?_
        refine aw_aload_n dX11_is_54 rfl ?_
        refine aw_get dX11_is_55 flX11_10 (hg_c0 hC) rfl ?_
        refine aw_iload_n dX11_is_58 rfl ?_
        refine aw_callV2p dX11_is_59 cmX4_honestiesThatFit cvX11_197 (tr_c13 hT) (Nat.le_of_ble_eq_true rfl) (tX4_honestiesThatFit hT) ?_
        exact aw_iret dX11_is_62 rfl (x_fin (((if_neg c8).trans (if_neg c17)).trans (if_neg c26)) hC hT hA hR hW hF)
      · refine aw_aload_n dX11_is_29 rfl ?_
        refine aw_get dX11_is_30 flX11_10 (hg_c0 hC) rfl ?_
        refine aw_callV0p dX11_is_33 cmX9_notes cvX11_180 (tr_c0 hT) (Nat.le_of_ble_eq_true rfl) (tX9_notes hT) ?_
        refine aw_aload_n dX11_is_36 rfl ?_
        refine aw_get dX11_is_37 flX11_10 (hg_c0 hC) rfl ?_
        refine aw_iload_n dX11_is_40 rfl ?_
        refine aw_callV2p dX11_is_41 cmX4_kindsThatFit cvX11_193 (tr_c13 hT) (Nat.le_of_ble_eq_true rfl) (tX4_kindsThatFit hT) ?_
        refine aw_goto (tgt := 62) dX11_is_44 (by decide) ?_
        exact aw_iret dX11_is_62 rfl (x_fin (((if_neg c8).trans (if_neg c17)).trans (if_pos c26)) hC hT hA hR hW hF)
    · refine aw_aload_n dX11_is_20 rfl ?_
      refine aw_callV0e dX11_is_21 cmX11_refuseBad cvX11_55 (hg_c0 hC) (Nat.le_of_ble_eq_true rfl) (tX11_refuseBad hC) (fun r n' h' hq => ?_)
      obtain ⟨rfl, rfl, hC, ho⟩ := hq
      have hT := tr_off hT ho (by omega)
      have hA := tr_off hA ho (by omega)
      have hR := rd_off hR ho (by omega)
      have hW := wy_off hW ho (by omega)
      have hF := hF.trans (ho.wide (by omega) (by omega))
      exact aw_iret dX11_is_24 rfl (x_fin ((if_neg c8).trans (if_pos c17)) hC hT hA hR hW hF)
set_option maxHeartbeats 1000000 in
set_option maxRecDepth 100000 in
theorem tX11_next {l : Launch} {E : aw_E} {d n x : Nat} {h0 : ah} {g : Nat → Option Nat} {C : sT} {L : Nat → Int64} {T A R V : sT} (hX : is_x h0 x g (C, L, T, A, R, V)) {p : Int32} : am l E mX11_next (d + 6) 0 0 [.ref x, .int p] n h0 (x_post n h0 x g (xNext C L T A R V p)) := by
  refine am_of (by decide +kernel) (Nat.le_of_ble_eq_true rfl) ?_
  obtain ⟨hC, hT, hA, hR, hW⟩ := hX
  dsimp only at hC hT hA hR hW
  have hF : ah_off h0 h0 x 49 := ah_off.rf
  refine aw_aload_n dX11_next_0 rfl ?_
  refine aw_get dX11_next_1 flX11_10 (hg_c0 hC) rfl ?_
  refine aw_iload_n dX11_next_4 rfl ?_
  refine aw_callV1p dX11_next_5 cmX9_isThere cvX11_100 (tr_c0 hT) (Nat.le_of_ble_eq_true rfl) (tX9_isThere hT) ?_
  refine aw_if_ne (tgt := 16) dX11_next_8 (by decide) (fun c8 => ?_) (fun c8 => ?_)
  · refine aw_aload_n dX11_next_16 rfl ?_
    refine aw_get dX11_next_17 flX11_10 (hg_c0 hC) rfl ?_
    refine aw_callV0p dX11_next_20 cmX9_notes cvX11_180 (tr_c0 hT) (Nat.le_of_ble_eq_true rfl) (tX9_notes hT) ?_
    refine aw_aload_n dX11_next_23 rfl ?_
    refine aw_get dX11_next_24 flX11_10 (hg_c0 hC) rfl ?_
    refine aw_iload_n dX11_next_27 rfl ?_
    refine aw_callV2p dX11_next_28 cmX4_kindsThatFit cvX11_193 (tr_c13 hT) (Nat.le_of_ble_eq_true rfl) (tX4_kindsThatFit hT) ?_
    refine aw_istore_n dX11_next_31 (by decide) ?_
    refine aw_aload_n dX11_next_32 rfl ?_
    refine aw_get dX11_next_33 flX11_10 (hg_c0 hC) rfl ?_
    refine aw_iload_n dX11_next_36 rfl ?_
    refine aw_aload_n dX11_next_37 rfl ?_
    refine aw_get dX11_next_38 flX11_10 (hg_c0 hC) rfl ?_
    refine aw_iload_n dX11_next_41 rfl ?_
    refine aw_callV1p dX11_next_42 cmX9_honestyOf cvX11_110 (tr_c0 hT) (Nat.le_of_ble_eq_true rfl) (tX9_honestyOf hT) ?_
    refine aw_callS3p dX11_next_45 cmX4_bestWeighing csX11_200 (Nat.le_of_ble_eq_true rfl) (tX4_bestWeighing hT) ?_
    exact aw_iret dX11_next_48 rfl (x_fin (if_neg c8) hC hT hA hR hW hF)
  · refine aw_aload_n dX11_next_11 rfl ?_
    refine aw_callV0e dX11_next_12 cmX11_refuseBad cvX11_55 (hg_c0 hC) (Nat.le_of_ble_eq_true rfl) (tX11_refuseBad hC) (fun r n' h' hq => ?_)
    obtain ⟨rfl, rfl, hC, ho⟩ := hq
    have hT := tr_off hT ho (by omega)
    have hA := tr_off hA ho (by omega)
    have hR := rd_off hR ho (by omega)
    have hW := wy_off hW ho (by omega)
    have hF := hF.trans (ho.wide (by omega) (by omega))
    exact aw_iret dX11_next_15 rfl (x_fin (if_pos c8) hC hT hA hR hW hF)
set_option maxHeartbeats 1000000 in
set_option maxRecDepth 100000 in
theorem tX11_two {l : Launch} {E : aw_E} {d n x : Nat} {h0 : ah} {g : Nat → Option Nat} {C : sT} {L : Nat → Int64} {T A R V : sT} (hX : is_x h0 x g (C, L, T, A, R, V)) {a b : Int32} : am l E mX11_two (d + 6) 0 0 [.ref x, .int a, .int b] n h0 (x_post n h0 x g (xTwo C L T A R V a b)) := by
  refine am_of (by decide +kernel) (Nat.le_of_ble_eq_true rfl) ?_
  obtain ⟨hC, hT, hA, hR, hW⟩ := hX
  dsimp only at hC hT hA hR hW
  have hF : ah_off h0 h0 x 49 := ah_off.rf
  refine aw_aload_n dX11_two_0 rfl ?_
  refine aw_iload_n dX11_two_1 rfl ?_
  refine aw_iload_n dX11_two_2 rfl ?_
  refine aw_callV2p dX11_two_3 cmX11_twoOfThem cvX11_68 (hg_c0 hC) (Nat.le_of_ble_eq_true rfl) (tX11_twoOfThem hC hT) ?_
  refine aw_if_ne (tgt := 14) dX11_two_6 (by decide) (fun c6 => ?_) (fun c6 => ?_)
  · refine aw_aload_n dX11_two_14 rfl ?_
    refine aw_get dX11_two_15 flX11_10 (hg_c0 hC) rfl ?_
    refine aw_iload_n dX11_two_18 rfl ?_
    refine aw_callV1p dX11_two_19 cmX9_truthWorth cvX11_203 (tr_c0 hT) (Nat.le_of_ble_eq_true rfl) (tX9_truthWorth hT) ?_
    refine aw_istore_n dX11_two_22 (by decide) ?_
    refine aw_aload_n dX11_two_23 rfl ?_
    refine aw_get dX11_two_24 flX11_10 (hg_c0 hC) rfl ?_
    refine aw_iload_n dX11_two_27 rfl ?_
    refine aw_callV1p dX11_two_28 cmX9_truthWorth cvX11_203 (tr_c0 hT) (Nat.le_of_ble_eq_true rfl) (tX9_truthWorth hT) ?_
    refine aw_istore dX11_two_31 (by decide) ?_
    refine aw_iconst (v := 0) dX11_two_33 (by decide) ?_
    refine aw_istore dX11_two_34 (by decide) ?_
    refine aw_iconst (v := 0) dX11_two_36 (by decide) ?_
    refine aw_istore dX11_two_37 (by decide) ?_
    have key : ∀ (k j : Nat) (r : Int32), j + k = 4 → xTwL (trTruth T a) (trTruth T b) 4 0 0 = xTwL (trTruth T a) (trTruth T b) k j r → aw l E mX11_two (aw_Z E (x_post n h0 x g (xTwo C L T A R V a b))) (d + 6) 0 0 39 [(0, .ref x), (3, .int (trTruth T a)), (4, .int (trTruth T b)), (5, .int r), (6, .int (nI j))] [] n h0 := by
      intro k
      induction k with
      | zero =>
        intro j r hj  heq
        refine aw_iload dX11_two_39 rfl ?_
        refine aw_iconst (v := 4) dX11_two_41 (by decide) ?_
        refine aw_icmp_ge (tgt := 111) dX11_two_42 (by decide) (fun c42 => ?_) (fun c42 => ?_)
        · refine aw_iload dX11_two_111 rfl ?_
          exact aw_iret dX11_two_113 rfl (x_fin ((if_neg c6).trans (congrArg (fun z => (z, C, L, T, A, R, V)) heq)) hC hT hA hR hW hF)
        · exact absurd ((nI_leI (a := 4) (b := j) (by omega) (by omega)).mpr (by omega)) c42
      | succ k ih =>
        intro j r hj  heq
        refine aw_iload dX11_two_39 rfl ?_
        refine aw_iconst (v := 4) dX11_two_41 (by decide) ?_
        refine aw_icmp_ge (tgt := 111) dX11_two_42 (by decide) (fun c42 => ?_) (fun c42 => ?_)
        · exact absurd ((nI_leI (a := 4) (b := j) (by omega) (by omega)).mp c42) (by omega)
        · refine aw_iload dX11_two_45 rfl ?_
          refine aw_iconst (v := 1) dX11_two_47 (by decide) ?_
          refine aw_iand dX11_two_48 ?_
          refine aw_if_eq (tgt := 56) dX11_two_49 (by decide) (fun c49 => ?_) (fun c49 => ?_)
          · refine aw_iconst (v := 0) dX11_two_56 (by decide) ?_
            refine aw_istore dX11_two_57 (by decide) ?_
            refine aw_iload dX11_two_59 rfl ?_
            refine aw_iconst (v := 2) dX11_two_61 (by decide) ?_
            refine aw_iand dX11_two_62 ?_
            refine aw_if_eq (tgt := 70) dX11_two_63 (by decide) (fun c63 => ?_) (fun c63 => ?_)
            · refine aw_iconst (v := 0) dX11_two_70 (by decide) ?_
              refine aw_istore dX11_two_71 (by decide) ?_
              refine aw_iload_n dX11_two_73 rfl ?_
              refine aw_iload dX11_two_74 rfl ?_
              refine aw_iload dX11_two_76 rfl ?_
              refine aw_callS3p dX11_two_78 cmX11_isContent csX11_206 (Nat.le_of_ble_eq_true rfl) tX11_isContent ?_
              refine aw_if_eq (tgt := 105) dX11_two_81 (by decide) (fun c81 => ?_) (fun c81 => ?_)
              · refine aw_inc (w := 1) dX11_two_105 rfl (by decide) (by decide) ?_
                refine aw_goto (tgt := 39) dX11_two_108 (by decide) ?_
                exact aw_loc [0, 3, 4, 5, 6] (ls2 := [(0, .ref x), (3, .int (trTruth T a)), (4, .int (trTruth T b)), (5, .int r), (6, .int (nI (j + 1)))]) (by first | (rw [nI_succ]; rfl) | rfl) (ih (j + 1) r (by omega)  (heq.trans (congrArg (xTwL (trTruth T a) (trTruth T b) k (j + 1)) (((if_pos c49).trans (if_pos c63)).trans (if_pos c81)))))
              · refine aw_iload dX11_two_84 rfl ?_
                refine aw_iload dX11_two_86 rfl ?_
                refine aw_iload dX11_two_88 rfl ?_
                refine aw_callS3p dX11_two_90 cmX11_isContent csX11_206 (Nat.le_of_ble_eq_true rfl) tX11_isContent ?_
                refine aw_if_eq (tgt := 105) dX11_two_93 (by decide) (fun c93 => ?_) (fun c93 => ?_)
                · refine aw_inc (w := 1) dX11_two_105 rfl (by decide) (by decide) ?_
                  refine aw_goto (tgt := 39) dX11_two_108 (by decide) ?_
                  exact aw_loc [0, 3, 4, 5, 6] (ls2 := [(0, .ref x), (3, .int (trTruth T a)), (4, .int (trTruth T b)), (5, .int r), (6, .int (nI (j + 1)))]) (by first | (rw [nI_succ]; rfl) | rfl) (ih (j + 1) r (by omega)  (heq.trans (congrArg (xTwL (trTruth T a) (trTruth T b) k (j + 1)) ((((if_pos c49).trans (if_pos c63)).trans (if_neg c81)).trans (if_pos c93)))))
                · refine aw_iload dX11_two_96 rfl ?_
                  refine aw_iconst (v := 1) dX11_two_98 (by decide) ?_
                  refine aw_iload dX11_two_99 rfl ?_
                  refine aw_ishl dX11_two_101 ?_
                  refine aw_ior dX11_two_102 ?_
                  refine aw_istore dX11_two_103 (by decide) ?_
                  refine aw_inc (w := 1) dX11_two_105 rfl (by decide) (by decide) ?_
                  refine aw_goto (tgt := 39) dX11_two_108 (by decide) ?_
                  exact aw_loc [0, 3, 4, 5, 6] (ls2 := [(0, .ref x), (3, .int (trTruth T a)), (4, .int (trTruth T b)), (5, .int _), (6, .int (nI (j + 1)))]) (by first | (rw [nI_succ]; rfl) | rfl) (ih (j + 1) _ (by omega)  (heq.trans (congrArg (xTwL (trTruth T a) (trTruth T b) k (j + 1)) ((((if_pos c49).trans (if_pos c63)).trans (if_neg c81)).trans (if_neg c93)))))
            · refine aw_iconst (v := 1) dX11_two_66 (by decide) ?_
              refine aw_goto (tgt := 71) dX11_two_67 (by decide) ?_
              refine aw_istore dX11_two_71 (by decide) ?_
              refine aw_iload_n dX11_two_73 rfl ?_
              refine aw_iload dX11_two_74 rfl ?_
              refine aw_iload dX11_two_76 rfl ?_
              refine aw_callS3p dX11_two_78 cmX11_isContent csX11_206 (Nat.le_of_ble_eq_true rfl) tX11_isContent ?_
              refine aw_if_eq (tgt := 105) dX11_two_81 (by decide) (fun c81 => ?_) (fun c81 => ?_)
              · refine aw_inc (w := 1) dX11_two_105 rfl (by decide) (by decide) ?_
                refine aw_goto (tgt := 39) dX11_two_108 (by decide) ?_
                exact aw_loc [0, 3, 4, 5, 6] (ls2 := [(0, .ref x), (3, .int (trTruth T a)), (4, .int (trTruth T b)), (5, .int r), (6, .int (nI (j + 1)))]) (by first | (rw [nI_succ]; rfl) | rfl) (ih (j + 1) r (by omega)  (heq.trans (congrArg (xTwL (trTruth T a) (trTruth T b) k (j + 1)) (((if_pos c49).trans (if_neg c63)).trans (if_pos c81)))))
              · refine aw_iload dX11_two_84 rfl ?_
                refine aw_iload dX11_two_86 rfl ?_
                refine aw_iload dX11_two_88 rfl ?_
                refine aw_callS3p dX11_two_90 cmX11_isContent csX11_206 (Nat.le_of_ble_eq_true rfl) tX11_isContent ?_
                refine aw_if_eq (tgt := 105) dX11_two_93 (by decide) (fun c93 => ?_) (fun c93 => ?_)
                · refine aw_inc (w := 1) dX11_two_105 rfl (by decide) (by decide) ?_
                  refine aw_goto (tgt := 39) dX11_two_108 (by decide) ?_
                  exact aw_loc [0, 3, 4, 5, 6] (ls2 := [(0, .ref x), (3, .int (trTruth T a)), (4, .int (trTruth T b)), (5, .int r), (6, .int (nI (j + 1)))]) (by first | (rw [nI_succ]; rfl) | rfl) (ih (j + 1) r (by omega)  (heq.trans (congrArg (xTwL (trTruth T a) (trTruth T b) k (j + 1)) ((((if_pos c49).trans (if_neg c63)).trans (if_neg c81)).trans (if_pos c93)))))
                · refine aw_iload dX11_two_96 rfl ?_
                  refine aw_iconst (v := 1) dX11_two_98 (by decide) ?_
                  refine aw_iload dX11_two_99 rfl ?_
                  refine aw_ishl dX11_two_101 ?_
                  refine aw_ior dX11_two_102 ?_
                  refine aw_istore dX11_two_103 (by decide) ?_
                  refine aw_inc (w := 1) dX11_two_105 rfl (by decide) (by decide) ?_
                  refine aw_goto (tgt := 39) dX11_two_108 (by decide) ?_
                  exact aw_loc [0, 3, 4, 5, 6] (ls2 := [(0, .ref x), (3, .int (trTruth T a)), (4, .int (trTruth T b)), (5, .int _), (6, .int (nI (j + 1)))]) (by first | (rw [nI_succ]; rfl) | rfl) (ih (j + 1) _ (by omega)  (heq.trans (congrArg (xTwL (trTruth T a) (trTruth T b) k (j + 1)) ((((if_pos c49).trans (if_neg c63)).trans (if_neg c81)).trans (if_neg c93)))))
          · refine aw_iconst (v := 1) dX11_two_52 (by decide) ?_
            refine aw_goto (tgt := 57) dX11_two_53 (by decide) ?_
            refine aw_istore dX11_two_57 (by decide) ?_
            refine aw_iload dX11_two_59 rfl ?_
            refine aw_iconst (v := 2) dX11_two_61 (by decide) ?_
            refine aw_iand dX11_two_62 ?_
            refine aw_if_eq (tgt := 70) dX11_two_63 (by decide) (fun c63 => ?_) (fun c63 => ?_)
            · refine aw_iconst (v := 0) dX11_two_70 (by decide) ?_
              refine aw_istore dX11_two_71 (by decide) ?_
              refine aw_iload_n dX11_two_73 rfl ?_
              refine aw_iload dX11_two_74 rfl ?_
              refine aw_iload dX11_two_76 rfl ?_
              refine aw_callS3p dX11_two_78 cmX11_isContent csX11_206 (Nat.le_of_ble_eq_true rfl) tX11_isContent ?_
              refine aw_if_eq (tgt := 105) dX11_two_81 (by decide) (fun c81 => ?_) (fun c81 => ?_)
              · refine aw_inc (w := 1) dX11_two_105 rfl (by decide) (by decide) ?_
                refine aw_goto (tgt := 39) dX11_two_108 (by decide) ?_
                exact aw_loc [0, 3, 4, 5, 6] (ls2 := [(0, .ref x), (3, .int (trTruth T a)), (4, .int (trTruth T b)), (5, .int r), (6, .int (nI (j + 1)))]) (by first | (rw [nI_succ]; rfl) | rfl) (ih (j + 1) r (by omega)  (heq.trans (congrArg (xTwL (trTruth T a) (trTruth T b) k (j + 1)) (((if_neg c49).trans (if_pos c63)).trans (if_pos c81)))))
              · refine aw_iload dX11_two_84 rfl ?_
                refine aw_iload dX11_two_86 rfl ?_
                refine aw_iload dX11_two_88 rfl ?_
                refine aw_callS3p dX11_two_90 cmX11_isContent csX11_206 (Nat.le_of_ble_eq_true rfl) tX11_isContent ?_
                refine aw_if_eq (tgt := 105) dX11_two_93 (by decide) (fun c93 => ?_) (fun c93 => ?_)
                · refine aw_inc (w := 1) dX11_two_105 rfl (by decide) (by decide) ?_
                  refine aw_goto (tgt := 39) dX11_two_108 (by decide) ?_
                  exact aw_loc [0, 3, 4, 5, 6] (ls2 := [(0, .ref x), (3, .int (trTruth T a)), (4, .int (trTruth T b)), (5, .int r), (6, .int (nI (j + 1)))]) (by first | (rw [nI_succ]; rfl) | rfl) (ih (j + 1) r (by omega)  (heq.trans (congrArg (xTwL (trTruth T a) (trTruth T b) k (j + 1)) ((((if_neg c49).trans (if_pos c63)).trans (if_neg c81)).trans (if_pos c93)))))
                · refine aw_iload dX11_two_96 rfl ?_
                  refine aw_iconst (v := 1) dX11_two_98 (by decide) ?_
                  refine aw_iload dX11_two_99 rfl ?_
                  refine aw_ishl dX11_two_101 ?_
                  refine aw_ior dX11_two_102 ?_
                  refine aw_istore dX11_two_103 (by decide) ?_
                  refine aw_inc (w := 1) dX11_two_105 rfl (by decide) (by decide) ?_
                  refine aw_goto (tgt := 39) dX11_two_108 (by decide) ?_
                  exact aw_loc [0, 3, 4, 5, 6] (ls2 := [(0, .ref x), (3, .int (trTruth T a)), (4, .int (trTruth T b)), (5, .int _), (6, .int (nI (j + 1)))]) (by first | (rw [nI_succ]; rfl) | rfl) (ih (j + 1) _ (by omega)  (heq.trans (congrArg (xTwL (trTruth T a) (trTruth T b) k (j + 1)) ((((if_neg c49).trans (if_pos c63)).trans (if_neg c81)).trans (if_neg c93)))))
            · refine aw_iconst (v := 1) dX11_two_66 (by decide) ?_
              refine aw_goto (tgt := 71) dX11_two_67 (by decide) ?_
              refine aw_istore dX11_two_71 (by decide) ?_
              refine aw_iload_n dX11_two_73 rfl ?_
              refine aw_iload dX11_two_74 rfl ?_
              refine aw_iload dX11_two_76 rfl ?_
              refine aw_callS3p dX11_two_78 cmX11_isContent csX11_206 (Nat.le_of_ble_eq_true rfl) tX11_isContent ?_
              refine aw_if_eq (tgt := 105) dX11_two_81 (by decide) (fun c81 => ?_) (fun c81 => ?_)
              · refine aw_inc (w := 1) dX11_two_105 rfl (by decide) (by decide) ?_
                refine aw_goto (tgt := 39) dX11_two_108 (by decide) ?_
                exact aw_loc [0, 3, 4, 5, 6] (ls2 := [(0, .ref x), (3, .int (trTruth T a)), (4, .int (trTruth T b)), (5, .int r), (6, .int (nI (j + 1)))]) (by first | (rw [nI_succ]; rfl) | rfl) (ih (j + 1) r (by omega)  (heq.trans (congrArg (xTwL (trTruth T a) (trTruth T b) k (j + 1)) (((if_neg c49).trans (if_neg c63)).trans (if_pos c81)))))
              · refine aw_iload dX11_two_84 rfl ?_
                refine aw_iload dX11_two_86 rfl ?_
                refine aw_iload dX11_two_88 rfl ?_
                refine aw_callS3p dX11_two_90 cmX11_isContent csX11_206 (Nat.le_of_ble_eq_true rfl) tX11_isContent ?_
                refine aw_if_eq (tgt := 105) dX11_two_93 (by decide) (fun c93 => ?_) (fun c93 => ?_)
                · refine aw_inc (w := 1) dX11_two_105 rfl (by decide) (by decide) ?_
                  refine aw_goto (tgt := 39) dX11_two_108 (by decide) ?_
                  exact aw_loc [0, 3, 4, 5, 6] (ls2 := [(0, .ref x), (3, .int (trTruth T a)), (4, .int (trTruth T b)), (5, .int r), (6, .int (nI (j + 1)))]) (by first | (rw [nI_succ]; rfl) | rfl) (ih (j + 1) r (by omega)  (heq.trans (congrArg (xTwL (trTruth T a) (trTruth T b) k (j + 1)) ((((if_neg c49).trans (if_neg c63)).trans (if_neg c81)).trans (if_pos c93)))))
                · refine aw_iload dX11_two_96 rfl ?_
                  refine aw_iconst (v := 1) dX11_two_98 (by decide) ?_
                  refine aw_iload dX11_two_99 rfl ?_
                  refine aw_ishl dX11_two_101 ?_
                  refine aw_ior dX11_two_102 ?_
                  refine aw_istore dX11_two_103 (by decide) ?_
                  refine aw_inc (w := 1) dX11_two_105 rfl (by decide) (by decide) ?_
                  refine aw_goto (tgt := 39) dX11_two_108 (by decide) ?_
                  exact aw_loc [0, 3, 4, 5, 6] (ls2 := [(0, .ref x), (3, .int (trTruth T a)), (4, .int (trTruth T b)), (5, .int _), (6, .int (nI (j + 1)))]) (by first | (rw [nI_succ]; rfl) | rfl) (ih (j + 1) _ (by omega)  (heq.trans (congrArg (xTwL (trTruth T a) (trTruth T b) k (j + 1)) ((((if_neg c49).trans (if_neg c63)).trans (if_neg c81)).trans (if_neg c93)))))
    exact aw_loc [0, 3, 4, 5, 6] (ls2 := [(0, .ref x), (3, .int (trTruth T a)), (4, .int (trTruth T b)), (5, .int 0), (6, .int (nI 0))]) rfl (key (4) 0 0 (by first | rfl | omega)  rfl)
  · refine aw_aload_n dX11_two_9 rfl ?_
    refine aw_callV0e dX11_two_10 cmX11_refuseBad cvX11_55 (hg_c0 hC) (Nat.le_of_ble_eq_true rfl) (tX11_refuseBad hC) (fun r n' h' hq => ?_)
    obtain ⟨rfl, rfl, hC, ho⟩ := hq
    have hT := tr_off hT ho (by omega)
    have hA := tr_off hA ho (by omega)
    have hR := rd_off hR ho (by omega)
    have hW := wy_off hW ho (by omega)
    have hF := hF.trans (ho.wide (by omega) (by omega))
    exact aw_iret dX11_two_13 rfl (x_fin (if_pos c6) hC hT hA hR hW hF)
set_option maxHeartbeats 1000000 in
set_option maxRecDepth 100000 in
theorem tX11_winds {l : Launch} {E : aw_E} {d n x : Nat} {h0 : ah} {g : Nat → Option Nat} {C : sT} {L : Nat → Int64} {T A R V : sT} (hX : is_x h0 x g (C, L, T, A, R, V)) {w c : Int32} : am l E mX11_winds (d + 5) 0 0 [.ref x, .int w, .int c] n h0 (x_post n h0 x g (xWinds C L T A R V w c)) := by
  refine am_of (by decide +kernel) (Nat.le_of_ble_eq_true rfl) ?_
  obtain ⟨hC, hT, hA, hR, hW⟩ := hX
  dsimp only at hC hT hA hR hW
  have hF : ah_off h0 h0 x 49 := ah_off.rf
  refine aw_iload_n dX11_winds_0 rfl ?_
  refine aw_iconst (v := 0) dX11_winds_1 (by decide) ?_
  refine aw_sipush (v := 999) dX11_winds_2 (by decide) ?_
  refine aw_callS3p dX11_winds_5 cmX11_within csX11_51 (Nat.le_of_ble_eq_true rfl) tX11_within ?_
  refine aw_if_eq (tgt := 21) dX11_winds_8 (by decide) (fun c8 => ?_) (fun c8 => ?_)
  · refine aw_aload_n dX11_winds_21 rfl ?_
    refine aw_callV0e dX11_winds_22 cmX11_refuseBad cvX11_55 (hg_c0 hC) (Nat.le_of_ble_eq_true rfl) (tX11_refuseBad hC) (fun r n' h' hq => ?_)
    obtain ⟨rfl, rfl, hC, ho⟩ := hq
    have hT := tr_off hT ho (by omega)
    have hA := tr_off hA ho (by omega)
    have hR := rd_off hR ho (by omega)
    have hW := wy_off hW ho (by omega)
    have hF := hF.trans (ho.wide (by omega) (by omega))
    exact aw_iret dX11_winds_25 rfl (x_fin (if_pos c8) hC hT hA hR hW hF)
  · refine aw_iload_n dX11_winds_11 rfl ?_
    refine aw_iconst (v := 0) dX11_winds_12 (by decide) ?_
    refine aw_bipush (v := 10) dX11_winds_13 (by decide) ?_
    refine aw_callS3p dX11_winds_15 cmX11_within csX11_51 (Nat.le_of_ble_eq_true rfl) tX11_within ?_
    refine aw_if_ne (tgt := 26) dX11_winds_18 (by decide) (fun c18 => ?_) (fun c18 => ?_)
    · refine aw_iconst (v := 0) dX11_winds_26 (by decide) ?_
      refine aw_istore_n dX11_winds_27 (by decide) ?_
      refine aw_iconst (v := 0) dX11_winds_28 (by decide) ?_
      refine aw_istore dX11_winds_29 (by decide) ?_
      have hN1 := clamp_lt (T 10 0)
      have key : ∀ (k j : Nat) (s : Int32), j + k = (T 10 0).toNatClampNeg → xWiL T w c (T 10 0).toNatClampNeg 0 0 = xWiL T w c k j s → aw l E mX11_winds (aw_Z E (x_post n h0 x g (xWinds C L T A R V w c))) (d + 5) 0 0 31 [(0, .ref x), (1, .int w), (2, .int c), (3, .int s), (4, .int (nI j))] [] n h0 := by
        intro k
        induction k with
        | zero =>
          intro j s hj  heq
          refine aw_iload dX11_winds_31 rfl ?_
          refine aw_aload_n dX11_winds_33 rfl ?_
          refine aw_get dX11_winds_34 flX11_10 (hg_c0 hC) rfl ?_
          refine aw_callV0p dX11_winds_37 cmX9_people cvX11_44 (tr_c0 hT) (Nat.le_of_ble_eq_true rfl) (tX9_people hT) ?_
          refine aw_icmp_ge (tgt := 88) dX11_winds_40 (by decide) (fun c40 => ?_) (fun c40 => ?_)
          · refine aw_aload_n dX11_winds_88 rfl ?_
            refine aw_iload_n dX11_winds_89 rfl ?_
            refine aw_i2l dX11_winds_90 rfl ?_
            refine aw_ldc2 dX11_winds_91 klX11_210 ?_
            refine aw_callV2e dX11_winds_94 cmX11_keepFraction cvX11_212 (hg_c0 hC) (Nat.le_of_ble_eq_true rfl) (tX11_keepFraction hC) (fun r n' h' hq => ?_)
            obtain ⟨rfl, rfl, hC, ho⟩ := hq
            have hT := tr_off hT ho (by omega)
            have hA := tr_off hA ho (by omega)
            have hR := rd_off hR ho (by omega)
            have hW := wy_off hW ho (by omega)
            have hF := hF.trans (ho.wide (by omega) (by omega))
            refine aw_iconst (v := 1) dX11_winds_97 (by decide) ?_
            exact aw_iret dX11_winds_98 rfl (x_fin ((if_neg c8).trans ((if_neg c18).trans (congrArg (fun z : Int32 => ((1 : Int32), C, kFracL L z.toInt64 10, T, A, R, V)) heq))) hC hT hA hR hW hF)
          · exact absurd ((i_le_nI (x := T 10 0) (j := j) (by omega)).mpr (by omega)) c40
        | succ k ih =>
          intro j s hj  heq
          refine aw_iload dX11_winds_31 rfl ?_
          refine aw_aload_n dX11_winds_33 rfl ?_
          refine aw_get dX11_winds_34 flX11_10 (hg_c0 hC) rfl ?_
          refine aw_callV0p dX11_winds_37 cmX9_people cvX11_44 (tr_c0 hT) (Nat.le_of_ble_eq_true rfl) (tX9_people hT) ?_
          refine aw_icmp_ge (tgt := 88) dX11_winds_40 (by decide) (fun c40 => ?_) (fun c40 => ?_)
          · exact absurd ((i_le_nI (x := T 10 0) (j := j) (by omega)).mp c40) (by omega)
          · refine aw_aload_n dX11_winds_43 rfl ?_
            refine aw_get dX11_winds_44 flX11_10 (hg_c0 hC) rfl ?_
            refine aw_iload dX11_winds_47 rfl ?_
            refine aw_callV1p dX11_winds_49 cmX9_ownWeight cvX11_144 (tr_c0 hT) (Nat.le_of_ble_eq_true rfl) (tX9_ownWeight hT) ?_
            refine aw_iload_n dX11_winds_52 rfl ?_
            refine aw_icmp_ge (tgt := 63) dX11_winds_53 (by decide) (fun c53 => ?_) (fun c53 => ?_)
            · refine aw_bipush (v := 10) dX11_winds_63 (by decide) ?_
              refine aw_istore dX11_winds_65 (by decide) ?_
              refine aw_iload_n dX11_winds_67 rfl ?_
              refine aw_iload dX11_winds_68 rfl ?_
              refine aw_aload_n dX11_winds_70 rfl ?_
              refine aw_get dX11_winds_71 flX11_10 (hg_c0 hC) rfl ?_
              refine aw_iload dX11_winds_74 rfl ?_
              refine aw_callV1p dX11_winds_76 cmX9_piecesOf cvX11_113 (tr_c0 hT) (Nat.le_of_ble_eq_true rfl) (tX9_piecesOf hT) ?_
              refine aw_imul dX11_winds_79 ?_
              refine aw_iadd dX11_winds_80 ?_
              refine aw_istore_n dX11_winds_81 (by decide) ?_
              refine aw_inc (w := 1) dX11_winds_82 rfl (by decide) (by decide) ?_
              refine aw_goto (tgt := 31) dX11_winds_85 (by decide) ?_
              exact aw_loc [0, 1, 2, 3, 4] (ls2 := [(0, .ref x), (1, .int w), (2, .int c), (3, .int _), (4, .int (nI (j + 1)))]) (by first | (rw [nI_succ]; rfl) | rfl) (ih (j + 1) _ (by omega)  (heq.trans (congrArg (fun z => xWiL T w c k (j + 1) (s + z * trG 2 T (nI j))) (if_pos c53))))
            · refine aw_bipush (v := 10) dX11_winds_56 (by decide) ?_
              refine aw_iload_n dX11_winds_58 rfl ?_
              refine aw_isub dX11_winds_59 ?_
              refine aw_goto (tgt := 65) dX11_winds_60 (by decide) ?_
              refine aw_istore dX11_winds_65 (by decide) ?_
              refine aw_iload_n dX11_winds_67 rfl ?_
              refine aw_iload dX11_winds_68 rfl ?_
              refine aw_aload_n dX11_winds_70 rfl ?_
              refine aw_get dX11_winds_71 flX11_10 (hg_c0 hC) rfl ?_
              refine aw_iload dX11_winds_74 rfl ?_
              refine aw_callV1p dX11_winds_76 cmX9_piecesOf cvX11_113 (tr_c0 hT) (Nat.le_of_ble_eq_true rfl) (tX9_piecesOf hT) ?_
              refine aw_imul dX11_winds_79 ?_
              refine aw_iadd dX11_winds_80 ?_
              refine aw_istore_n dX11_winds_81 (by decide) ?_
              refine aw_inc (w := 1) dX11_winds_82 rfl (by decide) (by decide) ?_
              refine aw_goto (tgt := 31) dX11_winds_85 (by decide) ?_
              exact aw_loc [0, 1, 2, 3, 4] (ls2 := [(0, .ref x), (1, .int w), (2, .int c), (3, .int _), (4, .int (nI (j + 1)))]) (by first | (rw [nI_succ]; rfl) | rfl) (ih (j + 1) _ (by omega)  (heq.trans (congrArg (fun z => xWiL T w c k (j + 1) (s + z * trG 2 T (nI j))) (if_neg c53))))
      exact aw_loc [0, 1, 2, 3, 4] (ls2 := [(0, .ref x), (1, .int w), (2, .int c), (3, .int 0), (4, .int (nI 0))]) rfl (key ((T 10 0).toNatClampNeg) 0 0 (by first | rfl | omega)  rfl)
    · refine aw_aload_n dX11_winds_21 rfl ?_
      refine aw_callV0e dX11_winds_22 cmX11_refuseBad cvX11_55 (hg_c0 hC) (Nat.le_of_ble_eq_true rfl) (tX11_refuseBad hC) (fun r n' h' hq => ?_)
      obtain ⟨rfl, rfl, hC, ho⟩ := hq
      have hT := tr_off hT ho (by omega)
      have hA := tr_off hA ho (by omega)
      have hR := rd_off hR ho (by omega)
      have hW := wy_off hW ho (by omega)
      have hF := hF.trans (ho.wide (by omega) (by omega))
      exact aw_iret dX11_winds_25 rfl (x_fin ((if_neg c8).trans (if_pos c18)) hC hT hA hR hW hF)
set_option maxHeartbeats 1000000 in
set_option maxRecDepth 100000 in
theorem tX11_years {l : Launch} {E : aw_E} {d n x : Nat} {h0 : ah} {g : Nat → Option Nat} {C : sT} {L : Nat → Int64} {T A R V : sT} (hX : is_x h0 x g (C, L, T, A, R, V)) {s m : Int32} : am l E mX11_years (d + 6) 0 0 [.ref x, .int s, .int m] n h0 (x_post n h0 x g (xYears C L T A R V s m)) := by
  refine am_of (by decide +kernel) (Nat.le_of_ble_eq_true rfl) ?_
  obtain ⟨hC, hT, hA, hR, hW⟩ := hX
  dsimp only at hC hT hA hR hW
  have hF : ah_off h0 h0 x 49 := ah_off.rf
  refine aw_iload_n dX11_years_0 rfl ?_
  refine aw_iconst (v := 0) dX11_years_1 (by decide) ?_
  refine aw_ldc dX11_years_2 kcX11_216 ?_
  refine aw_callS3p dX11_years_4 cmX11_within csX11_51 (Nat.le_of_ble_eq_true rfl) tX11_within ?_
  refine aw_if_eq (tgt := 20) dX11_years_7 (by decide) (fun c7 => ?_) (fun c7 => ?_)
  · refine aw_aload_n dX11_years_20 rfl ?_
    refine aw_callV0e dX11_years_21 cmX11_refuseBad cvX11_55 (hg_c0 hC) (Nat.le_of_ble_eq_true rfl) (tX11_refuseBad hC) (fun r n' h' hq => ?_)
    obtain ⟨rfl, rfl, hC, ho⟩ := hq
    have hT := tr_off hT ho (by omega)
    have hA := tr_off hA ho (by omega)
    have hR := rd_off hR ho (by omega)
    have hW := wy_off hW ho (by omega)
    have hF := hF.trans (ho.wide (by omega) (by omega))
    exact aw_iret dX11_years_24 rfl (x_fin (if_pos c7) hC hT hA hR hW hF)
  · refine aw_iload_n dX11_years_10 rfl ?_
    refine aw_iconst (v := 0) dX11_years_11 (by decide) ?_
    refine aw_bipush (v := 60) dX11_years_12 (by decide) ?_
    refine aw_callS3p dX11_years_14 cmX11_within csX11_51 (Nat.le_of_ble_eq_true rfl) tX11_within ?_
    refine aw_if_ne (tgt := 25) dX11_years_17 (by decide) (fun c17 => ?_) (fun c17 => ?_)
    · refine aw_aload_n dX11_years_25 rfl ?_
      refine aw_get dX11_years_26 flX11_16 (hg_c0 hC) rfl ?_
      refine aw_aload_n dX11_years_29 rfl ?_
      refine aw_get dX11_years_30 flX11_10 (hg_c0 hC) rfl ?_
      refine aw_callV1e dX11_years_33 cmX9_copyFrom cvX11_96 (tr_c0 hA) (Nat.le_of_ble_eq_true rfl) (tX9_copyFrom hA hT (by omega)) (fun r n' h' hq => ?_)
      obtain ⟨rfl, rfl, hA, ho⟩ := hq
      have hC := hg_off hC ho (by omega) (by omega)
      have hT := tr_off hT ho (by omega)
      have hR := rd_off hR ho (by omega)
      have hW := wy_off hW ho (by omega)
      have hF := hF.trans (ho.wide (by omega) (by omega))
      refine aw_iload_n dX11_years_36 rfl ?_
      refine aw_i2l dX11_years_37 rfl ?_
      refine aw_lstore_n dX11_years_38 (by decide) ?_
      refine aw_iconst (v := 0) dX11_years_39 (by decide) ?_
      refine aw_istore dX11_years_40 (by decide) ?_
      have hN1 := clamp_lt m
      have key : ∀ (k j : Nat) (h : ah) (y : Int64) (B : sT), j + k = m.toNatClampNeg → is_hg h x C L g → is_tr h (x + 1) T → is_tr h (x + 21) B → is_rd h (x + 42) R → is_wy h (x + 44) V → ah_off h0 h x 49 → xYrL m.toNatClampNeg 0 s.toInt64 (trCopyF T A) = xYrL k j y B → aw l E mX11_years (aw_Z E (x_post n h0 x g (xYears C L T A R V s m))) (d + 6) 0 0 42 [(0, .ref x), (2, .int m), (3, .long y), (5, .int (nI j))] [] n h := by
        intro k
        induction k with
        | zero =>
          intro j h y B hj hC hT hA hR hW hF heq
          refine aw_iload dX11_years_42 rfl ?_
          refine aw_iload_n dX11_years_44 rfl ?_
          refine aw_icmp_ge (tgt := 115) dX11_years_45 (by decide) (fun c45 => ?_) (fun c45 => ?_)
          · refine aw_aload_n dX11_years_115 rfl ?_
            refine aw_get dX11_years_116 flX11_16 (hg_c0 hC) rfl ?_
            refine aw_callV0p dX11_years_119 cmX9_allWeight cvX11_151 (tr_c0 hA) (Nat.le_of_ble_eq_true rfl) (tX9_allWeight hA) ?_
            exact aw_iret dX11_years_122 rfl (x_fin ((if_neg c7).trans ((if_neg c17).trans (congrArg (fun z : sT => (trAllW z, C, L, T, z, R, V)) heq))) hC hT hA hR hW hF)
          · exact absurd ((i_le_nI (x := m) (j := j) (by omega)).mpr (by omega)) c45
        | succ k ih =>
          intro j h y B hj hC hT hA hR hW hF heq
          refine aw_iload dX11_years_42 rfl ?_
          refine aw_iload_n dX11_years_44 rfl ?_
          refine aw_icmp_ge (tgt := 115) dX11_years_45 (by decide) (fun c45 => ?_) (fun c45 => ?_)
          · exact absurd ((i_le_nI (x := m) (j := j) (by omega)).mp c45) (by omega)
          · refine aw_lload_n dX11_years_48 rfl ?_
            refine aw_ldc2 dX11_years_49 klX11_217 ?_
            refine aw_lmul dX11_years_52 ?_
            refine aw_ldc2 dX11_years_53 klX11_219 ?_
            refine aw_ladd dX11_years_56 ?_
            refine aw_ldc2 dX11_years_57 klX11_221 ?_
            refine aw_lrem dX11_years_60 (by decide) ?_
            refine aw_lstore_n dX11_years_61 (by decide) ?_
            refine aw_lload_n dX11_years_62 rfl ?_
            refine aw_ldc2 dX11_years_63 klX11_223 ?_
            refine aw_ldiv dX11_years_66 (by decide) ?_
            refine aw_ldc2 dX11_years_67 klX11_225 ?_
            refine aw_lrem dX11_years_70 (by decide) ?_
            refine aw_l2i dX11_years_71 rfl ?_
            refine aw_istore dX11_years_72 (by decide) ?_
            refine aw_lload_n dX11_years_74 rfl ?_
            refine aw_ldc2 dX11_years_75 klX11_227 ?_
            refine aw_ldiv dX11_years_78 (by decide) ?_
            refine aw_ldc2 dX11_years_79 klX11_229 ?_
            refine aw_lrem dX11_years_82 (by decide) ?_
            refine aw_l2i dX11_years_83 rfl ?_
            refine aw_istore dX11_years_84 (by decide) ?_
            refine aw_iload dX11_years_86 rfl ?_
            refine aw_if_eq (tgt := 102) dX11_years_88 (by decide) (fun c88 => ?_) (fun c88 => ?_)
            · refine aw_aload_n dX11_years_102 rfl ?_
              refine aw_get dX11_years_103 flX11_16 (hg_c0 hC) rfl ?_
              refine aw_callV0e dX11_years_106 cmX9_passDay cvX11_123 (tr_c0 hA) (Nat.le_of_ble_eq_true rfl) (tX9_passDay hA) (fun r n' h' hq => ?_)
              obtain ⟨rfl, rfl, hA, ho⟩ := hq
              have hC := hg_off hC ho (by omega) (by omega)
              have hT := tr_off hT ho (by omega)
              have hR := rd_off hR ho (by omega)
              have hW := wy_off hW ho (by omega)
              have hF := hF.trans (ho.wide (by omega) (by omega))
              refine aw_inc (w := 1) dX11_years_109 rfl (by decide) (by decide) ?_
              refine aw_goto (tgt := 42) dX11_years_112 (by decide) ?_
              exact aw_loc [0, 2, 3, 5] (ls2 := [(0, .ref x), (2, .int m), (3, .long (yX y)), (5, .int (nI (j + 1)))]) (by first | (rw [nI_succ]; rfl) | rfl) (ih (j + 1) _ (yX y) _ (by omega) hC hT hA hR hW hF (heq.trans (if_pos c88)))
            · refine aw_aload_n dX11_years_91 rfl ?_
              refine aw_get dX11_years_92 flX11_16 (hg_c0 hC) rfl ?_
              refine aw_iload dX11_years_95 rfl ?_
              refine aw_iload dX11_years_97 rfl ?_
              refine aw_callV2e dX11_years_99 cmX9_tellLie cvX11_107 (tr_c0 hA) (Nat.le_of_ble_eq_true rfl) (tX9_tellLie hA) (fun r n' h' hq => ?_)
              obtain ⟨rfl, rfl, hA, ho⟩ := hq
              have hC := hg_off hC ho (by omega) (by omega)
              have hT := tr_off hT ho (by omega)
              have hR := rd_off hR ho (by omega)
              have hW := wy_off hW ho (by omega)
              have hF := hF.trans (ho.wide (by omega) (by omega))
              refine aw_aload_n dX11_years_102 rfl ?_
              refine aw_get dX11_years_103 flX11_16 (hg_c0 hC) rfl ?_
              refine aw_callV0e dX11_years_106 cmX9_passDay cvX11_123 (tr_c0 hA) (Nat.le_of_ble_eq_true rfl) (tX9_passDay hA) (fun r n' h' hq => ?_)
              obtain ⟨rfl, rfl, hA, ho⟩ := hq
              have hC := hg_off hC ho (by omega) (by omega)
              have hT := tr_off hT ho (by omega)
              have hR := rd_off hR ho (by omega)
              have hW := wy_off hW ho (by omega)
              have hF := hF.trans (ho.wide (by omega) (by omega))
              refine aw_inc (w := 1) dX11_years_109 rfl (by decide) (by decide) ?_
              refine aw_goto (tgt := 42) dX11_years_112 (by decide) ?_
              exact aw_loc [0, 2, 3, 5] (ls2 := [(0, .ref x), (2, .int m), (3, .long (yX y)), (5, .int (nI (j + 1)))]) (by first | (rw [nI_succ]; rfl) | rfl) (ih (j + 1) _ (yX y) _ (by omega) hC hT hA hR hW hF (heq.trans (if_neg c88)))
      exact aw_loc [0, 2, 3, 5] (ls2 := [(0, .ref x), (2, .int m), (3, .long s.toInt64), (5, .int (nI 0))]) rfl (key (m.toNatClampNeg) 0 _ s.toInt64 _ (by first | rfl | omega) hC hT hA hR hW hF rfl)
    · refine aw_aload_n dX11_years_20 rfl ?_
      refine aw_callV0e dX11_years_21 cmX11_refuseBad cvX11_55 (hg_c0 hC) (Nat.le_of_ble_eq_true rfl) (tX11_refuseBad hC) (fun r n' h' hq => ?_)
      obtain ⟨rfl, rfl, hC, ho⟩ := hq
      have hT := tr_off hT ho (by omega)
      have hA := tr_off hA ho (by omega)
      have hR := rd_off hR ho (by omega)
      have hW := wy_off hW ho (by omega)
      have hF := hF.trans (ho.wide (by omega) (by omega))
      exact aw_iret dX11_years_24 rfl (x_fin ((if_neg c7).trans (if_pos c17)) hC hT hA hR hW hF)
set_option maxHeartbeats 1000000 in
set_option maxRecDepth 100000 in
theorem tX11_part {l : Launch} {E : aw_E} {d n x : Nat} {h0 : ah} {g : Nat → Option Nat} {C : sT} {L : Nat → Int64} {T A R V : sT} (hX : is_x h0 x g (C, L, T, A, R, V)) {w : Int32} : am l E mX11_part (d + 1) 0 0 [.ref x, .int w] n h0 (xl_post n h0 x g (xPart C L T A R V w)) := by
  refine am_of (by decide +kernel) (Nat.le_of_ble_eq_true rfl) ?_
  obtain ⟨hC, hT, hA, hR, hW⟩ := hX
  dsimp only at hC hT hA hR hW
  have hF : ah_off h0 h0 x 49 := ah_off.rf
  refine aw_iload_n dX11_part_0 rfl ?_
  by_cases g0 : w = 0
  · refine aw_lookup (off := 27) (tgt := 28) dX11_part_1 (by decide) (by rw [g0]; decide) (by decide) ?_
    refine aw_aload_n dX11_part_28 rfl ?_
    refine aw_get dX11_part_29 flX11_37 (hg_c0 hC) rfl ?_
    exact aw_lret dX11_part_32 rfl (xl_fin (if_pos g0) hC hT hA hR hW hF)
  · skip
    by_cases g1 : w = 1
    · refine aw_lookup (off := 32) (tgt := 33) dX11_part_1 (by decide) (by rw [g1]; decide) (by decide) ?_
      refine aw_aload_n dX11_part_33 rfl ?_
      refine aw_get dX11_part_34 flX11_41 (hg_c0 hC) rfl ?_
      exact aw_lret dX11_part_37 rfl (xl_fin ((if_neg g0).trans (if_pos g1)) hC hT hA hR hW hF)
    · skip
      refine aw_lookup (off := 37) (tgt := 38) dX11_part_1 (by decide) ((lv_osw (x := w) (k := 0) (a := 0) (o := 27) (r := [(1, 32)]) g0 (by decide)).trans ((lv_osw (x := w) (k := 1) (a := 1) (o := 32) (r := []) g1 (by decide)).trans rfl)) (by decide) ?_
      refine aw_aload_n dX11_part_38 rfl ?_
      refine aw_callV0e dX11_part_39 cmX11_refuseBad cvX11_55 (hg_c0 hC) (Nat.le_of_ble_eq_true rfl) (tX11_refuseBad hC) (fun r n' h' hq => ?_)
      obtain ⟨rfl, rfl, hC, ho⟩ := hq
      have hT := tr_off hT ho (by omega)
      have hA := tr_off hA ho (by omega)
      have hR := rd_off hR ho (by omega)
      have hW := wy_off hW ho (by omega)
      have hF := hF.trans (ho.wide (by omega) (by omega))
      refine aw_i2l dX11_part_42 rfl ?_
      exact aw_lret dX11_part_43 rfl (xl_fin ((if_neg g0).trans (if_neg g1)) hC hT hA hR hW hF)
set_option maxHeartbeats 1000000 in
set_option maxRecDepth 100000 in
theorem tX11_status {l : Launch} {E : aw_E} {d n x : Nat} {h0 : ah} {g : Nat → Option Nat} {C : sT} {L : Nat → Int64} {T A R V : sT} (hX : is_x h0 x g (C, L, T, A, R, V)) {w : Int32} : am l E mX11_status (d + 1) 0 0 [.ref x, .int w] n h0 (x_post n h0 x g (xStatus C L T A R V w)) := by
  refine am_of (by decide +kernel) (Nat.le_of_ble_eq_true rfl) ?_
  obtain ⟨hC, hT, hA, hR, hW⟩ := hX
  dsimp only at hC hT hA hR hW
  have hF : ah_off h0 h0 x 49 := ah_off.rf
  refine aw_iload_n dX11_status_0 rfl ?_
  by_cases g0 : w = 0
  · refine aw_tableIn (off := 27) (tgt := 28) dX11_status_1 (by rw [g0]; decide) (by rw [g0]; decide) (by rw [g0]; rfl) (by decide) ?_
    refine aw_aload_n dX11_status_28 rfl ?_
    refine aw_get dX11_status_29 flX11_231 (hg_c0 hC) rfl ?_
    exact aw_iret dX11_status_32 rfl (x_fin (if_pos g0) hC hT hA hR hW hF)
  · skip
    by_cases g1 : w = 1
    · refine aw_tableIn (off := 32) (tgt := 33) dX11_status_1 (by rw [g1]; decide) (by rw [g1]; decide) (by rw [g1]; rfl) (by decide) ?_
      refine aw_aload_n dX11_status_33 rfl ?_
      refine aw_get dX11_status_34 flX11_235 (hg_c0 hC) rfl ?_
      exact aw_iret dX11_status_37 rfl (x_fin ((if_neg g0).trans (if_pos g1)) hC hT hA hR hW hF)
    · skip
      by_cases g2 : w = 2
      · refine aw_tableIn (off := 37) (tgt := 38) dX11_status_1 (by rw [g2]; decide) (by rw [g2]; decide) (by rw [g2]; rfl) (by decide) ?_
        refine aw_aload_n dX11_status_38 rfl ?_
        refine aw_get dX11_status_39 flX11_238 (hg_c0 hC) rfl ?_
        exact aw_iret dX11_status_42 rfl (x_fin (((if_neg g0).trans (if_neg g1)).trans (if_pos g2)) hC hT hA hR hW hF)
      · skip
        refine aw_tableOut (tgt := 43) dX11_status_1 (tbl_out 2 (by decide) (fun j hj => by rcases (show j = 0 ∨ j = 1 ∨ j = 2 by omega) with rfl | rfl | rfl <;> assumption)) (by decide) ?_
        refine aw_aload_n dX11_status_43 rfl ?_
        refine aw_callV0e dX11_status_44 cmX11_refuseBad cvX11_55 (hg_c0 hC) (Nat.le_of_ble_eq_true rfl) (tX11_refuseBad hC) (fun r n' h' hq => ?_)
        obtain ⟨rfl, rfl, hC, ho⟩ := hq
        have hT := tr_off hT ho (by omega)
        have hA := tr_off hA ho (by omega)
        have hR := rd_off hR ho (by omega)
        have hW := wy_off hW ho (by omega)
        have hF := hF.trans (ho.wide (by omega) (by omega))
        refine aw_pop dX11_status_47 rfl ?_
        refine aw_iconst (v := -1) dX11_status_48 (by decide) ?_
        exact aw_iret dX11_status_49 rfl (x_fin (((if_neg g0).trans (if_neg g1)).trans (if_neg g2)) hC hT hA hR hW hF)
set_option maxHeartbeats 1000000 in
set_option maxRecDepth 100000 in
theorem tX11_count {l : Launch} {E : aw_E} {d n x : Nat} {h0 : ah} {g : Nat → Option Nat} {C : sT} {L : Nat → Int64} {T A R V : sT} (hX : is_x h0 x g (C, L, T, A, R, V)) {w : Int32} : am l E mX11_count (d + 4) 0 0 [.ref x, .int w] n h0 (x_post n h0 x g (xCount C L T A R V w)) := by
  refine am_of (by decide +kernel) (Nat.le_of_ble_eq_true rfl) ?_
  obtain ⟨hC, hT, hA, hR, hW⟩ := hX
  dsimp only at hC hT hA hR hW
  have hF : ah_off h0 h0 x 49 := ah_off.rf
  refine aw_iload_n dX11_count_0 rfl ?_
  refine aw_iconst (v := 0) dX11_count_1 (by decide) ?_
  refine aw_bipush (v := 6) dX11_count_2 (by decide) ?_
  refine aw_callS3p dX11_count_4 cmX11_within csX11_51 (Nat.le_of_ble_eq_true rfl) tX11_within ?_
  refine aw_if_eq (tgt := 18) dX11_count_7 (by decide) (fun c7 => ?_) (fun c7 => ?_)
  · refine aw_aload_n dX11_count_18 rfl ?_
    refine aw_callV0e dX11_count_19 cmX11_refuseBad cvX11_55 (hg_c0 hC) (Nat.le_of_ble_eq_true rfl) (tX11_refuseBad hC) (fun r n' h' hq => ?_)
    obtain ⟨rfl, rfl, hC, ho⟩ := hq
    have hT := tr_off hT ho (by omega)
    have hA := tr_off hA ho (by omega)
    have hR := rd_off hR ho (by omega)
    have hW := wy_off hW ho (by omega)
    have hF := hF.trans (ho.wide (by omega) (by omega))
    exact aw_iret dX11_count_22 rfl (x_fin (if_pos c7) hC hT hA hR hW hF)
  · refine aw_aload_n dX11_count_10 rfl ?_
    refine aw_iload_n dX11_count_11 rfl ?_
    refine aw_callV1p dX11_count_12 cmX11_counted cvX11_241 (hg_c0 hC) (Nat.le_of_ble_eq_true rfl) (tX11_counted hC hT hR) ?_
    refine aw_goto (tgt := 22) dX11_count_15 (by decide) ?_
    exact aw_iret dX11_count_22 rfl (x_fin (if_neg c7) hC hT hA hR hW hF)
set_option maxHeartbeats 1000000 in
set_option maxRecDepth 100000 in
theorem tX11_digest {l : Launch} {E : aw_E} {d n x : Nat} {h0 : ah} {g : Nat → Option Nat} {C : sT} {L : Nat → Int64} {T A R V : sT} (hX : is_x h0 x g (C, L, T, A, R, V)) : am l E mX11_digest (d + 4) 0 0 [.ref x] n h0 (xl_post n h0 x g (xDigest C L T A R V)) := by
  refine am_of (by decide +kernel) (Nat.le_of_ble_eq_true rfl) ?_
  obtain ⟨hC, hT, hA, hR, hW⟩ := hX
  dsimp only at hC hT hA hR hW
  have hF : ah_off h0 h0 x 49 := ah_off.rf
  refine aw_ldc2 dX11_digest_0 klX11_244 ?_
  refine aw_lstore_n dX11_digest_3 (by decide) ?_
  refine aw_iconst (v := 0) dX11_digest_4 (by decide) ?_
  refine aw_istore_n dX11_digest_5 (by decide) ?_
  have key : ∀ (k j : Nat) (y : Int64), j + k = 7 → xDgL T R 7 0 1307 = xDgL T R k j y → aw l E mX11_digest (aw_Z E (xl_post n h0 x g (xDigest C L T A R V))) (d + 4) 0 0 6 [(0, .ref x), (1, .long y), (3, .int (nI j))] [] n h0 := by
    intro k
    induction k with
    | zero =>
      intro j y hj  heq
      refine aw_iload_n dX11_digest_6 rfl ?_
      refine aw_bipush (v := 7) dX11_digest_7 (by decide) ?_
      refine aw_icmp_ge (tgt := 31) dX11_digest_9 (by decide) (fun c9 => ?_) (fun c9 => ?_)
      · refine aw_aload_n dX11_digest_31 rfl ?_
        refine aw_get dX11_digest_32 flX11_10 (hg_c0 hC) rfl ?_
        refine aw_lload_n dX11_digest_35 rfl ?_
        refine aw_callV1p dX11_digest_36 cmX9_mixInto cvX11_248 (tr_c0 hT) (Nat.le_of_ble_eq_true rfl) (tX9_mixInto hT) ?_
        refine aw_lstore_n dX11_digest_39 (by decide) ?_
        refine aw_ldc2 dX11_digest_40 klX11_246 ?_
        refine aw_lload_n dX11_digest_43 rfl ?_
        refine aw_lmul dX11_digest_44 ?_
        refine aw_aload_n dX11_digest_45 rfl ?_
        refine aw_get dX11_digest_46 flX11_37 (hg_c0 hC) rfl ?_
        refine aw_ladd dX11_digest_49 ?_
        refine aw_lstore_n dX11_digest_50 (by decide) ?_
        refine aw_ldc2 dX11_digest_51 klX11_246 ?_
        refine aw_lload_n dX11_digest_54 rfl ?_
        refine aw_lmul dX11_digest_55 ?_
        refine aw_aload_n dX11_digest_56 rfl ?_
        refine aw_get dX11_digest_57 flX11_41 (hg_c0 hC) rfl ?_
        refine aw_ladd dX11_digest_60 ?_
        exact aw_lret dX11_digest_61 rfl (xl_fin (congrArg (fun z : Int64 => (31 * (31 * trMixF T z + L 0) + L 1, C, L, T, A, R, V)) heq) hC hT hA hR hW hF)
      · exact absurd ((nI_leI (a := 7) (b := j) (by omega) (by omega)).mpr (by omega)) c9
    | succ k ih =>
      intro j y hj  heq
      refine aw_iload_n dX11_digest_6 rfl ?_
      refine aw_bipush (v := 7) dX11_digest_7 (by decide) ?_
      refine aw_icmp_ge (tgt := 31) dX11_digest_9 (by decide) (fun c9 => ?_) (fun c9 => ?_)
      · exact absurd ((nI_leI (a := 7) (b := j) (by omega) (by omega)).mp c9) (by omega)
      · refine aw_ldc2 dX11_digest_12 klX11_246 ?_
        refine aw_lload_n dX11_digest_15 rfl ?_
        refine aw_lmul dX11_digest_16 ?_
        refine aw_aload_n dX11_digest_17 rfl ?_
        refine aw_iload_n dX11_digest_18 rfl ?_
        refine aw_callV1p dX11_digest_19 cmX11_counted cvX11_241 (hg_c0 hC) (Nat.le_of_ble_eq_true rfl) (tX11_counted hC hT hR) ?_
        refine aw_i2l dX11_digest_22 rfl ?_
        refine aw_ladd dX11_digest_23 ?_
        refine aw_lstore_n dX11_digest_24 (by decide) ?_
        refine aw_inc (w := 1) dX11_digest_25 rfl (by decide) (by decide) ?_
        refine aw_goto (tgt := 6) dX11_digest_28 (by decide) ?_
        exact aw_loc [0, 1, 3] (ls2 := [(0, .ref x), (1, .long _), (3, .int (nI (j + 1)))]) (by first | (rw [nI_succ]; rfl) | rfl) (ih (j + 1) _ (by omega)  heq)
  exact aw_loc [0, 1, 3] (ls2 := [(0, .ref x), (1, .long 1307), (3, .int (nI 0))]) rfl (key (7) 0 1307 (by first | rfl | omega)  rfl)
