/-! THE REFERENCE. -/
set_option maxHeartbeats 1000000 in
set_option maxRecDepth 100000 in
theorem tX12_in {l : Launch} {E : aw_E} {d n : Nat} {h : ah} {v a b : Int32} : am l E mX12_in d 0 0 [.int v, .int a, .int b] n h (aw_eq n h (some (.int (iW v a b)))) := by
  refine am_of (by decide +kernel) (Nat.le_of_ble_eq_true rfl) ?_
  refine aw_iload_n dX12_in_0 rfl ?_
  refine aw_iload_n dX12_in_1 rfl ?_
  refine aw_icmp_lt (tgt := 14) dX12_in_2 (by decide) (fun c2 => ?_) (fun c2 => ?_)
  · refine aw_iconst (v := 0) dX12_in_14 (by decide) ?_
    exact aw_zret dX12_in_15 rfl rfl (⟨congrArg (fun z => some (Value.int z)) (if_pos c2), rfl, rfl⟩)
  · refine aw_iload_n dX12_in_5 rfl ?_
    refine aw_iload_n dX12_in_6 rfl ?_
    refine aw_icmp_gt (tgt := 14) dX12_in_7 (by decide) (fun c7 => ?_) (fun c7 => ?_)
    · refine aw_iconst (v := 0) dX12_in_14 (by decide) ?_
      exact aw_zret dX12_in_15 rfl rfl (⟨congrArg (fun z => some (Value.int z)) ((if_neg c2).trans (if_pos c7)), rfl, rfl⟩)
    · refine aw_iconst (v := 1) dX12_in_10 (by decide) ?_
      refine aw_goto (tgt := 15) dX12_in_11 (by decide) ?_
      exact aw_zret dX12_in_15 rfl rfl (⟨congrArg (fun z => some (Value.int z)) ((if_neg c2).trans (if_neg c7)), rfl, rfl⟩)
set_option maxHeartbeats 1000000 in
set_option maxRecDepth 100000 in
theorem tX12_has {l : Launch} {E : aw_E} {d n : Nat} {h : ah} {b k : Int32} : am l E mX12_has d 0 0 [.int b, .int k] n h (aw_eq n h (some (.int (mHas b k)))) := by
  refine am_of (by decide +kernel) (Nat.le_of_ble_eq_true rfl) ?_
  refine aw_iload_n dX12_has_0 rfl ?_
  refine aw_iload_n dX12_has_1 rfl ?_
  refine aw_ishr dX12_has_2 ?_
  refine aw_iconst (v := 1) dX12_has_3 (by decide) ?_
  refine aw_iand dX12_has_4 ?_
  refine aw_iconst (v := 1) dX12_has_5 (by decide) ?_
  refine aw_icmp_ne (tgt := 13) dX12_has_6 (by decide) (fun c6 => ?_) (fun c6 => ?_)
  · refine aw_iconst (v := 0) dX12_has_13 (by decide) ?_
    exact aw_zret dX12_has_14 rfl rfl (⟨congrArg (fun z => some (Value.int z)) (if_neg c6), rfl, rfl⟩)
  · refine aw_iconst (v := 1) dX12_has_9 (by decide) ?_
    refine aw_goto (tgt := 14) dX12_has_10 (by decide) ?_
    exact aw_zret dX12_has_14 rfl rfl (⟨congrArg (fun z => some (Value.int z)) (if_pos c6), rfl, rfl⟩)
set_option maxHeartbeats 1000000 in
set_option maxRecDepth 100000 in
theorem tX12_lesser {l : Launch} {E : aw_E} {d n : Nat} {h : ah} {x y : Int32} : am l E mX12_lesser d 0 0 [.int x, .int y] n h (aw_eq n h (some (.int (iMin x y)))) := by
  refine am_of (by decide +kernel) (Nat.le_of_ble_eq_true rfl) ?_
  refine aw_iload_n dX12_lesser_0 rfl ?_
  refine aw_iload_n dX12_lesser_1 rfl ?_
  refine aw_icmp_ge (tgt := 9) dX12_lesser_2 (by decide) (fun c2 => ?_) (fun c2 => ?_)
  · refine aw_iload_n dX12_lesser_9 rfl ?_
    exact aw_iret dX12_lesser_10 rfl (⟨congrArg (fun z => some (Value.int z)) ((i_ge1 x y).symm.trans (if_pos c2)), rfl, rfl⟩)
  · refine aw_iload_n dX12_lesser_5 rfl ?_
    refine aw_goto (tgt := 10) dX12_lesser_6 (by decide) ?_
    exact aw_iret dX12_lesser_10 rfl (⟨congrArg (fun z => some (Value.int z)) ((i_ge1 x y).symm.trans (if_neg c2)), rfl, rfl⟩)
theorem tbl_out1 {x : Int32} (g1 : ¬ x = 1) (g2 : ¬ x = 2) (g3 : ¬ x = 3) (g4 : ¬ x = 4) (g5 : ¬ x = 5) : x.toInt < 1 ∨ 5 < x.toInt := by
  by_cases g0 : x = 0
  · subst g0; exact Or.inl (by decide)
  · rcases tbl_out (x := x) 5 (by decide) (fun j hj => by rcases (show j = 0 ∨ j = 1 ∨ j = 2 ∨ j = 3 ∨ j = 4 ∨ j = 5 by omega) with rfl | rfl | rfl | rfl | rfl | rfl <;> assumption) with q | q
    · exact Or.inl (by omega)
    · exact Or.inr q
set_option maxHeartbeats 1000000 in
set_option maxRecDepth 100000 in
theorem tX12_weightBy {l : Launch} {E : aw_E} {d n : Nat} {h : ah} {k n' h' d' : Int32} : am l E mX12_weightBy (d + 1) 0 0 [.int k, .int n', .int h', .int d'] n h (aw_eq n h (some (.int (kW k n' h' d')))) := by
  refine am_of (by decide +kernel) (Nat.le_of_ble_eq_true rfl) ?_
  refine aw_iload_n dX12_weightBy_0 rfl ?_
  by_cases g1 : k = 1
  · refine aw_tableIn (off := 35) (tgt := 36) dX12_weightBy_1 (by rw [g1]; decide) (by rw [g1]; decide) (by rw [g1]; rfl) (by decide) ?_
    refine aw_bipush (v := 12) dX12_weightBy_36 (by decide) ?_
    refine aw_iload_n dX12_weightBy_38 rfl ?_
    refine aw_imul dX12_weightBy_39 ?_
    exact aw_iret dX12_weightBy_40 rfl (⟨congrArg (fun z => some (Value.int z)) ((if_pos g1).trans (Int32.mul_comm _ _)), rfl, rfl⟩)
  · skip
    by_cases g2 : k = 2
    · refine aw_tableIn (off := 40) (tgt := 41) dX12_weightBy_1 (by rw [g2]; decide) (by rw [g2]; decide) (by rw [g2]; rfl) (by decide) ?_
      refine aw_iload_n dX12_weightBy_41 rfl ?_
      refine aw_iload_n dX12_weightBy_42 rfl ?_
      refine aw_imul dX12_weightBy_43 ?_
      refine aw_iconst (v := 2) dX12_weightBy_44 (by decide) ?_
      refine aw_idiv dX12_weightBy_45 (by decide) ?_
      exact aw_iret dX12_weightBy_46 rfl (⟨congrArg (fun z => some (Value.int z)) ((if_neg g1).trans (if_pos g2)), rfl, rfl⟩)
    · skip
      by_cases g3 : k = 3
      · refine aw_tableIn (off := 46) (tgt := 47) dX12_weightBy_1 (by rw [g3]; decide) (by rw [g3]; decide) (by rw [g3]; rfl) (by decide) ?_
        refine aw_iload_n dX12_weightBy_47 rfl ?_
        refine aw_iload_n dX12_weightBy_48 rfl ?_
        refine aw_imul dX12_weightBy_49 ?_
        refine aw_iload_n dX12_weightBy_50 rfl ?_
        refine aw_iadd dX12_weightBy_51 ?_
        exact aw_iret dX12_weightBy_52 rfl (⟨congrArg (fun z => some (Value.int z)) (((if_neg g1).trans (if_neg g2)).trans (if_pos g3)), rfl, rfl⟩)
      · skip
        by_cases g4 : k = 4
        · refine aw_tableIn (off := 52) (tgt := 53) dX12_weightBy_1 (by rw [g4]; decide) (by rw [g4]; decide) (by rw [g4]; rfl) (by decide) ?_
          refine aw_iload_n dX12_weightBy_53 rfl ?_
          refine aw_iconst (v := 3) dX12_weightBy_54 (by decide) ?_
          refine aw_irem dX12_weightBy_55 (by decide) ?_
          refine aw_if_ne (tgt := 63) dX12_weightBy_56 (by decide) (fun c56 => ?_) (fun c56 => ?_)
          · refine aw_iload_n dX12_weightBy_63 rfl ?_
            refine aw_iload_n dX12_weightBy_64 rfl ?_
            refine aw_imul dX12_weightBy_65 ?_
            refine aw_iconst (v := 2) dX12_weightBy_66 (by decide) ?_
            refine aw_idiv dX12_weightBy_67 (by decide) ?_
            exact aw_iret dX12_weightBy_68 rfl (⟨congrArg (fun z => some (Value.int z)) (((((if_neg g1).trans (if_neg g2)).trans (if_neg g3)).trans (if_pos g4)).trans (if_neg c56)), rfl, rfl⟩)
          · refine aw_iconst (v := 0) dX12_weightBy_59 (by decide) ?_
            refine aw_goto (tgt := 68) dX12_weightBy_60 (by decide) ?_
            exact aw_iret dX12_weightBy_68 rfl (⟨congrArg (fun z => some (Value.int z)) (((((if_neg g1).trans (if_neg g2)).trans (if_neg g3)).trans (if_pos g4)).trans (if_pos c56)), rfl, rfl⟩)
        · skip
          by_cases g5 : k = 5
          · refine aw_tableIn (off := 68) (tgt := 69) dX12_weightBy_1 (by rw [g5]; decide) (by rw [g5]; decide) (by rw [g5]; rfl) (by decide) ?_
            refine aw_bipush (v := 60) dX12_weightBy_69 (by decide) ?_
            refine aw_iload_n dX12_weightBy_71 rfl ?_
            refine aw_iload_n dX12_weightBy_72 rfl ?_
            refine aw_imul dX12_weightBy_73 ?_
            refine aw_iload_n dX12_weightBy_74 rfl ?_
            refine aw_iadd dX12_weightBy_75 ?_
            refine aw_callS2p dX12_weightBy_76 cmX12_lesser csX12_180 (Nat.le_of_ble_eq_true rfl) tX12_lesser ?_
            exact aw_iret dX12_weightBy_79 rfl (⟨congrArg (fun z => some (Value.int z)) (((((if_neg g1).trans (if_neg g2)).trans (if_neg g3)).trans (if_neg g4)).trans (if_pos g5)), rfl, rfl⟩)
          · skip
            refine aw_tableOut (tgt := 80) dX12_weightBy_1 (tbl_out1 g1 g2 g3 g4 g5) (by decide) ?_
            refine aw_iload_n dX12_weightBy_80 rfl ?_
            refine aw_iload_n dX12_weightBy_81 rfl ?_
            refine aw_imul dX12_weightBy_82 ?_
            exact aw_iret dX12_weightBy_83 rfl (⟨congrArg (fun z => some (Value.int z)) (((((if_neg g1).trans (if_neg g2)).trans (if_neg g3)).trans (if_neg g4)).trans (if_neg g5)), rfl, rfl⟩)
set_option maxHeartbeats 1000000 in
set_option maxRecDepth 100000 in
theorem tX12_lieBy {l : Launch} {E : aw_E} {d n : Nat} {h : ah} {k s : Int32} : am l E mX12_lieBy d 0 0 [.int k, .int s] n h (aw_eq n h (some (.int (kL k s)))) := by
  refine am_of (by decide +kernel) (Nat.le_of_ble_eq_true rfl) ?_
  refine aw_iload_n dX12_lieBy_0 rfl ?_
  by_cases g1 : k = 1
  · refine aw_tableIn (off := 35) (tgt := 36) dX12_lieBy_1 (by rw [g1]; decide) (by rw [g1]; decide) (by rw [g1]; rfl) (by decide) ?_
    refine aw_iload_n dX12_lieBy_36 rfl ?_
    refine aw_iconst (v := 1) dX12_lieBy_37 (by decide) ?_
    refine aw_iadd dX12_lieBy_38 ?_
    exact aw_iret dX12_lieBy_39 rfl (⟨congrArg (fun z => some (Value.int z)) (if_pos g1), rfl, rfl⟩)
  · skip
    by_cases g2 : k = 2
    · refine aw_tableIn (off := 39) (tgt := 40) dX12_lieBy_1 (by rw [g2]; decide) (by rw [g2]; decide) (by rw [g2]; rfl) (by decide) ?_
      refine aw_iload_n dX12_lieBy_40 rfl ?_
      refine aw_iconst (v := 1) dX12_lieBy_41 (by decide) ?_
      refine aw_iadd dX12_lieBy_42 ?_
      refine aw_iconst (v := 2) dX12_lieBy_43 (by decide) ?_
      refine aw_idiv dX12_lieBy_44 (by decide) ?_
      exact aw_iret dX12_lieBy_45 rfl (⟨congrArg (fun z => some (Value.int z)) ((if_neg g1).trans (if_pos g2)), rfl, rfl⟩)
    · skip
      by_cases g3 : k = 3
      · refine aw_tableIn (off := 45) (tgt := 46) dX12_lieBy_1 (by rw [g3]; decide) (by rw [g3]; decide) (by rw [g3]; rfl) (by decide) ?_
        refine aw_iconst (v := 2) dX12_lieBy_46 (by decide) ?_
        refine aw_iload_n dX12_lieBy_47 rfl ?_
        refine aw_imul dX12_lieBy_48 ?_
        exact aw_iret dX12_lieBy_49 rfl (⟨congrArg (fun z => some (Value.int z)) (((if_neg g1).trans (if_neg g2)).trans (if_pos g3)), rfl, rfl⟩)
      · skip
        by_cases g4 : k = 4
        · refine aw_tableIn (off := 49) (tgt := 50) dX12_lieBy_1 (by rw [g4]; decide) (by rw [g4]; decide) (by rw [g4]; rfl) (by decide) ?_
          refine aw_iload_n dX12_lieBy_50 rfl ?_
          refine aw_iconst (v := 1) dX12_lieBy_51 (by decide) ?_
          refine aw_iadd dX12_lieBy_52 ?_
          refine aw_iconst (v := 2) dX12_lieBy_53 (by decide) ?_
          refine aw_idiv dX12_lieBy_54 (by decide) ?_
          exact aw_iret dX12_lieBy_55 rfl (⟨congrArg (fun z => some (Value.int z)) ((((if_neg g1).trans (if_neg g2)).trans (if_neg g3)).trans (if_pos g4)), rfl, rfl⟩)
        · skip
          by_cases g5 : k = 5
          · refine aw_tableIn (off := 55) (tgt := 56) dX12_lieBy_1 (by rw [g5]; decide) (by rw [g5]; decide) (by rw [g5]; rfl) (by decide) ?_
            refine aw_iconst (v := 2) dX12_lieBy_56 (by decide) ?_
            refine aw_iload_n dX12_lieBy_57 rfl ?_
            refine aw_imul dX12_lieBy_58 ?_
            exact aw_iret dX12_lieBy_59 rfl (⟨congrArg (fun z => some (Value.int z)) (((((if_neg g1).trans (if_neg g2)).trans (if_neg g3)).trans (if_neg g4)).trans (if_pos g5)), rfl, rfl⟩)
          · skip
            refine aw_tableOut (tgt := 60) dX12_lieBy_1 (tbl_out1 g1 g2 g3 g4 g5) (by decide) ?_
            refine aw_iload_n dX12_lieBy_60 rfl ?_
            exact aw_iret dX12_lieBy_61 rfl (⟨congrArg (fun z => some (Value.int z)) (((((if_neg g1).trans (if_neg g2)).trans (if_neg g3)).trans (if_neg g4)).trans (if_neg g5)), rfl, rfl⟩)
theorem iW_nar (v a b : Int32) : narrow .boolean (.int (iW v a b)) = .int (iW v a b) := by
  unfold iW
  by_cases h1 : v < a
  · rw [if_pos h1]; rfl
  · rw [if_neg h1]
    by_cases h2 : b < v
    · rw [if_pos h2]; rfl
    · rw [if_neg h2]; rfl
set_option maxHeartbeats 1000000 in
set_option maxRecDepth 100000 in
theorem tX12_isOne {l : Launch} {E : aw_E} {d n m : Nat} {h : ah} {S : sT} {L : Nat → Int64} (hM : is_mo h m S L) {p : Int32} : am l E mX12_isOne (d + 1) 0 0 [.ref m, .int p] n h (aw_eq n h (some (.int (mIs S p)))) := by
  refine am_of (by decide +kernel) (Nat.le_of_ble_eq_true rfl) ?_
  refine aw_iload_n dX12_isOne_0 rfl ?_
  refine aw_iconst (v := 0) dX12_isOne_1 (by decide) ?_
  refine aw_aload_n dX12_isOne_2 rfl ?_
  refine aw_get dX12_isOne_3 flX12_77 (mo_c0 hM) rfl ?_
  refine aw_iconst (v := 1) dX12_isOne_6 (by decide) ?_
  refine aw_isub dX12_isOne_7 ?_
  refine aw_callS3p dX12_isOne_8 cmX12_in csX12_93 (Nat.le_of_ble_eq_true rfl) tX12_in ?_
  exact aw_zret dX12_isOne_11 rfl (iW_nar _ _ _) (⟨rfl, rfl, rfl⟩)
set_option maxHeartbeats 1000000 in
set_option maxRecDepth 100000 in
theorem tX12_bad {l : Launch} {E : aw_E} {d n m : Nat} {h0 : ah} {S0 : sT} {L0 : Nat → Int64} (hM : is_mo h0 m S0 L0) : am l E mX12_bad d 0 0 [.ref m] n h0 (mo_post n h0 m (((-2, mBd S0, L0) : Int32 × sM))) := by
  refine am_of (by decide +kernel) (Nat.le_of_ble_eq_true rfl) ?_
  have hF : ah_off h0 h0 m 21 := ah_off.rf
  refine aw_aload_n dX12_bad_0 rfl ?_
  refine aw_get dX12_bad_1 flX12_1 (mo_c0 hM) rfl ?_
  refine aw_iconst (v := 0) dX12_bad_4 (by decide) ?_
  refine aw_dup2 dX12_bad_5 rfl rfl ?_
  refine aw_ialdN dX12_bad_6 (mo_c1 hM) (show (0 : Int32) = nI 0 from rfl) (by decide) (by decide) ?_
  refine aw_iconst (v := 1) dX12_bad_7 (by decide) ?_
  refine aw_iadd dX12_bad_8 ?_
  refine aw_iN_mo0 dX12_bad_9 hM (show (0 : Int32) = nI 0 from rfl) (by decide) (fun h hM ho => ?_)
  have hF := hF.trans ho
  refine aw_bipush (v := -2) dX12_bad_10 (by decide) ?_
  exact aw_iret dX12_bad_12 rfl (mo_fin rfl hM hF)
set_option maxHeartbeats 1000000 in
set_option maxRecDepth 100000 in
theorem tX12_ten {l : Launch} {E : aw_E} {d n m : Nat} {h0 : ah} {S0 : sT} {L0 : Nat → Int64} (hM : is_mo h0 m S0 L0) : am l E mX12_ten d 0 0 [.ref m] n h0 (mo_post n h0 m (((-10, mBd S0, L0) : Int32 × sM))) := by
  refine am_of (by decide +kernel) (Nat.le_of_ble_eq_true rfl) ?_
  have hF : ah_off h0 h0 m 21 := ah_off.rf
  refine aw_aload_n dX12_ten_0 rfl ?_
  refine aw_get dX12_ten_1 flX12_1 (mo_c0 hM) rfl ?_
  refine aw_iconst (v := 0) dX12_ten_4 (by decide) ?_
  refine aw_dup2 dX12_ten_5 rfl rfl ?_
  refine aw_ialdN dX12_ten_6 (mo_c1 hM) (show (0 : Int32) = nI 0 from rfl) (by decide) (by decide) ?_
  refine aw_iconst (v := 1) dX12_ten_7 (by decide) ?_
  refine aw_iadd dX12_ten_8 ?_
  refine aw_iN_mo0 dX12_ten_9 hM (show (0 : Int32) = nI 0 from rfl) (by decide) (fun h hM ho => ?_)
  have hF := hF.trans ho
  refine aw_bipush (v := -10) dX12_ten_10 (by decide) ?_
  exact aw_iret dX12_ten_12 rfl (mo_fin rfl hM hF)
set_option maxHeartbeats 1000000 in
set_option maxRecDepth 100000 in
theorem tX12_no {l : Launch} {E : aw_E} {d n m : Nat} {h0 : ah} {S0 : sT} {L0 : Nat → Int64} (hM : is_mo h0 m S0 L0) : am l E mX12_no d 0 0 [.ref m] n h0 (mo_post n h0 m (((-3, mN S0, L0) : Int32 × sM))) := by
  refine am_of (by decide +kernel) (Nat.le_of_ble_eq_true rfl) ?_
  have hF : ah_off h0 h0 m 21 := ah_off.rf
  refine aw_aload_n dX12_no_0 rfl ?_
  refine aw_get dX12_no_1 flX12_1 (mo_c0 hM) rfl ?_
  refine aw_iconst (v := 1) dX12_no_4 (by decide) ?_
  refine aw_dup2 dX12_no_5 rfl rfl ?_
  refine aw_ialdN dX12_no_6 (mo_c1 hM) (show (1 : Int32) = nI 1 from rfl) (by decide) (by decide) ?_
  refine aw_iconst (v := 1) dX12_no_7 (by decide) ?_
  refine aw_iadd dX12_no_8 ?_
  refine aw_iN_mo0 dX12_no_9 hM (show (1 : Int32) = nI 1 from rfl) (by decide) (fun h hM ho => ?_)
  have hF := hF.trans ho
  refine aw_bipush (v := -3) dX12_no_10 (by decide) ?_
  exact aw_iret dX12_no_12 rfl (mo_fin rfl hM hF)
set_option maxHeartbeats 1000000 in
set_option maxRecDepth 100000 in
theorem tX12_full {l : Launch} {E : aw_E} {d n m : Nat} {h0 : ah} {S0 : sT} {L0 : Nat → Int64} (hM : is_mo h0 m S0 L0) : am l E mX12_full d 0 0 [.ref m] n h0 (mo_post n h0 m (((-4, mFl S0, L0) : Int32 × sM))) := by
  refine am_of (by decide +kernel) (Nat.le_of_ble_eq_true rfl) ?_
  have hF : ah_off h0 h0 m 21 := ah_off.rf
  refine aw_aload_n dX12_full_0 rfl ?_
  refine aw_get dX12_full_1 flX12_1 (mo_c0 hM) rfl ?_
  refine aw_iconst (v := 2) dX12_full_4 (by decide) ?_
  refine aw_dup2 dX12_full_5 rfl rfl ?_
  refine aw_ialdN dX12_full_6 (mo_c1 hM) (show (2 : Int32) = nI 2 from rfl) (by decide) (by decide) ?_
  refine aw_iconst (v := 1) dX12_full_7 (by decide) ?_
  refine aw_iadd dX12_full_8 ?_
  refine aw_iN_mo0 dX12_full_9 hM (show (2 : Int32) = nI 2 from rfl) (by decide) (fun h hM ho => ?_)
  have hF := hF.trans ho
  refine aw_bipush (v := -4) dX12_full_10 (by decide) ?_
  exact aw_iret dX12_full_12 rfl (mo_fin rfl hM hF)
set_option maxHeartbeats 1000000 in
set_option maxRecDepth 100000 in
theorem tX12_begin {l : Launch} {E : aw_E} {d n m : Nat} {h0 : ah} {S0 : sT} {L0 : Nat → Int64} (hM : is_mo h0 m S0 L0) : am l E mX12_begin d 0 0 [.ref m] n h0 (mv_post n h0 m (((mBegin S0, L0) : sM))) := by
  refine am_of (by decide +kernel) (Nat.le_of_ble_eq_true rfl) ?_
  have hF : ah_off h0 h0 m 21 := ah_off.rf
  refine aw_aload_n dX12_begin_0 rfl ?_
  refine aw_iconst (v := 0) dX12_begin_1 (by decide) ?_
  refine aw_pf_mo0 dX12_begin_2 fpX12_77 hM (fun h hM ho => ?_)
  have hF := hF.trans ho
  refine aw_aload_n dX12_begin_5 rfl ?_
  refine aw_iconst (v := 0) dX12_begin_6 (by decide) ?_
  refine aw_pf_mo1 dX12_begin_7 fpX12_81 hM (fun h hM ho => ?_)
  have hF := hF.trans ho
  refine aw_aload_n dX12_begin_10 rfl ?_
  refine aw_iconst (v := 0) dX12_begin_11 (by decide) ?_
  refine aw_pf_mo2 dX12_begin_12 fpX12_84 hM (fun h hM ho => ?_)
  have hF := hF.trans ho
  refine aw_aload_n dX12_begin_15 rfl ?_
  refine aw_iconst (v := 0) dX12_begin_16 (by decide) ?_
  refine aw_pf_mo3 dX12_begin_17 fpX12_87 hM (fun h hM ho => ?_)
  have hF := hF.trans ho
  refine aw_aload_n dX12_begin_20 rfl ?_
  refine aw_iconst (v := 0) dX12_begin_21 (by decide) ?_
  refine aw_pf_mo9 dX12_begin_22 fpX12_90 hM (fun h hM ho => ?_)
  have hF := hF.trans ho
  exact aw_vret dX12_begin_25 rfl (mv_fin rfl hM hF)
set_option maxHeartbeats 1000000 in
set_option maxRecDepth 100000 in
theorem tX12_gold {l : Launch} {E : aw_E} {d n m : Nat} {h0 : ah} {S0 : sT} {L0 : Nat → Int64} (hM : is_mo h0 m S0 L0) : am l E mX12_gold (d + 1) 0 0 [.ref m] n h0 (mo_post n h0 m (mGold S0 L0)) := by
  refine am_of (by decide +kernel) (Nat.le_of_ble_eq_true rfl) ?_
  have hF : ah_off h0 h0 m 21 := ah_off.rf
  refine aw_aload_n dX12_gold_0 rfl ?_
  refine aw_get dX12_gold_1 flX12_77 (mo_c0 hM) rfl ?_
  refine aw_istore_n dX12_gold_4 (by decide) ?_
  refine aw_aload_n dX12_gold_5 rfl ?_
  refine aw_callV0e dX12_gold_6 cmX12_begin cvX12_74 (mo_c0 hM) (Nat.le_of_ble_eq_true rfl) (tX12_begin hM) (fun r n' h' hq => ?_)
  obtain ⟨rfl, rfl, hM, ho⟩ := hq
  have hF := hF.trans ho
  refine aw_iload_n dX12_gold_9 rfl ?_
  exact aw_iret dX12_gold_10 rfl (mo_fin rfl hM hF)
set_option maxHeartbeats 1000000 in
set_option maxRecDepth 100000 in
theorem tX12_addOne {l : Launch} {E : aw_E} {d n m : Nat} {h0 : ah} {S0 : sT} {L0 : Nat → Int64} (hM : is_mo h0 m S0 L0) {k h' n' p' : Int32} (hi : vp_in (S0 30 0) 6) : am l E mX12_addOne d 0 0 [.ref m, .int k, .int h', .int n', .int p'] n h0 (mo_post n h0 m (((S0 30 0 + 1 - 1, mAdd S0 k h' n' p', L0) : Int32 × sM))) := by
  refine am_of (by decide +kernel) (Nat.le_of_ble_eq_true rfl) ?_
  have hF : ah_off h0 h0 m 21 := ah_off.rf
  refine aw_aload_n dX12_addOne_0 rfl ?_
  refine aw_get dX12_addOne_1 flX12_13 (mo_c0 hM) rfl ?_
  refine aw_aload_n dX12_addOne_4 rfl ?_
  refine aw_get dX12_addOne_5 flX12_77 (mo_c0 hM) rfl ?_
  refine aw_iload_n dX12_addOne_8 rfl ?_
  refine aw_ia_mo1 dX12_addOne_9 hM hi (fun h hM ho => ?_)
  have hF := hF.trans ho
  refine aw_aload_n dX12_addOne_10 rfl ?_
  refine aw_get dX12_addOne_11 flX12_16 (mo_c0 hM) rfl ?_
  refine aw_aload_n dX12_addOne_14 rfl ?_
  refine aw_get dX12_addOne_15 flX12_77 (mo_c0 hM) rfl ?_
  refine aw_iload_n dX12_addOne_18 rfl ?_
  refine aw_ia_mo2 dX12_addOne_19 hM hi (fun h hM ho => ?_)
  have hF := hF.trans ho
  refine aw_aload_n dX12_addOne_20 rfl ?_
  refine aw_get dX12_addOne_21 flX12_19 (mo_c0 hM) rfl ?_
  refine aw_aload_n dX12_addOne_24 rfl ?_
  refine aw_get dX12_addOne_25 flX12_77 (mo_c0 hM) rfl ?_
  refine aw_iload_n dX12_addOne_28 rfl ?_
  refine aw_ia_mo3 dX12_addOne_29 hM hi (fun h hM ho => ?_)
  have hF := hF.trans ho
  refine aw_aload_n dX12_addOne_30 rfl ?_
  refine aw_get dX12_addOne_31 flX12_22 (mo_c0 hM) rfl ?_
  refine aw_aload_n dX12_addOne_34 rfl ?_
  refine aw_get dX12_addOne_35 flX12_77 (mo_c0 hM) rfl ?_
  refine aw_iload dX12_addOne_38 rfl ?_
  refine aw_ia_mo4 dX12_addOne_40 hM hi (fun h hM ho => ?_)
  have hF := hF.trans ho
  refine aw_aload_n dX12_addOne_41 rfl ?_
  refine aw_get dX12_addOne_42 flX12_25 (mo_c0 hM) rfl ?_
  refine aw_aload_n dX12_addOne_45 rfl ?_
  refine aw_get dX12_addOne_46 flX12_77 (mo_c0 hM) rfl ?_
  refine aw_iconst (v := 0) dX12_addOne_49 (by decide) ?_
  refine aw_ia_mo5 dX12_addOne_50 hM hi (fun h hM ho => ?_)
  have hF := hF.trans ho
  refine aw_aload_n dX12_addOne_51 rfl ?_
  refine aw_dup dX12_addOne_52 rfl ?_
  refine aw_get dX12_addOne_53 flX12_77 (mo_c0 hM) rfl ?_
  refine aw_iconst (v := 1) dX12_addOne_56 (by decide) ?_
  refine aw_iadd dX12_addOne_57 ?_
  refine aw_pf_mo0 dX12_addOne_58 fpX12_77 hM (fun h hM ho => ?_)
  have hF := hF.trans ho
  refine aw_aload_n dX12_addOne_61 rfl ?_
  refine aw_iconst (v := 0) dX12_addOne_62 (by decide) ?_
  refine aw_pf_mo9 dX12_addOne_63 fpX12_90 hM (fun h hM ho => ?_)
  have hF := hF.trans ho
  refine aw_aload_n dX12_addOne_66 rfl ?_
  refine aw_get dX12_addOne_67 flX12_77 (mo_c0 hM) rfl ?_
  refine aw_iconst (v := 1) dX12_addOne_70 (by decide) ?_
  refine aw_isub dX12_addOne_71 ?_
  exact aw_iret dX12_addOne_72 rfl (mo_fin rfl hM hF)
theorem in_ne {x : Int32} {M N : Nat} (e : x = nI M) (h : M ≤ N) (hN : N < 2 ^ 31) (hne : ¬ x = nI N) : vp_in x N := by
  rw [e]
  refine vp_in_nI ?_ hN
  rcases Nat.lt_or_ge M N with q | q
  · exact q
  · exact absurd (by rw [e, show M = N by omega]) hne
set_option maxHeartbeats 1000000 in
set_option maxRecDepth 100000 in
theorem tX12_one {l : Launch} {E : aw_E} {d n m : Nat} {h0 : ah} {S0 : sT} {L0 : Nat → Int64} (hM : is_mo h0 m S0 L0) {k h' n' p' : Int32} {M : Nat} (hm : S0 30 0 = nI M) (hm6 : M ≤ 6) : am l E mX12_one (d + 1) 0 0 [.ref m, .int k, .int h', .int n', .int p'] n h0 (mo_post n h0 m (mOne S0 L0 k h' n' p')) := by
  refine am_of (by decide +kernel) (Nat.le_of_ble_eq_true rfl) ?_
  have hF : ah_off h0 h0 m 21 := ah_off.rf
  refine aw_iload_n dX12_one_0 rfl ?_
  refine aw_iconst (v := 0) dX12_one_1 (by decide) ?_
  refine aw_iconst (v := 5) dX12_one_2 (by decide) ?_
  refine aw_callS3p dX12_one_3 cmX12_in csX12_93 (Nat.le_of_ble_eq_true rfl) tX12_in ?_
  refine aw_if_eq (tgt := 40) dX12_one_6 (by decide) (fun c6 => ?_) (fun c6 => ?_)
  · refine aw_aload_n dX12_one_40 rfl ?_
    refine aw_callV0e dX12_one_41 cmX12_bad cvX12_97 (mo_c0 hM) (Nat.le_of_ble_eq_true rfl) (tX12_bad hM) (fun r n' h' hq => ?_)
    obtain ⟨rfl, rfl, hM, ho⟩ := hq
    have hF := hF.trans ho
    exact aw_iret dX12_one_44 rfl (mo_fin (if_pos c6) hM hF)
  · refine aw_iload_n dX12_one_9 rfl ?_
    refine aw_iconst (v := 0) dX12_one_10 (by decide) ?_
    refine aw_bipush (v := 12) dX12_one_11 (by decide) ?_
    refine aw_callS3p dX12_one_13 cmX12_in csX12_93 (Nat.le_of_ble_eq_true rfl) tX12_in ?_
    refine aw_if_eq (tgt := 40) dX12_one_16 (by decide) (fun c16 => ?_) (fun c16 => ?_)
    · refine aw_aload_n dX12_one_40 rfl ?_
      refine aw_callV0e dX12_one_41 cmX12_bad cvX12_97 (mo_c0 hM) (Nat.le_of_ble_eq_true rfl) (tX12_bad hM) (fun r n' h' hq => ?_)
      obtain ⟨rfl, rfl, hM, ho⟩ := hq
      have hF := hF.trans ho
      exact aw_iret dX12_one_44 rfl (mo_fin ((if_neg c6).trans (if_pos c16)) hM hF)
    · refine aw_iload_n dX12_one_19 rfl ?_
      refine aw_iconst (v := 0) dX12_one_20 (by decide) ?_
      refine aw_bipush (v := 30) dX12_one_21 (by decide) ?_
      refine aw_callS3p dX12_one_23 cmX12_in csX12_93 (Nat.le_of_ble_eq_true rfl) tX12_in ?_
      refine aw_if_eq (tgt := 40) dX12_one_26 (by decide) (fun c26 => ?_) (fun c26 => ?_)
      · refine aw_aload_n dX12_one_40 rfl ?_
        refine aw_callV0e dX12_one_41 cmX12_bad cvX12_97 (mo_c0 hM) (Nat.le_of_ble_eq_true rfl) (tX12_bad hM) (fun r n' h' hq => ?_)
        obtain ⟨rfl, rfl, hM, ho⟩ := hq
        have hF := hF.trans ho
        exact aw_iret dX12_one_44 rfl (mo_fin (((if_neg c6).trans (if_neg c16)).trans (if_pos c26)) hM hF)
      · refine aw_iload dX12_one_29 rfl ?_
        refine aw_iconst (v := 0) dX12_one_31 (by decide) ?_
        refine aw_bipush (v := 20) dX12_one_32 (by decide) ?_
        refine aw_callS3p dX12_one_34 cmX12_in csX12_93 (Nat.le_of_ble_eq_true rfl) tX12_in ?_
        refine aw_if_ne (tgt := 45) dX12_one_37 (by decide) (fun c37 => ?_) (fun c37 => ?_)
        · refine aw_aload_n dX12_one_45 rfl ?_
          refine aw_get dX12_one_46 flX12_77 (mo_c0 hM) rfl ?_
          refine aw_bipush (v := 6) dX12_one_49 (by decide) ?_
          refine aw_icmp_ne (tgt := 61) dX12_one_51 (by decide) (fun c51 => ?_) (fun c51 => ?_)
          · refine aw_aload_n dX12_one_61 rfl ?_
            refine aw_iload_n dX12_one_62 rfl ?_
            refine aw_iload_n dX12_one_63 rfl ?_
            refine aw_iload_n dX12_one_64 rfl ?_
            refine aw_iload dX12_one_65 rfl ?_
            refine aw_callV4e dX12_one_67 cmX12_addOne cvX12_104 (mo_c0 hM) (Nat.le_of_ble_eq_true rfl) (tX12_addOne hM (in_ne hm hm6 (by decide) c51)) (fun r n' h' hq => ?_)
            obtain ⟨rfl, rfl, hM, ho⟩ := hq
            have hF := hF.trans ho
            exact aw_iret dX12_one_70 rfl (mo_fin (((((if_neg c6).trans (if_neg c16)).trans (if_neg c26)).trans (if_neg c37)).trans (if_neg c51)) hM hF)
          · refine aw_aload_n dX12_one_54 rfl ?_
            refine aw_callV0e dX12_one_55 cmX12_full cvX12_101 (mo_c0 hM) (Nat.le_of_ble_eq_true rfl) (tX12_full hM) (fun r n' h' hq => ?_)
            obtain ⟨rfl, rfl, hM, ho⟩ := hq
            have hF := hF.trans ho
            refine aw_goto (tgt := 70) dX12_one_58 (by decide) ?_
            exact aw_iret dX12_one_70 rfl (mo_fin (((((if_neg c6).trans (if_neg c16)).trans (if_neg c26)).trans (if_neg c37)).trans (if_pos c51)) hM hF)
        · refine aw_aload_n dX12_one_40 rfl ?_
          refine aw_callV0e dX12_one_41 cmX12_bad cvX12_97 (mo_c0 hM) (Nat.le_of_ble_eq_true rfl) (tX12_bad hM) (fun r n' h' hq => ?_)
          obtain ⟨rfl, rfl, hM, ho⟩ := hq
          have hF := hF.trans ho
          exact aw_iret dX12_one_44 rfl (mo_fin ((((if_neg c6).trans (if_neg c16)).trans (if_neg c26)).trans (if_pos c37)) hM hF)
set_option maxHeartbeats 1000000 in
set_option maxRecDepth 100000 in
theorem tX12_hands {l : Launch} {E : aw_E} {d n m : Nat} {h0 : ah} {S0 : sT} {L0 : Nat → Int64} (hM : is_mo h0 m S0 L0) {p q i : Int32} {M : Nat} (hm : S0 30 0 = nI M) (hm6 : M ≤ 6) : am l E mX12_hands (d + 2) 0 0 [.ref m, .int p, .int q, .int i] n h0 (mo_post n h0 m (mHands S0 L0 p q i)) := by
  refine am_of (by decide +kernel) (Nat.le_of_ble_eq_true rfl) ?_
  have hF : ah_off h0 h0 m 21 := ah_off.rf
  refine aw_aload_n dX12_hands_0 rfl ?_
  refine aw_iload_n dX12_hands_1 rfl ?_
  refine aw_callV1p dX12_hands_2 cmX12_isOne cvX12_108 (mo_c0 hM) (Nat.le_of_ble_eq_true rfl) (tX12_isOne hM) ?_
  refine aw_if_eq (tgt := 30) dX12_hands_5 (by decide) (fun c5 => ?_) (fun c5 => ?_)
  · refine aw_aload_n dX12_hands_30 rfl ?_
    refine aw_callV0e dX12_hands_31 cmX12_bad cvX12_97 (mo_c0 hM) (Nat.le_of_ble_eq_true rfl) (tX12_bad hM) (fun r n' h' hq => ?_)
    obtain ⟨rfl, rfl, hM, ho⟩ := hq
    have hF := hF.trans ho
    exact aw_iret dX12_hands_34 rfl (mo_fin (if_pos c5) hM hF)
  · refine aw_aload_n dX12_hands_8 rfl ?_
    refine aw_iload_n dX12_hands_9 rfl ?_
    refine aw_callV1p dX12_hands_10 cmX12_isOne cvX12_108 (mo_c0 hM) (Nat.le_of_ble_eq_true rfl) (tX12_isOne hM) ?_
    refine aw_if_eq (tgt := 30) dX12_hands_13 (by decide) (fun c13 => ?_) (fun c13 => ?_)
    · refine aw_aload_n dX12_hands_30 rfl ?_
      refine aw_callV0e dX12_hands_31 cmX12_bad cvX12_97 (mo_c0 hM) (Nat.le_of_ble_eq_true rfl) (tX12_bad hM) (fun r n' h' hq => ?_)
      obtain ⟨rfl, rfl, hM, ho⟩ := hq
      have hF := hF.trans ho
      exact aw_iret dX12_hands_34 rfl (mo_fin ((if_neg c5).trans (if_pos c13)) hM hF)
    · refine aw_iload_n dX12_hands_16 rfl ?_
      refine aw_iload_n dX12_hands_17 rfl ?_
      refine aw_icmp_eq (tgt := 30) dX12_hands_18 (by decide) (fun c18 => ?_) (fun c18 => ?_)
      · refine aw_aload_n dX12_hands_30 rfl ?_
        refine aw_callV0e dX12_hands_31 cmX12_bad cvX12_97 (mo_c0 hM) (Nat.le_of_ble_eq_true rfl) (tX12_bad hM) (fun r n' h' hq => ?_)
        obtain ⟨rfl, rfl, hM, ho⟩ := hq
        have hF := hF.trans ho
        exact aw_iret dX12_hands_34 rfl (mo_fin (((if_neg c5).trans (if_neg c13)).trans (if_pos c18)) hM hF)
      · refine aw_iload_n dX12_hands_21 rfl ?_
        refine aw_iconst (v := 0) dX12_hands_22 (by decide) ?_
        refine aw_iconst (v := 1) dX12_hands_23 (by decide) ?_
        refine aw_callS3p dX12_hands_24 cmX12_in csX12_93 (Nat.le_of_ble_eq_true rfl) tX12_in ?_
        refine aw_if_ne (tgt := 35) dX12_hands_27 (by decide) (fun c27 => ?_) (fun c27 => ?_)
        · refine aw_aload_n dX12_hands_35 rfl ?_
          refine aw_get dX12_hands_36 flX12_25 (mo_c0 hM) rfl ?_
          refine aw_iload_n dX12_hands_39 rfl ?_
          refine aw_iald dX12_hands_40 (mo_c6 hM) (mIs_in c5 hm hm6) ?_
          refine aw_iload_n dX12_hands_41 rfl ?_
          refine aw_ishr dX12_hands_42 ?_
          refine aw_iconst (v := 1) dX12_hands_43 (by decide) ?_
          refine aw_iand dX12_hands_44 ?_
          refine aw_istore dX12_hands_45 (by decide) ?_
          refine aw_aload_n dX12_hands_47 rfl ?_
          refine aw_get dX12_hands_48 flX12_25 (mo_c0 hM) rfl ?_
          refine aw_iload_n dX12_hands_51 rfl ?_
          refine aw_aload_n dX12_hands_52 rfl ?_
          refine aw_get dX12_hands_53 flX12_25 (mo_c0 hM) rfl ?_
          refine aw_iload_n dX12_hands_56 rfl ?_
          refine aw_iald dX12_hands_57 (mo_c6 hM) (mIs_in c5 hm hm6) ?_
          refine aw_iconst (v := 1) dX12_hands_58 (by decide) ?_
          refine aw_iload_n dX12_hands_59 rfl ?_
          refine aw_ishl dX12_hands_60 ?_
          refine aw_iconst (v := -1) dX12_hands_61 (by decide) ?_
          refine aw_ixor dX12_hands_62 ?_
          refine aw_iand dX12_hands_63 ?_
          refine aw_iload_n dX12_hands_64 rfl ?_
          refine aw_iload_n dX12_hands_65 rfl ?_
          refine aw_ishl dX12_hands_66 ?_
          refine aw_ior dX12_hands_67 ?_
          refine aw_ia_mo5 dX12_hands_68 hM (mIs_in c5 hm hm6) (fun h hM ho => ?_)
          have hF := hF.trans ho
          refine aw_aload_n dX12_hands_69 rfl ?_
          refine aw_iconst (v := 0) dX12_hands_70 (by decide) ?_
          refine aw_pf_mo9 dX12_hands_71 fpX12_90 hM (fun h hM ho => ?_)
          have hF := hF.trans ho
          refine aw_iload dX12_hands_74 rfl ?_
          exact aw_iret dX12_hands_76 rfl (mo_fin ((((if_neg c5).trans (if_neg c13)).trans (if_neg c18)).trans (if_neg c27)) hM hF)
        · refine aw_aload_n dX12_hands_30 rfl ?_
          refine aw_callV0e dX12_hands_31 cmX12_bad cvX12_97 (mo_c0 hM) (Nat.le_of_ble_eq_true rfl) (tX12_bad hM) (fun r n' h' hq => ?_)
          obtain ⟨rfl, rfl, hM, ho⟩ := hq
          have hF := hF.trans ho
          exact aw_iret dX12_hands_34 rfl (mo_fin ((((if_neg c5).trans (if_neg c13)).trans (if_neg c18)).trans (if_pos c27)) hM hF)
set_option maxHeartbeats 1000000 in
set_option maxRecDepth 100000 in
theorem tX12_type {l : Launch} {E : aw_E} {d n m : Nat} {h0 : ah} {S0 : sT} {L0 : Nat → Int64} (hM : is_mo h0 m S0 L0) {c : Int32} {M : Nat} (hm : S0 30 4 = nI M) (hm6 : M ≤ 150) : am l E mX12_type (d + 1) 0 0 [.ref m, .int c] n h0 (mo_post n h0 m (mType S0 L0 c)) := by
  refine am_of (by decide +kernel) (Nat.le_of_ble_eq_true rfl) ?_
  have hF : ah_off h0 h0 m 21 := ah_off.rf
  refine aw_iload_n dX12_type_0 rfl ?_
  refine aw_iconst (v := 0) dX12_type_1 (by decide) ?_
  refine aw_bipush (v := 127) dX12_type_2 (by decide) ?_
  refine aw_callS3p dX12_type_4 cmX12_in csX12_93 (Nat.le_of_ble_eq_true rfl) tX12_in ?_
  refine aw_if_ne (tgt := 15) dX12_type_7 (by decide) (fun c7 => ?_) (fun c7 => ?_)
  · refine aw_aload_n dX12_type_15 rfl ?_
    refine aw_get dX12_type_16 flX12_112 (mo_c0 hM) rfl ?_
    refine aw_sipush (v := 150) dX12_type_19 (by decide) ?_
    refine aw_icmp_ne (tgt := 30) dX12_type_22 (by decide) (fun c22 => ?_) (fun c22 => ?_)
    · refine aw_aload_n dX12_type_30 rfl ?_
      refine aw_get dX12_type_31 flX12_40 (mo_c0 hM) rfl ?_
      refine aw_aload_n dX12_type_34 rfl ?_
      refine aw_get dX12_type_35 flX12_112 (mo_c0 hM) rfl ?_
      refine aw_iload_n dX12_type_38 rfl ?_
      refine aw_ia_mo10 dX12_type_39 hM (in_ne hm hm6 (by decide) c22) (fun h hM ho => ?_)
      have hF := hF.trans ho
      refine aw_aload_n dX12_type_40 rfl ?_
      refine aw_dup dX12_type_41 rfl ?_
      refine aw_get dX12_type_42 flX12_112 (mo_c0 hM) rfl ?_
      refine aw_iconst (v := 1) dX12_type_45 (by decide) ?_
      refine aw_iadd dX12_type_46 ?_
      refine aw_pf_mo4 dX12_type_47 fpX12_112 hM (fun h hM ho => ?_)
      have hF := hF.trans ho
      refine aw_aload_n dX12_type_50 rfl ?_
      refine aw_get dX12_type_51 flX12_112 (mo_c0 hM) rfl ?_
      exact aw_iret dX12_type_54 rfl (mo_fin ((if_neg c7).trans (if_neg c22)) hM hF)
    · refine aw_aload_n dX12_type_25 rfl ?_
      refine aw_callV0e dX12_type_26 cmX12_full cvX12_101 (mo_c0 hM) (Nat.le_of_ble_eq_true rfl) (tX12_full hM) (fun r n' h' hq => ?_)
      obtain ⟨rfl, rfl, hM, ho⟩ := hq
      have hF := hF.trans ho
      exact aw_iret dX12_type_29 rfl (mo_fin ((if_neg c7).trans (if_pos c22)) hM hF)
  · refine aw_aload_n dX12_type_10 rfl ?_
    refine aw_callV0e dX12_type_11 cmX12_bad cvX12_97 (mo_c0 hM) (Nat.le_of_ble_eq_true rfl) (tX12_bad hM) (fun r n' h' hq => ?_)
    obtain ⟨rfl, rfl, hM, ho⟩ := hq
    have hF := hF.trans ho
    exact aw_iret dX12_type_14 rfl (mo_fin (if_pos c7) hM hF)
set_option maxHeartbeats 1000000 in
set_option maxRecDepth 100000 in
theorem tX12_clear {l : Launch} {E : aw_E} {d n m : Nat} {h0 : ah} {S0 : sT} {L0 : Nat → Int64} (hM : is_mo h0 m S0 L0) : am l E mX12_clear d 0 0 [.ref m] n h0 (mo_post n h0 m (mClear S0 L0)) := by
  refine am_of (by decide +kernel) (Nat.le_of_ble_eq_true rfl) ?_
  have hF : ah_off h0 h0 m 21 := ah_off.rf
  refine aw_aload_n dX12_clear_0 rfl ?_
  refine aw_get dX12_clear_1 flX12_112 (mo_c0 hM) rfl ?_
  refine aw_istore_n dX12_clear_4 (by decide) ?_
  refine aw_aload_n dX12_clear_5 rfl ?_
  refine aw_iconst (v := 0) dX12_clear_6 (by decide) ?_
  refine aw_pf_mo4 dX12_clear_7 fpX12_112 hM (fun h hM ho => ?_)
  have hF := hF.trans ho
  refine aw_iload_n dX12_clear_10 rfl ?_
  exact aw_iret dX12_clear_11 rfl (mo_fin rfl hM hF)
set_option maxHeartbeats 1000000 in
set_option maxRecDepth 100000 in
theorem tX12_weight {l : Launch} {E : aw_E} {d n m : Nat} {h : ah} {S : sT} {L : Nat → Int64} (hM : is_mo h m S L) {p n' : Int32} (hp : vp_in p 6) : am l E mX12_weight (d + 2) 0 0 [.ref m, .int p, .int n'] n h (aw_eq n h (some (.int (mWW S p n')))) := by
  refine am_of (by decide +kernel) (Nat.le_of_ble_eq_true rfl) ?_
  refine aw_aload_n dX12_weight_0 rfl ?_
  refine aw_get dX12_weight_1 flX12_13 (mo_c0 hM) rfl ?_
  refine aw_iload_n dX12_weight_4 rfl ?_
  refine aw_iald dX12_weight_5 (mo_c2 hM) hp ?_
  refine aw_iload_n dX12_weight_6 rfl ?_
  refine aw_aload_n dX12_weight_7 rfl ?_
  refine aw_get dX12_weight_8 flX12_16 (mo_c0 hM) rfl ?_
  refine aw_iload_n dX12_weight_11 rfl ?_
  refine aw_iald dX12_weight_12 (mo_c3 hM) hp ?_
  refine aw_aload_n dX12_weight_13 rfl ?_
  refine aw_get dX12_weight_14 flX12_81 (mo_c0 hM) rfl ?_
  refine aw_callS4p dX12_weight_17 cmX12_weightBy csX12_183 (Nat.le_of_ble_eq_true rfl) tX12_weightBy ?_
  exact aw_iret dX12_weight_20 rfl (⟨rfl, rfl, rfl⟩)
set_option maxHeartbeats 1000000 in
set_option maxRecDepth 100000 in
theorem tX12_ownWeight {l : Launch} {E : aw_E} {d n m : Nat} {h : ah} {S : sT} {L : Nat → Int64} (hM : is_mo h m S L) {p : Int32} (hp : vp_in p 6) : am l E mX12_ownWeight (d + 3) 0 0 [.ref m, .int p] n h (aw_eq n h (some (.int (mOwn S p)))) := by
  refine am_of (by decide +kernel) (Nat.le_of_ble_eq_true rfl) ?_
  refine aw_aload_n dX12_ownWeight_0 rfl ?_
  refine aw_iload_n dX12_ownWeight_1 rfl ?_
  refine aw_aload_n dX12_ownWeight_2 rfl ?_
  refine aw_get dX12_ownWeight_3 flX12_19 (mo_c0 hM) rfl ?_
  refine aw_iload_n dX12_ownWeight_6 rfl ?_
  refine aw_iald dX12_ownWeight_7 (mo_c4 hM) hp ?_
  refine aw_callV2p dX12_ownWeight_8 cmX12_weight cvX12_186 (mo_c0 hM) (Nat.le_of_ble_eq_true rfl) (tX12_weight hM hp) ?_
  exact aw_iret dX12_ownWeight_11 rfl (⟨rfl, rfl, rfl⟩)
set_option maxHeartbeats 1000000 in
set_option maxRecDepth 100000 in
theorem tX12_honestBehind {l : Launch} {E : aw_E} {d n m : Nat} {h : ah} {S : sT} {L : Nat → Int64} (hM : is_mo h m S L) {p s : Int32} (hp : vp_in p 6) : am l E mX12_honestBehind (d + 1) 0 0 [.ref m, .int p, .int s] n h (aw_eq n h (some (.int (mBeh S p s)))) := by
  refine am_of (by decide +kernel) (Nat.le_of_ble_eq_true rfl) ?_
  refine aw_aload_n dX12_honestBehind_0 rfl ?_
  refine aw_get dX12_honestBehind_1 flX12_13 (mo_c0 hM) rfl ?_
  refine aw_iload_n dX12_honestBehind_4 rfl ?_
  refine aw_iald dX12_honestBehind_5 (mo_c2 hM) hp ?_
  refine aw_iload_n dX12_honestBehind_6 rfl ?_
  refine aw_callS2p dX12_honestBehind_7 cmX12_lieBy csX12_155 (Nat.le_of_ble_eq_true rfl) tX12_lieBy ?_
  refine aw_istore_n dX12_honestBehind_10 (by decide) ?_
  refine aw_aload_n dX12_honestBehind_11 rfl ?_
  refine aw_get dX12_honestBehind_12 flX12_16 (mo_c0 hM) rfl ?_
  refine aw_iload_n dX12_honestBehind_15 rfl ?_
  refine aw_iald dX12_honestBehind_16 (mo_c3 hM) hp ?_
  refine aw_iload_n dX12_honestBehind_17 rfl ?_
  refine aw_icmp_ge (tgt := 25) dX12_honestBehind_18 (by decide) (fun c18 => ?_) (fun c18 => ?_)
  · refine aw_aload_n dX12_honestBehind_25 rfl ?_
    refine aw_get dX12_honestBehind_26 flX12_16 (mo_c0 hM) rfl ?_
    refine aw_iload_n dX12_honestBehind_29 rfl ?_
    refine aw_iald dX12_honestBehind_30 (mo_c3 hM) hp ?_
    refine aw_iload_n dX12_honestBehind_31 rfl ?_
    refine aw_isub dX12_honestBehind_32 ?_
    exact aw_iret dX12_honestBehind_33 rfl (⟨congrArg (fun z => some (Value.int z)) (if_pos c18), rfl, rfl⟩)
  · refine aw_iconst (v := 0) dX12_honestBehind_21 (by decide) ?_
    refine aw_goto (tgt := 33) dX12_honestBehind_22 (by decide) ?_
    exact aw_iret dX12_honestBehind_33 rfl (⟨congrArg (fun z => some (Value.int z)) (if_neg c18), rfl, rfl⟩)
set_option maxHeartbeats 1000000 in
set_option maxRecDepth 100000 in
theorem tX12_lays12 {l : Launch} {E : aw_E} {d n m : Nat} {h0 : ah} {S0 : sT} {L0 : Nat → Int64} (hM : is_mo h0 m S0 L0) {x : Int32} {a : Nat} (hx : x = nI a) (ha : a + 14 ≤ 112) : am l E mX12_lays d 0 0 [.ref m, .ref (m + 13), .int x] n h0 (mv_post n h0 m (((mLay 12 a S0, L0) : sM))) := by
  refine am_of (by decide +kernel) (Nat.le_of_ble_eq_true rfl) ?_
  have hF : ah_off h0 h0 m 21 := ah_off.rf
  subst hx
  refine aw_aload_n dX12_lays_0 rfl ?_
  refine aw_iload_n dX12_lays_1 rfl ?_
  refine aw_aload_n dX12_lays_2 rfl ?_
  refine aw_get dX12_lays_3 flX12_81 (mo_c0 hM) rfl ?_
  refine aw_iN_mo12 dX12_lays_6 hM rfl (by omega) (fun h hM ho => ?_)
  have hF := hF.trans ho
  refine aw_aload_n dX12_lays_7 rfl ?_
  refine aw_iload_n dX12_lays_8 rfl ?_
  refine aw_iconst (v := 1) dX12_lays_9 (by decide) ?_
  refine aw_iadd dX12_lays_10 ?_
  refine aw_aload_n dX12_lays_11 rfl ?_
  refine aw_get dX12_lays_12 flX12_84 (mo_c0 hM) rfl ?_
  refine aw_iN_mo12 dX12_lays_15 hM (show nI a + 1 = nI (a + 1) by rw [← nI_add]; rfl) (by omega) (fun h hM ho => ?_)
  have hF := hF.trans ho
  refine aw_iconst (v := 0) dX12_lays_16 (by decide) ?_
  refine aw_istore_n dX12_lays_17 (by decide) ?_
  have key : ∀ (k j : Nat) (h : ah) (S : sT), j + k = 6 → is_mo h m S L0 → ah_off h0 h m 21 → mLay 12 a S0 = mLayL 12 a k j S → aw l E mX12_lays (aw_Z E (mv_post n h0 m (((mLay 12 a S0, L0) : sM)))) d 0 0 18 [(0, .ref m), (1, .ref (m + 13)), (2, .int (nI a)), (3, .int (nI j))] [] n h := by
    intro k
    induction k with
    | zero =>
      intro j h S hj hM hF heq
      refine aw_iload_n dX12_lays_18 rfl ?_
      refine aw_bipush (v := 6) dX12_lays_19 (by decide) ?_
      refine aw_icmp_ge (tgt := 57) dX12_lays_21 (by decide) (fun c21 => ?_) (fun c21 => ?_)
      · exact aw_vret dX12_lays_57 rfl (mv_fin (congrArg (fun z : sT => (z, L0)) heq) hM hF)
      · exact absurd ((nI_leI (a := 6) (b := j) (by omega) (by omega)).mpr (by omega)) c21
    | succ k ih =>
      intro j h S hj hM hF heq
      refine aw_iload_n dX12_lays_18 rfl ?_
      refine aw_bipush (v := 6) dX12_lays_19 (by decide) ?_
      refine aw_icmp_ge (tgt := 57) dX12_lays_21 (by decide) (fun c21 => ?_) (fun c21 => ?_)
      · exact absurd ((nI_leI (a := 6) (b := j) (by omega) (by omega)).mp c21) (by omega)
      · refine aw_aload_n dX12_lays_24 rfl ?_
        refine aw_iload_n dX12_lays_25 rfl ?_
        refine aw_iconst (v := 2) dX12_lays_26 (by decide) ?_
        refine aw_iadd dX12_lays_27 ?_
        refine aw_iload_n dX12_lays_28 rfl ?_
        refine aw_iadd dX12_lays_29 ?_
        refine aw_aload_n dX12_lays_30 rfl ?_
        refine aw_get dX12_lays_31 flX12_16 (mo_c0 hM) rfl ?_
        refine aw_iload_n dX12_lays_34 rfl ?_
        refine aw_ialdN dX12_lays_35 (mo_c3 hM) rfl (by omega) (by decide) ?_
        refine aw_iN_mo12 dX12_lays_36 hM (show nI a + 2 + nI j = nI (a + 2 + j) by rw [← nI_add, ← nI_add]; rfl) (by omega) (fun h hM ho => ?_)
        have hF := hF.trans ho
        refine aw_aload_n dX12_lays_37 rfl ?_
        refine aw_iload_n dX12_lays_38 rfl ?_
        refine aw_bipush (v := 8) dX12_lays_39 (by decide) ?_
        refine aw_iadd dX12_lays_41 ?_
        refine aw_iload_n dX12_lays_42 rfl ?_
        refine aw_iadd dX12_lays_43 ?_
        refine aw_aload_n dX12_lays_44 rfl ?_
        refine aw_get dX12_lays_45 flX12_19 (mo_c0 hM) rfl ?_
        refine aw_iload_n dX12_lays_48 rfl ?_
        refine aw_ialdN dX12_lays_49 (mo_c4 hM) rfl (by omega) (by decide) ?_
        refine aw_iN_mo12 dX12_lays_50 hM (show nI a + 8 + nI j = nI (a + 8 + j) by rw [← nI_add, ← nI_add]; rfl) (by omega) (fun h hM ho => ?_)
        have hF := hF.trans ho
        refine aw_inc (w := 1) dX12_lays_51 rfl (by decide) (by decide) ?_
        refine aw_goto (tgt := 18) dX12_lays_54 (by decide) ?_
        exact aw_loc [0, 1, 2, 3] (ls2 := [(0, .ref m), (1, .ref (m + 13)), (2, .int (nI a)), (3, .int (nI (j + 1)))]) (by first | (rw [nI_succ]; rfl) | rfl) (ih (j + 1) _ _ (by omega) hM hF heq)
  exact aw_loc [0, 1, 2, 3] (ls2 := [(0, .ref m), (1, .ref (m + 13)), (2, .int (nI a)), (3, .int (nI 0))]) rfl (key (6) 0 _ _ (by first | rfl | omega) hM hF rfl)
set_option maxHeartbeats 1000000 in
set_option maxRecDepth 100000 in
theorem tX12_takes12 {l : Launch} {E : aw_E} {d n m : Nat} {h0 : ah} {S0 : sT} {L0 : Nat → Int64} (hM : is_mo h0 m S0 L0) {x : Int32} {a : Nat} (hx : x = nI a) (ha : a + 14 ≤ 112) : am l E mX12_takes d 0 0 [.ref m, .ref (m + 13), .int x] n h0 (mv_post n h0 m (((mTak 12 a S0, L0) : sM))) := by
  refine am_of (by decide +kernel) (Nat.le_of_ble_eq_true rfl) ?_
  have hF : ah_off h0 h0 m 21 := ah_off.rf
  subst hx
  refine aw_aload_n dX12_takes_0 rfl ?_
  refine aw_aload_n dX12_takes_1 rfl ?_
  refine aw_iload_n dX12_takes_2 rfl ?_
  refine aw_ialdN dX12_takes_3 (mo_c13 hM) rfl (by omega) (by decide) ?_
  refine aw_pf_mo1 dX12_takes_4 fpX12_81 hM (fun h hM ho => ?_)
  have hF := hF.trans ho
  refine aw_aload_n dX12_takes_7 rfl ?_
  refine aw_aload_n dX12_takes_8 rfl ?_
  refine aw_iload_n dX12_takes_9 rfl ?_
  refine aw_iconst (v := 1) dX12_takes_10 (by decide) ?_
  refine aw_iadd dX12_takes_11 ?_
  refine aw_ialdN dX12_takes_12 (mo_c13 hM) (show nI a + 1 = nI (a + 1) by rw [← nI_add]; rfl) (by omega) (by decide) ?_
  refine aw_pf_mo2 dX12_takes_13 fpX12_84 hM (fun h hM ho => ?_)
  have hF := hF.trans ho
  refine aw_iconst (v := 0) dX12_takes_16 (by decide) ?_
  refine aw_istore_n dX12_takes_17 (by decide) ?_
  have key : ∀ (k j : Nat) (h : ah) (S : sT), j + k = 6 → is_mo h m S L0 → ah_off h0 h m 21 → mTak 12 a S0 = mTakL 12 a k j S → aw l E mX12_takes (aw_Z E (mv_post n h0 m (((mTak 12 a S0, L0) : sM)))) d 0 0 18 [(0, .ref m), (1, .ref (m + 13)), (2, .int (nI a)), (3, .int (nI j))] [] n h := by
    intro k
    induction k with
    | zero =>
      intro j h S hj hM hF heq
      refine aw_iload_n dX12_takes_18 rfl ?_
      refine aw_bipush (v := 6) dX12_takes_19 (by decide) ?_
      refine aw_icmp_ge (tgt := 57) dX12_takes_21 (by decide) (fun c21 => ?_) (fun c21 => ?_)
      · exact aw_vret dX12_takes_57 rfl (mv_fin (congrArg (fun z : sT => (z, L0)) heq) hM hF)
      · exact absurd ((nI_leI (a := 6) (b := j) (by omega) (by omega)).mpr (by omega)) c21
    | succ k ih =>
      intro j h S hj hM hF heq
      refine aw_iload_n dX12_takes_18 rfl ?_
      refine aw_bipush (v := 6) dX12_takes_19 (by decide) ?_
      refine aw_icmp_ge (tgt := 57) dX12_takes_21 (by decide) (fun c21 => ?_) (fun c21 => ?_)
      · exact absurd ((nI_leI (a := 6) (b := j) (by omega) (by omega)).mp c21) (by omega)
      · refine aw_aload_n dX12_takes_24 rfl ?_
        refine aw_get dX12_takes_25 flX12_16 (mo_c0 hM) rfl ?_
        refine aw_iload_n dX12_takes_28 rfl ?_
        refine aw_aload_n dX12_takes_29 rfl ?_
        refine aw_iload_n dX12_takes_30 rfl ?_
        refine aw_iconst (v := 2) dX12_takes_31 (by decide) ?_
        refine aw_iadd dX12_takes_32 ?_
        refine aw_iload_n dX12_takes_33 rfl ?_
        refine aw_iadd dX12_takes_34 ?_
        refine aw_ialdN dX12_takes_35 (mo_c13 hM) (show nI a + 2 + nI j = nI (a + 2 + j) by rw [← nI_add, ← nI_add]; rfl) (by omega) (by decide) ?_
        refine aw_iN_mo2 dX12_takes_36 hM rfl (by omega) (fun h hM ho => ?_)
        have hF := hF.trans ho
        refine aw_aload_n dX12_takes_37 rfl ?_
        refine aw_get dX12_takes_38 flX12_19 (mo_c0 hM) rfl ?_
        refine aw_iload_n dX12_takes_41 rfl ?_
        refine aw_aload_n dX12_takes_42 rfl ?_
        refine aw_iload_n dX12_takes_43 rfl ?_
        refine aw_bipush (v := 8) dX12_takes_44 (by decide) ?_
        refine aw_iadd dX12_takes_46 ?_
        refine aw_iload_n dX12_takes_47 rfl ?_
        refine aw_iadd dX12_takes_48 ?_
        refine aw_ialdN dX12_takes_49 (mo_c13 hM) (show nI a + 8 + nI j = nI (a + 8 + j) by rw [← nI_add, ← nI_add]; rfl) (by omega) (by decide) ?_
        refine aw_iN_mo3 dX12_takes_50 hM rfl (by omega) (fun h hM ho => ?_)
        have hF := hF.trans ho
        refine aw_inc (w := 1) dX12_takes_51 rfl (by decide) (by decide) ?_
        refine aw_goto (tgt := 18) dX12_takes_54 (by decide) ?_
        exact aw_loc [0, 1, 2, 3] (ls2 := [(0, .ref m), (1, .ref (m + 13)), (2, .int (nI a)), (3, .int (nI (j + 1)))]) (by first | (rw [nI_succ]; rfl) | rfl) (ih (j + 1) _ _ (by omega) hM hF heq)
  exact aw_loc [0, 1, 2, 3] (ls2 := [(0, .ref m), (1, .ref (m + 13)), (2, .int (nI a)), (3, .int (nI 0))]) rfl (key (6) 0 _ _ (by first | rfl | omega) hM hF rfl)
set_option maxHeartbeats 1000000 in
set_option maxRecDepth 100000 in
theorem tX12_lays13 {l : Launch} {E : aw_E} {d n m : Nat} {h0 : ah} {S0 : sT} {L0 : Nat → Int64} (hM : is_mo h0 m S0 L0) {x : Int32} {a : Nat} (hx : x = nI a) (ha : a + 14 ≤ 14) : am l E mX12_lays d 0 0 [.ref m, .ref (m + 14), .int x] n h0 (mv_post n h0 m (((mLay 13 a S0, L0) : sM))) := by
  refine am_of (by decide +kernel) (Nat.le_of_ble_eq_true rfl) ?_
  have hF : ah_off h0 h0 m 21 := ah_off.rf
  subst hx
  refine aw_aload_n dX12_lays_0 rfl ?_
  refine aw_iload_n dX12_lays_1 rfl ?_
  refine aw_aload_n dX12_lays_2 rfl ?_
  refine aw_get dX12_lays_3 flX12_81 (mo_c0 hM) rfl ?_
  refine aw_iN_mo13 dX12_lays_6 hM rfl (by omega) (fun h hM ho => ?_)
  have hF := hF.trans ho
  refine aw_aload_n dX12_lays_7 rfl ?_
  refine aw_iload_n dX12_lays_8 rfl ?_
  refine aw_iconst (v := 1) dX12_lays_9 (by decide) ?_
  refine aw_iadd dX12_lays_10 ?_
  refine aw_aload_n dX12_lays_11 rfl ?_
  refine aw_get dX12_lays_12 flX12_84 (mo_c0 hM) rfl ?_
  refine aw_iN_mo13 dX12_lays_15 hM (show nI a + 1 = nI (a + 1) by rw [← nI_add]; rfl) (by omega) (fun h hM ho => ?_)
  have hF := hF.trans ho
  refine aw_iconst (v := 0) dX12_lays_16 (by decide) ?_
  refine aw_istore_n dX12_lays_17 (by decide) ?_
  have key : ∀ (k j : Nat) (h : ah) (S : sT), j + k = 6 → is_mo h m S L0 → ah_off h0 h m 21 → mLay 13 a S0 = mLayL 13 a k j S → aw l E mX12_lays (aw_Z E (mv_post n h0 m (((mLay 13 a S0, L0) : sM)))) d 0 0 18 [(0, .ref m), (1, .ref (m + 14)), (2, .int (nI a)), (3, .int (nI j))] [] n h := by
    intro k
    induction k with
    | zero =>
      intro j h S hj hM hF heq
      refine aw_iload_n dX12_lays_18 rfl ?_
      refine aw_bipush (v := 6) dX12_lays_19 (by decide) ?_
      refine aw_icmp_ge (tgt := 57) dX12_lays_21 (by decide) (fun c21 => ?_) (fun c21 => ?_)
      · exact aw_vret dX12_lays_57 rfl (mv_fin (congrArg (fun z : sT => (z, L0)) heq) hM hF)
      · exact absurd ((nI_leI (a := 6) (b := j) (by omega) (by omega)).mpr (by omega)) c21
    | succ k ih =>
      intro j h S hj hM hF heq
      refine aw_iload_n dX12_lays_18 rfl ?_
      refine aw_bipush (v := 6) dX12_lays_19 (by decide) ?_
      refine aw_icmp_ge (tgt := 57) dX12_lays_21 (by decide) (fun c21 => ?_) (fun c21 => ?_)
      · exact absurd ((nI_leI (a := 6) (b := j) (by omega) (by omega)).mp c21) (by omega)
      · refine aw_aload_n dX12_lays_24 rfl ?_
        refine aw_iload_n dX12_lays_25 rfl ?_
        refine aw_iconst (v := 2) dX12_lays_26 (by decide) ?_
        refine aw_iadd dX12_lays_27 ?_
        refine aw_iload_n dX12_lays_28 rfl ?_
        refine aw_iadd dX12_lays_29 ?_
        refine aw_aload_n dX12_lays_30 rfl ?_
        refine aw_get dX12_lays_31 flX12_16 (mo_c0 hM) rfl ?_
        refine aw_iload_n dX12_lays_34 rfl ?_
        refine aw_ialdN dX12_lays_35 (mo_c3 hM) rfl (by omega) (by decide) ?_
        refine aw_iN_mo13 dX12_lays_36 hM (show nI a + 2 + nI j = nI (a + 2 + j) by rw [← nI_add, ← nI_add]; rfl) (by omega) (fun h hM ho => ?_)
        have hF := hF.trans ho
        refine aw_aload_n dX12_lays_37 rfl ?_
        refine aw_iload_n dX12_lays_38 rfl ?_
        refine aw_bipush (v := 8) dX12_lays_39 (by decide) ?_
        refine aw_iadd dX12_lays_41 ?_
        refine aw_iload_n dX12_lays_42 rfl ?_
        refine aw_iadd dX12_lays_43 ?_
        refine aw_aload_n dX12_lays_44 rfl ?_
        refine aw_get dX12_lays_45 flX12_19 (mo_c0 hM) rfl ?_
        refine aw_iload_n dX12_lays_48 rfl ?_
        refine aw_ialdN dX12_lays_49 (mo_c4 hM) rfl (by omega) (by decide) ?_
        refine aw_iN_mo13 dX12_lays_50 hM (show nI a + 8 + nI j = nI (a + 8 + j) by rw [← nI_add, ← nI_add]; rfl) (by omega) (fun h hM ho => ?_)
        have hF := hF.trans ho
        refine aw_inc (w := 1) dX12_lays_51 rfl (by decide) (by decide) ?_
        refine aw_goto (tgt := 18) dX12_lays_54 (by decide) ?_
        exact aw_loc [0, 1, 2, 3] (ls2 := [(0, .ref m), (1, .ref (m + 14)), (2, .int (nI a)), (3, .int (nI (j + 1)))]) (by first | (rw [nI_succ]; rfl) | rfl) (ih (j + 1) _ _ (by omega) hM hF heq)
  exact aw_loc [0, 1, 2, 3] (ls2 := [(0, .ref m), (1, .ref (m + 14)), (2, .int (nI a)), (3, .int (nI 0))]) rfl (key (6) 0 _ _ (by first | rfl | omega) hM hF rfl)
set_option maxHeartbeats 1000000 in
set_option maxRecDepth 100000 in
theorem tX12_takes13 {l : Launch} {E : aw_E} {d n m : Nat} {h0 : ah} {S0 : sT} {L0 : Nat → Int64} (hM : is_mo h0 m S0 L0) {x : Int32} {a : Nat} (hx : x = nI a) (ha : a + 14 ≤ 14) : am l E mX12_takes d 0 0 [.ref m, .ref (m + 14), .int x] n h0 (mv_post n h0 m (((mTak 13 a S0, L0) : sM))) := by
  refine am_of (by decide +kernel) (Nat.le_of_ble_eq_true rfl) ?_
  have hF : ah_off h0 h0 m 21 := ah_off.rf
  subst hx
  refine aw_aload_n dX12_takes_0 rfl ?_
  refine aw_aload_n dX12_takes_1 rfl ?_
  refine aw_iload_n dX12_takes_2 rfl ?_
  refine aw_ialdN dX12_takes_3 (mo_c14 hM) rfl (by omega) (by decide) ?_
  refine aw_pf_mo1 dX12_takes_4 fpX12_81 hM (fun h hM ho => ?_)
  have hF := hF.trans ho
  refine aw_aload_n dX12_takes_7 rfl ?_
  refine aw_aload_n dX12_takes_8 rfl ?_
  refine aw_iload_n dX12_takes_9 rfl ?_
  refine aw_iconst (v := 1) dX12_takes_10 (by decide) ?_
  refine aw_iadd dX12_takes_11 ?_
  refine aw_ialdN dX12_takes_12 (mo_c14 hM) (show nI a + 1 = nI (a + 1) by rw [← nI_add]; rfl) (by omega) (by decide) ?_
  refine aw_pf_mo2 dX12_takes_13 fpX12_84 hM (fun h hM ho => ?_)
  have hF := hF.trans ho
  refine aw_iconst (v := 0) dX12_takes_16 (by decide) ?_
  refine aw_istore_n dX12_takes_17 (by decide) ?_
  have key : ∀ (k j : Nat) (h : ah) (S : sT), j + k = 6 → is_mo h m S L0 → ah_off h0 h m 21 → mTak 13 a S0 = mTakL 13 a k j S → aw l E mX12_takes (aw_Z E (mv_post n h0 m (((mTak 13 a S0, L0) : sM)))) d 0 0 18 [(0, .ref m), (1, .ref (m + 14)), (2, .int (nI a)), (3, .int (nI j))] [] n h := by
    intro k
    induction k with
    | zero =>
      intro j h S hj hM hF heq
      refine aw_iload_n dX12_takes_18 rfl ?_
      refine aw_bipush (v := 6) dX12_takes_19 (by decide) ?_
      refine aw_icmp_ge (tgt := 57) dX12_takes_21 (by decide) (fun c21 => ?_) (fun c21 => ?_)
      · exact aw_vret dX12_takes_57 rfl (mv_fin (congrArg (fun z : sT => (z, L0)) heq) hM hF)
      · exact absurd ((nI_leI (a := 6) (b := j) (by omega) (by omega)).mpr (by omega)) c21
    | succ k ih =>
      intro j h S hj hM hF heq
      refine aw_iload_n dX12_takes_18 rfl ?_
      refine aw_bipush (v := 6) dX12_takes_19 (by decide) ?_
      refine aw_icmp_ge (tgt := 57) dX12_takes_21 (by decide) (fun c21 => ?_) (fun c21 => ?_)
      · exact absurd ((nI_leI (a := 6) (b := j) (by omega) (by omega)).mp c21) (by omega)
      · refine aw_aload_n dX12_takes_24 rfl ?_
        refine aw_get dX12_takes_25 flX12_16 (mo_c0 hM) rfl ?_
        refine aw_iload_n dX12_takes_28 rfl ?_
        refine aw_aload_n dX12_takes_29 rfl ?_
        refine aw_iload_n dX12_takes_30 rfl ?_
        refine aw_iconst (v := 2) dX12_takes_31 (by decide) ?_
        refine aw_iadd dX12_takes_32 ?_
        refine aw_iload_n dX12_takes_33 rfl ?_
        refine aw_iadd dX12_takes_34 ?_
        refine aw_ialdN dX12_takes_35 (mo_c14 hM) (show nI a + 2 + nI j = nI (a + 2 + j) by rw [← nI_add, ← nI_add]; rfl) (by omega) (by decide) ?_
        refine aw_iN_mo2 dX12_takes_36 hM rfl (by omega) (fun h hM ho => ?_)
        have hF := hF.trans ho
        refine aw_aload_n dX12_takes_37 rfl ?_
        refine aw_get dX12_takes_38 flX12_19 (mo_c0 hM) rfl ?_
        refine aw_iload_n dX12_takes_41 rfl ?_
        refine aw_aload_n dX12_takes_42 rfl ?_
        refine aw_iload_n dX12_takes_43 rfl ?_
        refine aw_bipush (v := 8) dX12_takes_44 (by decide) ?_
        refine aw_iadd dX12_takes_46 ?_
        refine aw_iload_n dX12_takes_47 rfl ?_
        refine aw_iadd dX12_takes_48 ?_
        refine aw_ialdN dX12_takes_49 (mo_c14 hM) (show nI a + 8 + nI j = nI (a + 8 + j) by rw [← nI_add, ← nI_add]; rfl) (by omega) (by decide) ?_
        refine aw_iN_mo3 dX12_takes_50 hM rfl (by omega) (fun h hM ho => ?_)
        have hF := hF.trans ho
        refine aw_inc (w := 1) dX12_takes_51 rfl (by decide) (by decide) ?_
        refine aw_goto (tgt := 18) dX12_takes_54 (by decide) ?_
        exact aw_loc [0, 1, 2, 3] (ls2 := [(0, .ref m), (1, .ref (m + 14)), (2, .int (nI a)), (3, .int (nI (j + 1)))]) (by first | (rw [nI_succ]; rfl) | rfl) (ih (j + 1) _ _ (by omega) hM hF heq)
  exact aw_loc [0, 1, 2, 3] (ls2 := [(0, .ref m), (1, .ref (m + 14)), (2, .int (nI a)), (3, .int (nI 0))]) rfl (key (6) 0 _ _ (by first | rfl | omega) hM hF rfl)
set_option maxHeartbeats 1000000 in
set_option maxRecDepth 100000 in
theorem tX12_lays18 {l : Launch} {E : aw_E} {d n m : Nat} {h0 : ah} {S0 : sT} {L0 : Nat → Int64} (hM : is_mo h0 m S0 L0) {x : Int32} {a : Nat} (hx : x = nI a) (ha : a + 14 ≤ 360) : am l E mX12_lays d 0 0 [.ref m, .ref (m + 19), .int x] n h0 (mv_post n h0 m (((mLay 18 a S0, L0) : sM))) := by
  refine am_of (by decide +kernel) (Nat.le_of_ble_eq_true rfl) ?_
  have hF : ah_off h0 h0 m 21 := ah_off.rf
  subst hx
  refine aw_aload_n dX12_lays_0 rfl ?_
  refine aw_iload_n dX12_lays_1 rfl ?_
  refine aw_aload_n dX12_lays_2 rfl ?_
  refine aw_get dX12_lays_3 flX12_81 (mo_c0 hM) rfl ?_
  refine aw_iN_mo18 dX12_lays_6 hM rfl (by omega) (fun h hM ho => ?_)
  have hF := hF.trans ho
  refine aw_aload_n dX12_lays_7 rfl ?_
  refine aw_iload_n dX12_lays_8 rfl ?_
  refine aw_iconst (v := 1) dX12_lays_9 (by decide) ?_
  refine aw_iadd dX12_lays_10 ?_
  refine aw_aload_n dX12_lays_11 rfl ?_
  refine aw_get dX12_lays_12 flX12_84 (mo_c0 hM) rfl ?_
  refine aw_iN_mo18 dX12_lays_15 hM (show nI a + 1 = nI (a + 1) by rw [← nI_add]; rfl) (by omega) (fun h hM ho => ?_)
  have hF := hF.trans ho
  refine aw_iconst (v := 0) dX12_lays_16 (by decide) ?_
  refine aw_istore_n dX12_lays_17 (by decide) ?_
  have key : ∀ (k j : Nat) (h : ah) (S : sT), j + k = 6 → is_mo h m S L0 → ah_off h0 h m 21 → mLay 18 a S0 = mLayL 18 a k j S → aw l E mX12_lays (aw_Z E (mv_post n h0 m (((mLay 18 a S0, L0) : sM)))) d 0 0 18 [(0, .ref m), (1, .ref (m + 19)), (2, .int (nI a)), (3, .int (nI j))] [] n h := by
    intro k
    induction k with
    | zero =>
      intro j h S hj hM hF heq
      refine aw_iload_n dX12_lays_18 rfl ?_
      refine aw_bipush (v := 6) dX12_lays_19 (by decide) ?_
      refine aw_icmp_ge (tgt := 57) dX12_lays_21 (by decide) (fun c21 => ?_) (fun c21 => ?_)
      · exact aw_vret dX12_lays_57 rfl (mv_fin (congrArg (fun z : sT => (z, L0)) heq) hM hF)
      · exact absurd ((nI_leI (a := 6) (b := j) (by omega) (by omega)).mpr (by omega)) c21
    | succ k ih =>
      intro j h S hj hM hF heq
      refine aw_iload_n dX12_lays_18 rfl ?_
      refine aw_bipush (v := 6) dX12_lays_19 (by decide) ?_
      refine aw_icmp_ge (tgt := 57) dX12_lays_21 (by decide) (fun c21 => ?_) (fun c21 => ?_)
      · exact absurd ((nI_leI (a := 6) (b := j) (by omega) (by omega)).mp c21) (by omega)
      · refine aw_aload_n dX12_lays_24 rfl ?_
        refine aw_iload_n dX12_lays_25 rfl ?_
        refine aw_iconst (v := 2) dX12_lays_26 (by decide) ?_
        refine aw_iadd dX12_lays_27 ?_
        refine aw_iload_n dX12_lays_28 rfl ?_
        refine aw_iadd dX12_lays_29 ?_
        refine aw_aload_n dX12_lays_30 rfl ?_
        refine aw_get dX12_lays_31 flX12_16 (mo_c0 hM) rfl ?_
        refine aw_iload_n dX12_lays_34 rfl ?_
        refine aw_ialdN dX12_lays_35 (mo_c3 hM) rfl (by omega) (by decide) ?_
        refine aw_iN_mo18 dX12_lays_36 hM (show nI a + 2 + nI j = nI (a + 2 + j) by rw [← nI_add, ← nI_add]; rfl) (by omega) (fun h hM ho => ?_)
        have hF := hF.trans ho
        refine aw_aload_n dX12_lays_37 rfl ?_
        refine aw_iload_n dX12_lays_38 rfl ?_
        refine aw_bipush (v := 8) dX12_lays_39 (by decide) ?_
        refine aw_iadd dX12_lays_41 ?_
        refine aw_iload_n dX12_lays_42 rfl ?_
        refine aw_iadd dX12_lays_43 ?_
        refine aw_aload_n dX12_lays_44 rfl ?_
        refine aw_get dX12_lays_45 flX12_19 (mo_c0 hM) rfl ?_
        refine aw_iload_n dX12_lays_48 rfl ?_
        refine aw_ialdN dX12_lays_49 (mo_c4 hM) rfl (by omega) (by decide) ?_
        refine aw_iN_mo18 dX12_lays_50 hM (show nI a + 8 + nI j = nI (a + 8 + j) by rw [← nI_add, ← nI_add]; rfl) (by omega) (fun h hM ho => ?_)
        have hF := hF.trans ho
        refine aw_inc (w := 1) dX12_lays_51 rfl (by decide) (by decide) ?_
        refine aw_goto (tgt := 18) dX12_lays_54 (by decide) ?_
        exact aw_loc [0, 1, 2, 3] (ls2 := [(0, .ref m), (1, .ref (m + 19)), (2, .int (nI a)), (3, .int (nI (j + 1)))]) (by first | (rw [nI_succ]; rfl) | rfl) (ih (j + 1) _ _ (by omega) hM hF heq)
  exact aw_loc [0, 1, 2, 3] (ls2 := [(0, .ref m), (1, .ref (m + 19)), (2, .int (nI a)), (3, .int (nI 0))]) rfl (key (6) 0 _ _ (by first | rfl | omega) hM hF rfl)
set_option maxHeartbeats 1000000 in
set_option maxRecDepth 100000 in
theorem tX12_takes18 {l : Launch} {E : aw_E} {d n m : Nat} {h0 : ah} {S0 : sT} {L0 : Nat → Int64} (hM : is_mo h0 m S0 L0) {x : Int32} {a : Nat} (hx : x = nI a) (ha : a + 14 ≤ 360) : am l E mX12_takes d 0 0 [.ref m, .ref (m + 19), .int x] n h0 (mv_post n h0 m (((mTak 18 a S0, L0) : sM))) := by
  refine am_of (by decide +kernel) (Nat.le_of_ble_eq_true rfl) ?_
  have hF : ah_off h0 h0 m 21 := ah_off.rf
  subst hx
  refine aw_aload_n dX12_takes_0 rfl ?_
  refine aw_aload_n dX12_takes_1 rfl ?_
  refine aw_iload_n dX12_takes_2 rfl ?_
  refine aw_ialdN dX12_takes_3 (mo_c19 hM) rfl (by omega) (by decide) ?_
  refine aw_pf_mo1 dX12_takes_4 fpX12_81 hM (fun h hM ho => ?_)
  have hF := hF.trans ho
  refine aw_aload_n dX12_takes_7 rfl ?_
  refine aw_aload_n dX12_takes_8 rfl ?_
  refine aw_iload_n dX12_takes_9 rfl ?_
  refine aw_iconst (v := 1) dX12_takes_10 (by decide) ?_
  refine aw_iadd dX12_takes_11 ?_
  refine aw_ialdN dX12_takes_12 (mo_c19 hM) (show nI a + 1 = nI (a + 1) by rw [← nI_add]; rfl) (by omega) (by decide) ?_
  refine aw_pf_mo2 dX12_takes_13 fpX12_84 hM (fun h hM ho => ?_)
  have hF := hF.trans ho
  refine aw_iconst (v := 0) dX12_takes_16 (by decide) ?_
  refine aw_istore_n dX12_takes_17 (by decide) ?_
  have key : ∀ (k j : Nat) (h : ah) (S : sT), j + k = 6 → is_mo h m S L0 → ah_off h0 h m 21 → mTak 18 a S0 = mTakL 18 a k j S → aw l E mX12_takes (aw_Z E (mv_post n h0 m (((mTak 18 a S0, L0) : sM)))) d 0 0 18 [(0, .ref m), (1, .ref (m + 19)), (2, .int (nI a)), (3, .int (nI j))] [] n h := by
    intro k
    induction k with
    | zero =>
      intro j h S hj hM hF heq
      refine aw_iload_n dX12_takes_18 rfl ?_
      refine aw_bipush (v := 6) dX12_takes_19 (by decide) ?_
      refine aw_icmp_ge (tgt := 57) dX12_takes_21 (by decide) (fun c21 => ?_) (fun c21 => ?_)
      · exact aw_vret dX12_takes_57 rfl (mv_fin (congrArg (fun z : sT => (z, L0)) heq) hM hF)
      · exact absurd ((nI_leI (a := 6) (b := j) (by omega) (by omega)).mpr (by omega)) c21
    | succ k ih =>
      intro j h S hj hM hF heq
      refine aw_iload_n dX12_takes_18 rfl ?_
      refine aw_bipush (v := 6) dX12_takes_19 (by decide) ?_
      refine aw_icmp_ge (tgt := 57) dX12_takes_21 (by decide) (fun c21 => ?_) (fun c21 => ?_)
      · exact absurd ((nI_leI (a := 6) (b := j) (by omega) (by omega)).mp c21) (by omega)
      · refine aw_aload_n dX12_takes_24 rfl ?_
        refine aw_get dX12_takes_25 flX12_16 (mo_c0 hM) rfl ?_
        refine aw_iload_n dX12_takes_28 rfl ?_
        refine aw_aload_n dX12_takes_29 rfl ?_
        refine aw_iload_n dX12_takes_30 rfl ?_
        refine aw_iconst (v := 2) dX12_takes_31 (by decide) ?_
        refine aw_iadd dX12_takes_32 ?_
        refine aw_iload_n dX12_takes_33 rfl ?_
        refine aw_iadd dX12_takes_34 ?_
        refine aw_ialdN dX12_takes_35 (mo_c19 hM) (show nI a + 2 + nI j = nI (a + 2 + j) by rw [← nI_add, ← nI_add]; rfl) (by omega) (by decide) ?_
        refine aw_iN_mo2 dX12_takes_36 hM rfl (by omega) (fun h hM ho => ?_)
        have hF := hF.trans ho
        refine aw_aload_n dX12_takes_37 rfl ?_
        refine aw_get dX12_takes_38 flX12_19 (mo_c0 hM) rfl ?_
        refine aw_iload_n dX12_takes_41 rfl ?_
        refine aw_aload_n dX12_takes_42 rfl ?_
        refine aw_iload_n dX12_takes_43 rfl ?_
        refine aw_bipush (v := 8) dX12_takes_44 (by decide) ?_
        refine aw_iadd dX12_takes_46 ?_
        refine aw_iload_n dX12_takes_47 rfl ?_
        refine aw_iadd dX12_takes_48 ?_
        refine aw_ialdN dX12_takes_49 (mo_c19 hM) (show nI a + 8 + nI j = nI (a + 8 + j) by rw [← nI_add, ← nI_add]; rfl) (by omega) (by decide) ?_
        refine aw_iN_mo3 dX12_takes_50 hM rfl (by omega) (fun h hM ho => ?_)
        have hF := hF.trans ho
        refine aw_inc (w := 1) dX12_takes_51 rfl (by decide) (by decide) ?_
        refine aw_goto (tgt := 18) dX12_takes_54 (by decide) ?_
        exact aw_loc [0, 1, 2, 3] (ls2 := [(0, .ref m), (1, .ref (m + 19)), (2, .int (nI a)), (3, .int (nI (j + 1)))]) (by first | (rw [nI_succ]; rfl) | rfl) (ih (j + 1) _ _ (by omega) hM hF heq)
  exact aw_loc [0, 1, 2, 3] (ls2 := [(0, .ref m), (1, .ref (m + 19)), (2, .int (nI a)), (3, .int (nI 0))]) rfl (key (6) 0 _ _ (by first | rfl | omega) hM hF rfl)
set_option maxHeartbeats 1000000 in
set_option maxRecDepth 100000 in
theorem tX12_notes {l : Launch} {E : aw_E} {d n m : Nat} {h0 : ah} {S0 : sT} {L0 : Nat → Int64} (hM : is_mo h0 m S0 L0) {u : Nat} (hu : S0 30 9 = nI u) (hu8 : u ≤ 8) : am l E mX12_notes (d + 1) 0 0 [.ref m] n h0 (mv_post n h0 m (((mKeep S0 u, L0) : sM))) := by
  refine am_of (by decide +kernel) (Nat.le_of_ble_eq_true rfl) ?_
  have hF : ah_off h0 h0 m 21 := ah_off.rf
  refine aw_aload_n dX12_notes_0 rfl ?_
  refine aw_get dX12_notes_1 flX12_90 (mo_c0 hM) rfl ?_
  refine aw_bipush (v := 8) dX12_notes_4 (by decide) ?_
  refine aw_icmp_ne (tgt := 48) dX12_notes_6 (by decide) (fun c6 => ?_) (fun c6 => ?_)
  · refine aw_aload_n dX12_notes_48 rfl ?_
    refine aw_aload_n dX12_notes_49 rfl ?_
    refine aw_get dX12_notes_50 flX12_46 (mo_c0 hM) rfl ?_
    refine aw_bipush (v := 14) dX12_notes_53 (by decide) ?_
    refine aw_aload_n dX12_notes_55 rfl ?_
    refine aw_get dX12_notes_56 flX12_90 (mo_c0 hM) rfl ?_
    refine aw_imul dX12_notes_59 ?_
    refine aw_callV2e dX12_notes_60 cmX12_lays cvX12_189 (mo_c0 hM) (Nat.le_of_ble_eq_true rfl) (tX12_lays12 hM (a := 14 * u) (show (14 : Int32) * S0 30 9 = nI (14 * u) by rw [hu, ← pk_mul]; rfl) (by have := mt (fun e : u = 8 => show S0 30 9 = 8 by rw [hu, e]; rfl) c6; omega)) (fun r n' h' hq => ?_)
    obtain ⟨rfl, rfl, hM, ho⟩ := hq
    have hF := hF.trans ho
    refine aw_aload_n dX12_notes_63 rfl ?_
    refine aw_dup dX12_notes_64 rfl ?_
    refine aw_get dX12_notes_65 flX12_90 (mo_c0 hM) rfl ?_
    refine aw_iconst (v := 1) dX12_notes_68 (by decide) ?_
    refine aw_iadd dX12_notes_69 ?_
    refine aw_pf_mo9 dX12_notes_70 fpX12_90 hM (fun h hM ho => ?_)
    have hF := hF.trans ho
    exact aw_vret dX12_notes_73 rfl (mv_fin (congrArg (fun z : sT => (z, L0)) (if_neg (fun e : u = 8 => c6 (show S0 30 9 = 8 by rw [hu, e]; rfl)))) hM hF)
  · refine aw_iconst (v := 0) dX12_notes_9 (by decide) ?_
    refine aw_istore_n dX12_notes_10 (by decide) ?_
    have h8 : u = 8 := (nI_eq (a := u) (b := 8) (by omega) (by decide)).mp (hu.symm.trans c6)
    have key : ∀ (k j : Nat) (h : ah) (S : sT), j + k = 98 → S 30 9 = 8 → is_mo h m S L0 → ah_off h0 h m 21 → mShift 98 0 S0 = mShift k j S → aw l E mX12_notes (aw_Z E (mv_post n h0 m (((mKeep S0 u, L0) : sM)))) (d + 1) 0 0 11 [(0, .ref m), (1, .int (nI j))] [] n h := by
      intro k
      induction k with
      | zero =>
        intro j h S hj hu9 hM hF heq
        refine aw_iload_n dX12_notes_11 rfl ?_
        refine aw_bipush (v := 98) dX12_notes_12 (by decide) ?_
        refine aw_icmp_ge (tgt := 38) dX12_notes_14 (by decide) (fun c14 => ?_) (fun c14 => ?_)
        · refine aw_aload_n dX12_notes_38 rfl ?_
          refine aw_dup dX12_notes_39 rfl ?_
          refine aw_get dX12_notes_40 flX12_90 (mo_c0 hM) rfl ?_
          refine aw_iconst (v := 1) dX12_notes_43 (by decide) ?_
          refine aw_isub dX12_notes_44 ?_
          refine aw_pf_mo9 dX12_notes_45 fpX12_90 hM (fun h hM ho => ?_)
          have hF := hF.trans ho
          refine aw_aload_n dX12_notes_48 rfl ?_
          refine aw_aload_n dX12_notes_49 rfl ?_
          refine aw_get dX12_notes_50 flX12_46 (mo_c0 hM) rfl ?_
          refine aw_bipush (v := 14) dX12_notes_53 (by decide) ?_
          refine aw_aload_n dX12_notes_55 rfl ?_
          refine aw_get dX12_notes_56 flX12_90 (mo_c0 hM) rfl ?_
          refine aw_imul dX12_notes_59 ?_
          refine aw_callV2e dX12_notes_60 cmX12_lays cvX12_189 (mo_c0 hM) (Nat.le_of_ble_eq_true rfl) (tX12_lays12 hM (a := 98) (show (14 : Int32) * (S 30 9 - 1) = nI 98 by rw [hu9]; decide) (by decide)) (fun r n' h' hq => ?_)
          obtain ⟨rfl, rfl, hM, ho⟩ := hq
          have hF := hF.trans ho
          refine aw_aload_n dX12_notes_63 rfl ?_
          refine aw_dup dX12_notes_64 rfl ?_
          refine aw_get dX12_notes_65 flX12_90 (mo_c0 hM) rfl ?_
          refine aw_iconst (v := 1) dX12_notes_68 (by decide) ?_
          refine aw_iadd dX12_notes_69 ?_
          refine aw_pf_mo9 dX12_notes_70 fpX12_90 hM (fun h hM ho => ?_)
          have hF := hF.trans ho
          exact aw_vret dX12_notes_73 rfl (mv_fin (congrArg (fun z : sT => (z, L0)) ((if_pos h8).trans (congrArg (fun z => mUp (mLay 12 98 (mDn z))) heq))) hM hF)
        · exact absurd ((nI_leI (a := 98) (b := j) (by omega) (by omega)).mpr (by omega)) c14
      | succ k ih =>
        intro j h S hj hu9 hM hF heq
        refine aw_iload_n dX12_notes_11 rfl ?_
        refine aw_bipush (v := 98) dX12_notes_12 (by decide) ?_
        refine aw_icmp_ge (tgt := 38) dX12_notes_14 (by decide) (fun c14 => ?_) (fun c14 => ?_)
        · exact absurd ((nI_leI (a := 98) (b := j) (by omega) (by omega)).mp c14) (by omega)
        · refine aw_aload_n dX12_notes_17 rfl ?_
          refine aw_get dX12_notes_18 flX12_46 (mo_c0 hM) rfl ?_
          refine aw_iload_n dX12_notes_21 rfl ?_
          refine aw_aload_n dX12_notes_22 rfl ?_
          refine aw_get dX12_notes_23 flX12_46 (mo_c0 hM) rfl ?_
          refine aw_iload_n dX12_notes_26 rfl ?_
          refine aw_bipush (v := 14) dX12_notes_27 (by decide) ?_
          refine aw_iadd dX12_notes_29 ?_
          refine aw_ialdN dX12_notes_30 (mo_c13 hM) (show nI j + 14 = nI (j + 14) by rw [← nI_add]; rfl) (by omega) (by decide) ?_
          refine aw_iN_mo12 dX12_notes_31 hM rfl (by omega) (fun h hM ho => ?_)
          have hF := hF.trans ho
          refine aw_inc (w := 1) dX12_notes_32 rfl (by decide) (by decide) ?_
          refine aw_goto (tgt := 11) dX12_notes_35 (by decide) ?_
          exact aw_loc [0, 1] (ls2 := [(0, .ref m), (1, .int (nI (j + 1)))]) (by first | (rw [nI_succ]; rfl) | rfl) (ih (j + 1) _ _ (by omega) (by exact hu9) hM hF heq)
    exact aw_loc [0, 1] (ls2 := [(0, .ref m), (1, .int (nI 0))]) rfl (key (98) 0 _ _ (by first | rfl | omega) c6 hM hF rfl)
set_option maxHeartbeats 1000000 in
set_option maxRecDepth 100000 in
theorem tX12_puts {l : Launch} {E : aw_E} {d n m : Nat} {h0 : ah} {S0 : sT} {L0 : Nat → Int64} (hM : is_mo h0 m S0 L0) : am l E mX12_puts (d + 1) 0 0 [.ref m] n h0 (mv_post n h0 m (((mLay 13 0 S0, L0) : sM))) := by
  refine am_of (by decide +kernel) (Nat.le_of_ble_eq_true rfl) ?_
  have hF : ah_off h0 h0 m 21 := ah_off.rf
  refine aw_aload_n dX12_puts_0 rfl ?_
  refine aw_aload_n dX12_puts_1 rfl ?_
  refine aw_get dX12_puts_2 flX12_49 (mo_c0 hM) rfl ?_
  refine aw_iconst (v := 0) dX12_puts_5 (by decide) ?_
  refine aw_callV2e dX12_puts_6 cmX12_lays cvX12_189 (mo_c0 hM) (Nat.le_of_ble_eq_true rfl) (tX12_lays13 hM (a := 0) rfl (by decide)) (fun r n' h' hq => ?_)
  obtain ⟨rfl, rfl, hM, ho⟩ := hq
  have hF := hF.trans ho
  exact aw_vret dX12_puts_9 rfl (mv_fin rfl hM hF)
set_option maxHeartbeats 1000000 in
set_option maxRecDepth 100000 in
theorem tX12_back {l : Launch} {E : aw_E} {d n m : Nat} {h0 : ah} {S0 : sT} {L0 : Nat → Int64} (hM : is_mo h0 m S0 L0) : am l E mX12_back (d + 1) 0 0 [.ref m] n h0 (mv_post n h0 m (((mTak 13 0 S0, L0) : sM))) := by
  refine am_of (by decide +kernel) (Nat.le_of_ble_eq_true rfl) ?_
  have hF : ah_off h0 h0 m 21 := ah_off.rf
  refine aw_aload_n dX12_back_0 rfl ?_
  refine aw_aload_n dX12_back_1 rfl ?_
  refine aw_get dX12_back_2 flX12_49 (mo_c0 hM) rfl ?_
  refine aw_iconst (v := 0) dX12_back_5 (by decide) ?_
  refine aw_callV2e dX12_back_6 cmX12_takes cvX12_193 (mo_c0 hM) (Nat.le_of_ble_eq_true rfl) (tX12_takes13 hM (a := 0) rfl (by decide)) (fun r n' h' hq => ?_)
  obtain ⟨rfl, rfl, hM, ho⟩ := hq
  have hF := hF.trans ho
  exact aw_vret dX12_back_9 rfl (mv_fin rfl hM hF)
set_option maxHeartbeats 1000000 in
set_option maxRecDepth 100000 in
theorem tX12_lies {l : Launch} {E : aw_E} {d n m : Nat} {h0 : ah} {S0 : sT} {L0 : Nat → Int64} (hM : is_mo h0 m S0 L0) {p s : Int32} (hp : vp_in p 6) : am l E mX12_lies (d + 2) 0 0 [.ref m, .int p, .int s] n h0 (mv_post n h0 m (((mLies S0 p s, L0) : sM))) := by
  refine am_of (by decide +kernel) (Nat.le_of_ble_eq_true rfl) ?_
  have hF : ah_off h0 h0 m 21 := ah_off.rf
  refine aw_aload_n dX12_lies_0 rfl ?_
  refine aw_get dX12_lies_1 flX12_16 (mo_c0 hM) rfl ?_
  refine aw_iload_n dX12_lies_4 rfl ?_
  refine aw_aload_n dX12_lies_5 rfl ?_
  refine aw_iload_n dX12_lies_6 rfl ?_
  refine aw_iload_n dX12_lies_7 rfl ?_
  refine aw_callV2p dX12_lies_8 cmX12_honestBehind cvX12_196 (mo_c0 hM) (Nat.le_of_ble_eq_true rfl) (tX12_honestBehind hM hp) ?_
  refine aw_ia_mo2 dX12_lies_11 hM hp (fun h hM ho => ?_)
  have hF := hF.trans ho
  refine aw_aload_n dX12_lies_12 rfl ?_
  refine aw_dup dX12_lies_13 rfl ?_
  refine aw_get dX12_lies_14 flX12_84 (mo_c0 hM) rfl ?_
  refine aw_iconst (v := 1) dX12_lies_17 (by decide) ?_
  refine aw_iload_n dX12_lies_18 rfl ?_
  refine aw_ishl dX12_lies_19 ?_
  refine aw_ior dX12_lies_20 ?_
  refine aw_pf_mo2 dX12_lies_21 fpX12_84 hM (fun h hM ho => ?_)
  have hF := hF.trans ho
  exact aw_vret dX12_lies_24 rfl (mv_fin rfl hM hF)
set_option maxHeartbeats 1000000 in
set_option maxRecDepth 100000 in
theorem tX12_pass {l : Launch} {E : aw_E} {d n m : Nat} {h0 : ah} {S0 : sT} {L0 : Nat → Int64} (hM : is_mo h0 m S0 L0) {M : Nat} (hm : S0 30 0 = nI M) (hm6 : M ≤ 6) : am l E mX12_pass (d + 1) 0 0 [.ref m] n h0 (mv_post n h0 m (((mPass S0, L0) : sM))) := by
  refine am_of (by decide +kernel) (Nat.le_of_ble_eq_true rfl) ?_
  have hF : ah_off h0 h0 m 21 := ah_off.rf
  refine aw_iconst (v := 0) dX12_pass_0 (by decide) ?_
  refine aw_istore_n dX12_pass_1 (by decide) ?_
  have hN := clamp_lt (S0 30 0)
  have hN6 : (S0 30 0).toNatClampNeg ≤ 6 := by rw [hm, nI_clamp (by omega)]; exact hm6
  have key : ∀ (k j : Nat) (h : ah) (S : sT), j + k = (S0 30 0).toNatClampNeg → S 30 0 = S0 30 0 → is_mo h m S L0 → ah_off h0 h m 21 → mPassL (S0 30 0).toNatClampNeg 0 S0 = mPassL k j S → aw l E mX12_pass (aw_Z E (mv_post n h0 m (((mPass S0, L0) : sM)))) (d + 1) 0 0 2 [(0, .ref m), (1, .int (nI j))] [] n h := by
    intro k
    induction k with
    | zero =>
      intro j h S hj hp hM hF heq
      refine aw_iload_n dX12_pass_2 rfl ?_
      refine aw_aload_n dX12_pass_3 rfl ?_
      refine aw_get dX12_pass_4 flX12_77 (mo_c0 hM) rfl ?_
      refine aw_icmp_ge (tgt := 55) dX12_pass_7 (by decide) (fun c7 => ?_) (fun c7 => ?_)
      · refine aw_aload_n dX12_pass_55 rfl ?_
        refine aw_iconst (v := 0) dX12_pass_56 (by decide) ?_
        refine aw_pf_mo2 dX12_pass_57 fpX12_84 hM (fun h hM ho => ?_)
        have hF := hF.trans ho
        refine aw_aload_n dX12_pass_60 rfl ?_
        refine aw_sipush (v := 999) dX12_pass_61 (by decide) ?_
        refine aw_aload_n dX12_pass_64 rfl ?_
        refine aw_get dX12_pass_65 flX12_81 (mo_c0 hM) rfl ?_
        refine aw_iconst (v := 1) dX12_pass_68 (by decide) ?_
        refine aw_iadd dX12_pass_69 ?_
        refine aw_callS2p dX12_pass_70 cmX12_lesser csX12_180 (Nat.le_of_ble_eq_true rfl) tX12_lesser ?_
        refine aw_pf_mo1 dX12_pass_73 fpX12_81 hM (fun h hM ho => ?_)
        have hF := hF.trans ho
        exact aw_vret dX12_pass_76 rfl (mv_fin (congrArg (fun z : sT => (mPassE z, L0)) heq) hM hF)
      · exact absurd ((i_le_nI (x := S0 30 0) (j := j) (by omega)).mpr (by omega)) (hp ▸ c7)
    | succ k ih =>
      intro j h S hj hp hM hF heq
      refine aw_iload_n dX12_pass_2 rfl ?_
      refine aw_aload_n dX12_pass_3 rfl ?_
      refine aw_get dX12_pass_4 flX12_77 (mo_c0 hM) rfl ?_
      refine aw_icmp_ge (tgt := 55) dX12_pass_7 (by decide) (fun c7 => ?_) (fun c7 => ?_)
      · exact absurd ((i_le_nI (x := S0 30 0) (j := j) (by omega)).mp (hp ▸ c7)) (by omega)
      · refine aw_aload_n dX12_pass_10 rfl ?_
        refine aw_get dX12_pass_11 flX12_16 (mo_c0 hM) rfl ?_
        refine aw_iload_n dX12_pass_14 rfl ?_
        refine aw_aload_n dX12_pass_15 rfl ?_
        refine aw_get dX12_pass_16 flX12_84 (mo_c0 hM) rfl ?_
        refine aw_iload_n dX12_pass_19 rfl ?_
        refine aw_callS2p dX12_pass_20 cmX12_has csX12_199 (Nat.le_of_ble_eq_true rfl) tX12_has ?_
        refine aw_if_eq (tgt := 35) dX12_pass_23 (by decide) (fun c23 => ?_) (fun c23 => ?_)
        · refine aw_bipush (v := 12) dX12_pass_35 (by decide) ?_
          refine aw_aload_n dX12_pass_37 rfl ?_
          refine aw_get dX12_pass_38 flX12_16 (mo_c0 hM) rfl ?_
          refine aw_iload_n dX12_pass_41 rfl ?_
          refine aw_ialdN dX12_pass_42 (mo_c3 hM) rfl (by omega) (by decide) ?_
          refine aw_iconst (v := 1) dX12_pass_43 (by decide) ?_
          refine aw_iadd dX12_pass_44 ?_
          refine aw_callS2p dX12_pass_45 cmX12_lesser csX12_180 (Nat.le_of_ble_eq_true rfl) tX12_lesser ?_
          refine aw_iN_mo2 dX12_pass_48 hM rfl (by omega) (fun h hM ho => ?_)
          have hF := hF.trans ho
          refine aw_inc (w := 1) dX12_pass_49 rfl (by decide) (by decide) ?_
          refine aw_goto (tgt := 2) dX12_pass_52 (by decide) ?_
          exact aw_loc [0, 1] (ls2 := [(0, .ref m), (1, .int (nI (j + 1)))]) (by first | (rw [nI_succ]; rfl) | rfl) (ih (j + 1) _ _ (by omega) (by exact hp) hM hF (heq.trans (congrArg (fun z => mPassL k (j + 1) (sA S 2 (upd (S 2) j z))) (if_pos c23))))
        · refine aw_aload_n dX12_pass_26 rfl ?_
          refine aw_get dX12_pass_27 flX12_16 (mo_c0 hM) rfl ?_
          refine aw_iload_n dX12_pass_30 rfl ?_
          refine aw_ialdN dX12_pass_31 (mo_c3 hM) rfl (by omega) (by decide) ?_
          refine aw_goto (tgt := 48) dX12_pass_32 (by decide) ?_
          refine aw_iN_mo2 dX12_pass_48 hM rfl (by omega) (fun h hM ho => ?_)
          have hF := hF.trans ho
          refine aw_inc (w := 1) dX12_pass_49 rfl (by decide) (by decide) ?_
          refine aw_goto (tgt := 2) dX12_pass_52 (by decide) ?_
          exact aw_loc [0, 1] (ls2 := [(0, .ref m), (1, .int (nI (j + 1)))]) (by first | (rw [nI_succ]; rfl) | rfl) (ih (j + 1) _ _ (by omega) (by exact hp) hM hF (heq.trans (congrArg (fun z => mPassL k (j + 1) (sA S 2 (upd (S 2) j z))) (if_neg c23))))
  exact aw_loc [0, 1] (ls2 := [(0, .ref m), (1, .int (nI 0))]) rfl (key ((S0 30 0).toNatClampNeg) 0 _ _ (by first | rfl | omega) rfl hM hF rfl)
theorem mLayL_r (r a : Nat) {q : Nat} (hq : q ≠ r) : ∀ (k j : Nat) (S : sT), mLayL r a k j S q = S q
  | 0, _, _ => rfl
  | k + 1, j, S => by
    unfold mLayL
    rw [mLayL_r r a hq k (j + 1)]
    show va_up (va_up S r _) r _ q = S q
    rw [va_up_ne _ _ hq, va_up_ne _ _ hq]
theorem mLay_r (r a : Nat) {q : Nat} (hq : q ≠ r) (S : sT) : mLay r a S q = S q := by
  unfold mLay
  rw [mLayL_r r a hq]
  show va_up (va_up S r _) r _ q = S q
  rw [va_up_ne _ _ hq, va_up_ne _ _ hq]
theorem mShift_r {q : Nat} (hq : q ≠ 12) : ∀ (k j : Nat) (S : sT), mShift k j S q = S q
  | 0, _, _ => rfl
  | k + 1, j, S => by
    unfold mShift
    rw [mShift_r hq k (j + 1)]
    exact va_up_ne _ _ hq
theorem mKeep_r (S : sT) (u : Nat) {q : Nat} (h12 : q ≠ 12) (h30 : q ≠ 30) : mKeep S u q = S q := by
  unfold mKeep
  by_cases h : u = 8
  · rw [if_pos h]
    show va_up _ 30 _ q = S q
    rw [va_up_ne _ _ h30, mLay_r 12 98 h12]
    show va_up _ 30 _ q = S q
    rw [va_up_ne _ _ h30, mShift_r h12]
  · rw [if_neg h]
    show va_up _ 30 _ q = S q
    rw [va_up_ne _ _ h30, mLay_r 12 _ h12]
theorem mUp_30 (S : sT) {i : Nat} (hi : i ≠ 9) : mUp S 30 i = S 30 i := by
  show upd (S 30) 9 _ i = S 30 i
  exact pk_un hi
theorem mDn_30 (S : sT) {i : Nat} (hi : i ≠ 9) : mDn S 30 i = S 30 i := by
  show upd (S 30) 9 _ i = S 30 i
  exact pk_un hi
theorem mKeep_30 (S : sT) (u : Nat) {i : Nat} (hi : i ≠ 9) : mKeep S u 30 i = S 30 i := by
  unfold mKeep
  by_cases h : u = 8
  · rw [if_pos h, mUp_30 _ hi, mLay_r 12 98 (by decide), mDn_30 _ hi, mShift_r (by decide)]
  · rw [if_neg h, mUp_30 _ hi, mLay_r 12 _ (by decide)]
set_option maxHeartbeats 1000000 in
set_option maxRecDepth 100000 in
theorem tX12_lie {l : Launch} {E : aw_E} {d n m : Nat} {h0 : ah} {S0 : sT} {L0 : Nat → Int64} (hM : is_mo h0 m S0 L0) {p s : Int32} {M : Nat} (hm : S0 30 0 = nI M) (hm6 : M ≤ 6) {u : Nat} (hu : S0 30 9 = nI u) (hu8 : u ≤ 8) : am l E mX12_lie (d + 3) 0 0 [.ref m, .int p, .int s] n h0 (mo_post n h0 m (mLie S0 L0 u p s)) := by
  refine am_of (by decide +kernel) (Nat.le_of_ble_eq_true rfl) ?_
  have hF : ah_off h0 h0 m 21 := ah_off.rf
  refine aw_aload_n dX12_lie_0 rfl ?_
  refine aw_iload_n dX12_lie_1 rfl ?_
  refine aw_callV1p dX12_lie_2 cmX12_isOne cvX12_108 (mo_c0 hM) (Nat.le_of_ble_eq_true rfl) (tX12_isOne hM) ?_
  refine aw_if_eq (tgt := 17) dX12_lie_5 (by decide) (fun c5 => ?_) (fun c5 => ?_)
  · refine aw_aload_n dX12_lie_17 rfl ?_
    refine aw_callV0e dX12_lie_18 cmX12_bad cvX12_97 (mo_c0 hM) (Nat.le_of_ble_eq_true rfl) (tX12_bad hM) (fun r n' h' hq => ?_)
    obtain ⟨rfl, rfl, hM, ho⟩ := hq
    have hF := hF.trans ho
    exact aw_iret dX12_lie_21 rfl (mo_fin (if_pos c5) hM hF)
  · refine aw_iload_n dX12_lie_8 rfl ?_
    refine aw_iconst (v := 1) dX12_lie_9 (by decide) ?_
    refine aw_iconst (v := 4) dX12_lie_10 (by decide) ?_
    refine aw_callS3p dX12_lie_11 cmX12_in csX12_93 (Nat.le_of_ble_eq_true rfl) tX12_in ?_
    refine aw_if_ne (tgt := 22) dX12_lie_14 (by decide) (fun c14 => ?_) (fun c14 => ?_)
    · refine aw_aload_n dX12_lie_22 rfl ?_
      refine aw_callV0e dX12_lie_23 cmX12_notes cvX12_202 (mo_c0 hM) (Nat.le_of_ble_eq_true rfl) (tX12_notes hM hu hu8) (fun r n' h' hq => ?_)
      obtain ⟨rfl, rfl, hM, ho⟩ := hq
      have hF := hF.trans ho
      refine aw_aload_n dX12_lie_26 rfl ?_
      refine aw_iload_n dX12_lie_27 rfl ?_
      refine aw_iload_n dX12_lie_28 rfl ?_
      refine aw_callV2e dX12_lie_29 cmX12_lies cvX12_205 (mo_c0 hM) (Nat.le_of_ble_eq_true rfl) (tX12_lies hM (mIs_in c5 hm hm6)) (fun r n' h' hq => ?_)
      obtain ⟨rfl, rfl, hM, ho⟩ := hq
      have hF := hF.trans ho
      refine aw_aload_n dX12_lie_32 rfl ?_
      refine aw_get dX12_lie_33 flX12_16 (mo_c0 hM) rfl ?_
      refine aw_iload_n dX12_lie_36 rfl ?_
      refine aw_iald dX12_lie_37 (mo_c3 hM) (mIs_in c5 hm hm6) ?_
      exact aw_iret dX12_lie_38 rfl (mo_fin ((if_neg c5).trans (if_neg c14)) hM hF)
    · refine aw_aload_n dX12_lie_17 rfl ?_
      refine aw_callV0e dX12_lie_18 cmX12_bad cvX12_97 (mo_c0 hM) (Nat.le_of_ble_eq_true rfl) (tX12_bad hM) (fun r n' h' hq => ?_)
      obtain ⟨rfl, rfl, hM, ho⟩ := hq
      have hF := hF.trans ho
      exact aw_iret dX12_lie_21 rfl (mo_fin ((if_neg c5).trans (if_pos c14)) hM hF)
set_option maxHeartbeats 1000000 in
set_option maxRecDepth 100000 in
theorem tX12_give {l : Launch} {E : aw_E} {d n m : Nat} {h0 : ah} {S0 : sT} {L0 : Nat → Int64} (hM : is_mo h0 m S0 L0) {p q m' : Int32} {M : Nat} (hm : S0 30 0 = nI M) (hm6 : M ≤ 6) {u : Nat} (hu : S0 30 9 = nI u) (hu8 : u ≤ 8) : am l E mX12_give (d + 2) 0 0 [.ref m, .int p, .int q, .int m'] n h0 (mo_post n h0 m (mGive S0 L0 u p q m')) := by
  refine am_of (by decide +kernel) (Nat.le_of_ble_eq_true rfl) ?_
  have hF : ah_off h0 h0 m 21 := ah_off.rf
  refine aw_aload_n dX12_give_0 rfl ?_
  refine aw_iload_n dX12_give_1 rfl ?_
  refine aw_callV1p dX12_give_2 cmX12_isOne cvX12_108 (mo_c0 hM) (Nat.le_of_ble_eq_true rfl) (tX12_isOne hM) ?_
  refine aw_if_eq (tgt := 31) dX12_give_5 (by decide) (fun c5 => ?_) (fun c5 => ?_)
  · refine aw_aload_n dX12_give_31 rfl ?_
    refine aw_callV0e dX12_give_32 cmX12_bad cvX12_97 (mo_c0 hM) (Nat.le_of_ble_eq_true rfl) (tX12_bad hM) (fun r n' h' hq => ?_)
    obtain ⟨rfl, rfl, hM, ho⟩ := hq
    have hF := hF.trans ho
    exact aw_iret dX12_give_35 rfl (mo_fin (if_pos c5) hM hF)
  · refine aw_aload_n dX12_give_8 rfl ?_
    refine aw_iload_n dX12_give_9 rfl ?_
    refine aw_callV1p dX12_give_10 cmX12_isOne cvX12_108 (mo_c0 hM) (Nat.le_of_ble_eq_true rfl) (tX12_isOne hM) ?_
    refine aw_if_eq (tgt := 31) dX12_give_13 (by decide) (fun c13 => ?_) (fun c13 => ?_)
    · refine aw_aload_n dX12_give_31 rfl ?_
      refine aw_callV0e dX12_give_32 cmX12_bad cvX12_97 (mo_c0 hM) (Nat.le_of_ble_eq_true rfl) (tX12_bad hM) (fun r n' h' hq => ?_)
      obtain ⟨rfl, rfl, hM, ho⟩ := hq
      have hF := hF.trans ho
      exact aw_iret dX12_give_35 rfl (mo_fin ((if_neg c5).trans (if_pos c13)) hM hF)
    · refine aw_iload_n dX12_give_16 rfl ?_
      refine aw_iload_n dX12_give_17 rfl ?_
      refine aw_icmp_eq (tgt := 31) dX12_give_18 (by decide) (fun c18 => ?_) (fun c18 => ?_)
      · refine aw_aload_n dX12_give_31 rfl ?_
        refine aw_callV0e dX12_give_32 cmX12_bad cvX12_97 (mo_c0 hM) (Nat.le_of_ble_eq_true rfl) (tX12_bad hM) (fun r n' h' hq => ?_)
        obtain ⟨rfl, rfl, hM, ho⟩ := hq
        have hF := hF.trans ho
        exact aw_iret dX12_give_35 rfl (mo_fin (((if_neg c5).trans (if_neg c13)).trans (if_pos c18)) hM hF)
      · refine aw_iload_n dX12_give_21 rfl ?_
        refine aw_iconst (v := 1) dX12_give_22 (by decide) ?_
        refine aw_bipush (v := 99) dX12_give_23 (by decide) ?_
        refine aw_callS3p dX12_give_25 cmX12_in csX12_93 (Nat.le_of_ble_eq_true rfl) tX12_in ?_
        refine aw_if_ne (tgt := 36) dX12_give_28 (by decide) (fun c28 => ?_) (fun c28 => ?_)
        · refine aw_aload_n dX12_give_36 rfl ?_
          refine aw_get dX12_give_37 flX12_25 (mo_c0 hM) rfl ?_
          refine aw_iload_n dX12_give_40 rfl ?_
          refine aw_iald dX12_give_41 (mo_c6 hM) (mIs_in c5 hm hm6) ?_
          refine aw_iload_n dX12_give_42 rfl ?_
          refine aw_callS2p dX12_give_43 cmX12_has csX12_199 (Nat.le_of_ble_eq_true rfl) tX12_has ?_
          refine aw_if_eq (tgt := 59) dX12_give_46 (by decide) (fun c46 => ?_) (fun c46 => ?_)
          · refine aw_aload_n dX12_give_59 rfl ?_
            refine aw_callV0e dX12_give_60 cmX12_no cvX12_209 (mo_c0 hM) (Nat.le_of_ble_eq_true rfl) (tX12_no hM) (fun r n' h' hq => ?_)
            obtain ⟨rfl, rfl, hM, ho⟩ := hq
            have hF := hF.trans ho
            exact aw_iret dX12_give_63 rfl (mo_fin (((((if_neg c5).trans (if_neg c13)).trans (if_neg c18)).trans (if_neg c28)).trans (if_pos c46)) hM hF)
          · refine aw_aload_n dX12_give_49 rfl ?_
            refine aw_get dX12_give_50 flX12_19 (mo_c0 hM) rfl ?_
            refine aw_iload_n dX12_give_53 rfl ?_
            refine aw_iald dX12_give_54 (mo_c4 hM) (mIs_in c5 hm hm6) ?_
            refine aw_iload_n dX12_give_55 rfl ?_
            refine aw_icmp_ge (tgt := 64) dX12_give_56 (by decide) (fun c56 => ?_) (fun c56 => ?_)
            · refine aw_aload_n dX12_give_64 rfl ?_
              refine aw_callV0e dX12_give_65 cmX12_notes cvX12_202 (mo_c0 hM) (Nat.le_of_ble_eq_true rfl) (tX12_notes hM hu hu8) (fun r n' h' hq => ?_)
              obtain ⟨rfl, rfl, hM, ho⟩ := hq
              have hF := hF.trans ho
              refine aw_aload_n dX12_give_68 rfl ?_
              refine aw_get dX12_give_69 flX12_19 (mo_c0 hM) rfl ?_
              refine aw_iload_n dX12_give_72 rfl ?_
              refine aw_dup2 dX12_give_73 rfl rfl ?_
              refine aw_iald dX12_give_74 (mo_c4 hM) (mIs_in c5 hm hm6) ?_
              refine aw_iload_n dX12_give_75 rfl ?_
              refine aw_isub dX12_give_76 ?_
              refine aw_ia_mo3 dX12_give_77 hM (mIs_in c5 hm hm6) (fun h hM ho => ?_)
              have hF := hF.trans ho
              refine aw_aload_n dX12_give_78 rfl ?_
              refine aw_get dX12_give_79 flX12_19 (mo_c0 hM) rfl ?_
              refine aw_iload_n dX12_give_82 rfl ?_
              refine aw_dup2 dX12_give_83 rfl rfl ?_
              refine aw_iald dX12_give_84 (mo_c4 hM) (mIs_in c13 hm hm6) ?_
              refine aw_iload_n dX12_give_85 rfl ?_
              refine aw_iadd dX12_give_86 ?_
              refine aw_ia_mo3 dX12_give_87 hM (mIs_in c13 hm hm6) (fun h hM ho => ?_)
              have hF := hF.trans ho
              refine aw_aload_n dX12_give_88 rfl ?_
              refine aw_get dX12_give_89 flX12_19 (mo_c0 hM) rfl ?_
              refine aw_iload_n dX12_give_92 rfl ?_
              refine aw_iald dX12_give_93 (mo_c4 hM) (mIs_in c5 hm hm6) ?_
              exact aw_iret dX12_give_94 rfl (mo_fin ((((((if_neg c5).trans (if_neg c13)).trans (if_neg c18)).trans (if_neg c28)).trans (if_neg c46)).trans (if_pos c56)) hM hF)
            · refine aw_aload_n dX12_give_59 rfl ?_
              refine aw_callV0e dX12_give_60 cmX12_no cvX12_209 (mo_c0 hM) (Nat.le_of_ble_eq_true rfl) (tX12_no hM) (fun r n' h' hq => ?_)
              obtain ⟨rfl, rfl, hM, ho⟩ := hq
              have hF := hF.trans ho
              exact aw_iret dX12_give_63 rfl (mo_fin ((((((if_neg c5).trans (if_neg c13)).trans (if_neg c18)).trans (if_neg c28)).trans (if_neg c46)).trans (if_neg c56)) hM hF)
        · refine aw_aload_n dX12_give_31 rfl ?_
          refine aw_callV0e dX12_give_32 cmX12_bad cvX12_97 (mo_c0 hM) (Nat.le_of_ble_eq_true rfl) (tX12_bad hM) (fun r n' h' hq => ?_)
          obtain ⟨rfl, rfl, hM, ho⟩ := hq
          have hF := hF.trans ho
          exact aw_iret dX12_give_35 rfl (mo_fin ((((if_neg c5).trans (if_neg c13)).trans (if_neg c18)).trans (if_pos c28)) hM hF)
set_option maxHeartbeats 1000000 in
set_option maxRecDepth 100000 in
theorem tX12_day {l : Launch} {E : aw_E} {d n m : Nat} {h0 : ah} {S0 : sT} {L0 : Nat → Int64} (hM : is_mo h0 m S0 L0) {M : Nat} (hm : S0 30 0 = nI M) (hm6 : M ≤ 6) {u : Nat} (hu : S0 30 9 = nI u) (hu8 : u ≤ 8) : am l E mX12_day (d + 2) 0 0 [.ref m] n h0 (mo_post n h0 m (mDay S0 L0 u)) := by
  refine am_of (by decide +kernel) (Nat.le_of_ble_eq_true rfl) ?_
  have hF : ah_off h0 h0 m 21 := ah_off.rf
  refine aw_aload_n dX12_day_0 rfl ?_
  refine aw_callV0e dX12_day_1 cmX12_notes cvX12_202 (mo_c0 hM) (Nat.le_of_ble_eq_true rfl) (tX12_notes hM hu hu8) (fun r n' h' hq => ?_)
  obtain ⟨rfl, rfl, hM, ho⟩ := hq
  have hF := hF.trans ho
  refine aw_aload_n dX12_day_4 rfl ?_
  refine aw_callV0e dX12_day_5 cmX12_pass cvX12_212 (mo_c0 hM) (Nat.le_of_ble_eq_true rfl) (tX12_pass hM ((mKeep_30 S0 u (by decide)).trans hm) hm6) (fun r n' h' hq => ?_)
  obtain ⟨rfl, rfl, hM, ho⟩ := hq
  have hF := hF.trans ho
  refine aw_aload_n dX12_day_8 rfl ?_
  refine aw_get dX12_day_9 flX12_81 (mo_c0 hM) rfl ?_
  exact aw_iret dX12_day_12 rfl (mo_fin rfl hM hF)
theorem un_at {S : sT} {u : Nat} (hu : S 30 9 = nI u) (h0 : ¬ S 30 9 = 0) : (14 : Int32) * (S 30 9 - 1) = nI (14 * (u - 1)) := by
  have hp : 1 ≤ u := by
    rcases Nat.eq_zero_or_pos u with e | e
    · exact absurd (by rw [hu, e]; rfl) h0
    · exact e
  rw [hu, show nI u - 1 = nI (u - 1) from pk_sub (a := u) (b := 1) hp, ← pk_mul]
  rfl
set_option maxHeartbeats 1000000 in
set_option maxRecDepth 100000 in
theorem tX12_undo {l : Launch} {E : aw_E} {d n m : Nat} {h0 : ah} {S0 : sT} {L0 : Nat → Int64} (hM : is_mo h0 m S0 L0) {u : Nat} (hu : S0 30 9 = nI u) (hu8 : u ≤ 8) : am l E mX12_undo (d + 1) 0 0 [.ref m] n h0 (mo_post n h0 m (mUndo S0 L0 u)) := by
  refine am_of (by decide +kernel) (Nat.le_of_ble_eq_true rfl) ?_
  have hF : ah_off h0 h0 m 21 := ah_off.rf
  refine aw_aload_n dX12_undo_0 rfl ?_
  refine aw_get dX12_undo_1 flX12_90 (mo_c0 hM) rfl ?_
  refine aw_if_ne (tgt := 12) dX12_undo_4 (by decide) (fun c4 => ?_) (fun c4 => ?_)
  · refine aw_aload_n dX12_undo_12 rfl ?_
    refine aw_dup dX12_undo_13 rfl ?_
    refine aw_get dX12_undo_14 flX12_90 (mo_c0 hM) rfl ?_
    refine aw_iconst (v := 1) dX12_undo_17 (by decide) ?_
    refine aw_isub dX12_undo_18 ?_
    refine aw_pf_mo9 dX12_undo_19 fpX12_90 hM (fun h hM ho => ?_)
    have hF := hF.trans ho
    refine aw_aload_n dX12_undo_22 rfl ?_
    refine aw_aload_n dX12_undo_23 rfl ?_
    refine aw_get dX12_undo_24 flX12_46 (mo_c0 hM) rfl ?_
    refine aw_bipush (v := 14) dX12_undo_27 (by decide) ?_
    refine aw_aload_n dX12_undo_29 rfl ?_
    refine aw_get dX12_undo_30 flX12_90 (mo_c0 hM) rfl ?_
    refine aw_imul dX12_undo_33 ?_
    refine aw_callV2e dX12_undo_34 cmX12_takes cvX12_193 (mo_c0 hM) (Nat.le_of_ble_eq_true rfl) (tX12_takes12 hM (a := 14 * (u - 1)) (un_at hu c4) (by omega)) (fun r n' h' hq => ?_)
    obtain ⟨rfl, rfl, hM, ho⟩ := hq
    have hF := hF.trans ho
    refine aw_aload_n dX12_undo_37 rfl ?_
    refine aw_get dX12_undo_38 flX12_81 (mo_c0 hM) rfl ?_
    exact aw_iret dX12_undo_41 rfl (mo_fin (if_neg c4) hM hF)
  · refine aw_aload_n dX12_undo_7 rfl ?_
    refine aw_callV0e dX12_undo_8 cmX12_no cvX12_209 (mo_c0 hM) (Nat.le_of_ble_eq_true rfl) (tX12_no hM) (fun r n' h' hq => ?_)
    obtain ⟨rfl, rfl, hM, ho⟩ := hq
    have hF := hF.trans ho
    exact aw_iret dX12_undo_11 rfl (mo_fin (if_pos c4) hM hF)
set_option maxHeartbeats 1000000 in
set_option maxRecDepth 100000 in
theorem tX12_of {l : Launch} {E : aw_E} {d n m : Nat} {h0 : ah} {S0 : sT} {L0 : Nat → Int64} (hM : is_mo h0 m S0 L0) {p w : Int32} {M : Nat} (hm : S0 30 0 = nI M) (hm6 : M ≤ 6) : am l E mX12_of (d + 4) 0 0 [.ref m, .int p, .int w] n h0 (mo_post n h0 m (mOf S0 L0 p w)) := by
  refine am_of (by decide +kernel) (Nat.le_of_ble_eq_true rfl) ?_
  have hF : ah_off h0 h0 m 21 := ah_off.rf
  refine aw_aload_n dX12_of_0 rfl ?_
  refine aw_iload_n dX12_of_1 rfl ?_
  refine aw_callV1p dX12_of_2 cmX12_isOne cvX12_108 (mo_c0 hM) (Nat.le_of_ble_eq_true rfl) (tX12_isOne hM) ?_
  refine aw_if_eq (tgt := 18) dX12_of_5 (by decide) (fun c5 => ?_) (fun c5 => ?_)
  · refine aw_aload_n dX12_of_18 rfl ?_
    refine aw_callV0e dX12_of_19 cmX12_bad cvX12_97 (mo_c0 hM) (Nat.le_of_ble_eq_true rfl) (tX12_bad hM) (fun r n' h' hq => ?_)
    obtain ⟨rfl, rfl, hM, ho⟩ := hq
    have hF := hF.trans ho
    exact aw_iret dX12_of_22 rfl (mo_fin (if_pos c5) hM hF)
  · refine aw_iload_n dX12_of_8 rfl ?_
    refine aw_iconst (v := 0) dX12_of_9 (by decide) ?_
    refine aw_bipush (v := 6) dX12_of_10 (by decide) ?_
    refine aw_callS3p dX12_of_12 cmX12_in csX12_93 (Nat.le_of_ble_eq_true rfl) tX12_in ?_
    refine aw_if_ne (tgt := 23) dX12_of_15 (by decide) (fun c15 => ?_) (fun c15 => ?_)
    · refine aw_iload_n dX12_of_23 rfl ?_
      by_cases g0 : w = 0
      · refine aw_tableIn (off := 40) (tgt := 64) dX12_of_24 (by rw [g0]; decide) (by rw [g0]; decide) (by rw [g0]; rfl) (by decide) ?_
        refine aw_aload_n dX12_of_64 rfl ?_
        refine aw_get dX12_of_65 flX12_13 (mo_c0 hM) rfl ?_
        refine aw_iload_n dX12_of_68 rfl ?_
        refine aw_iald dX12_of_69 (mo_c2 hM) (mIs_in c5 hm hm6) ?_
        exact aw_iret dX12_of_70 rfl (mo_fin (((if_neg c5).trans (if_neg c15)).trans (if_pos g0)) hM hF)
      · skip
        by_cases g1 : w = 1
        · refine aw_tableIn (off := 47) (tgt := 71) dX12_of_24 (by rw [g1]; decide) (by rw [g1]; decide) (by rw [g1]; rfl) (by decide) ?_
          refine aw_aload_n dX12_of_71 rfl ?_
          refine aw_get dX12_of_72 flX12_16 (mo_c0 hM) rfl ?_
          refine aw_iload_n dX12_of_75 rfl ?_
          refine aw_iald dX12_of_76 (mo_c3 hM) (mIs_in c5 hm hm6) ?_
          exact aw_iret dX12_of_77 rfl (mo_fin ((((if_neg c5).trans (if_neg c15)).trans (if_neg g0)).trans (if_pos g1)) hM hF)
        · skip
          by_cases g2 : w = 2
          · refine aw_tableIn (off := 54) (tgt := 78) dX12_of_24 (by rw [g2]; decide) (by rw [g2]; decide) (by rw [g2]; rfl) (by decide) ?_
            refine aw_aload_n dX12_of_78 rfl ?_
            refine aw_get dX12_of_79 flX12_19 (mo_c0 hM) rfl ?_
            refine aw_iload_n dX12_of_82 rfl ?_
            refine aw_iald dX12_of_83 (mo_c4 hM) (mIs_in c5 hm hm6) ?_
            exact aw_iret dX12_of_84 rfl (mo_fin (((((if_neg c5).trans (if_neg c15)).trans (if_neg g0)).trans (if_neg g1)).trans (if_pos g2)) hM hF)
          · skip
            by_cases g3 : w = 3
            · refine aw_tableIn (off := 61) (tgt := 85) dX12_of_24 (by rw [g3]; decide) (by rw [g3]; decide) (by rw [g3]; rfl) (by decide) ?_
              refine aw_aload_n dX12_of_85 rfl ?_
              refine aw_get dX12_of_86 flX12_22 (mo_c0 hM) rfl ?_
              refine aw_iload_n dX12_of_89 rfl ?_
              refine aw_iald dX12_of_90 (mo_c5 hM) (mIs_in c5 hm hm6) ?_
              exact aw_iret dX12_of_91 rfl (mo_fin ((((((if_neg c5).trans (if_neg c15)).trans (if_neg g0)).trans (if_neg g1)).trans (if_neg g2)).trans (if_pos g3)) hM hF)
            · skip
              by_cases g4 : w = 4
              · refine aw_tableIn (off := 68) (tgt := 92) dX12_of_24 (by rw [g4]; decide) (by rw [g4]; decide) (by rw [g4]; rfl) (by decide) ?_
                refine aw_aload_n dX12_of_92 rfl ?_
                refine aw_get dX12_of_93 flX12_84 (mo_c0 hM) rfl ?_
                refine aw_iload_n dX12_of_96 rfl ?_
                refine aw_ishr dX12_of_97 ?_
                refine aw_iconst (v := 1) dX12_of_98 (by decide) ?_
                refine aw_iand dX12_of_99 ?_
                exact aw_iret dX12_of_100 rfl (mo_fin (((((((if_neg c5).trans (if_neg c15)).trans (if_neg g0)).trans (if_neg g1)).trans (if_neg g2)).trans (if_neg g3)).trans (if_pos g4)) hM hF)
              · skip
                by_cases g5 : w = 5
                · refine aw_tableIn (off := 77) (tgt := 101) dX12_of_24 (by rw [g5]; decide) (by rw [g5]; decide) (by rw [g5]; rfl) (by decide) ?_
                  refine aw_aload_n dX12_of_101 rfl ?_
                  refine aw_get dX12_of_102 flX12_25 (mo_c0 hM) rfl ?_
                  refine aw_iload_n dX12_of_105 rfl ?_
                  refine aw_iald dX12_of_106 (mo_c6 hM) (mIs_in c5 hm hm6) ?_
                  exact aw_iret dX12_of_107 rfl (mo_fin ((((((((if_neg c5).trans (if_neg c15)).trans (if_neg g0)).trans (if_neg g1)).trans (if_neg g2)).trans (if_neg g3)).trans (if_neg g4)).trans (if_pos g5)) hM hF)
                · skip
                  refine aw_tableOut (tgt := 108) dX12_of_24 (tbl_out 5 (by decide) (fun j hj => by rcases (show j = 0 ∨ j = 1 ∨ j = 2 ∨ j = 3 ∨ j = 4 ∨ j = 5 by omega) with rfl | rfl | rfl | rfl | rfl | rfl <;> assumption)) (by decide) ?_
                  refine aw_aload_n dX12_of_108 rfl ?_
                  refine aw_iload_n dX12_of_109 rfl ?_
                  refine aw_callV1p dX12_of_110 cmX12_ownWeight cvX12_215 (mo_c0 hM) (Nat.le_of_ble_eq_true rfl) (tX12_ownWeight hM (mIs_in c5 hm hm6)) ?_
                  exact aw_iret dX12_of_113 rfl (mo_fin ((((((((if_neg c5).trans (if_neg c15)).trans (if_neg g0)).trans (if_neg g1)).trans (if_neg g2)).trans (if_neg g3)).trans (if_neg g4)).trans (if_neg g5)) hM hF)
    · refine aw_aload_n dX12_of_18 rfl ?_
      refine aw_callV0e dX12_of_19 cmX12_bad cvX12_97 (mo_c0 hM) (Nat.le_of_ble_eq_true rfl) (tX12_bad hM) (fun r n' h' hq => ?_)
      obtain ⟨rfl, rfl, hM, ho⟩ := hq
      have hF := hF.trans ho
      exact aw_iret dX12_of_22 rfl (mo_fin ((if_neg c5).trans (if_pos c15)) hM hF)
set_option maxHeartbeats 1000000 in
set_option maxRecDepth 100000 in
theorem tX12_weighs {l : Launch} {E : aw_E} {d n m : Nat} {h0 : ah} {S0 : sT} {L0 : Nat → Int64} (hM : is_mo h0 m S0 L0) {p m' : Int32} {M : Nat} (hm : S0 30 0 = nI M) (hm6 : M ≤ 6) : am l E mX12_weighs (d + 3) 0 0 [.ref m, .int p, .int m'] n h0 (mo_post n h0 m (mWeighs S0 L0 p m')) := by
  refine am_of (by decide +kernel) (Nat.le_of_ble_eq_true rfl) ?_
  have hF : ah_off h0 h0 m 21 := ah_off.rf
  refine aw_aload_n dX12_weighs_0 rfl ?_
  refine aw_iload_n dX12_weighs_1 rfl ?_
  refine aw_callV1p dX12_weighs_2 cmX12_isOne cvX12_108 (mo_c0 hM) (Nat.le_of_ble_eq_true rfl) (tX12_isOne hM) ?_
  refine aw_if_eq (tgt := 27) dX12_weighs_5 (by decide) (fun c5 => ?_) (fun c5 => ?_)
  · refine aw_aload_n dX12_weighs_27 rfl ?_
    refine aw_callV0e dX12_weighs_28 cmX12_bad cvX12_97 (mo_c0 hM) (Nat.le_of_ble_eq_true rfl) (tX12_bad hM) (fun r n' h' hq => ?_)
    obtain ⟨rfl, rfl, hM, ho⟩ := hq
    have hF := hF.trans ho
    exact aw_iret dX12_weighs_31 rfl (mo_fin (if_pos c5) hM hF)
  · refine aw_iload_n dX12_weighs_8 rfl ?_
    refine aw_iconst (v := 0) dX12_weighs_9 (by decide) ?_
    refine aw_bipush (v := 99) dX12_weighs_10 (by decide) ?_
    refine aw_callS3p dX12_weighs_12 cmX12_in csX12_93 (Nat.le_of_ble_eq_true rfl) tX12_in ?_
    refine aw_if_eq (tgt := 27) dX12_weighs_15 (by decide) (fun c15 => ?_) (fun c15 => ?_)
    · refine aw_aload_n dX12_weighs_27 rfl ?_
      refine aw_callV0e dX12_weighs_28 cmX12_bad cvX12_97 (mo_c0 hM) (Nat.le_of_ble_eq_true rfl) (tX12_bad hM) (fun r n' h' hq => ?_)
      obtain ⟨rfl, rfl, hM, ho⟩ := hq
      have hF := hF.trans ho
      exact aw_iret dX12_weighs_31 rfl (mo_fin ((if_neg c5).trans (if_pos c15)) hM hF)
    · refine aw_aload_n dX12_weighs_18 rfl ?_
      refine aw_iload_n dX12_weighs_19 rfl ?_
      refine aw_iload_n dX12_weighs_20 rfl ?_
      refine aw_callV2p dX12_weighs_21 cmX12_weight cvX12_186 (mo_c0 hM) (Nat.le_of_ble_eq_true rfl) (tX12_weight hM (mIs_in c5 hm hm6)) ?_
      refine aw_goto (tgt := 31) dX12_weighs_24 (by decide) ?_
      exact aw_iret dX12_weighs_31 rfl (mo_fin ((if_neg c5).trans (if_neg c15)) hM hF)
set_option maxHeartbeats 1000000 in
set_option maxRecDepth 100000 in
theorem tX12_all {l : Launch} {E : aw_E} {d n m : Nat} {h : ah} {S : sT} {L : Nat → Int64} (hM : is_mo h m S L) {M : Nat} (hm : S 30 0 = nI M) (hm6 : M ≤ 6) : am l E mX12_all (d + 4) 0 0 [.ref m] n h (aw_eq n h (some (.int (mAllW S)))) := by
  refine am_of (by decide +kernel) (Nat.le_of_ble_eq_true rfl) ?_
  refine aw_iconst (v := 0) dX12_all_0 (by decide) ?_
  refine aw_istore_n dX12_all_1 (by decide) ?_
  refine aw_iconst (v := 0) dX12_all_2 (by decide) ?_
  refine aw_istore_n dX12_all_3 (by decide) ?_
  have hN := clamp_lt (S 30 0)
  have hN6 : (S 30 0).toNatClampNeg ≤ 6 := by rw [hm, nI_clamp (by omega)]; exact hm6
  have key : ∀ (k j : Nat) (s : Int32), j + k = (S 30 0).toNatClampNeg → mAllW S = lpSum (fun j => mOwn S (nI j)) k j s → aw l E mX12_all (aw_Z E (aw_eq n h (some (.int (mAllW S))))) (d + 4) 0 0 4 [(0, .ref m), (1, .int s), (2, .int (nI j))] [] n h := by
    intro k
    induction k with
    | zero =>
      intro j s hj  heq
      refine aw_iload_n dX12_all_4 rfl ?_
      refine aw_aload_n dX12_all_5 rfl ?_
      refine aw_get dX12_all_6 flX12_77 (mo_c0 hM) rfl ?_
      refine aw_icmp_ge (tgt := 26) dX12_all_9 (by decide) (fun c9 => ?_) (fun c9 => ?_)
      · refine aw_iload_n dX12_all_26 rfl ?_
        exact aw_iret dX12_all_27 rfl (⟨congrArg (fun z => some (Value.int z)) heq, rfl, rfl⟩)
      · exact absurd ((i_le_nI (x := S 30 0) (j := j) (by omega)).mpr (by omega)) c9
    | succ k ih =>
      intro j s hj  heq
      refine aw_iload_n dX12_all_4 rfl ?_
      refine aw_aload_n dX12_all_5 rfl ?_
      refine aw_get dX12_all_6 flX12_77 (mo_c0 hM) rfl ?_
      refine aw_icmp_ge (tgt := 26) dX12_all_9 (by decide) (fun c9 => ?_) (fun c9 => ?_)
      · exact absurd ((i_le_nI (x := S 30 0) (j := j) (by omega)).mp c9) (by omega)
      · refine aw_iload_n dX12_all_12 rfl ?_
        refine aw_aload_n dX12_all_13 rfl ?_
        refine aw_iload_n dX12_all_14 rfl ?_
        refine aw_callV1p dX12_all_15 cmX12_ownWeight cvX12_215 (mo_c0 hM) (Nat.le_of_ble_eq_true rfl) (tX12_ownWeight hM (vp_in_nI (by omega) (by decide))) ?_
        refine aw_iadd dX12_all_18 ?_
        refine aw_istore_n dX12_all_19 (by decide) ?_
        refine aw_inc (w := 1) dX12_all_20 rfl (by decide) (by decide) ?_
        refine aw_goto (tgt := 4) dX12_all_23 (by decide) ?_
        exact aw_loc [0, 1, 2] (ls2 := [(0, .ref m), (1, .int _), (2, .int (nI (j + 1)))]) (by first | (rw [nI_succ]; rfl) | rfl) (ih (j + 1) _ (by omega)  heq)
  exact aw_loc [0, 1, 2] (ls2 := [(0, .ref m), (1, .int 0), (2, .int (nI 0))]) rfl (key ((S 30 0).toNatClampNeg) 0 0 (by first | rfl | omega)  rfl)
set_option maxHeartbeats 1000000 in
set_option maxRecDepth 100000 in
theorem tX12_allPieces {l : Launch} {E : aw_E} {d n m : Nat} {h : ah} {S : sT} {L : Nat → Int64} (hM : is_mo h m S L) {M : Nat} (hm : S 30 0 = nI M) (hm6 : M ≤ 6) : am l E mX12_allPieces d 0 0 [.ref m] n h (aw_eq n h (some (.int (mAllP S)))) := by
  refine am_of (by decide +kernel) (Nat.le_of_ble_eq_true rfl) ?_
  refine aw_iconst (v := 0) dX12_allPieces_0 (by decide) ?_
  refine aw_istore_n dX12_allPieces_1 (by decide) ?_
  refine aw_iconst (v := 0) dX12_allPieces_2 (by decide) ?_
  refine aw_istore_n dX12_allPieces_3 (by decide) ?_
  have hN := clamp_lt (S 30 0)
  have hN6 : (S 30 0).toNatClampNeg ≤ 6 := by rw [hm, nI_clamp (by omega)]; exact hm6
  have key : ∀ (k j : Nat) (s : Int32), j + k = (S 30 0).toNatClampNeg → mAllP S = lpSum (fun j => S 3 j) k j s → aw l E mX12_allPieces (aw_Z E (aw_eq n h (some (.int (mAllP S))))) d 0 0 4 [(0, .ref m), (1, .int s), (2, .int (nI j))] [] n h := by
    intro k
    induction k with
    | zero =>
      intro j s hj  heq
      refine aw_iload_n dX12_allPieces_4 rfl ?_
      refine aw_aload_n dX12_allPieces_5 rfl ?_
      refine aw_get dX12_allPieces_6 flX12_77 (mo_c0 hM) rfl ?_
      refine aw_icmp_ge (tgt := 27) dX12_allPieces_9 (by decide) (fun c9 => ?_) (fun c9 => ?_)
      · refine aw_iload_n dX12_allPieces_27 rfl ?_
        exact aw_iret dX12_allPieces_28 rfl (⟨congrArg (fun z => some (Value.int z)) heq, rfl, rfl⟩)
      · exact absurd ((i_le_nI (x := S 30 0) (j := j) (by omega)).mpr (by omega)) c9
    | succ k ih =>
      intro j s hj  heq
      refine aw_iload_n dX12_allPieces_4 rfl ?_
      refine aw_aload_n dX12_allPieces_5 rfl ?_
      refine aw_get dX12_allPieces_6 flX12_77 (mo_c0 hM) rfl ?_
      refine aw_icmp_ge (tgt := 27) dX12_allPieces_9 (by decide) (fun c9 => ?_) (fun c9 => ?_)
      · exact absurd ((i_le_nI (x := S 30 0) (j := j) (by omega)).mp c9) (by omega)
      · refine aw_iload_n dX12_allPieces_12 rfl ?_
        refine aw_aload_n dX12_allPieces_13 rfl ?_
        refine aw_get dX12_allPieces_14 flX12_19 (mo_c0 hM) rfl ?_
        refine aw_iload_n dX12_allPieces_17 rfl ?_
        refine aw_ialdN dX12_allPieces_18 (mo_c4 hM) rfl (by omega) (by decide) ?_
        refine aw_iadd dX12_allPieces_19 ?_
        refine aw_istore_n dX12_allPieces_20 (by decide) ?_
        refine aw_inc (w := 1) dX12_allPieces_21 rfl (by decide) (by decide) ?_
        refine aw_goto (tgt := 4) dX12_allPieces_24 (by decide) ?_
        exact aw_loc [0, 1, 2] (ls2 := [(0, .ref m), (1, .int _), (2, .int (nI (j + 1)))]) (by first | (rw [nI_succ]; rfl) | rfl) (ih (j + 1) _ (by omega)  heq)
  exact aw_loc [0, 1, 2] (ls2 := [(0, .ref m), (1, .int 0), (2, .int (nI 0))]) rfl (key ((S 30 0).toNatClampNeg) 0 0 (by first | rfl | omega)  rfl)
set_option maxHeartbeats 1000000 in
set_option maxRecDepth 100000 in
theorem tX12_bits {l : Launch} {E : aw_E} {d n : Nat} {h : ah} {b : Int32} : am l E mX12_bits d 0 0 [.int b] n h (aw_eq n h (some (.int (mBits b)))) := by
  refine am_of (by decide +kernel) (Nat.le_of_ble_eq_true rfl) ?_
  refine aw_iconst (v := 0) dX12_bits_0 (by decide) ?_
  refine aw_istore_n dX12_bits_1 (by decide) ?_
  refine aw_iconst (v := 0) dX12_bits_2 (by decide) ?_
  refine aw_istore_n dX12_bits_3 (by decide) ?_
  have key : ∀ (k j : Nat) (s : Int32), j + k = 6 → mBits b = lpSum (fun j => iBit b j) k j s → aw l E mX12_bits (aw_Z E (aw_eq n h (some (.int (mBits b))))) d 0 0 4 [(0, .int b), (1, .int s), (2, .int (nI j))] [] n h := by
    intro k
    induction k with
    | zero =>
      intro j s hj  heq
      refine aw_iload_n dX12_bits_4 rfl ?_
      refine aw_bipush (v := 6) dX12_bits_5 (by decide) ?_
      refine aw_icmp_ge (tgt := 24) dX12_bits_7 (by decide) (fun c7 => ?_) (fun c7 => ?_)
      · refine aw_iload_n dX12_bits_24 rfl ?_
        exact aw_iret dX12_bits_25 rfl (⟨congrArg (fun z => some (Value.int z)) heq, rfl, rfl⟩)
      · exact absurd ((nI_leI (a := 6) (b := j) (by omega) (by omega)).mpr (by omega)) c7
    | succ k ih =>
      intro j s hj  heq
      refine aw_iload_n dX12_bits_4 rfl ?_
      refine aw_bipush (v := 6) dX12_bits_5 (by decide) ?_
      refine aw_icmp_ge (tgt := 24) dX12_bits_7 (by decide) (fun c7 => ?_) (fun c7 => ?_)
      · exact absurd ((nI_leI (a := 6) (b := j) (by omega) (by omega)).mp c7) (by omega)
      · refine aw_iload_n dX12_bits_10 rfl ?_
        refine aw_iload_n dX12_bits_11 rfl ?_
        refine aw_iload_n dX12_bits_12 rfl ?_
        refine aw_ishr dX12_bits_13 ?_
        refine aw_iconst (v := 1) dX12_bits_14 (by decide) ?_
        refine aw_iand dX12_bits_15 ?_
        refine aw_iadd dX12_bits_16 ?_
        refine aw_istore_n dX12_bits_17 (by decide) ?_
        refine aw_inc (w := 1) dX12_bits_18 rfl (by decide) (by decide) ?_
        refine aw_goto (tgt := 4) dX12_bits_21 (by decide) ?_
        exact aw_loc [0, 1, 2] (ls2 := [(0, .int b), (1, .int _), (2, .int (nI (j + 1)))]) (by first | (rw [nI_succ]; rfl) | rfl) (ih (j + 1) _ (by omega)  heq)
  exact aw_loc [0, 1, 2] (ls2 := [(0, .int b), (1, .int 0), (2, .int (nI 0))]) rfl (key (6) 0 0 (by first | rfl | omega)  rfl)
set_option maxHeartbeats 1000000 in
set_option maxRecDepth 100000 in
theorem tX12_countOf {l : Launch} {E : aw_E} {d n m : Nat} {h : ah} {S : sT} {L : Nat → Int64} (hM : is_mo h m S L) {w : Int32} {M : Nat} (hm : S 30 0 = nI M) (hm6 : M ≤ 6) : am l E mX12_countOf (d + 1) 0 0 [.ref m, .int w] n h (aw_eq n h (some (.int (mCnt S w)))) := by
  refine am_of (by decide +kernel) (Nat.le_of_ble_eq_true rfl) ?_
  refine aw_iload_n dX12_countOf_0 rfl ?_
  by_cases g0 : w = 0
  · refine aw_tableIn (off := 39) (tgt := 40) dX12_countOf_1 (by rw [g0]; decide) (by rw [g0]; decide) (by rw [g0]; rfl) (by decide) ?_
    refine aw_aload_n dX12_countOf_40 rfl ?_
    refine aw_get dX12_countOf_41 flX12_77 (mo_c0 hM) rfl ?_
    exact aw_iret dX12_countOf_44 rfl (⟨congrArg (fun z => some (Value.int z)) (if_pos g0), rfl, rfl⟩)
  · skip
    by_cases g1 : w = 1
    · refine aw_tableIn (off := 44) (tgt := 45) dX12_countOf_1 (by rw [g1]; decide) (by rw [g1]; decide) (by rw [g1]; rfl) (by decide) ?_
      refine aw_aload_n dX12_countOf_45 rfl ?_
      refine aw_get dX12_countOf_46 flX12_81 (mo_c0 hM) rfl ?_
      exact aw_iret dX12_countOf_49 rfl (⟨congrArg (fun z => some (Value.int z)) ((if_neg g0).trans (if_pos g1)), rfl, rfl⟩)
    · skip
      by_cases g2 : w = 2
      · refine aw_tableIn (off := 49) (tgt := 50) dX12_countOf_1 (by rw [g2]; decide) (by rw [g2]; decide) (by rw [g2]; rfl) (by decide) ?_
        refine aw_aload_n dX12_countOf_50 rfl ?_
        refine aw_callV0p dX12_countOf_51 cmX12_allPieces cvX12_275 (mo_c0 hM) (Nat.le_of_ble_eq_true rfl) (tX12_allPieces hM hm hm6) ?_
        exact aw_iret dX12_countOf_54 rfl (⟨congrArg (fun z => some (Value.int z)) (((if_neg g0).trans (if_neg g1)).trans (if_pos g2)), rfl, rfl⟩)
      · skip
        by_cases g3 : w = 3
        · refine aw_tableIn (off := 54) (tgt := 55) dX12_countOf_1 (by rw [g3]; decide) (by rw [g3]; decide) (by rw [g3]; rfl) (by decide) ?_
          refine aw_aload_n dX12_countOf_55 rfl ?_
          refine aw_get dX12_countOf_56 flX12_84 (mo_c0 hM) rfl ?_
          refine aw_callS1p dX12_countOf_59 cmX12_bits csX12_278 (Nat.le_of_ble_eq_true rfl) tX12_bits ?_
          exact aw_iret dX12_countOf_62 rfl (⟨congrArg (fun z => some (Value.int z)) ((((if_neg g0).trans (if_neg g1)).trans (if_neg g2)).trans (if_pos g3)), rfl, rfl⟩)
        · skip
          by_cases g4 : w = 4
          · refine aw_tableIn (off := 62) (tgt := 63) dX12_countOf_1 (by rw [g4]; decide) (by rw [g4]; decide) (by rw [g4]; rfl) (by decide) ?_
            refine aw_aload_n dX12_countOf_63 rfl ?_
            refine aw_get dX12_countOf_64 flX12_87 (mo_c0 hM) rfl ?_
            exact aw_iret dX12_countOf_67 rfl (⟨congrArg (fun z => some (Value.int z)) (((((if_neg g0).trans (if_neg g1)).trans (if_neg g2)).trans (if_neg g3)).trans (if_pos g4)), rfl, rfl⟩)
          · skip
            by_cases g5 : w = 5
            · refine aw_tableIn (off := 67) (tgt := 68) dX12_countOf_1 (by rw [g5]; decide) (by rw [g5]; decide) (by rw [g5]; rfl) (by decide) ?_
              refine aw_aload_n dX12_countOf_68 rfl ?_
              refine aw_get dX12_countOf_69 flX12_90 (mo_c0 hM) rfl ?_
              exact aw_iret dX12_countOf_72 rfl (⟨congrArg (fun z => some (Value.int z)) ((((((if_neg g0).trans (if_neg g1)).trans (if_neg g2)).trans (if_neg g3)).trans (if_neg g4)).trans (if_pos g5)), rfl, rfl⟩)
            · skip
              refine aw_tableOut (tgt := 73) dX12_countOf_1 (tbl_out 5 (by decide) (fun j hj => by rcases (show j = 0 ∨ j = 1 ∨ j = 2 ∨ j = 3 ∨ j = 4 ∨ j = 5 by omega) with rfl | rfl | rfl | rfl | rfl | rfl <;> assumption)) (by decide) ?_
              refine aw_aload_n dX12_countOf_73 rfl ?_
              refine aw_get dX12_countOf_74 flX12_112 (mo_c0 hM) rfl ?_
              exact aw_iret dX12_countOf_77 rfl (⟨congrArg (fun z => some (Value.int z)) ((((((if_neg g0).trans (if_neg g1)).trans (if_neg g2)).trans (if_neg g3)).trans (if_neg g4)).trans (if_neg g5)), rfl, rfl⟩)
set_option maxHeartbeats 1000000 in
set_option maxRecDepth 100000 in
theorem tX12_count {l : Launch} {E : aw_E} {d n m : Nat} {h0 : ah} {S0 : sT} {L0 : Nat → Int64} (hM : is_mo h0 m S0 L0) {w : Int32} {M : Nat} (hm : S0 30 0 = nI M) (hm6 : M ≤ 6) : am l E mX12_count (d + 2) 0 0 [.ref m, .int w] n h0 (mo_post n h0 m (mCount S0 L0 w)) := by
  refine am_of (by decide +kernel) (Nat.le_of_ble_eq_true rfl) ?_
  have hF : ah_off h0 h0 m 21 := ah_off.rf
  refine aw_iload_n dX12_count_0 rfl ?_
  refine aw_iconst (v := 0) dX12_count_1 (by decide) ?_
  refine aw_bipush (v := 6) dX12_count_2 (by decide) ?_
  refine aw_callS3p dX12_count_4 cmX12_in csX12_93 (Nat.le_of_ble_eq_true rfl) tX12_in ?_
  refine aw_if_eq (tgt := 18) dX12_count_7 (by decide) (fun c7 => ?_) (fun c7 => ?_)
  · refine aw_aload_n dX12_count_18 rfl ?_
    refine aw_callV0e dX12_count_19 cmX12_bad cvX12_97 (mo_c0 hM) (Nat.le_of_ble_eq_true rfl) (tX12_bad hM) (fun r n' h' hq => ?_)
    obtain ⟨rfl, rfl, hM, ho⟩ := hq
    have hF := hF.trans ho
    exact aw_iret dX12_count_22 rfl (mo_fin (if_pos c7) hM hF)
  · refine aw_aload_n dX12_count_10 rfl ?_
    refine aw_iload_n dX12_count_11 rfl ?_
    refine aw_callV1p dX12_count_12 cmX12_countOf cvX12_281 (mo_c0 hM) (Nat.le_of_ble_eq_true rfl) (tX12_countOf hM hm hm6) ?_
    refine aw_goto (tgt := 22) dX12_count_15 (by decide) ?_
    exact aw_iret dX12_count_22 rfl (mo_fin (if_neg c7) hM hF)
set_option maxHeartbeats 1000000 in
set_option maxRecDepth 100000 in
theorem tX12_when {l : Launch} {E : aw_E} {d n m : Nat} {h0 : ah} {S0 : sT} {L0 : Nat → Int64} (hM : is_mo h0 m S0 L0) {p w : Int32} {M : Nat} (hm : S0 30 0 = nI M) (hm6 : M ≤ 6) : am l E mX12_when (d + 2) 0 0 [.ref m, .int p, .int w] n h0 (mo_post n h0 m (mWhenF S0 L0 p w)) := by
  refine am_of (by decide +kernel) (Nat.le_of_ble_eq_true rfl) ?_
  have hF : ah_off h0 h0 m 21 := ah_off.rf
  refine aw_aload_n dX12_when_0 rfl ?_
  refine aw_iload_n dX12_when_1 rfl ?_
  refine aw_callV1p dX12_when_2 cmX12_isOne cvX12_108 (mo_c0 hM) (Nat.le_of_ble_eq_true rfl) (tX12_isOne hM) ?_
  refine aw_if_eq (tgt := 19) dX12_when_5 (by decide) (fun c5 => ?_) (fun c5 => ?_)
  · refine aw_aload_n dX12_when_19 rfl ?_
    refine aw_callV0e dX12_when_20 cmX12_bad cvX12_97 (mo_c0 hM) (Nat.le_of_ble_eq_true rfl) (tX12_bad hM) (fun r n' h' hq => ?_)
    obtain ⟨rfl, rfl, hM, ho⟩ := hq
    have hF := hF.trans ho
    exact aw_iret dX12_when_23 rfl (mo_fin (if_pos c5) hM hF)
  · refine aw_iload_n dX12_when_8 rfl ?_
    refine aw_iconst (v := 0) dX12_when_9 (by decide) ?_
    refine aw_sipush (v := 999) dX12_when_10 (by decide) ?_
    refine aw_callS3p dX12_when_13 cmX12_in csX12_93 (Nat.le_of_ble_eq_true rfl) tX12_in ?_
    refine aw_if_ne (tgt := 24) dX12_when_16 (by decide) (fun c16 => ?_) (fun c16 => ?_)
    · refine aw_aload_n dX12_when_24 rfl ?_
      refine aw_get dX12_when_25 flX12_16 (mo_c0 hM) rfl ?_
      refine aw_iload_n dX12_when_28 rfl ?_
      refine aw_iald dX12_when_29 (mo_c3 hM) (mIs_in c5 hm hm6) ?_
      refine aw_istore_n dX12_when_30 (by decide) ?_
      refine aw_iconst (v := -1) dX12_when_31 (by decide) ?_
      refine aw_istore dX12_when_32 (by decide) ?_
      refine aw_iconst (v := 0) dX12_when_34 (by decide) ?_
      refine aw_istore dX12_when_35 (by decide) ?_
      have key : ∀ (k j : Nat) (h' f : Int32), j + k = 61 → mWhen S0 p w = mWhL S0 p w k j h' f → aw l E mX12_when (aw_Z E (mo_post n h0 m (mWhenF S0 L0 p w))) (d + 2) 0 0 37 [(0, .ref m), (1, .int p), (2, .int w), (3, .int h'), (4, .int f), (5, .int (nI j))] [] n h0 := by
        intro k
        induction k with
        | zero =>
          intro j h' f hj  heq
          refine aw_iload dX12_when_37 rfl ?_
          refine aw_bipush (v := 60) dX12_when_39 (by decide) ?_
          refine aw_icmp_gt (tgt := 121) dX12_when_41 (by decide) (fun c41 => ?_) (fun c41 => ?_)
          · refine aw_iload dX12_when_121 rfl ?_
            exact aw_iret dX12_when_123 rfl (mo_fin ((if_neg c5).trans ((if_neg c16).trans (congrArg (fun z : Int32 => (z, S0, L0)) heq))) hM hF)
          · exact absurd ((nI_ltI (a := 60) (b := j) (by omega) (by omega)).mpr (by omega)) c41
        | succ k ih =>
          intro j h' f hj  heq
          refine aw_iload dX12_when_37 rfl ?_
          refine aw_bipush (v := 60) dX12_when_39 (by decide) ?_
          refine aw_icmp_gt (tgt := 121) dX12_when_41 (by decide) (fun c41 => ?_) (fun c41 => ?_)
          · exact absurd ((nI_ltI (a := 60) (b := j) (by omega) (by omega)).mp c41) (by omega)
          · refine aw_iload dX12_when_44 rfl ?_
            refine aw_iconst (v := -1) dX12_when_46 (by decide) ?_
            refine aw_icmp_ne (tgt := 121) dX12_when_47 (by decide) (fun c47 => ?_) (fun c47 => ?_)
            · refine aw_iload dX12_when_121 rfl ?_
              exact aw_iret dX12_when_123 rfl (mo_fin ((if_neg c5).trans ((if_neg c16).trans (congrArg (fun z : Int32 => (z, S0, L0)) (heq.trans (if_neg c47))))) hM hF)
            · refine aw_aload_n dX12_when_50 rfl ?_
              refine aw_get dX12_when_51 flX12_13 (mo_c0 hM) rfl ?_
              refine aw_iload_n dX12_when_54 rfl ?_
              refine aw_iald dX12_when_55 (mo_c2 hM) (mIs_in c5 hm hm6) ?_
              refine aw_aload_n dX12_when_56 rfl ?_
              refine aw_get dX12_when_57 flX12_19 (mo_c0 hM) rfl ?_
              refine aw_iload_n dX12_when_60 rfl ?_
              refine aw_iald dX12_when_61 (mo_c4 hM) (mIs_in c5 hm hm6) ?_
              refine aw_iload_n dX12_when_62 rfl ?_
              refine aw_aload_n dX12_when_63 rfl ?_
              refine aw_get dX12_when_64 flX12_81 (mo_c0 hM) rfl ?_
              refine aw_iload dX12_when_67 rfl ?_
              refine aw_iadd dX12_when_69 ?_
              refine aw_callS4p dX12_when_70 cmX12_weightBy csX12_183 (Nat.le_of_ble_eq_true rfl) tX12_weightBy ?_
              refine aw_iload_n dX12_when_73 rfl ?_
              refine aw_icmp_lt (tgt := 82) dX12_when_74 (by decide) (fun c74 => ?_) (fun c74 => ?_)
              · refine aw_iload dX12_when_82 rfl ?_
                refine aw_istore dX12_when_84 (by decide) ?_
                refine aw_iload dX12_when_86 rfl ?_
                refine aw_if_ne (tgt := 106) dX12_when_88 (by decide) (fun c88 => ?_) (fun c88 => ?_)
                · refine aw_bipush (v := 12) dX12_when_106 (by decide) ?_
                  refine aw_iload_n dX12_when_108 rfl ?_
                  refine aw_iconst (v := 1) dX12_when_109 (by decide) ?_
                  refine aw_iadd dX12_when_110 ?_
                  refine aw_callS2p dX12_when_111 cmX12_lesser csX12_180 (Nat.le_of_ble_eq_true rfl) tX12_lesser ?_
                  refine aw_istore_n dX12_when_114 (by decide) ?_
                  refine aw_inc (w := 1) dX12_when_115 rfl (by decide) (by decide) ?_
                  refine aw_goto (tgt := 37) dX12_when_118 (by decide) ?_
                  exact aw_loc [0, 1, 2, 3, 4, 5] (ls2 := [(0, .ref m), (1, .int p), (2, .int w), (3, .int _), (4, .int f), (5, .int (nI (j + 1)))]) (by first | (rw [nI_succ]; rfl) | rfl) (ih (j + 1) _ f (by omega)  (heq.trans (((if_pos c47).trans (if_pos c74)).trans (if_neg c88))))
                · refine aw_aload_n dX12_when_91 rfl ?_
                  refine aw_get dX12_when_92 flX12_84 (mo_c0 hM) rfl ?_
                  refine aw_iload_n dX12_when_95 rfl ?_
                  refine aw_callS2p dX12_when_96 cmX12_has csX12_199 (Nat.le_of_ble_eq_true rfl) tX12_has ?_
                  refine aw_if_eq (tgt := 106) dX12_when_99 (by decide) (fun c99 => ?_) (fun c99 => ?_)
                  · refine aw_bipush (v := 12) dX12_when_106 (by decide) ?_
                    refine aw_iload_n dX12_when_108 rfl ?_
                    refine aw_iconst (v := 1) dX12_when_109 (by decide) ?_
                    refine aw_iadd dX12_when_110 ?_
                    refine aw_callS2p dX12_when_111 cmX12_lesser csX12_180 (Nat.le_of_ble_eq_true rfl) tX12_lesser ?_
                    refine aw_istore_n dX12_when_114 (by decide) ?_
                    refine aw_inc (w := 1) dX12_when_115 rfl (by decide) (by decide) ?_
                    refine aw_goto (tgt := 37) dX12_when_118 (by decide) ?_
                    exact aw_loc [0, 1, 2, 3, 4, 5] (ls2 := [(0, .ref m), (1, .int p), (2, .int w), (3, .int _), (4, .int f), (5, .int (nI (j + 1)))]) (by first | (rw [nI_succ]; rfl) | rfl) (ih (j + 1) _ f (by omega)  (heq.trans ((((if_pos c47).trans (if_pos c74)).trans (if_pos c88)).trans (if_pos c99))))
                  · refine aw_iload_n dX12_when_102 rfl ?_
                    refine aw_goto (tgt := 114) dX12_when_103 (by decide) ?_
                    refine aw_istore_n dX12_when_114 (by decide) ?_
                    refine aw_inc (w := 1) dX12_when_115 rfl (by decide) (by decide) ?_
                    refine aw_goto (tgt := 37) dX12_when_118 (by decide) ?_
                    exact aw_loc [0, 1, 2, 3, 4, 5] (ls2 := [(0, .ref m), (1, .int p), (2, .int w), (3, .int _), (4, .int f), (5, .int (nI (j + 1)))]) (by first | (rw [nI_succ]; rfl) | rfl) (ih (j + 1) _ f (by omega)  (heq.trans ((((if_pos c47).trans (if_pos c74)).trans (if_pos c88)).trans (if_neg c99))))
              · refine aw_iload dX12_when_77 rfl ?_
                refine aw_goto (tgt := 84) dX12_when_79 (by decide) ?_
                refine aw_istore dX12_when_84 (by decide) ?_
                refine aw_iload dX12_when_86 rfl ?_
                refine aw_if_ne (tgt := 106) dX12_when_88 (by decide) (fun c88 => ?_) (fun c88 => ?_)
                · refine aw_bipush (v := 12) dX12_when_106 (by decide) ?_
                  refine aw_iload_n dX12_when_108 rfl ?_
                  refine aw_iconst (v := 1) dX12_when_109 (by decide) ?_
                  refine aw_iadd dX12_when_110 ?_
                  refine aw_callS2p dX12_when_111 cmX12_lesser csX12_180 (Nat.le_of_ble_eq_true rfl) tX12_lesser ?_
                  refine aw_istore_n dX12_when_114 (by decide) ?_
                  refine aw_inc (w := 1) dX12_when_115 rfl (by decide) (by decide) ?_
                  refine aw_goto (tgt := 37) dX12_when_118 (by decide) ?_
                  exact aw_loc [0, 1, 2, 3, 4, 5] (ls2 := [(0, .ref m), (1, .int p), (2, .int w), (3, .int _), (4, .int (nI j)), (5, .int (nI (j + 1)))]) (by first | (rw [nI_succ]; rfl) | rfl) (ih (j + 1) _ (nI j) (by omega)  (heq.trans (((if_pos c47).trans (if_neg c74)).trans (if_neg c88))))
                · refine aw_aload_n dX12_when_91 rfl ?_
                  refine aw_get dX12_when_92 flX12_84 (mo_c0 hM) rfl ?_
                  refine aw_iload_n dX12_when_95 rfl ?_
                  refine aw_callS2p dX12_when_96 cmX12_has csX12_199 (Nat.le_of_ble_eq_true rfl) tX12_has ?_
                  refine aw_if_eq (tgt := 106) dX12_when_99 (by decide) (fun c99 => ?_) (fun c99 => ?_)
                  · refine aw_bipush (v := 12) dX12_when_106 (by decide) ?_
                    refine aw_iload_n dX12_when_108 rfl ?_
                    refine aw_iconst (v := 1) dX12_when_109 (by decide) ?_
                    refine aw_iadd dX12_when_110 ?_
                    refine aw_callS2p dX12_when_111 cmX12_lesser csX12_180 (Nat.le_of_ble_eq_true rfl) tX12_lesser ?_
                    refine aw_istore_n dX12_when_114 (by decide) ?_
                    refine aw_inc (w := 1) dX12_when_115 rfl (by decide) (by decide) ?_
                    refine aw_goto (tgt := 37) dX12_when_118 (by decide) ?_
                    exact aw_loc [0, 1, 2, 3, 4, 5] (ls2 := [(0, .ref m), (1, .int p), (2, .int w), (3, .int _), (4, .int (nI j)), (5, .int (nI (j + 1)))]) (by first | (rw [nI_succ]; rfl) | rfl) (ih (j + 1) _ (nI j) (by omega)  (heq.trans ((((if_pos c47).trans (if_neg c74)).trans (if_pos c88)).trans (if_pos c99))))
                  · refine aw_iload_n dX12_when_102 rfl ?_
                    refine aw_goto (tgt := 114) dX12_when_103 (by decide) ?_
                    refine aw_istore_n dX12_when_114 (by decide) ?_
                    refine aw_inc (w := 1) dX12_when_115 rfl (by decide) (by decide) ?_
                    refine aw_goto (tgt := 37) dX12_when_118 (by decide) ?_
                    exact aw_loc [0, 1, 2, 3, 4, 5] (ls2 := [(0, .ref m), (1, .int p), (2, .int w), (3, .int _), (4, .int (nI j)), (5, .int (nI (j + 1)))]) (by first | (rw [nI_succ]; rfl) | rfl) (ih (j + 1) _ (nI j) (by omega)  (heq.trans ((((if_pos c47).trans (if_neg c74)).trans (if_pos c88)).trans (if_neg c99))))
      exact aw_loc [0, 1, 2, 3, 4, 5] (ls2 := [(0, .ref m), (1, .int p), (2, .int w), (3, .int _), (4, .int (-1)), (5, .int (nI 0))]) rfl (key (61) 0 _ (-1) (by first | rfl | omega)  rfl)
    · refine aw_aload_n dX12_when_19 rfl ?_
      refine aw_callV0e dX12_when_20 cmX12_bad cvX12_97 (mo_c0 hM) (Nat.le_of_ble_eq_true rfl) (tX12_bad hM) (fun r n' h' hq => ?_)
      obtain ⟨rfl, rfl, hM, ho⟩ := hq
      have hF := hF.trans ho
      exact aw_iret dX12_when_23 rfl (mo_fin ((if_neg c5).trans (if_pos c16)) hM hF)
set_option maxHeartbeats 1000000 in
set_option maxRecDepth 100000 in
theorem tX12_debt {l : Launch} {E : aw_E} {d n m : Nat} {h0 : ah} {S0 : sT} {L0 : Nat → Int64} (hM : is_mo h0 m S0 L0) {p w : Int32} {M : Nat} (hm : S0 30 0 = nI M) (hm6 : M ≤ 6) : am l E mX12_debt (d + 3) 0 0 [.ref m, .int p, .int w] n h0 (mo_post n h0 m (mDebt S0 L0 p w)) := by
  refine am_of (by decide +kernel) (Nat.le_of_ble_eq_true rfl) ?_
  have hF : ah_off h0 h0 m 21 := ah_off.rf
  refine aw_aload_n dX12_debt_0 rfl ?_
  refine aw_iload_n dX12_debt_1 rfl ?_
  refine aw_callV1p dX12_debt_2 cmX12_isOne cvX12_108 (mo_c0 hM) (Nat.le_of_ble_eq_true rfl) (tX12_isOne hM) ?_
  refine aw_if_eq (tgt := 19) dX12_debt_5 (by decide) (fun c5 => ?_) (fun c5 => ?_)
  · refine aw_aload_n dX12_debt_19 rfl ?_
    refine aw_callV0e dX12_debt_20 cmX12_bad cvX12_97 (mo_c0 hM) (Nat.le_of_ble_eq_true rfl) (tX12_bad hM) (fun r n' h' hq => ?_)
    obtain ⟨rfl, rfl, hM, ho⟩ := hq
    have hF := hF.trans ho
    exact aw_iret dX12_debt_23 rfl (mo_fin (if_pos c5) hM hF)
  · refine aw_iload_n dX12_debt_8 rfl ?_
    refine aw_iconst (v := 0) dX12_debt_9 (by decide) ?_
    refine aw_sipush (v := 999) dX12_debt_10 (by decide) ?_
    refine aw_callS3p dX12_debt_13 cmX12_in csX12_93 (Nat.le_of_ble_eq_true rfl) tX12_in ?_
    refine aw_if_ne (tgt := 24) dX12_debt_16 (by decide) (fun c16 => ?_) (fun c16 => ?_)
    · refine aw_iconst (v := 0) dX12_debt_24 (by decide) ?_
      refine aw_istore_n dX12_debt_25 (by decide) ?_
      have key : ∀ (k j : Nat), j + k = 100 → mFew S0 p w = iFirst (fun j w => mWW S0 p (nI j) < w) w k j  → aw l E mX12_debt (aw_Z E (mo_post n h0 m (mDebt S0 L0 p w))) (d + 3) 0 0 26 [(0, .ref m), (1, .int p), (2, .int w), (3, .int (nI j))] [] n h0 := by
        intro k
        induction k with
        | zero =>
          intro j  hj  heq
          refine aw_iload_n dX12_debt_26 rfl ?_
          refine aw_bipush (v := 99) dX12_debt_27 (by decide) ?_
          refine aw_icmp_gt (tgt := 48) dX12_debt_29 (by decide) (fun c29 => ?_) (fun c29 => ?_)
          · refine aw_iload_n dX12_debt_48 rfl ?_
            refine aw_bipush (v := 99) dX12_debt_49 (by decide) ?_
            refine aw_icmp_le (tgt := 58) dX12_debt_51 (by decide) (fun c51 => ?_) (fun c51 => ?_)
            · exact absurd ((nI_leI (a := j) (b := 99) (by omega) (by decide)).mp c51) (by omega)
            · refine aw_iconst (v := -1) dX12_debt_54 (by decide) ?_
              refine aw_goto (tgt := 59) dX12_debt_55 (by decide) ?_
              exact aw_iret dX12_debt_59 rfl (mo_fin ((if_neg c5).trans ((if_neg c16).trans (congrArg (fun z : Int32 => (z, S0, L0)) heq))) hM hF)
          · exact absurd ((nI_ltI (a := 99) (b := j) (by omega) (by omega)).mpr (by omega)) c29
        | succ k ih =>
          intro j  hj  heq
          refine aw_iload_n dX12_debt_26 rfl ?_
          refine aw_bipush (v := 99) dX12_debt_27 (by decide) ?_
          refine aw_icmp_gt (tgt := 48) dX12_debt_29 (by decide) (fun c29 => ?_) (fun c29 => ?_)
          · exact absurd ((nI_ltI (a := 99) (b := j) (by omega) (by omega)).mp c29) (by omega)
          · refine aw_aload_n dX12_debt_32 rfl ?_
            refine aw_iload_n dX12_debt_33 rfl ?_
            refine aw_iload_n dX12_debt_34 rfl ?_
            refine aw_callV2p dX12_debt_35 cmX12_weight cvX12_186 (mo_c0 hM) (Nat.le_of_ble_eq_true rfl) (tX12_weight hM (mIs_in c5 hm hm6)) ?_
            refine aw_iload_n dX12_debt_38 rfl ?_
            refine aw_icmp_ge (tgt := 48) dX12_debt_39 (by decide) (fun c39 => ?_) (fun c39 => ?_)
            · refine aw_iload_n dX12_debt_48 rfl ?_
              refine aw_bipush (v := 99) dX12_debt_49 (by decide) ?_
              refine aw_icmp_le (tgt := 58) dX12_debt_51 (by decide) (fun c51 => ?_) (fun c51 => ?_)
              · refine aw_iload_n dX12_debt_58 rfl ?_
                exact aw_iret dX12_debt_59 rfl (mo_fin ((if_neg c5).trans ((if_neg c16).trans (congrArg (fun z : Int32 => (z, S0, L0)) (heq.trans (if_neg (Int32.not_lt.mpr c39)))))) hM hF)
              · exact absurd ((nI_leI (a := j) (b := 99) (by omega) (by decide)).mpr (by omega)) c51
            · refine aw_inc (w := 1) dX12_debt_42 rfl (by decide) (by decide) ?_
              refine aw_goto (tgt := 26) dX12_debt_45 (by decide) ?_
              exact aw_loc [0, 1, 2, 3] (ls2 := [(0, .ref m), (1, .int p), (2, .int w), (3, .int (nI (j + 1)))]) (by first | (rw [nI_succ]; rfl) | rfl) (ih (j + 1)  (by omega)  (heq.trans (if_pos (Int32.not_le.mp c39))))
      exact aw_loc [0, 1, 2, 3] (ls2 := [(0, .ref m), (1, .int p), (2, .int w), (3, .int (nI 0))]) rfl (key (100) 0  (by first | rfl | omega)  rfl)
    · refine aw_aload_n dX12_debt_19 rfl ?_
      refine aw_callV0e dX12_debt_20 cmX12_bad cvX12_97 (mo_c0 hM) (Nat.le_of_ble_eq_true rfl) (tX12_bad hM) (fun r n' h' hq => ?_)
      obtain ⟨rfl, rfl, hM, ho⟩ := hq
      have hF := hF.trans ho
      exact aw_iret dX12_debt_23 rfl (mo_fin ((if_neg c5).trans (if_pos c16)) hM hF)
set_option maxHeartbeats 1000000 in
set_option maxRecDepth 100000 in
theorem tX12_note {l : Launch} {E : aw_E} {d n m : Nat} {h0 : ah} {S0 : sT} {L0 : Nat → Int64} (hM : is_mo h0 m S0 L0) {p m' w d' : Int32} {M : Nat} (hm : S0 30 0 = nI M) (hm6 : M ≤ 6) {N : Nat} (hn : S0 30 3 = nI N) (hn6 : N ≤ 6) : am l E mX12_note (d + 2) 0 0 [.ref m, .int p, .int m', .int w, .int d'] n h0 (mo_post n h0 m (mNote S0 L0 p m' w d')) := by
  refine am_of (by decide +kernel) (Nat.le_of_ble_eq_true rfl) ?_
  have hF : ah_off h0 h0 m 21 := ah_off.rf
  refine aw_aload_n dX12_note_0 rfl ?_
  refine aw_iload_n dX12_note_1 rfl ?_
  refine aw_callV1p dX12_note_2 cmX12_isOne cvX12_108 (mo_c0 hM) (Nat.le_of_ble_eq_true rfl) (tX12_isOne hM) ?_
  refine aw_if_eq (tgt := 40) dX12_note_5 (by decide) (fun c5 => ?_) (fun c5 => ?_)
  · refine aw_aload_n dX12_note_40 rfl ?_
    refine aw_callV0e dX12_note_41 cmX12_bad cvX12_97 (mo_c0 hM) (Nat.le_of_ble_eq_true rfl) (tX12_bad hM) (fun r n' h' hq => ?_)
    obtain ⟨rfl, rfl, hM, ho⟩ := hq
    have hF := hF.trans ho
    exact aw_iret dX12_note_44 rfl (mo_fin (if_pos c5) hM hF)
  · refine aw_iload_n dX12_note_8 rfl ?_
    refine aw_iconst (v := 0) dX12_note_9 (by decide) ?_
    refine aw_bipush (v := 99) dX12_note_10 (by decide) ?_
    refine aw_callS3p dX12_note_12 cmX12_in csX12_93 (Nat.le_of_ble_eq_true rfl) tX12_in ?_
    refine aw_if_eq (tgt := 40) dX12_note_15 (by decide) (fun c15 => ?_) (fun c15 => ?_)
    · refine aw_aload_n dX12_note_40 rfl ?_
      refine aw_callV0e dX12_note_41 cmX12_bad cvX12_97 (mo_c0 hM) (Nat.le_of_ble_eq_true rfl) (tX12_bad hM) (fun r n' h' hq => ?_)
      obtain ⟨rfl, rfl, hM, ho⟩ := hq
      have hF := hF.trans ho
      exact aw_iret dX12_note_44 rfl (mo_fin ((if_neg c5).trans (if_pos c15)) hM hF)
    · refine aw_iload_n dX12_note_18 rfl ?_
      refine aw_iconst (v := 0) dX12_note_19 (by decide) ?_
      refine aw_sipush (v := 2000) dX12_note_20 (by decide) ?_
      refine aw_callS3p dX12_note_23 cmX12_in csX12_93 (Nat.le_of_ble_eq_true rfl) tX12_in ?_
      refine aw_if_eq (tgt := 40) dX12_note_26 (by decide) (fun c26 => ?_) (fun c26 => ?_)
      · refine aw_aload_n dX12_note_40 rfl ?_
        refine aw_callV0e dX12_note_41 cmX12_bad cvX12_97 (mo_c0 hM) (Nat.le_of_ble_eq_true rfl) (tX12_bad hM) (fun r n' h' hq => ?_)
        obtain ⟨rfl, rfl, hM, ho⟩ := hq
        have hF := hF.trans ho
        exact aw_iret dX12_note_44 rfl (mo_fin (((if_neg c5).trans (if_neg c15)).trans (if_pos c26)) hM hF)
      · refine aw_iload dX12_note_29 rfl ?_
        refine aw_iconst (v := 0) dX12_note_31 (by decide) ?_
        refine aw_bipush (v := 99) dX12_note_32 (by decide) ?_
        refine aw_callS3p dX12_note_34 cmX12_in csX12_93 (Nat.le_of_ble_eq_true rfl) tX12_in ?_
        refine aw_if_ne (tgt := 45) dX12_note_37 (by decide) (fun c37 => ?_) (fun c37 => ?_)
        · refine aw_aload_n dX12_note_45 rfl ?_
          refine aw_get dX12_note_46 flX12_87 (mo_c0 hM) rfl ?_
          refine aw_bipush (v := 6) dX12_note_49 (by decide) ?_
          refine aw_icmp_ne (tgt := 59) dX12_note_51 (by decide) (fun c51 => ?_) (fun c51 => ?_)
          · refine aw_aload_n dX12_note_59 rfl ?_
            refine aw_get dX12_note_60 flX12_28 (mo_c0 hM) rfl ?_
            refine aw_aload_n dX12_note_63 rfl ?_
            refine aw_get dX12_note_64 flX12_87 (mo_c0 hM) rfl ?_
            refine aw_iload_n dX12_note_67 rfl ?_
            refine aw_ia_mo6 dX12_note_68 hM (in_ne hn hn6 (by decide) c51) (fun h hM ho => ?_)
            have hF := hF.trans ho
            refine aw_aload_n dX12_note_69 rfl ?_
            refine aw_get dX12_note_70 flX12_31 (mo_c0 hM) rfl ?_
            refine aw_aload_n dX12_note_73 rfl ?_
            refine aw_get dX12_note_74 flX12_87 (mo_c0 hM) rfl ?_
            refine aw_iload_n dX12_note_77 rfl ?_
            refine aw_ia_mo7 dX12_note_78 hM (in_ne hn hn6 (by decide) c51) (fun h hM ho => ?_)
            have hF := hF.trans ho
            refine aw_aload_n dX12_note_79 rfl ?_
            refine aw_get dX12_note_80 flX12_34 (mo_c0 hM) rfl ?_
            refine aw_aload_n dX12_note_83 rfl ?_
            refine aw_get dX12_note_84 flX12_87 (mo_c0 hM) rfl ?_
            refine aw_iload_n dX12_note_87 rfl ?_
            refine aw_ia_mo8 dX12_note_88 hM (in_ne hn hn6 (by decide) c51) (fun h hM ho => ?_)
            have hF := hF.trans ho
            refine aw_aload_n dX12_note_89 rfl ?_
            refine aw_get dX12_note_90 flX12_37 (mo_c0 hM) rfl ?_
            refine aw_aload_n dX12_note_93 rfl ?_
            refine aw_get dX12_note_94 flX12_87 (mo_c0 hM) rfl ?_
            refine aw_iload dX12_note_97 rfl ?_
            refine aw_ia_mo9 dX12_note_99 hM (in_ne hn hn6 (by decide) c51) (fun h hM ho => ?_)
            have hF := hF.trans ho
            refine aw_aload_n dX12_note_100 rfl ?_
            refine aw_dup dX12_note_101 rfl ?_
            refine aw_get dX12_note_102 flX12_87 (mo_c0 hM) rfl ?_
            refine aw_iconst (v := 1) dX12_note_105 (by decide) ?_
            refine aw_iadd dX12_note_106 ?_
            refine aw_pf_mo3 dX12_note_107 fpX12_87 hM (fun h hM ho => ?_)
            have hF := hF.trans ho
            refine aw_aload_n dX12_note_110 rfl ?_
            refine aw_get dX12_note_111 flX12_87 (mo_c0 hM) rfl ?_
            exact aw_iret dX12_note_114 rfl (mo_fin (((((if_neg c5).trans (if_neg c15)).trans (if_neg c26)).trans (if_neg c37)).trans (if_neg c51)) hM hF)
          · refine aw_aload_n dX12_note_54 rfl ?_
            refine aw_callV0e dX12_note_55 cmX12_full cvX12_101 (mo_c0 hM) (Nat.le_of_ble_eq_true rfl) (tX12_full hM) (fun r n' h' hq => ?_)
            obtain ⟨rfl, rfl, hM, ho⟩ := hq
            have hF := hF.trans ho
            exact aw_iret dX12_note_58 rfl (mo_fin (((((if_neg c5).trans (if_neg c15)).trans (if_neg c26)).trans (if_neg c37)).trans (if_pos c51)) hM hF)
        · refine aw_aload_n dX12_note_40 rfl ?_
          refine aw_callV0e dX12_note_41 cmX12_bad cvX12_97 (mo_c0 hM) (Nat.le_of_ble_eq_true rfl) (tX12_bad hM) (fun r n' h' hq => ?_)
          obtain ⟨rfl, rfl, hM, ho⟩ := hq
          have hF := hF.trans ho
          exact aw_iret dX12_note_44 rfl (mo_fin ((((if_neg c5).trans (if_neg c15)).trans (if_neg c26)).trans (if_pos c37)) hM hF)
set_option maxHeartbeats 1000000 in
set_option maxRecDepth 100000 in
theorem tX12_forget {l : Launch} {E : aw_E} {d n m : Nat} {h0 : ah} {S0 : sT} {L0 : Nat → Int64} (hM : is_mo h0 m S0 L0) : am l E mX12_forget d 0 0 [.ref m] n h0 (mo_post n h0 m (mForget S0 L0)) := by
  refine am_of (by decide +kernel) (Nat.le_of_ble_eq_true rfl) ?_
  have hF : ah_off h0 h0 m 21 := ah_off.rf
  refine aw_aload_n dX12_forget_0 rfl ?_
  refine aw_get dX12_forget_1 flX12_87 (mo_c0 hM) rfl ?_
  refine aw_istore_n dX12_forget_4 (by decide) ?_
  refine aw_aload_n dX12_forget_5 rfl ?_
  refine aw_iconst (v := 0) dX12_forget_6 (by decide) ?_
  refine aw_pf_mo3 dX12_forget_7 fpX12_87 hM (fun h hM ho => ?_)
  have hF := hF.trans ho
  refine aw_iload_n dX12_forget_10 rfl ?_
  exact aw_iret dX12_forget_11 rfl (mo_fin rfl hM hF)
set_option maxHeartbeats 1000000 in
set_option maxRecDepth 100000 in
theorem tX12_isSo {l : Launch} {E : aw_E} {d n m : Nat} {h : ah} {S : sT} {L : Nat → Int64} (hM : is_mo h m S L) {p kd h' : Int32} {N : Nat} (hn : S 30 3 = nI N) (hn6 : N ≤ 6) : am l E mX12_isSo (d + 2) 0 0 [.ref m, .int p, .int kd, .int h'] n h (aw_eq n h (some (.int (mSo S p kd h')))) := by
  refine am_of (by decide +kernel) (Nat.le_of_ble_eq_true rfl) ?_
  refine aw_iconst (v := 1) dX12_isSo_0 (by decide) ?_
  refine aw_istore dX12_isSo_1 (by decide) ?_
  refine aw_iconst (v := 0) dX12_isSo_3 (by decide) ?_
  refine aw_istore dX12_isSo_4 (by decide) ?_
  have hN := clamp_lt (S 30 3)
  have hN6 : (S 30 3).toNatClampNeg ≤ 6 := by rw [hn, nI_clamp (by omega)]; exact hn6
  have key : ∀ (k j : Nat) (b : Int32), j + k = (S 30 3).toNatClampNeg → narrow .boolean (.int b) = .int b → mSo S p kd h' = mSoL S p kd h' k j b → aw l E mX12_isSo (aw_Z E (aw_eq n h (some (.int (mSo S p kd h'))))) (d + 2) 0 0 6 [(0, .ref m), (1, .int p), (2, .int kd), (3, .int h'), (4, .int b), (5, .int (nI j))] [] n h := by
    intro k
    induction k with
    | zero =>
      intro j b hj hbb heq
      refine aw_iload dX12_isSo_6 rfl ?_
      refine aw_aload_n dX12_isSo_8 rfl ?_
      refine aw_get dX12_isSo_9 flX12_87 (mo_c0 hM) rfl ?_
      refine aw_icmp_ge (tgt := 85) dX12_isSo_12 (by decide) (fun c12 => ?_) (fun c12 => ?_)
      · refine aw_iload dX12_isSo_85 rfl ?_
        exact aw_zret dX12_isSo_87 rfl hbb (⟨congrArg (fun z => some (Value.int z)) heq, rfl, rfl⟩)
      · exact absurd ((i_le_nI (x := S 30 3) (j := j) (by omega)).mpr (by omega)) c12
    | succ k ih =>
      intro j b hj hbb heq
      refine aw_iload dX12_isSo_6 rfl ?_
      refine aw_aload_n dX12_isSo_8 rfl ?_
      refine aw_get dX12_isSo_9 flX12_87 (mo_c0 hM) rfl ?_
      refine aw_icmp_ge (tgt := 85) dX12_isSo_12 (by decide) (fun c12 => ?_) (fun c12 => ?_)
      · exact absurd ((i_le_nI (x := S 30 3) (j := j) (by omega)).mp c12) (by omega)
      · refine aw_iload_n dX12_isSo_15 rfl ?_
        refine aw_aload_n dX12_isSo_16 rfl ?_
        refine aw_get dX12_isSo_17 flX12_31 (mo_c0 hM) rfl ?_
        refine aw_iload dX12_isSo_20 rfl ?_
        refine aw_ialdN dX12_isSo_22 (mo_c8 hM) rfl (by omega) (by decide) ?_
        refine aw_iload_n dX12_isSo_23 rfl ?_
        refine aw_aload_n dX12_isSo_24 rfl ?_
        refine aw_get dX12_isSo_25 flX12_37 (mo_c0 hM) rfl ?_
        refine aw_iload dX12_isSo_28 rfl ?_
        refine aw_ialdN dX12_isSo_30 (mo_c10 hM) rfl (by omega) (by decide) ?_
        refine aw_callS4p dX12_isSo_31 cmX12_weightBy csX12_183 (Nat.le_of_ble_eq_true rfl) tX12_weightBy ?_
        refine aw_aload_n dX12_isSo_34 rfl ?_
        refine aw_get dX12_isSo_35 flX12_34 (mo_c0 hM) rfl ?_
        refine aw_iload dX12_isSo_38 rfl ?_
        refine aw_ialdN dX12_isSo_40 (mo_c9 hM) rfl (by omega) (by decide) ?_
        refine aw_icmp_ne (tgt := 48) dX12_isSo_41 (by decide) (fun c41 => ?_) (fun c41 => ?_)
        · refine aw_iconst (v := 0) dX12_isSo_48 (by decide) ?_
          refine aw_istore dX12_isSo_49 (by decide) ?_
          refine aw_iload dX12_isSo_51 rfl ?_
          refine aw_if_eq (tgt := 76) dX12_isSo_53 (by decide) (fun c53 => ?_) (fun c53 => ?_)
          · refine aw_iconst (v := 0) dX12_isSo_76 (by decide) ?_
            refine aw_istore dX12_isSo_77 (by decide) ?_
            refine aw_inc (w := 1) dX12_isSo_79 rfl (by decide) (by decide) ?_
            refine aw_goto (tgt := 6) dX12_isSo_82 (by decide) ?_
            exact aw_loc [0, 1, 2, 3, 4, 5] (ls2 := [(0, .ref m), (1, .int p), (2, .int kd), (3, .int h'), (4, .int _), (5, .int (nI (j + 1)))]) (by first | (rw [nI_succ]; rfl) | rfl) (ih (j + 1) _ (by omega) rfl (heq.trans ((if_neg c41).trans (if_pos c53))))
          · refine aw_aload_n dX12_isSo_56 rfl ?_
            refine aw_get dX12_isSo_57 flX12_28 (mo_c0 hM) rfl ?_
            refine aw_iload dX12_isSo_60 rfl ?_
            refine aw_ialdN dX12_isSo_62 (mo_c7 hM) rfl (by omega) (by decide) ?_
            refine aw_iload_n dX12_isSo_63 rfl ?_
            refine aw_icmp_ne (tgt := 72) dX12_isSo_64 (by decide) (fun c64 => ?_) (fun c64 => ?_)
            · refine aw_iconst (v := 1) dX12_isSo_72 (by decide) ?_
              refine aw_goto (tgt := 77) dX12_isSo_73 (by decide) ?_
              refine aw_istore dX12_isSo_77 (by decide) ?_
              refine aw_inc (w := 1) dX12_isSo_79 rfl (by decide) (by decide) ?_
              refine aw_goto (tgt := 6) dX12_isSo_82 (by decide) ?_
              exact aw_loc [0, 1, 2, 3, 4, 5] (ls2 := [(0, .ref m), (1, .int p), (2, .int kd), (3, .int h'), (4, .int _), (5, .int (nI (j + 1)))]) (by first | (rw [nI_succ]; rfl) | rfl) (ih (j + 1) _ (by omega) rfl (heq.trans (((if_neg c41).trans (if_neg c53)).trans (if_neg c64))))
            · refine aw_iload dX12_isSo_67 rfl ?_
              refine aw_if_eq (tgt := 76) dX12_isSo_69 (by decide) (fun c69 => ?_) (fun c69 => ?_)
              · refine aw_iconst (v := 0) dX12_isSo_76 (by decide) ?_
                refine aw_istore dX12_isSo_77 (by decide) ?_
                refine aw_inc (w := 1) dX12_isSo_79 rfl (by decide) (by decide) ?_
                refine aw_goto (tgt := 6) dX12_isSo_82 (by decide) ?_
                exact aw_loc [0, 1, 2, 3, 4, 5] (ls2 := [(0, .ref m), (1, .int p), (2, .int kd), (3, .int h'), (4, .int _), (5, .int (nI (j + 1)))]) (by first | (rw [nI_succ]; rfl) | rfl) (ih (j + 1) _ (by omega) rfl (heq.trans ((((if_neg c41).trans (if_neg c53)).trans (if_pos c64)).trans (if_pos c69))))
              · refine aw_iconst (v := 1) dX12_isSo_72 (by decide) ?_
                refine aw_goto (tgt := 77) dX12_isSo_73 (by decide) ?_
                refine aw_istore dX12_isSo_77 (by decide) ?_
                refine aw_inc (w := 1) dX12_isSo_79 rfl (by decide) (by decide) ?_
                refine aw_goto (tgt := 6) dX12_isSo_82 (by decide) ?_
                exact aw_loc [0, 1, 2, 3, 4, 5] (ls2 := [(0, .ref m), (1, .int p), (2, .int kd), (3, .int h'), (4, .int _), (5, .int (nI (j + 1)))]) (by first | (rw [nI_succ]; rfl) | rfl) (ih (j + 1) _ (by omega) rfl (heq.trans ((((if_neg c41).trans (if_neg c53)).trans (if_pos c64)).trans (if_neg c69))))
        · refine aw_iconst (v := 1) dX12_isSo_44 (by decide) ?_
          refine aw_goto (tgt := 49) dX12_isSo_45 (by decide) ?_
          refine aw_istore dX12_isSo_49 (by decide) ?_
          refine aw_iload dX12_isSo_51 rfl ?_
          refine aw_if_eq (tgt := 76) dX12_isSo_53 (by decide) (fun c53 => ?_) (fun c53 => ?_)
          · refine aw_iconst (v := 0) dX12_isSo_76 (by decide) ?_
            refine aw_istore dX12_isSo_77 (by decide) ?_
            refine aw_inc (w := 1) dX12_isSo_79 rfl (by decide) (by decide) ?_
            refine aw_goto (tgt := 6) dX12_isSo_82 (by decide) ?_
            exact aw_loc [0, 1, 2, 3, 4, 5] (ls2 := [(0, .ref m), (1, .int p), (2, .int kd), (3, .int h'), (4, .int _), (5, .int (nI (j + 1)))]) (by first | (rw [nI_succ]; rfl) | rfl) (ih (j + 1) _ (by omega) rfl (heq.trans ((if_pos c41).trans (if_pos c53))))
          · refine aw_aload_n dX12_isSo_56 rfl ?_
            refine aw_get dX12_isSo_57 flX12_28 (mo_c0 hM) rfl ?_
            refine aw_iload dX12_isSo_60 rfl ?_
            refine aw_ialdN dX12_isSo_62 (mo_c7 hM) rfl (by omega) (by decide) ?_
            refine aw_iload_n dX12_isSo_63 rfl ?_
            refine aw_icmp_ne (tgt := 72) dX12_isSo_64 (by decide) (fun c64 => ?_) (fun c64 => ?_)
            · refine aw_iconst (v := 1) dX12_isSo_72 (by decide) ?_
              refine aw_goto (tgt := 77) dX12_isSo_73 (by decide) ?_
              refine aw_istore dX12_isSo_77 (by decide) ?_
              refine aw_inc (w := 1) dX12_isSo_79 rfl (by decide) (by decide) ?_
              refine aw_goto (tgt := 6) dX12_isSo_82 (by decide) ?_
              exact aw_loc [0, 1, 2, 3, 4, 5] (ls2 := [(0, .ref m), (1, .int p), (2, .int kd), (3, .int h'), (4, .int _), (5, .int (nI (j + 1)))]) (by first | (rw [nI_succ]; rfl) | rfl) (ih (j + 1) _ (by omega) rfl (heq.trans (((if_pos c41).trans (if_neg c53)).trans (if_neg c64))))
            · refine aw_iload dX12_isSo_67 rfl ?_
              refine aw_if_eq (tgt := 76) dX12_isSo_69 (by decide) (fun c69 => ?_) (fun c69 => ?_)
              · refine aw_iconst (v := 0) dX12_isSo_76 (by decide) ?_
                refine aw_istore dX12_isSo_77 (by decide) ?_
                refine aw_inc (w := 1) dX12_isSo_79 rfl (by decide) (by decide) ?_
                refine aw_goto (tgt := 6) dX12_isSo_82 (by decide) ?_
                exact aw_loc [0, 1, 2, 3, 4, 5] (ls2 := [(0, .ref m), (1, .int p), (2, .int kd), (3, .int h'), (4, .int _), (5, .int (nI (j + 1)))]) (by first | (rw [nI_succ]; rfl) | rfl) (ih (j + 1) _ (by omega) rfl (heq.trans ((((if_pos c41).trans (if_neg c53)).trans (if_pos c64)).trans (if_pos c69))))
              · refine aw_iconst (v := 1) dX12_isSo_72 (by decide) ?_
                refine aw_goto (tgt := 77) dX12_isSo_73 (by decide) ?_
                refine aw_istore dX12_isSo_77 (by decide) ?_
                refine aw_inc (w := 1) dX12_isSo_79 rfl (by decide) (by decide) ?_
                refine aw_goto (tgt := 6) dX12_isSo_82 (by decide) ?_
                exact aw_loc [0, 1, 2, 3, 4, 5] (ls2 := [(0, .ref m), (1, .int p), (2, .int kd), (3, .int h'), (4, .int _), (5, .int (nI (j + 1)))]) (by first | (rw [nI_succ]; rfl) | rfl) (ih (j + 1) _ (by omega) rfl (heq.trans ((((if_pos c41).trans (if_neg c53)).trans (if_pos c64)).trans (if_neg c69))))
  exact aw_loc [0, 1, 2, 3, 4, 5] (ls2 := [(0, .ref m), (1, .int p), (2, .int kd), (3, .int h'), (4, .int 1), (5, .int (nI 0))]) rfl (key ((S 30 3).toNatClampNeg) 0 1 (by first | rfl | omega) rfl rfl)
set_option maxHeartbeats 1000000 in
set_option maxRecDepth 100000 in
theorem tX12_kindsOf {l : Launch} {E : aw_E} {d n m : Nat} {h : ah} {S : sT} {L : Nat → Int64} (hM : is_mo h m S L) {p : Int32} (hp : vp_in p 6) {N : Nat} (hn : S 30 3 = nI N) (hn6 : N ≤ 6) : am l E mX12_kindsOf (d + 3) 0 0 [.ref m, .int p] n h (aw_eq n h (some (.int (mKinds S p)))) := by
  refine am_of (by decide +kernel) (Nat.le_of_ble_eq_true rfl) ?_
  refine aw_iconst (v := 0) dX12_kindsOf_0 (by decide) ?_
  refine aw_istore_n dX12_kindsOf_1 (by decide) ?_
  refine aw_iconst (v := 0) dX12_kindsOf_2 (by decide) ?_
  refine aw_istore_n dX12_kindsOf_3 (by decide) ?_
  have key : ∀ (k j : Nat) (a : Int32), j + k = 6 → mKinds S p = lpOr (fun j => mSo S p (nI j) (S 2 p.toNatClampNeg)) k j a → aw l E mX12_kindsOf (aw_Z E (aw_eq n h (some (.int (mKinds S p))))) (d + 3) 0 0 4 [(0, .ref m), (1, .int p), (2, .int a), (3, .int (nI j))] [] n h := by
    intro k
    induction k with
    | zero =>
      intro j a hj  heq
      refine aw_iload_n dX12_kindsOf_4 rfl ?_
      refine aw_iconst (v := 5) dX12_kindsOf_5 (by decide) ?_
      refine aw_icmp_gt (tgt := 40) dX12_kindsOf_6 (by decide) (fun c6 => ?_) (fun c6 => ?_)
      · refine aw_iload_n dX12_kindsOf_40 rfl ?_
        exact aw_iret dX12_kindsOf_41 rfl (⟨congrArg (fun z => some (Value.int z)) heq, rfl, rfl⟩)
      · exact absurd ((nI_ltI (a := 5) (b := j) (by omega) (by omega)).mpr (by omega)) c6
    | succ k ih =>
      intro j a hj  heq
      refine aw_iload_n dX12_kindsOf_4 rfl ?_
      refine aw_iconst (v := 5) dX12_kindsOf_5 (by decide) ?_
      refine aw_icmp_gt (tgt := 40) dX12_kindsOf_6 (by decide) (fun c6 => ?_) (fun c6 => ?_)
      · exact absurd ((nI_ltI (a := 5) (b := j) (by omega) (by omega)).mp c6) (by omega)
      · refine aw_iload_n dX12_kindsOf_9 rfl ?_
        refine aw_aload_n dX12_kindsOf_10 rfl ?_
        refine aw_iload_n dX12_kindsOf_11 rfl ?_
        refine aw_iload_n dX12_kindsOf_12 rfl ?_
        refine aw_aload_n dX12_kindsOf_13 rfl ?_
        refine aw_get dX12_kindsOf_14 flX12_16 (mo_c0 hM) rfl ?_
        refine aw_iload_n dX12_kindsOf_17 rfl ?_
        refine aw_iald dX12_kindsOf_18 (mo_c3 hM) hp ?_
        refine aw_callV3p dX12_kindsOf_19 cmX12_isSo cvX12_228 (mo_c0 hM) (Nat.le_of_ble_eq_true rfl) (tX12_isSo hM hn hn6) ?_
        refine aw_if_eq (tgt := 31) dX12_kindsOf_22 (by decide) (fun c22 => ?_) (fun c22 => ?_)
        · refine aw_iconst (v := 0) dX12_kindsOf_31 (by decide) ?_
          refine aw_ior dX12_kindsOf_32 ?_
          refine aw_istore_n dX12_kindsOf_33 (by decide) ?_
          refine aw_inc (w := 1) dX12_kindsOf_34 rfl (by decide) (by decide) ?_
          refine aw_goto (tgt := 4) dX12_kindsOf_37 (by decide) ?_
          exact aw_loc [0, 1, 2, 3] (ls2 := [(0, .ref m), (1, .int p), (2, .int _), (3, .int (nI (j + 1)))]) (by first | (rw [nI_succ]; rfl) | rfl) (ih (j + 1) _ (by omega)  (heq.trans (if_pos c22)))
        · refine aw_iconst (v := 1) dX12_kindsOf_25 (by decide) ?_
          refine aw_iload_n dX12_kindsOf_26 rfl ?_
          refine aw_ishl dX12_kindsOf_27 ?_
          refine aw_goto (tgt := 32) dX12_kindsOf_28 (by decide) ?_
          refine aw_ior dX12_kindsOf_32 ?_
          refine aw_istore_n dX12_kindsOf_33 (by decide) ?_
          refine aw_inc (w := 1) dX12_kindsOf_34 rfl (by decide) (by decide) ?_
          refine aw_goto (tgt := 4) dX12_kindsOf_37 (by decide) ?_
          exact aw_loc [0, 1, 2, 3] (ls2 := [(0, .ref m), (1, .int p), (2, .int _), (3, .int (nI (j + 1)))]) (by first | (rw [nI_succ]; rfl) | rfl) (ih (j + 1) _ (by omega)  (heq.trans (if_neg c22)))
  exact aw_loc [0, 1, 2, 3] (ls2 := [(0, .ref m), (1, .int p), (2, .int 0), (3, .int (nI 0))]) rfl (key (6) 0 0 (by first | rfl | omega)  rfl)
set_option maxHeartbeats 1000000 in
set_option maxRecDepth 100000 in
theorem tX12_is {l : Launch} {E : aw_E} {d n m : Nat} {h0 : ah} {S0 : sT} {L0 : Nat → Int64} (hM : is_mo h0 m S0 L0) {p w : Int32} {M : Nat} (hm : S0 30 0 = nI M) (hm6 : M ≤ 6) {N : Nat} (hn : S0 30 3 = nI N) (hn6 : N ≤ 6) : am l E mX12_is (d + 4) 0 0 [.ref m, .int p, .int w] n h0 (mo_post n h0 m (mIsF S0 L0 p w)) := by
  refine am_of (by decide +kernel) (Nat.le_of_ble_eq_true rfl) ?_
  have hF : ah_off h0 h0 m 21 := ah_off.rf
  refine aw_aload_n dX12_is_0 rfl ?_
  refine aw_iload_n dX12_is_1 rfl ?_
  refine aw_callV1p dX12_is_2 cmX12_isOne cvX12_108 (mo_c0 hM) (Nat.le_of_ble_eq_true rfl) (tX12_isOne hM) ?_
  refine aw_if_eq (tgt := 17) dX12_is_5 (by decide) (fun c5 => ?_) (fun c5 => ?_)
  · refine aw_aload_n dX12_is_17 rfl ?_
    refine aw_callV0e dX12_is_18 cmX12_bad cvX12_97 (mo_c0 hM) (Nat.le_of_ble_eq_true rfl) (tX12_bad hM) (fun r n' h' hq => ?_)
    obtain ⟨rfl, rfl, hM, ho⟩ := hq
    have hF := hF.trans ho
    exact aw_iret dX12_is_21 rfl (mo_fin (if_pos c5) hM hF)
  · refine aw_iload_n dX12_is_8 rfl ?_
    refine aw_iconst (v := 0) dX12_is_9 (by decide) ?_
    refine aw_iconst (v := 1) dX12_is_10 (by decide) ?_
    refine aw_callS3p dX12_is_11 cmX12_in csX12_93 (Nat.le_of_ble_eq_true rfl) tX12_in ?_
    refine aw_if_ne (tgt := 22) dX12_is_14 (by decide) (fun c14 => ?_) (fun c14 => ?_)
    · refine aw_iload_n dX12_is_22 rfl ?_
      refine aw_if_ne (tgt := 32) dX12_is_23 (by decide) (fun c23 => ?_) (fun c23 => ?_)
      · refine aw_iconst (v := 0) dX12_is_32 (by decide) ?_
        refine aw_istore_n dX12_is_33 (by decide) ?_
        refine aw_iconst (v := 0) dX12_is_34 (by decide) ?_
        refine aw_istore dX12_is_35 (by decide) ?_
        have key : ∀ (k j : Nat) (a : Int32), j + k = 13 → mHons S0 p = lpOr (fun j => mSo S0 p (S0 1 p.toNatClampNeg) (nI j)) k j a → aw l E mX12_is (aw_Z E (mo_post n h0 m (mIsF S0 L0 p w))) (d + 4) 0 0 37 [(0, .ref m), (1, .int p), (3, .int a), (4, .int (nI j))] [] n h0 := by
          intro k
          induction k with
          | zero =>
            intro j a hj  heq
            refine aw_iload dX12_is_37 rfl ?_
            refine aw_bipush (v := 12) dX12_is_39 (by decide) ?_
            refine aw_icmp_gt (tgt := 77) dX12_is_41 (by decide) (fun c41 => ?_) (fun c41 => ?_)
            · refine aw_iload_n dX12_is_77 rfl ?_
              exact aw_iret dX12_is_78 rfl (mo_fin ((if_neg c5).trans ((if_neg c14).trans ((if_neg c23).trans (congrArg (fun z : Int32 => (z, S0, L0)) heq)))) hM hF)
            · exact absurd ((nI_ltI (a := 12) (b := j) (by omega) (by omega)).mpr (by omega)) c41
          | succ k ih =>
            intro j a hj  heq
            refine aw_iload dX12_is_37 rfl ?_
            refine aw_bipush (v := 12) dX12_is_39 (by decide) ?_
            refine aw_icmp_gt (tgt := 77) dX12_is_41 (by decide) (fun c41 => ?_) (fun c41 => ?_)
            · exact absurd ((nI_ltI (a := 12) (b := j) (by omega) (by omega)).mp c41) (by omega)
            · refine aw_iload_n dX12_is_44 rfl ?_
              refine aw_aload_n dX12_is_45 rfl ?_
              refine aw_iload_n dX12_is_46 rfl ?_
              refine aw_aload_n dX12_is_47 rfl ?_
              refine aw_get dX12_is_48 flX12_13 (mo_c0 hM) rfl ?_
              refine aw_iload_n dX12_is_51 rfl ?_
              refine aw_iald dX12_is_52 (mo_c2 hM) (mIs_in c5 hm hm6) ?_
              refine aw_iload dX12_is_53 rfl ?_
              refine aw_callV3p dX12_is_55 cmX12_isSo cvX12_228 (mo_c0 hM) (Nat.le_of_ble_eq_true rfl) (tX12_isSo hM hn hn6) ?_
              refine aw_if_eq (tgt := 68) dX12_is_58 (by decide) (fun c58 => ?_) (fun c58 => ?_)
              · refine aw_iconst (v := 0) dX12_is_68 (by decide) ?_
                refine aw_ior dX12_is_69 ?_
                refine aw_istore_n dX12_is_70 (by decide) ?_
                refine aw_inc (w := 1) dX12_is_71 rfl (by decide) (by decide) ?_
                refine aw_goto (tgt := 37) dX12_is_74 (by decide) ?_
                exact aw_loc [0, 1, 3, 4] (ls2 := [(0, .ref m), (1, .int p), (3, .int _), (4, .int (nI (j + 1)))]) (by first | (rw [nI_succ]; rfl) | rfl) (ih (j + 1) _ (by omega)  (heq.trans (if_pos c58)))
              · refine aw_iconst (v := 1) dX12_is_61 (by decide) ?_
                refine aw_iload dX12_is_62 rfl ?_
                refine aw_ishl dX12_is_64 ?_
                refine aw_goto (tgt := 69) dX12_is_65 (by decide) ?_
                refine aw_ior dX12_is_69 ?_
                refine aw_istore_n dX12_is_70 (by decide) ?_
                refine aw_inc (w := 1) dX12_is_71 rfl (by decide) (by decide) ?_
                refine aw_goto (tgt := 37) dX12_is_74 (by decide) ?_
                exact aw_loc [0, 1, 3, 4] (ls2 := [(0, .ref m), (1, .int p), (3, .int _), (4, .int (nI (j + 1)))]) (by first | (rw [nI_succ]; rfl) | rfl) (ih (j + 1) _ (by omega)  (heq.trans (if_neg c58)))
        exact aw_loc [0, 1, 3, 4] (ls2 := [(0, .ref m), (1, .int p), (3, .int 0), (4, .int (nI 0))]) rfl (key (13) 0 0 (by first | rfl | omega)  rfl)
      · refine aw_aload_n dX12_is_26 rfl ?_
        refine aw_iload_n dX12_is_27 rfl ?_
        refine aw_callV1p dX12_is_28 cmX12_kindsOf cvX12_231 (mo_c0 hM) (Nat.le_of_ble_eq_true rfl) (tX12_kindsOf hM (mIs_in c5 hm hm6) hn hn6) ?_
        exact aw_iret dX12_is_31 rfl (mo_fin (((if_neg c5).trans (if_neg c14)).trans (if_pos c23)) hM hF)
    · refine aw_aload_n dX12_is_17 rfl ?_
      refine aw_callV0e dX12_is_18 cmX12_bad cvX12_97 (mo_c0 hM) (Nat.le_of_ble_eq_true rfl) (tX12_bad hM) (fun r n' h' hq => ?_)
      obtain ⟨rfl, rfl, hM, ho⟩ := hq
      have hF := hF.trans ho
      exact aw_iret dX12_is_21 rfl (mo_fin ((if_neg c5).trans (if_pos c14)) hM hF)
theorem mAlO_s {D' h' b n' v x c y : Int32} {k j : Nat} (h1 : v = mAlO D' h' b n' (k + 1) j x) (h2 : mAlI D' h' b n' j 6 0 0 = c) (h3 : (c ≤ x ∧ y = x) ∨ (¬ c ≤ x ∧ y = c)) : v = mAlO D' h' b n' k (j + 1) y := by
  rw [h1, mAlO, h2]
  rcases h3 with ⟨g, rfl⟩ | ⟨g, rfl⟩
  · rw [if_pos g]
  · rw [if_neg g]
set_option maxHeartbeats 1000000 in
set_option maxRecDepth 100000 in
theorem tX12_alike {l : Launch} {E : aw_E} {d n m : Nat} {h : ah} {S : sT} {L : Nat → Int64} (hM : is_mo h m S L) {p b n' : Int32} (hp : vp_in p 6) : am l E mX12_alike (d + 2) 0 0 [.ref m, .int p, .int b, .int n'] n h (aw_eq n h (some (.int (mAlike S p b n')))) := by
  refine am_of (by decide +kernel) (Nat.le_of_ble_eq_true rfl) ?_
  refine aw_iconst (v := 0) dX12_alike_0 (by decide) ?_
  refine aw_istore dX12_alike_1 (by decide) ?_
  refine aw_iconst (v := 0) dX12_alike_3 (by decide) ?_
  refine aw_istore dX12_alike_4 (by decide) ?_
  have key : ∀ (k j : Nat) (x : Int32), j + k = 6 → mAlike S p b n' = mAlO (S 30 1) (S 2 p.toNatClampNeg) b n' k j x → aw l E mX12_alike (aw_Z E (aw_eq n h (some (.int (mAlike S p b n'))))) (d + 2) 0 0 6 [(0, .ref m), (1, .int p), (2, .int b), (3, .int n'), (4, .int x), (5, .int (nI j))] [] n h := by
    intro k
    induction k with
    | zero =>
      intro j x hj  heq
      refine aw_iload dX12_alike_6 rfl ?_
      refine aw_iconst (v := 5) dX12_alike_8 (by decide) ?_
      refine aw_icmp_gt (tgt := 127) dX12_alike_9 (by decide) (fun c9 => ?_) (fun c9 => ?_)
      · refine aw_iload dX12_alike_127 rfl ?_
        exact aw_iret dX12_alike_129 rfl (⟨congrArg (fun z => some (Value.int z)) heq, rfl, rfl⟩)
      · exact absurd ((nI_ltI (a := 5) (b := j) (by omega) (by omega)).mpr (by omega)) c9
    | succ k ih =>
      intro j x hj  heq
      refine aw_iload dX12_alike_6 rfl ?_
      refine aw_iconst (v := 5) dX12_alike_8 (by decide) ?_
      refine aw_icmp_gt (tgt := 127) dX12_alike_9 (by decide) (fun c9 => ?_) (fun c9 => ?_)
      · exact absurd ((nI_ltI (a := 5) (b := j) (by omega) (by omega)).mp c9) (by omega)
      · refine aw_iconst (v := 0) dX12_alike_12 (by decide) ?_
        refine aw_istore dX12_alike_13 (by decide) ?_
        refine aw_iconst (v := 0) dX12_alike_15 (by decide) ?_
        refine aw_istore dX12_alike_16 (by decide) ?_
        have key2 : ∀ (k2 j2 : Nat) (c : Int32), j2 + k2 = 6 → mAlI (S 30 1) (S 2 p.toNatClampNeg) b n' j 6 0 0 = mAlI (S 30 1) (S 2 p.toNatClampNeg) b n' j k2 j2 c → aw l E mX12_alike (aw_Z E (aw_eq n h (some (.int (mAlike S p b n'))))) (d + 2) 0 0 18 [(0, .ref m), (1, .int p), (2, .int b), (3, .int n'), (4, .int x), (5, .int (nI j)), (6, .int c), (7, .int (nI j2))] [] n h := by
          intro k2
          induction k2 with
          | zero =>
            intro j2 c hj2  heq2
            refine aw_iload dX12_alike_18 rfl ?_
            refine aw_iconst (v := 5) dX12_alike_20 (by decide) ?_
            refine aw_icmp_gt (tgt := 105) dX12_alike_21 (by decide) (fun c21 => ?_) (fun c21 => ?_)
            · refine aw_iload dX12_alike_105 rfl ?_
              refine aw_iload dX12_alike_107 rfl ?_
              refine aw_icmp_le (tgt := 117) dX12_alike_109 (by decide) (fun c109 => ?_) (fun c109 => ?_)
              · refine aw_iload dX12_alike_117 rfl ?_
                refine aw_istore dX12_alike_119 (by decide) ?_
                refine aw_inc (w := 1) dX12_alike_121 rfl (by decide) (by decide) ?_
                refine aw_goto (tgt := 6) dX12_alike_124 (by decide) ?_
                exact aw_loc [0, 1, 2, 3, 4, 5] (ls2 := [(0, .ref m), (1, .int p), (2, .int b), (3, .int n'), (4, .int x), (5, .int (nI (j + 1)))]) (by first | (rw [nI_succ]; rfl) | rfl) (ih (j + 1) x (by omega)  (mAlO_s heq heq2 (Or.inl ⟨c109, rfl⟩)))
              · refine aw_iload dX12_alike_112 rfl ?_
                refine aw_goto (tgt := 119) dX12_alike_114 (by decide) ?_
                refine aw_istore dX12_alike_119 (by decide) ?_
                refine aw_inc (w := 1) dX12_alike_121 rfl (by decide) (by decide) ?_
                refine aw_goto (tgt := 6) dX12_alike_124 (by decide) ?_
                exact aw_loc [0, 1, 2, 3, 4, 5] (ls2 := [(0, .ref m), (1, .int p), (2, .int b), (3, .int n'), (4, .int c), (5, .int (nI (j + 1)))]) (by first | (rw [nI_succ]; rfl) | rfl) (ih (j + 1) c (by omega)  (mAlO_s heq heq2 (Or.inr ⟨c109, rfl⟩)))
            · exact absurd ((nI_ltI (a := 5) (b := j2) (by omega) (by omega)).mpr (by omega)) c21
          | succ k2 ih2 =>
            intro j2 c hj2  heq2
            refine aw_iload dX12_alike_18 rfl ?_
            refine aw_iconst (v := 5) dX12_alike_20 (by decide) ?_
            refine aw_icmp_gt (tgt := 105) dX12_alike_21 (by decide) (fun c21 => ?_) (fun c21 => ?_)
            · exact absurd ((nI_ltI (a := 5) (b := j2) (by omega) (by omega)).mp c21) (by omega)
            · refine aw_iload dX12_alike_24 rfl ?_
              refine aw_iload_n dX12_alike_26 rfl ?_
              refine aw_aload_n dX12_alike_27 rfl ?_
              refine aw_get dX12_alike_28 flX12_16 (mo_c0 hM) rfl ?_
              refine aw_iload_n dX12_alike_31 rfl ?_
              refine aw_iald dX12_alike_32 (mo_c3 hM) hp ?_
              refine aw_aload_n dX12_alike_33 rfl ?_
              refine aw_get dX12_alike_34 flX12_81 (mo_c0 hM) rfl ?_
              refine aw_callS4p dX12_alike_37 cmX12_weightBy csX12_183 (Nat.le_of_ble_eq_true rfl) tX12_weightBy ?_
              refine aw_iload dX12_alike_40 rfl ?_
              refine aw_iload_n dX12_alike_42 rfl ?_
              refine aw_aload_n dX12_alike_43 rfl ?_
              refine aw_get dX12_alike_44 flX12_16 (mo_c0 hM) rfl ?_
              refine aw_iload_n dX12_alike_47 rfl ?_
              refine aw_iald dX12_alike_48 (mo_c3 hM) hp ?_
              refine aw_aload_n dX12_alike_49 rfl ?_
              refine aw_get dX12_alike_50 flX12_81 (mo_c0 hM) rfl ?_
              refine aw_callS4p dX12_alike_53 cmX12_weightBy csX12_183 (Nat.le_of_ble_eq_true rfl) tX12_weightBy ?_
              refine aw_icmp_ne (tgt := 63) dX12_alike_56 (by decide) (fun c56 => ?_) (fun c56 => ?_)
              · refine aw_iconst (v := 0) dX12_alike_63 (by decide) ?_
                refine aw_istore dX12_alike_64 (by decide) ?_
                refine aw_iload dX12_alike_66 rfl ?_
                refine aw_iload_n dX12_alike_68 rfl ?_
                refine aw_iload dX12_alike_69 rfl ?_
                refine aw_callS2p dX12_alike_71 cmX12_has csX12_199 (Nat.le_of_ble_eq_true rfl) tX12_has ?_
                refine aw_if_eq (tgt := 95) dX12_alike_74 (by decide) (fun c74 => ?_) (fun c74 => ?_)
                · refine aw_iconst (v := 0) dX12_alike_95 (by decide) ?_
                  refine aw_iadd dX12_alike_96 ?_
                  refine aw_istore dX12_alike_97 (by decide) ?_
                  refine aw_inc (w := 1) dX12_alike_99 rfl (by decide) (by decide) ?_
                  refine aw_goto (tgt := 18) dX12_alike_102 (by decide) ?_
                  exact aw_loc [0, 1, 2, 3, 4, 5, 6, 7] (ls2 := [(0, .ref m), (1, .int p), (2, .int b), (3, .int n'), (4, .int x), (5, .int (nI j)), (6, .int _), (7, .int (nI (j2 + 1)))]) (by first | (rw [nI_succ]; rfl) | rfl) (ih2 (j2 + 1) _ (by omega)  (heq2.trans ((if_neg c56).trans (if_pos c74))))
                · refine aw_iload_n dX12_alike_77 rfl ?_
                  refine aw_iload dX12_alike_78 rfl ?_
                  refine aw_callS2p dX12_alike_80 cmX12_has csX12_199 (Nat.le_of_ble_eq_true rfl) tX12_has ?_
                  refine aw_if_eq (tgt := 95) dX12_alike_83 (by decide) (fun c83 => ?_) (fun c83 => ?_)
                  · refine aw_iconst (v := 0) dX12_alike_95 (by decide) ?_
                    refine aw_iadd dX12_alike_96 ?_
                    refine aw_istore dX12_alike_97 (by decide) ?_
                    refine aw_inc (w := 1) dX12_alike_99 rfl (by decide) (by decide) ?_
                    refine aw_goto (tgt := 18) dX12_alike_102 (by decide) ?_
                    exact aw_loc [0, 1, 2, 3, 4, 5, 6, 7] (ls2 := [(0, .ref m), (1, .int p), (2, .int b), (3, .int n'), (4, .int x), (5, .int (nI j)), (6, .int _), (7, .int (nI (j2 + 1)))]) (by first | (rw [nI_succ]; rfl) | rfl) (ih2 (j2 + 1) _ (by omega)  (heq2.trans (((if_neg c56).trans (if_neg c74)).trans (if_pos c83))))
                  · refine aw_iload dX12_alike_86 rfl ?_
                    refine aw_if_eq (tgt := 95) dX12_alike_88 (by decide) (fun c88 => ?_) (fun c88 => ?_)
                    · refine aw_iconst (v := 0) dX12_alike_95 (by decide) ?_
                      refine aw_iadd dX12_alike_96 ?_
                      refine aw_istore dX12_alike_97 (by decide) ?_
                      refine aw_inc (w := 1) dX12_alike_99 rfl (by decide) (by decide) ?_
                      refine aw_goto (tgt := 18) dX12_alike_102 (by decide) ?_
                      exact aw_loc [0, 1, 2, 3, 4, 5, 6, 7] (ls2 := [(0, .ref m), (1, .int p), (2, .int b), (3, .int n'), (4, .int x), (5, .int (nI j)), (6, .int _), (7, .int (nI (j2 + 1)))]) (by first | (rw [nI_succ]; rfl) | rfl) (ih2 (j2 + 1) _ (by omega)  (heq2.trans ((((if_neg c56).trans (if_neg c74)).trans (if_neg c83)).trans (if_pos c88))))
                    · refine aw_iconst (v := 1) dX12_alike_91 (by decide) ?_
                      refine aw_goto (tgt := 96) dX12_alike_92 (by decide) ?_
                      refine aw_iadd dX12_alike_96 ?_
                      refine aw_istore dX12_alike_97 (by decide) ?_
                      refine aw_inc (w := 1) dX12_alike_99 rfl (by decide) (by decide) ?_
                      refine aw_goto (tgt := 18) dX12_alike_102 (by decide) ?_
                      exact aw_loc [0, 1, 2, 3, 4, 5, 6, 7] (ls2 := [(0, .ref m), (1, .int p), (2, .int b), (3, .int n'), (4, .int x), (5, .int (nI j)), (6, .int _), (7, .int (nI (j2 + 1)))]) (by first | (rw [nI_succ]; rfl) | rfl) (ih2 (j2 + 1) _ (by omega)  (heq2.trans ((((if_neg c56).trans (if_neg c74)).trans (if_neg c83)).trans (if_neg c88))))
              · refine aw_iconst (v := 1) dX12_alike_59 (by decide) ?_
                refine aw_goto (tgt := 64) dX12_alike_60 (by decide) ?_
                refine aw_istore dX12_alike_64 (by decide) ?_
                refine aw_iload dX12_alike_66 rfl ?_
                refine aw_iload_n dX12_alike_68 rfl ?_
                refine aw_iload dX12_alike_69 rfl ?_
                refine aw_callS2p dX12_alike_71 cmX12_has csX12_199 (Nat.le_of_ble_eq_true rfl) tX12_has ?_
                refine aw_if_eq (tgt := 95) dX12_alike_74 (by decide) (fun c74 => ?_) (fun c74 => ?_)
                · refine aw_iconst (v := 0) dX12_alike_95 (by decide) ?_
                  refine aw_iadd dX12_alike_96 ?_
                  refine aw_istore dX12_alike_97 (by decide) ?_
                  refine aw_inc (w := 1) dX12_alike_99 rfl (by decide) (by decide) ?_
                  refine aw_goto (tgt := 18) dX12_alike_102 (by decide) ?_
                  exact aw_loc [0, 1, 2, 3, 4, 5, 6, 7] (ls2 := [(0, .ref m), (1, .int p), (2, .int b), (3, .int n'), (4, .int x), (5, .int (nI j)), (6, .int _), (7, .int (nI (j2 + 1)))]) (by first | (rw [nI_succ]; rfl) | rfl) (ih2 (j2 + 1) _ (by omega)  (heq2.trans ((if_pos c56).trans (if_pos c74))))
                · refine aw_iload_n dX12_alike_77 rfl ?_
                  refine aw_iload dX12_alike_78 rfl ?_
                  refine aw_callS2p dX12_alike_80 cmX12_has csX12_199 (Nat.le_of_ble_eq_true rfl) tX12_has ?_
                  refine aw_if_eq (tgt := 95) dX12_alike_83 (by decide) (fun c83 => ?_) (fun c83 => ?_)
                  · refine aw_iconst (v := 0) dX12_alike_95 (by decide) ?_
                    refine aw_iadd dX12_alike_96 ?_
                    refine aw_istore dX12_alike_97 (by decide) ?_
                    refine aw_inc (w := 1) dX12_alike_99 rfl (by decide) (by decide) ?_
                    refine aw_goto (tgt := 18) dX12_alike_102 (by decide) ?_
                    exact aw_loc [0, 1, 2, 3, 4, 5, 6, 7] (ls2 := [(0, .ref m), (1, .int p), (2, .int b), (3, .int n'), (4, .int x), (5, .int (nI j)), (6, .int _), (7, .int (nI (j2 + 1)))]) (by first | (rw [nI_succ]; rfl) | rfl) (ih2 (j2 + 1) _ (by omega)  (heq2.trans (((if_pos c56).trans (if_neg c74)).trans (if_pos c83))))
                  · refine aw_iload dX12_alike_86 rfl ?_
                    refine aw_if_eq (tgt := 95) dX12_alike_88 (by decide) (fun c88 => ?_) (fun c88 => ?_)
                    · refine aw_iconst (v := 0) dX12_alike_95 (by decide) ?_
                      refine aw_iadd dX12_alike_96 ?_
                      refine aw_istore dX12_alike_97 (by decide) ?_
                      refine aw_inc (w := 1) dX12_alike_99 rfl (by decide) (by decide) ?_
                      refine aw_goto (tgt := 18) dX12_alike_102 (by decide) ?_
                      exact aw_loc [0, 1, 2, 3, 4, 5, 6, 7] (ls2 := [(0, .ref m), (1, .int p), (2, .int b), (3, .int n'), (4, .int x), (5, .int (nI j)), (6, .int _), (7, .int (nI (j2 + 1)))]) (by first | (rw [nI_succ]; rfl) | rfl) (ih2 (j2 + 1) _ (by omega)  (heq2.trans ((((if_pos c56).trans (if_neg c74)).trans (if_neg c83)).trans (if_pos c88))))
                    · refine aw_iconst (v := 1) dX12_alike_91 (by decide) ?_
                      refine aw_goto (tgt := 96) dX12_alike_92 (by decide) ?_
                      refine aw_iadd dX12_alike_96 ?_
                      refine aw_istore dX12_alike_97 (by decide) ?_
                      refine aw_inc (w := 1) dX12_alike_99 rfl (by decide) (by decide) ?_
                      refine aw_goto (tgt := 18) dX12_alike_102 (by decide) ?_
                      exact aw_loc [0, 1, 2, 3, 4, 5, 6, 7] (ls2 := [(0, .ref m), (1, .int p), (2, .int b), (3, .int n'), (4, .int x), (5, .int (nI j)), (6, .int _), (7, .int (nI (j2 + 1)))]) (by first | (rw [nI_succ]; rfl) | rfl) (ih2 (j2 + 1) _ (by omega)  (heq2.trans ((((if_pos c56).trans (if_neg c74)).trans (if_neg c83)).trans (if_neg c88))))
        exact aw_loc [0, 1, 2, 3, 4, 5, 6, 7] (ls2 := [(0, .ref m), (1, .int p), (2, .int b), (3, .int n'), (4, .int x), (5, .int (nI j)), (6, .int 0), (7, .int (nI 0))]) rfl (key2 (6) 0 0 (by first | rfl | omega)  rfl)
  exact aw_loc [0, 1, 2, 3, 4, 5] (ls2 := [(0, .ref m), (1, .int p), (2, .int b), (3, .int n'), (4, .int 0), (5, .int (nI 0))]) rfl (key (6) 0 0 (by first | rfl | omega)  rfl)
set_option maxHeartbeats 1000000 in
set_option maxRecDepth 100000 in
theorem tX12_next {l : Launch} {E : aw_E} {d n m : Nat} {h0 : ah} {S0 : sT} {L0 : Nat → Int64} (hM : is_mo h0 m S0 L0) {p : Int32} {M : Nat} (hm : S0 30 0 = nI M) (hm6 : M ≤ 6) {N : Nat} (hn : S0 30 3 = nI N) (hn6 : N ≤ 6) : am l E mX12_next (d + 4) 0 0 [.ref m, .int p] n h0 (mo_post n h0 m (mNext S0 L0 p)) := by
  refine am_of (by decide +kernel) (Nat.le_of_ble_eq_true rfl) ?_
  have hF : ah_off h0 h0 m 21 := ah_off.rf
  refine aw_aload_n dX12_next_0 rfl ?_
  refine aw_iload_n dX12_next_1 rfl ?_
  refine aw_callV1p dX12_next_2 cmX12_isOne cvX12_108 (mo_c0 hM) (Nat.le_of_ble_eq_true rfl) (tX12_isOne hM) ?_
  refine aw_if_ne (tgt := 13) dX12_next_5 (by decide) (fun c5 => ?_) (fun c5 => ?_)
  · refine aw_aload_n dX12_next_13 rfl ?_
    refine aw_iload_n dX12_next_14 rfl ?_
    refine aw_callV1p dX12_next_15 cmX12_kindsOf cvX12_231 (mo_c0 hM) (Nat.le_of_ble_eq_true rfl) (tX12_kindsOf hM (mIs_in c5 hm hm6) hn hn6) ?_
    refine aw_istore_n dX12_next_18 (by decide) ?_
    refine aw_iload_n dX12_next_19 rfl ?_
    refine aw_if_ne (tgt := 27) dX12_next_20 (by decide) (fun c20 => ?_) (fun c20 => ?_)
    · refine aw_iconst (v := 0) dX12_next_27 (by decide) ?_
      refine aw_istore_n dX12_next_28 (by decide) ?_
      refine aw_iconst (v := 1) dX12_next_29 (by decide) ?_
      refine aw_istore dX12_next_30 (by decide) ?_
      have key : ∀ (k j : Nat) (x : Int32), j + k = 21 → mNextL S0 p (mKinds S0 p) 20 1 0 = mNextL S0 p (mKinds S0 p) k j x → aw l E mX12_next (aw_Z E (mo_post n h0 m (mNext S0 L0 p))) (d + 4) 0 0 32 [(0, .ref m), (1, .int p), (2, .int (mKinds S0 p)), (3, .int x), (4, .int (nI j))] [] n h0 := by
        intro k
        induction k with
        | zero =>
          intro j x hj  heq
          refine aw_iload dX12_next_32 rfl ?_
          refine aw_bipush (v := 20) dX12_next_34 (by decide) ?_
          refine aw_icmp_gt (tgt := 74) dX12_next_36 (by decide) (fun c36 => ?_) (fun c36 => ?_)
          · refine aw_iload_n dX12_next_74 rfl ?_
            exact aw_iret dX12_next_75 rfl (mo_fin ((if_neg c5).trans (congrArg (fun z : Int32 => (z, S0, L0)) ((show mNextW S0 p (mKinds S0 p) = _ from if_neg c20).trans heq))) hM hF)
          · exact absurd ((nI_ltI (a := 20) (b := j) (by omega) (by omega)).mpr (by omega)) c36
        | succ k ih =>
          intro j x hj  heq
          refine aw_iload dX12_next_32 rfl ?_
          refine aw_bipush (v := 20) dX12_next_34 (by decide) ?_
          refine aw_icmp_gt (tgt := 74) dX12_next_36 (by decide) (fun c36 => ?_) (fun c36 => ?_)
          · exact absurd ((nI_ltI (a := 20) (b := j) (by omega) (by omega)).mp c36) (by omega)
          · refine aw_iload_n dX12_next_39 rfl ?_
            refine aw_if_eq (tgt := 74) dX12_next_40 (by decide) (fun c40 => ?_) (fun c40 => ?_)
            · refine aw_iload_n dX12_next_74 rfl ?_
              exact aw_iret dX12_next_75 rfl (mo_fin ((if_neg c5).trans (congrArg (fun z : Int32 => (z, S0, L0)) ((show mNextW S0 p (mKinds S0 p) = _ from if_neg c20).trans (heq.trans (if_pos c40))))) hM hF)
            · refine aw_aload_n dX12_next_43 rfl ?_
              refine aw_iload_n dX12_next_44 rfl ?_
              refine aw_iload_n dX12_next_45 rfl ?_
              refine aw_iload dX12_next_46 rfl ?_
              refine aw_callV3p dX12_next_48 cmX12_alike cvX12_234 (mo_c0 hM) (Nat.le_of_ble_eq_true rfl) (tX12_alike hM (mIs_in c5 hm hm6)) ?_
              refine aw_aload_n dX12_next_51 rfl ?_
              refine aw_iload_n dX12_next_52 rfl ?_
              refine aw_iload_n dX12_next_53 rfl ?_
              refine aw_iload_n dX12_next_54 rfl ?_
              refine aw_callV3p dX12_next_55 cmX12_alike cvX12_234 (mo_c0 hM) (Nat.le_of_ble_eq_true rfl) (tX12_alike hM (mIs_in c5 hm hm6)) ?_
              refine aw_icmp_ge (tgt := 66) dX12_next_58 (by decide) (fun c58 => ?_) (fun c58 => ?_)
              · refine aw_iload_n dX12_next_66 rfl ?_
                refine aw_istore_n dX12_next_67 (by decide) ?_
                refine aw_inc (w := 1) dX12_next_68 rfl (by decide) (by decide) ?_
                refine aw_goto (tgt := 32) dX12_next_71 (by decide) ?_
                exact aw_loc [0, 1, 2, 3, 4] (ls2 := [(0, .ref m), (1, .int p), (2, .int (mKinds S0 p)), (3, .int x), (4, .int (nI (j + 1)))]) (by first | (rw [nI_succ]; rfl) | rfl) (ih (j + 1) x (by omega)  (heq.trans ((if_neg c40).trans (if_pos c58))))
              · refine aw_iload dX12_next_61 rfl ?_
                refine aw_goto (tgt := 67) dX12_next_63 (by decide) ?_
                refine aw_istore_n dX12_next_67 (by decide) ?_
                refine aw_inc (w := 1) dX12_next_68 rfl (by decide) (by decide) ?_
                refine aw_goto (tgt := 32) dX12_next_71 (by decide) ?_
                exact aw_loc [0, 1, 2, 3, 4] (ls2 := [(0, .ref m), (1, .int p), (2, .int (mKinds S0 p)), (3, .int (nI j)), (4, .int (nI (j + 1)))]) (by first | (rw [nI_succ]; rfl) | rfl) (ih (j + 1) (nI j) (by omega)  (heq.trans ((if_neg c40).trans (if_neg c58))))
      exact aw_loc [0, 1, 2, 3, 4] (ls2 := [(0, .ref m), (1, .int p), (2, .int (mKinds S0 p)), (3, .int 0), (4, .int (nI 1))]) rfl (key 20 1 0 (by first | rfl | omega)  rfl)
    · refine aw_iconst (v := -1) dX12_next_23 (by decide) ?_
      refine aw_goto (tgt := 28) dX12_next_24 (by decide) ?_
      refine aw_istore_n dX12_next_28 (by decide) ?_
      refine aw_iconst (v := 1) dX12_next_29 (by decide) ?_
      refine aw_istore dX12_next_30 (by decide) ?_
      have key : ∀ (k j : Nat) (x : Int32), j + k = 21 → mNextL S0 p (mKinds S0 p) 20 1 (-1) = mNextL S0 p (mKinds S0 p) k j x → aw l E mX12_next (aw_Z E (mo_post n h0 m (mNext S0 L0 p))) (d + 4) 0 0 32 [(0, .ref m), (1, .int p), (2, .int (mKinds S0 p)), (3, .int x), (4, .int (nI j))] [] n h0 := by
        intro k
        induction k with
        | zero =>
          intro j x hj  heq
          refine aw_iload dX12_next_32 rfl ?_
          refine aw_bipush (v := 20) dX12_next_34 (by decide) ?_
          refine aw_icmp_gt (tgt := 74) dX12_next_36 (by decide) (fun c36 => ?_) (fun c36 => ?_)
          · refine aw_iload_n dX12_next_74 rfl ?_
            exact aw_iret dX12_next_75 rfl (mo_fin ((if_neg c5).trans (congrArg (fun z : Int32 => (z, S0, L0)) ((show mNextW S0 p (mKinds S0 p) = _ from if_pos c20).trans heq))) hM hF)
          · exact absurd ((nI_ltI (a := 20) (b := j) (by omega) (by omega)).mpr (by omega)) c36
        | succ k ih =>
          intro j x hj  heq
          refine aw_iload dX12_next_32 rfl ?_
          refine aw_bipush (v := 20) dX12_next_34 (by decide) ?_
          refine aw_icmp_gt (tgt := 74) dX12_next_36 (by decide) (fun c36 => ?_) (fun c36 => ?_)
          · exact absurd ((nI_ltI (a := 20) (b := j) (by omega) (by omega)).mp c36) (by omega)
          · refine aw_iload_n dX12_next_39 rfl ?_
            refine aw_if_eq (tgt := 74) dX12_next_40 (by decide) (fun c40 => ?_) (fun c40 => ?_)
            · refine aw_iload_n dX12_next_74 rfl ?_
              exact aw_iret dX12_next_75 rfl (mo_fin ((if_neg c5).trans (congrArg (fun z : Int32 => (z, S0, L0)) ((show mNextW S0 p (mKinds S0 p) = _ from if_pos c20).trans (heq.trans (if_pos c40))))) hM hF)
            · refine aw_aload_n dX12_next_43 rfl ?_
              refine aw_iload_n dX12_next_44 rfl ?_
              refine aw_iload_n dX12_next_45 rfl ?_
              refine aw_iload dX12_next_46 rfl ?_
              refine aw_callV3p dX12_next_48 cmX12_alike cvX12_234 (mo_c0 hM) (Nat.le_of_ble_eq_true rfl) (tX12_alike hM (mIs_in c5 hm hm6)) ?_
              refine aw_aload_n dX12_next_51 rfl ?_
              refine aw_iload_n dX12_next_52 rfl ?_
              refine aw_iload_n dX12_next_53 rfl ?_
              refine aw_iload_n dX12_next_54 rfl ?_
              refine aw_callV3p dX12_next_55 cmX12_alike cvX12_234 (mo_c0 hM) (Nat.le_of_ble_eq_true rfl) (tX12_alike hM (mIs_in c5 hm hm6)) ?_
              refine aw_icmp_ge (tgt := 66) dX12_next_58 (by decide) (fun c58 => ?_) (fun c58 => ?_)
              · refine aw_iload_n dX12_next_66 rfl ?_
                refine aw_istore_n dX12_next_67 (by decide) ?_
                refine aw_inc (w := 1) dX12_next_68 rfl (by decide) (by decide) ?_
                refine aw_goto (tgt := 32) dX12_next_71 (by decide) ?_
                exact aw_loc [0, 1, 2, 3, 4] (ls2 := [(0, .ref m), (1, .int p), (2, .int (mKinds S0 p)), (3, .int x), (4, .int (nI (j + 1)))]) (by first | (rw [nI_succ]; rfl) | rfl) (ih (j + 1) x (by omega)  (heq.trans ((if_neg c40).trans (if_pos c58))))
              · refine aw_iload dX12_next_61 rfl ?_
                refine aw_goto (tgt := 67) dX12_next_63 (by decide) ?_
                refine aw_istore_n dX12_next_67 (by decide) ?_
                refine aw_inc (w := 1) dX12_next_68 rfl (by decide) (by decide) ?_
                refine aw_goto (tgt := 32) dX12_next_71 (by decide) ?_
                exact aw_loc [0, 1, 2, 3, 4] (ls2 := [(0, .ref m), (1, .int p), (2, .int (mKinds S0 p)), (3, .int (nI j)), (4, .int (nI (j + 1)))]) (by first | (rw [nI_succ]; rfl) | rfl) (ih (j + 1) (nI j) (by omega)  (heq.trans ((if_neg c40).trans (if_neg c58))))
      exact aw_loc [0, 1, 2, 3, 4] (ls2 := [(0, .ref m), (1, .int p), (2, .int (mKinds S0 p)), (3, .int (-1)), (4, .int (nI 1))]) rfl (key 20 1 (-1) (by first | rfl | omega)  rfl)
  · refine aw_aload_n dX12_next_8 rfl ?_
    refine aw_callV0e dX12_next_9 cmX12_bad cvX12_97 (mo_c0 hM) (Nat.le_of_ble_eq_true rfl) (tX12_bad hM) (fun r n' h' hq => ?_)
    obtain ⟨rfl, rfl, hM, ho⟩ := hq
    have hF := hF.trans ho
    exact aw_iret dX12_next_12 rfl (mo_fin (if_pos c5) hM hF)
set_option maxHeartbeats 1000000 in
set_option maxRecDepth 100000 in
theorem tX12_gets {l : Launch} {E : aw_E} {d n m : Nat} {h : ah} {S : sT} {L : Nat → Int64} (hM : is_mo h m S L) {p l' o' : Int32} (hp : vp_in p 6) : am l E mX12_gets (d + 4) 0 0 [.ref m, .int p, .int l', .int o'] n h (aw_eq n h (some (.int (mGets S p l' o')))) := by
  refine am_of (by decide +kernel) (Nat.le_of_ble_eq_true rfl) ?_
  refine aw_aload_n dX12_gets_0 rfl ?_
  refine aw_get dX12_gets_1 flX12_13 (mo_c0 hM) rfl ?_
  refine aw_iload_n dX12_gets_4 rfl ?_
  refine aw_iald dX12_gets_5 (mo_c2 hM) hp ?_
  refine aw_aload_n dX12_gets_6 rfl ?_
  refine aw_get dX12_gets_7 flX12_19 (mo_c0 hM) rfl ?_
  refine aw_iload_n dX12_gets_10 rfl ?_
  refine aw_iald dX12_gets_11 (mo_c4 hM) hp ?_
  refine aw_aload_n dX12_gets_12 rfl ?_
  refine aw_iload_n dX12_gets_13 rfl ?_
  refine aw_iconst (v := 2) dX12_gets_14 (by decide) ?_
  refine aw_callV2p dX12_gets_15 cmX12_honestBehind cvX12_196 (mo_c0 hM) (Nat.le_of_ble_eq_true rfl) (tX12_honestBehind hM hp) ?_
  refine aw_aload_n dX12_gets_18 rfl ?_
  refine aw_get dX12_gets_19 flX12_81 (mo_c0 hM) rfl ?_
  refine aw_callS4p dX12_gets_22 cmX12_weightBy csX12_183 (Nat.le_of_ble_eq_true rfl) tX12_weightBy ?_
  refine aw_istore dX12_gets_25 (by decide) ?_
  refine aw_iload_n dX12_gets_27 rfl ?_
  refine aw_if_eq (tgt := 43) dX12_gets_28 (by decide) (fun c28 => ?_) (fun c28 => ?_)
  · refine aw_aload_n dX12_gets_43 rfl ?_
    refine aw_iload_n dX12_gets_44 rfl ?_
    refine aw_callV1p dX12_gets_45 cmX12_ownWeight cvX12_215 (mo_c0 hM) (Nat.le_of_ble_eq_true rfl) (tX12_ownWeight hM hp) ?_
    refine aw_iload dX12_gets_48 rfl ?_
    refine aw_isub dX12_gets_50 ?_
    refine aw_bipush (v := 10) dX12_gets_51 (by decide) ?_
    refine aw_idiv dX12_gets_53 (by decide) ?_
    exact aw_iret dX12_gets_54 rfl (⟨congrArg (fun z => some (Value.int z)) (if_pos c28), rfl, rfl⟩)
  · refine aw_iload_n dX12_gets_31 rfl ?_
    refine aw_if_eq (tgt := 39) dX12_gets_32 (by decide) (fun c32 => ?_) (fun c32 => ?_)
    · refine aw_iconst (v := 3) dX12_gets_39 (by decide) ?_
      refine aw_goto (tgt := 54) dX12_gets_40 (by decide) ?_
      exact aw_iret dX12_gets_54 rfl (⟨congrArg (fun z => some (Value.int z)) ((if_neg c28).trans (if_pos c32)), rfl, rfl⟩)
    · refine aw_iconst (v := 1) dX12_gets_35 (by decide) ?_
      refine aw_goto (tgt := 54) dX12_gets_36 (by decide) ?_
      exact aw_iret dX12_gets_54 rfl (⟨congrArg (fun z => some (Value.int z)) ((if_neg c28).trans (if_neg c32)), rfl, rfl⟩)
set_option maxHeartbeats 1000000 in
set_option maxRecDepth 100000 in
theorem tX12_two {l : Launch} {E : aw_E} {d n m : Nat} {h0 : ah} {S0 : sT} {L0 : Nat → Int64} (hM : is_mo h0 m S0 L0) {a b : Int32} {M : Nat} (hm : S0 30 0 = nI M) (hm6 : M ≤ 6) : am l E mX12_two (d + 5) 0 0 [.ref m, .int a, .int b] n h0 (mo_post n h0 m (mTwo S0 L0 a b)) := by
  refine am_of (by decide +kernel) (Nat.le_of_ble_eq_true rfl) ?_
  have hF : ah_off h0 h0 m 21 := ah_off.rf
  refine aw_aload_n dX12_two_0 rfl ?_
  refine aw_iload_n dX12_two_1 rfl ?_
  refine aw_callV1p dX12_two_2 cmX12_isOne cvX12_108 (mo_c0 hM) (Nat.le_of_ble_eq_true rfl) (tX12_isOne hM) ?_
  refine aw_if_eq (tgt := 21) dX12_two_5 (by decide) (fun c5 => ?_) (fun c5 => ?_)
  · refine aw_aload_n dX12_two_21 rfl ?_
    refine aw_callV0e dX12_two_22 cmX12_bad cvX12_97 (mo_c0 hM) (Nat.le_of_ble_eq_true rfl) (tX12_bad hM) (fun r n' h' hq => ?_)
    obtain ⟨rfl, rfl, hM, ho⟩ := hq
    have hF := hF.trans ho
    exact aw_iret dX12_two_25 rfl (mo_fin (if_pos c5) hM hF)
  · refine aw_aload_n dX12_two_8 rfl ?_
    refine aw_iload_n dX12_two_9 rfl ?_
    refine aw_callV1p dX12_two_10 cmX12_isOne cvX12_108 (mo_c0 hM) (Nat.le_of_ble_eq_true rfl) (tX12_isOne hM) ?_
    refine aw_if_eq (tgt := 21) dX12_two_13 (by decide) (fun c13 => ?_) (fun c13 => ?_)
    · refine aw_aload_n dX12_two_21 rfl ?_
      refine aw_callV0e dX12_two_22 cmX12_bad cvX12_97 (mo_c0 hM) (Nat.le_of_ble_eq_true rfl) (tX12_bad hM) (fun r n' h' hq => ?_)
      obtain ⟨rfl, rfl, hM, ho⟩ := hq
      have hF := hF.trans ho
      exact aw_iret dX12_two_25 rfl (mo_fin ((if_neg c5).trans (if_pos c13)) hM hF)
    · refine aw_iload_n dX12_two_16 rfl ?_
      refine aw_iload_n dX12_two_17 rfl ?_
      refine aw_icmp_ne (tgt := 26) dX12_two_18 (by decide) (fun c18 => ?_) (fun c18 => ?_)
      · refine aw_iconst (v := 0) dX12_two_26 (by decide) ?_
        refine aw_istore_n dX12_two_27 (by decide) ?_
        refine aw_iconst (v := 0) dX12_two_28 (by decide) ?_
        refine aw_istore dX12_two_29 (by decide) ?_
        have key : ∀ (k j : Nat) (r : Int32), j + k = 4 → mTwL S0 a b 4 0 0 = mTwL S0 a b k j r → aw l E mX12_two (aw_Z E (mo_post n h0 m (mTwo S0 L0 a b))) (d + 5) 0 0 31 [(0, .ref m), (1, .int a), (2, .int b), (3, .int r), (4, .int (nI j))] [] n h0 := by
          intro k
          induction k with
          | zero =>
            intro j r hj  heq
            refine aw_iload dX12_two_31 rfl ?_
            refine aw_iconst (v := 4) dX12_two_33 (by decide) ?_
            refine aw_icmp_ge (tgt := 152) dX12_two_34 (by decide) (fun c34 => ?_) (fun c34 => ?_)
            · refine aw_iload_n dX12_two_152 rfl ?_
              exact aw_iret dX12_two_153 rfl (mo_fin ((if_neg c5).trans ((if_neg c13).trans ((if_neg c18).trans (congrArg (fun z : Int32 => (z, S0, L0)) heq)))) hM hF)
            · exact absurd ((nI_leI (a := 4) (b := j) (by omega) (by omega)).mpr (by omega)) c34
          | succ k ih =>
            intro j r hj  heq
            refine aw_iload dX12_two_31 rfl ?_
            refine aw_iconst (v := 4) dX12_two_33 (by decide) ?_
            refine aw_icmp_ge (tgt := 152) dX12_two_34 (by decide) (fun c34 => ?_) (fun c34 => ?_)
            · exact absurd ((nI_leI (a := 4) (b := j) (by omega) (by omega)).mp c34) (by omega)
            · refine aw_iload dX12_two_37 rfl ?_
              refine aw_iconst (v := 2) dX12_two_39 (by decide) ?_
              refine aw_irem dX12_two_40 (by decide) ?_
              refine aw_iconst (v := 1) dX12_two_41 (by decide) ?_
              refine aw_icmp_ne (tgt := 49) dX12_two_42 (by decide) (fun c42 => ?_) (fun c42 => ?_)
              · refine aw_iconst (v := 0) dX12_two_49 (by decide) ?_
                refine aw_istore dX12_two_50 (by decide) ?_
                refine aw_iload dX12_two_52 rfl ?_
                refine aw_iconst (v := 1) dX12_two_54 (by decide) ?_
                refine aw_icmp_le (tgt := 62) dX12_two_55 (by decide) (fun c55 => ?_) (fun c55 => ?_)
                · refine aw_iconst (v := 0) dX12_two_62 (by decide) ?_
                  refine aw_istore dX12_two_63 (by decide) ?_
                  refine aw_aload_n dX12_two_65 rfl ?_
                  refine aw_iload_n dX12_two_66 rfl ?_
                  refine aw_iload dX12_two_67 rfl ?_
                  refine aw_iload dX12_two_69 rfl ?_
                  refine aw_callV3p dX12_two_71 cmX12_gets cvX12_238 (mo_c0 hM) (Nat.le_of_ble_eq_true rfl) (tX12_gets hM (mIs_in c5 hm hm6)) ?_
                  refine aw_aload_n dX12_two_74 rfl ?_
                  refine aw_iload_n dX12_two_75 rfl ?_
                  refine aw_iload dX12_two_76 rfl ?_
                  refine aw_if_ne (tgt := 85) dX12_two_78 (by decide) (fun c78 => ?_) (fun c78 => ?_)
                  · refine aw_iconst (v := 0) dX12_two_85 (by decide) ?_
                    refine aw_iload dX12_two_86 rfl ?_
                    refine aw_callV3p dX12_two_88 cmX12_gets cvX12_238 (mo_c0 hM) (Nat.le_of_ble_eq_true rfl) (tX12_gets hM (mIs_in c5 hm hm6)) ?_
                    refine aw_icmp_lt (tgt := 127) dX12_two_91 (by decide) (fun c91 => ?_) (fun c91 => ?_)
                    · refine aw_iconst (v := 0) dX12_two_127 (by decide) ?_
                      refine aw_istore dX12_two_128 (by decide) ?_
                      refine aw_iload_n dX12_two_130 rfl ?_
                      refine aw_iload dX12_two_131 rfl ?_
                      refine aw_if_eq (tgt := 143) dX12_two_133 (by decide) (fun c133 => ?_) (fun c133 => ?_)
                      · refine aw_iconst (v := 0) dX12_two_143 (by decide) ?_
                        refine aw_ior dX12_two_144 ?_
                        refine aw_istore_n dX12_two_145 (by decide) ?_
                        refine aw_inc (w := 1) dX12_two_146 rfl (by decide) (by decide) ?_
                        refine aw_goto (tgt := 31) dX12_two_149 (by decide) ?_
                        exact aw_loc [0, 1, 2, 3, 4] (ls2 := [(0, .ref m), (1, .int a), (2, .int b), (3, .int _), (4, .int (nI (j + 1)))]) (by first | (rw [nI_succ]; rfl) | rfl) (ih (j + 1) _ (by omega)  (heq.trans (congrArg (mTwL S0 a b k (j + 1)) (((((if_neg c42).trans (if_pos c55)).trans (if_neg c78)).trans (if_pos c91)).trans (if_pos c133)))))
                      · refine aw_iconst (v := 1) dX12_two_136 (by decide) ?_
                        refine aw_iload dX12_two_137 rfl ?_
                        refine aw_ishl dX12_two_139 ?_
                        refine aw_goto (tgt := 144) dX12_two_140 (by decide) ?_
                        refine aw_ior dX12_two_144 ?_
                        refine aw_istore_n dX12_two_145 (by decide) ?_
                        refine aw_inc (w := 1) dX12_two_146 rfl (by decide) (by decide) ?_
                        refine aw_goto (tgt := 31) dX12_two_149 (by decide) ?_
                        exact aw_loc [0, 1, 2, 3, 4] (ls2 := [(0, .ref m), (1, .int a), (2, .int b), (3, .int _), (4, .int (nI (j + 1)))]) (by first | (rw [nI_succ]; rfl) | rfl) (ih (j + 1) _ (by omega)  (heq.trans (congrArg (mTwL S0 a b k (j + 1)) (((((if_neg c42).trans (if_pos c55)).trans (if_neg c78)).trans (if_pos c91)).trans (if_neg c133)))))
                    · refine aw_aload_n dX12_two_94 rfl ?_
                      refine aw_iload_n dX12_two_95 rfl ?_
                      refine aw_iload dX12_two_96 rfl ?_
                      refine aw_iload dX12_two_98 rfl ?_
                      refine aw_callV3p dX12_two_100 cmX12_gets cvX12_238 (mo_c0 hM) (Nat.le_of_ble_eq_true rfl) (tX12_gets hM (mIs_in c13 hm hm6)) ?_
                      refine aw_aload_n dX12_two_103 rfl ?_
                      refine aw_iload_n dX12_two_104 rfl ?_
                      refine aw_iload dX12_two_105 rfl ?_
                      refine aw_if_ne (tgt := 114) dX12_two_107 (by decide) (fun c107 => ?_) (fun c107 => ?_)
                      · refine aw_iconst (v := 0) dX12_two_114 (by decide) ?_
                        refine aw_iload dX12_two_115 rfl ?_
                        refine aw_callV3p dX12_two_117 cmX12_gets cvX12_238 (mo_c0 hM) (Nat.le_of_ble_eq_true rfl) (tX12_gets hM (mIs_in c13 hm hm6)) ?_
                        refine aw_icmp_lt (tgt := 127) dX12_two_120 (by decide) (fun c120 => ?_) (fun c120 => ?_)
                        · refine aw_iconst (v := 0) dX12_two_127 (by decide) ?_
                          refine aw_istore dX12_two_128 (by decide) ?_
                          refine aw_iload_n dX12_two_130 rfl ?_
                          refine aw_iload dX12_two_131 rfl ?_
                          refine aw_if_eq (tgt := 143) dX12_two_133 (by decide) (fun c133 => ?_) (fun c133 => ?_)
                          · refine aw_iconst (v := 0) dX12_two_143 (by decide) ?_
                            refine aw_ior dX12_two_144 ?_
                            refine aw_istore_n dX12_two_145 (by decide) ?_
                            refine aw_inc (w := 1) dX12_two_146 rfl (by decide) (by decide) ?_
                            refine aw_goto (tgt := 31) dX12_two_149 (by decide) ?_
                            exact aw_loc [0, 1, 2, 3, 4] (ls2 := [(0, .ref m), (1, .int a), (2, .int b), (3, .int _), (4, .int (nI (j + 1)))]) (by first | (rw [nI_succ]; rfl) | rfl) (ih (j + 1) _ (by omega)  (heq.trans (congrArg (mTwL S0 a b k (j + 1)) (((((((if_neg c42).trans (if_pos c55)).trans (if_neg c78)).trans (if_neg c91)).trans (if_neg c107)).trans (if_pos c120)).trans (if_pos c133)))))
                          · refine aw_iconst (v := 1) dX12_two_136 (by decide) ?_
                            refine aw_iload dX12_two_137 rfl ?_
                            refine aw_ishl dX12_two_139 ?_
                            refine aw_goto (tgt := 144) dX12_two_140 (by decide) ?_
                            refine aw_ior dX12_two_144 ?_
                            refine aw_istore_n dX12_two_145 (by decide) ?_
                            refine aw_inc (w := 1) dX12_two_146 rfl (by decide) (by decide) ?_
                            refine aw_goto (tgt := 31) dX12_two_149 (by decide) ?_
                            exact aw_loc [0, 1, 2, 3, 4] (ls2 := [(0, .ref m), (1, .int a), (2, .int b), (3, .int _), (4, .int (nI (j + 1)))]) (by first | (rw [nI_succ]; rfl) | rfl) (ih (j + 1) _ (by omega)  (heq.trans (congrArg (mTwL S0 a b k (j + 1)) (((((((if_neg c42).trans (if_pos c55)).trans (if_neg c78)).trans (if_neg c91)).trans (if_neg c107)).trans (if_pos c120)).trans (if_neg c133)))))
                        · refine aw_iconst (v := 1) dX12_two_123 (by decide) ?_
                          refine aw_goto (tgt := 128) dX12_two_124 (by decide) ?_
                          refine aw_istore dX12_two_128 (by decide) ?_
                          refine aw_iload_n dX12_two_130 rfl ?_
                          refine aw_iload dX12_two_131 rfl ?_
                          refine aw_if_eq (tgt := 143) dX12_two_133 (by decide) (fun c133 => ?_) (fun c133 => ?_)
                          · refine aw_iconst (v := 0) dX12_two_143 (by decide) ?_
                            refine aw_ior dX12_two_144 ?_
                            refine aw_istore_n dX12_two_145 (by decide) ?_
                            refine aw_inc (w := 1) dX12_two_146 rfl (by decide) (by decide) ?_
                            refine aw_goto (tgt := 31) dX12_two_149 (by decide) ?_
                            exact aw_loc [0, 1, 2, 3, 4] (ls2 := [(0, .ref m), (1, .int a), (2, .int b), (3, .int _), (4, .int (nI (j + 1)))]) (by first | (rw [nI_succ]; rfl) | rfl) (ih (j + 1) _ (by omega)  (heq.trans (congrArg (mTwL S0 a b k (j + 1)) (((((((if_neg c42).trans (if_pos c55)).trans (if_neg c78)).trans (if_neg c91)).trans (if_neg c107)).trans (if_neg c120)).trans (if_pos c133)))))
                          · refine aw_iconst (v := 1) dX12_two_136 (by decide) ?_
                            refine aw_iload dX12_two_137 rfl ?_
                            refine aw_ishl dX12_two_139 ?_
                            refine aw_goto (tgt := 144) dX12_two_140 (by decide) ?_
                            refine aw_ior dX12_two_144 ?_
                            refine aw_istore_n dX12_two_145 (by decide) ?_
                            refine aw_inc (w := 1) dX12_two_146 rfl (by decide) (by decide) ?_
                            refine aw_goto (tgt := 31) dX12_two_149 (by decide) ?_
                            exact aw_loc [0, 1, 2, 3, 4] (ls2 := [(0, .ref m), (1, .int a), (2, .int b), (3, .int _), (4, .int (nI (j + 1)))]) (by first | (rw [nI_succ]; rfl) | rfl) (ih (j + 1) _ (by omega)  (heq.trans (congrArg (mTwL S0 a b k (j + 1)) (((((((if_neg c42).trans (if_pos c55)).trans (if_neg c78)).trans (if_neg c91)).trans (if_neg c107)).trans (if_neg c120)).trans (if_neg c133)))))
                      · refine aw_iconst (v := 1) dX12_two_110 (by decide) ?_
                        refine aw_goto (tgt := 115) dX12_two_111 (by decide) ?_
                        refine aw_iload dX12_two_115 rfl ?_
                        refine aw_callV3p dX12_two_117 cmX12_gets cvX12_238 (mo_c0 hM) (Nat.le_of_ble_eq_true rfl) (tX12_gets hM (mIs_in c13 hm hm6)) ?_
                        refine aw_icmp_lt (tgt := 127) dX12_two_120 (by decide) (fun c120 => ?_) (fun c120 => ?_)
                        · refine aw_iconst (v := 0) dX12_two_127 (by decide) ?_
                          refine aw_istore dX12_two_128 (by decide) ?_
                          refine aw_iload_n dX12_two_130 rfl ?_
                          refine aw_iload dX12_two_131 rfl ?_
                          refine aw_if_eq (tgt := 143) dX12_two_133 (by decide) (fun c133 => ?_) (fun c133 => ?_)
                          · refine aw_iconst (v := 0) dX12_two_143 (by decide) ?_
                            refine aw_ior dX12_two_144 ?_
                            refine aw_istore_n dX12_two_145 (by decide) ?_
                            refine aw_inc (w := 1) dX12_two_146 rfl (by decide) (by decide) ?_
                            refine aw_goto (tgt := 31) dX12_two_149 (by decide) ?_
                            exact aw_loc [0, 1, 2, 3, 4] (ls2 := [(0, .ref m), (1, .int a), (2, .int b), (3, .int _), (4, .int (nI (j + 1)))]) (by first | (rw [nI_succ]; rfl) | rfl) (ih (j + 1) _ (by omega)  (heq.trans (congrArg (mTwL S0 a b k (j + 1)) (((((((if_neg c42).trans (if_pos c55)).trans (if_neg c78)).trans (if_neg c91)).trans (if_pos c107)).trans (if_pos c120)).trans (if_pos c133)))))
                          · refine aw_iconst (v := 1) dX12_two_136 (by decide) ?_
                            refine aw_iload dX12_two_137 rfl ?_
                            refine aw_ishl dX12_two_139 ?_
                            refine aw_goto (tgt := 144) dX12_two_140 (by decide) ?_
                            refine aw_ior dX12_two_144 ?_
                            refine aw_istore_n dX12_two_145 (by decide) ?_
                            refine aw_inc (w := 1) dX12_two_146 rfl (by decide) (by decide) ?_
                            refine aw_goto (tgt := 31) dX12_two_149 (by decide) ?_
                            exact aw_loc [0, 1, 2, 3, 4] (ls2 := [(0, .ref m), (1, .int a), (2, .int b), (3, .int _), (4, .int (nI (j + 1)))]) (by first | (rw [nI_succ]; rfl) | rfl) (ih (j + 1) _ (by omega)  (heq.trans (congrArg (mTwL S0 a b k (j + 1)) (((((((if_neg c42).trans (if_pos c55)).trans (if_neg c78)).trans (if_neg c91)).trans (if_pos c107)).trans (if_pos c120)).trans (if_neg c133)))))
                        · refine aw_iconst (v := 1) dX12_two_123 (by decide) ?_
                          refine aw_goto (tgt := 128) dX12_two_124 (by decide) ?_
                          refine aw_istore dX12_two_128 (by decide) ?_
                          refine aw_iload_n dX12_two_130 rfl ?_
                          refine aw_iload dX12_two_131 rfl ?_
                          refine aw_if_eq (tgt := 143) dX12_two_133 (by decide) (fun c133 => ?_) (fun c133 => ?_)
                          · refine aw_iconst (v := 0) dX12_two_143 (by decide) ?_
                            refine aw_ior dX12_two_144 ?_
                            refine aw_istore_n dX12_two_145 (by decide) ?_
                            refine aw_inc (w := 1) dX12_two_146 rfl (by decide) (by decide) ?_
                            refine aw_goto (tgt := 31) dX12_two_149 (by decide) ?_
                            exact aw_loc [0, 1, 2, 3, 4] (ls2 := [(0, .ref m), (1, .int a), (2, .int b), (3, .int _), (4, .int (nI (j + 1)))]) (by first | (rw [nI_succ]; rfl) | rfl) (ih (j + 1) _ (by omega)  (heq.trans (congrArg (mTwL S0 a b k (j + 1)) (((((((if_neg c42).trans (if_pos c55)).trans (if_neg c78)).trans (if_neg c91)).trans (if_pos c107)).trans (if_neg c120)).trans (if_pos c133)))))
                          · refine aw_iconst (v := 1) dX12_two_136 (by decide) ?_
                            refine aw_iload dX12_two_137 rfl ?_
                            refine aw_ishl dX12_two_139 ?_
                            refine aw_goto (tgt := 144) dX12_two_140 (by decide) ?_
                            refine aw_ior dX12_two_144 ?_
                            refine aw_istore_n dX12_two_145 (by decide) ?_
                            refine aw_inc (w := 1) dX12_two_146 rfl (by decide) (by decide) ?_
                            refine aw_goto (tgt := 31) dX12_two_149 (by decide) ?_
                            exact aw_loc [0, 1, 2, 3, 4] (ls2 := [(0, .ref m), (1, .int a), (2, .int b), (3, .int _), (4, .int (nI (j + 1)))]) (by first | (rw [nI_succ]; rfl) | rfl) (ih (j + 1) _ (by omega)  (heq.trans (congrArg (mTwL S0 a b k (j + 1)) (((((((if_neg c42).trans (if_pos c55)).trans (if_neg c78)).trans (if_neg c91)).trans (if_pos c107)).trans (if_neg c120)).trans (if_neg c133)))))
                  · refine aw_iconst (v := 1) dX12_two_81 (by decide) ?_
                    refine aw_goto (tgt := 86) dX12_two_82 (by decide) ?_
                    refine aw_iload dX12_two_86 rfl ?_
                    refine aw_callV3p dX12_two_88 cmX12_gets cvX12_238 (mo_c0 hM) (Nat.le_of_ble_eq_true rfl) (tX12_gets hM (mIs_in c5 hm hm6)) ?_
                    refine aw_icmp_lt (tgt := 127) dX12_two_91 (by decide) (fun c91 => ?_) (fun c91 => ?_)
                    · refine aw_iconst (v := 0) dX12_two_127 (by decide) ?_
                      refine aw_istore dX12_two_128 (by decide) ?_
                      refine aw_iload_n dX12_two_130 rfl ?_
                      refine aw_iload dX12_two_131 rfl ?_
                      refine aw_if_eq (tgt := 143) dX12_two_133 (by decide) (fun c133 => ?_) (fun c133 => ?_)
                      · refine aw_iconst (v := 0) dX12_two_143 (by decide) ?_
                        refine aw_ior dX12_two_144 ?_
                        refine aw_istore_n dX12_two_145 (by decide) ?_
                        refine aw_inc (w := 1) dX12_two_146 rfl (by decide) (by decide) ?_
                        refine aw_goto (tgt := 31) dX12_two_149 (by decide) ?_
                        exact aw_loc [0, 1, 2, 3, 4] (ls2 := [(0, .ref m), (1, .int a), (2, .int b), (3, .int _), (4, .int (nI (j + 1)))]) (by first | (rw [nI_succ]; rfl) | rfl) (ih (j + 1) _ (by omega)  (heq.trans (congrArg (mTwL S0 a b k (j + 1)) (((((if_neg c42).trans (if_pos c55)).trans (if_pos c78)).trans (if_pos c91)).trans (if_pos c133)))))
                      · refine aw_iconst (v := 1) dX12_two_136 (by decide) ?_
                        refine aw_iload dX12_two_137 rfl ?_
                        refine aw_ishl dX12_two_139 ?_
                        refine aw_goto (tgt := 144) dX12_two_140 (by decide) ?_
                        refine aw_ior dX12_two_144 ?_
                        refine aw_istore_n dX12_two_145 (by decide) ?_
                        refine aw_inc (w := 1) dX12_two_146 rfl (by decide) (by decide) ?_
                        refine aw_goto (tgt := 31) dX12_two_149 (by decide) ?_
                        exact aw_loc [0, 1, 2, 3, 4] (ls2 := [(0, .ref m), (1, .int a), (2, .int b), (3, .int _), (4, .int (nI (j + 1)))]) (by first | (rw [nI_succ]; rfl) | rfl) (ih (j + 1) _ (by omega)  (heq.trans (congrArg (mTwL S0 a b k (j + 1)) (((((if_neg c42).trans (if_pos c55)).trans (if_pos c78)).trans (if_pos c91)).trans (if_neg c133)))))
                    · refine aw_aload_n dX12_two_94 rfl ?_
                      refine aw_iload_n dX12_two_95 rfl ?_
                      refine aw_iload dX12_two_96 rfl ?_
                      refine aw_iload dX12_two_98 rfl ?_
                      refine aw_callV3p dX12_two_100 cmX12_gets cvX12_238 (mo_c0 hM) (Nat.le_of_ble_eq_true rfl) (tX12_gets hM (mIs_in c13 hm hm6)) ?_
                      refine aw_aload_n dX12_two_103 rfl ?_
                      refine aw_iload_n dX12_two_104 rfl ?_
                      refine aw_iload dX12_two_105 rfl ?_
                      refine aw_if_ne (tgt := 114) dX12_two_107 (by decide) (fun c107 => ?_) (fun c107 => ?_)
                      · refine aw_iconst (v := 0) dX12_two_114 (by decide) ?_
                        refine aw_iload dX12_two_115 rfl ?_
                        refine aw_callV3p dX12_two_117 cmX12_gets cvX12_238 (mo_c0 hM) (Nat.le_of_ble_eq_true rfl) (tX12_gets hM (mIs_in c13 hm hm6)) ?_
                        refine aw_icmp_lt (tgt := 127) dX12_two_120 (by decide) (fun c120 => ?_) (fun c120 => ?_)
                        · refine aw_iconst (v := 0) dX12_two_127 (by decide) ?_
                          refine aw_istore dX12_two_128 (by decide) ?_
                          refine aw_iload_n dX12_two_130 rfl ?_
                          refine aw_iload dX12_two_131 rfl ?_
                          refine aw_if_eq (tgt := 143) dX12_two_133 (by decide) (fun c133 => ?_) (fun c133 => ?_)
                          · refine aw_iconst (v := 0) dX12_two_143 (by decide) ?_
                            refine aw_ior dX12_two_144 ?_
                            refine aw_istore_n dX12_two_145 (by decide) ?_
                            refine aw_inc (w := 1) dX12_two_146 rfl (by decide) (by decide) ?_
                            refine aw_goto (tgt := 31) dX12_two_149 (by decide) ?_
                            exact aw_loc [0, 1, 2, 3, 4] (ls2 := [(0, .ref m), (1, .int a), (2, .int b), (3, .int _), (4, .int (nI (j + 1)))]) (by first | (rw [nI_succ]; rfl) | rfl) (ih (j + 1) _ (by omega)  (heq.trans (congrArg (mTwL S0 a b k (j + 1)) (((((((if_neg c42).trans (if_pos c55)).trans (if_pos c78)).trans (if_neg c91)).trans (if_neg c107)).trans (if_pos c120)).trans (if_pos c133)))))
                          · refine aw_iconst (v := 1) dX12_two_136 (by decide) ?_
                            refine aw_iload dX12_two_137 rfl ?_
                            refine aw_ishl dX12_two_139 ?_
                            refine aw_goto (tgt := 144) dX12_two_140 (by decide) ?_
                            refine aw_ior dX12_two_144 ?_
                            refine aw_istore_n dX12_two_145 (by decide) ?_
                            refine aw_inc (w := 1) dX12_two_146 rfl (by decide) (by decide) ?_
                            refine aw_goto (tgt := 31) dX12_two_149 (by decide) ?_
                            exact aw_loc [0, 1, 2, 3, 4] (ls2 := [(0, .ref m), (1, .int a), (2, .int b), (3, .int _), (4, .int (nI (j + 1)))]) (by first | (rw [nI_succ]; rfl) | rfl) (ih (j + 1) _ (by omega)  (heq.trans (congrArg (mTwL S0 a b k (j + 1)) (((((((if_neg c42).trans (if_pos c55)).trans (if_pos c78)).trans (if_neg c91)).trans (if_neg c107)).trans (if_pos c120)).trans (if_neg c133)))))
                        · refine aw_iconst (v := 1) dX12_two_123 (by decide) ?_
                          refine aw_goto (tgt := 128) dX12_two_124 (by decide) ?_
                          refine aw_istore dX12_two_128 (by decide) ?_
                          refine aw_iload_n dX12_two_130 rfl ?_
                          refine aw_iload dX12_two_131 rfl ?_
                          refine aw_if_eq (tgt := 143) dX12_two_133 (by decide) (fun c133 => ?_) (fun c133 => ?_)
                          · refine aw_iconst (v := 0) dX12_two_143 (by decide) ?_
                            refine aw_ior dX12_two_144 ?_
                            refine aw_istore_n dX12_two_145 (by decide) ?_
                            refine aw_inc (w := 1) dX12_two_146 rfl (by decide) (by decide) ?_
                            refine aw_goto (tgt := 31) dX12_two_149 (by decide) ?_
                            exact aw_loc [0, 1, 2, 3, 4] (ls2 := [(0, .ref m), (1, .int a), (2, .int b), (3, .int _), (4, .int (nI (j + 1)))]) (by first | (rw [nI_succ]; rfl) | rfl) (ih (j + 1) _ (by omega)  (heq.trans (congrArg (mTwL S0 a b k (j + 1)) (((((((if_neg c42).trans (if_pos c55)).trans (if_pos c78)).trans (if_neg c91)).trans (if_neg c107)).trans (if_neg c120)).trans (if_pos c133)))))
                          · refine aw_iconst (v := 1) dX12_two_136 (by decide) ?_
                            refine aw_iload dX12_two_137 rfl ?_
                            refine aw_ishl dX12_two_139 ?_
                            refine aw_goto (tgt := 144) dX12_two_140 (by decide) ?_
                            refine aw_ior dX12_two_144 ?_
                            refine aw_istore_n dX12_two_145 (by decide) ?_
                            refine aw_inc (w := 1) dX12_two_146 rfl (by decide) (by decide) ?_
                            refine aw_goto (tgt := 31) dX12_two_149 (by decide) ?_
                            exact aw_loc [0, 1, 2, 3, 4] (ls2 := [(0, .ref m), (1, .int a), (2, .int b), (3, .int _), (4, .int (nI (j + 1)))]) (by first | (rw [nI_succ]; rfl) | rfl) (ih (j + 1) _ (by omega)  (heq.trans (congrArg (mTwL S0 a b k (j + 1)) (((((((if_neg c42).trans (if_pos c55)).trans (if_pos c78)).trans (if_neg c91)).trans (if_neg c107)).trans (if_neg c120)).trans (if_neg c133)))))
                      · refine aw_iconst (v := 1) dX12_two_110 (by decide) ?_
                        refine aw_goto (tgt := 115) dX12_two_111 (by decide) ?_
                        refine aw_iload dX12_two_115 rfl ?_
                        refine aw_callV3p dX12_two_117 cmX12_gets cvX12_238 (mo_c0 hM) (Nat.le_of_ble_eq_true rfl) (tX12_gets hM (mIs_in c13 hm hm6)) ?_
                        refine aw_icmp_lt (tgt := 127) dX12_two_120 (by decide) (fun c120 => ?_) (fun c120 => ?_)
                        · refine aw_iconst (v := 0) dX12_two_127 (by decide) ?_
                          refine aw_istore dX12_two_128 (by decide) ?_
                          refine aw_iload_n dX12_two_130 rfl ?_
                          refine aw_iload dX12_two_131 rfl ?_
                          refine aw_if_eq (tgt := 143) dX12_two_133 (by decide) (fun c133 => ?_) (fun c133 => ?_)
                          · refine aw_iconst (v := 0) dX12_two_143 (by decide) ?_
                            refine aw_ior dX12_two_144 ?_
                            refine aw_istore_n dX12_two_145 (by decide) ?_
                            refine aw_inc (w := 1) dX12_two_146 rfl (by decide) (by decide) ?_
                            refine aw_goto (tgt := 31) dX12_two_149 (by decide) ?_
                            exact aw_loc [0, 1, 2, 3, 4] (ls2 := [(0, .ref m), (1, .int a), (2, .int b), (3, .int _), (4, .int (nI (j + 1)))]) (by first | (rw [nI_succ]; rfl) | rfl) (ih (j + 1) _ (by omega)  (heq.trans (congrArg (mTwL S0 a b k (j + 1)) (((((((if_neg c42).trans (if_pos c55)).trans (if_pos c78)).trans (if_neg c91)).trans (if_pos c107)).trans (if_pos c120)).trans (if_pos c133)))))
                          · refine aw_iconst (v := 1) dX12_two_136 (by decide) ?_
                            refine aw_iload dX12_two_137 rfl ?_
                            refine aw_ishl dX12_two_139 ?_
                            refine aw_goto (tgt := 144) dX12_two_140 (by decide) ?_
                            refine aw_ior dX12_two_144 ?_
                            refine aw_istore_n dX12_two_145 (by decide) ?_
                            refine aw_inc (w := 1) dX12_two_146 rfl (by decide) (by decide) ?_
                            refine aw_goto (tgt := 31) dX12_two_149 (by decide) ?_
                            exact aw_loc [0, 1, 2, 3, 4] (ls2 := [(0, .ref m), (1, .int a), (2, .int b), (3, .int _), (4, .int (nI (j + 1)))]) (by first | (rw [nI_succ]; rfl) | rfl) (ih (j + 1) _ (by omega)  (heq.trans (congrArg (mTwL S0 a b k (j + 1)) (((((((if_neg c42).trans (if_pos c55)).trans (if_pos c78)).trans (if_neg c91)).trans (if_pos c107)).trans (if_pos c120)).trans (if_neg c133)))))
                        · refine aw_iconst (v := 1) dX12_two_123 (by decide) ?_
                          refine aw_goto (tgt := 128) dX12_two_124 (by decide) ?_
                          refine aw_istore dX12_two_128 (by decide) ?_
                          refine aw_iload_n dX12_two_130 rfl ?_
                          refine aw_iload dX12_two_131 rfl ?_
                          refine aw_if_eq (tgt := 143) dX12_two_133 (by decide) (fun c133 => ?_) (fun c133 => ?_)
                          · refine aw_iconst (v := 0) dX12_two_143 (by decide) ?_
                            refine aw_ior dX12_two_144 ?_
                            refine aw_istore_n dX12_two_145 (by decide) ?_
                            refine aw_inc (w := 1) dX12_two_146 rfl (by decide) (by decide) ?_
                            refine aw_goto (tgt := 31) dX12_two_149 (by decide) ?_
                            exact aw_loc [0, 1, 2, 3, 4] (ls2 := [(0, .ref m), (1, .int a), (2, .int b), (3, .int _), (4, .int (nI (j + 1)))]) (by first | (rw [nI_succ]; rfl) | rfl) (ih (j + 1) _ (by omega)  (heq.trans (congrArg (mTwL S0 a b k (j + 1)) (((((((if_neg c42).trans (if_pos c55)).trans (if_pos c78)).trans (if_neg c91)).trans (if_pos c107)).trans (if_neg c120)).trans (if_pos c133)))))
                          · refine aw_iconst (v := 1) dX12_two_136 (by decide) ?_
                            refine aw_iload dX12_two_137 rfl ?_
                            refine aw_ishl dX12_two_139 ?_
                            refine aw_goto (tgt := 144) dX12_two_140 (by decide) ?_
                            refine aw_ior dX12_two_144 ?_
                            refine aw_istore_n dX12_two_145 (by decide) ?_
                            refine aw_inc (w := 1) dX12_two_146 rfl (by decide) (by decide) ?_
                            refine aw_goto (tgt := 31) dX12_two_149 (by decide) ?_
                            exact aw_loc [0, 1, 2, 3, 4] (ls2 := [(0, .ref m), (1, .int a), (2, .int b), (3, .int _), (4, .int (nI (j + 1)))]) (by first | (rw [nI_succ]; rfl) | rfl) (ih (j + 1) _ (by omega)  (heq.trans (congrArg (mTwL S0 a b k (j + 1)) (((((((if_neg c42).trans (if_pos c55)).trans (if_pos c78)).trans (if_neg c91)).trans (if_pos c107)).trans (if_neg c120)).trans (if_neg c133)))))
                · refine aw_iconst (v := 1) dX12_two_58 (by decide) ?_
                  refine aw_goto (tgt := 63) dX12_two_59 (by decide) ?_
                  refine aw_istore dX12_two_63 (by decide) ?_
                  refine aw_aload_n dX12_two_65 rfl ?_
                  refine aw_iload_n dX12_two_66 rfl ?_
                  refine aw_iload dX12_two_67 rfl ?_
                  refine aw_iload dX12_two_69 rfl ?_
                  refine aw_callV3p dX12_two_71 cmX12_gets cvX12_238 (mo_c0 hM) (Nat.le_of_ble_eq_true rfl) (tX12_gets hM (mIs_in c5 hm hm6)) ?_
                  refine aw_aload_n dX12_two_74 rfl ?_
                  refine aw_iload_n dX12_two_75 rfl ?_
                  refine aw_iload dX12_two_76 rfl ?_
                  refine aw_if_ne (tgt := 85) dX12_two_78 (by decide) (fun c78 => ?_) (fun c78 => ?_)
                  · refine aw_iconst (v := 0) dX12_two_85 (by decide) ?_
                    refine aw_iload dX12_two_86 rfl ?_
                    refine aw_callV3p dX12_two_88 cmX12_gets cvX12_238 (mo_c0 hM) (Nat.le_of_ble_eq_true rfl) (tX12_gets hM (mIs_in c5 hm hm6)) ?_
                    refine aw_icmp_lt (tgt := 127) dX12_two_91 (by decide) (fun c91 => ?_) (fun c91 => ?_)
                    · refine aw_iconst (v := 0) dX12_two_127 (by decide) ?_
                      refine aw_istore dX12_two_128 (by decide) ?_
                      refine aw_iload_n dX12_two_130 rfl ?_
                      refine aw_iload dX12_two_131 rfl ?_
                      refine aw_if_eq (tgt := 143) dX12_two_133 (by decide) (fun c133 => ?_) (fun c133 => ?_)
                      · refine aw_iconst (v := 0) dX12_two_143 (by decide) ?_
                        refine aw_ior dX12_two_144 ?_
                        refine aw_istore_n dX12_two_145 (by decide) ?_
                        refine aw_inc (w := 1) dX12_two_146 rfl (by decide) (by decide) ?_
                        refine aw_goto (tgt := 31) dX12_two_149 (by decide) ?_
                        exact aw_loc [0, 1, 2, 3, 4] (ls2 := [(0, .ref m), (1, .int a), (2, .int b), (3, .int _), (4, .int (nI (j + 1)))]) (by first | (rw [nI_succ]; rfl) | rfl) (ih (j + 1) _ (by omega)  (heq.trans (congrArg (mTwL S0 a b k (j + 1)) (((((if_neg c42).trans (if_neg c55)).trans (if_neg c78)).trans (if_pos c91)).trans (if_pos c133)))))
                      · refine aw_iconst (v := 1) dX12_two_136 (by decide) ?_
                        refine aw_iload dX12_two_137 rfl ?_
                        refine aw_ishl dX12_two_139 ?_
                        refine aw_goto (tgt := 144) dX12_two_140 (by decide) ?_
                        refine aw_ior dX12_two_144 ?_
                        refine aw_istore_n dX12_two_145 (by decide) ?_
                        refine aw_inc (w := 1) dX12_two_146 rfl (by decide) (by decide) ?_
                        refine aw_goto (tgt := 31) dX12_two_149 (by decide) ?_
                        exact aw_loc [0, 1, 2, 3, 4] (ls2 := [(0, .ref m), (1, .int a), (2, .int b), (3, .int _), (4, .int (nI (j + 1)))]) (by first | (rw [nI_succ]; rfl) | rfl) (ih (j + 1) _ (by omega)  (heq.trans (congrArg (mTwL S0 a b k (j + 1)) (((((if_neg c42).trans (if_neg c55)).trans (if_neg c78)).trans (if_pos c91)).trans (if_neg c133)))))
                    · refine aw_aload_n dX12_two_94 rfl ?_
                      refine aw_iload_n dX12_two_95 rfl ?_
                      refine aw_iload dX12_two_96 rfl ?_
                      refine aw_iload dX12_two_98 rfl ?_
                      refine aw_callV3p dX12_two_100 cmX12_gets cvX12_238 (mo_c0 hM) (Nat.le_of_ble_eq_true rfl) (tX12_gets hM (mIs_in c13 hm hm6)) ?_
                      refine aw_aload_n dX12_two_103 rfl ?_
                      refine aw_iload_n dX12_two_104 rfl ?_
                      refine aw_iload dX12_two_105 rfl ?_
                      refine aw_if_ne (tgt := 114) dX12_two_107 (by decide) (fun c107 => ?_) (fun c107 => ?_)
                      · refine aw_iconst (v := 0) dX12_two_114 (by decide) ?_
                        refine aw_iload dX12_two_115 rfl ?_
                        refine aw_callV3p dX12_two_117 cmX12_gets cvX12_238 (mo_c0 hM) (Nat.le_of_ble_eq_true rfl) (tX12_gets hM (mIs_in c13 hm hm6)) ?_
                        refine aw_icmp_lt (tgt := 127) dX12_two_120 (by decide) (fun c120 => ?_) (fun c120 => ?_)
                        · refine aw_iconst (v := 0) dX12_two_127 (by decide) ?_
                          refine aw_istore dX12_two_128 (by decide) ?_
                          refine aw_iload_n dX12_two_130 rfl ?_
                          refine aw_iload dX12_two_131 rfl ?_
                          refine aw_if_eq (tgt := 143) dX12_two_133 (by decide) (fun c133 => ?_) (fun c133 => ?_)
                          · refine aw_iconst (v := 0) dX12_two_143 (by decide) ?_
                            refine aw_ior dX12_two_144 ?_
                            refine aw_istore_n dX12_two_145 (by decide) ?_
                            refine aw_inc (w := 1) dX12_two_146 rfl (by decide) (by decide) ?_
                            refine aw_goto (tgt := 31) dX12_two_149 (by decide) ?_
                            exact aw_loc [0, 1, 2, 3, 4] (ls2 := [(0, .ref m), (1, .int a), (2, .int b), (3, .int _), (4, .int (nI (j + 1)))]) (by first | (rw [nI_succ]; rfl) | rfl) (ih (j + 1) _ (by omega)  (heq.trans (congrArg (mTwL S0 a b k (j + 1)) (((((((if_neg c42).trans (if_neg c55)).trans (if_neg c78)).trans (if_neg c91)).trans (if_neg c107)).trans (if_pos c120)).trans (if_pos c133)))))
                          · refine aw_iconst (v := 1) dX12_two_136 (by decide) ?_
                            refine aw_iload dX12_two_137 rfl ?_
                            refine aw_ishl dX12_two_139 ?_
                            refine aw_goto (tgt := 144) dX12_two_140 (by decide) ?_
                            refine aw_ior dX12_two_144 ?_
                            refine aw_istore_n dX12_two_145 (by decide) ?_
                            refine aw_inc (w := 1) dX12_two_146 rfl (by decide) (by decide) ?_
                            refine aw_goto (tgt := 31) dX12_two_149 (by decide) ?_
                            exact aw_loc [0, 1, 2, 3, 4] (ls2 := [(0, .ref m), (1, .int a), (2, .int b), (3, .int _), (4, .int (nI (j + 1)))]) (by first | (rw [nI_succ]; rfl) | rfl) (ih (j + 1) _ (by omega)  (heq.trans (congrArg (mTwL S0 a b k (j + 1)) (((((((if_neg c42).trans (if_neg c55)).trans (if_neg c78)).trans (if_neg c91)).trans (if_neg c107)).trans (if_pos c120)).trans (if_neg c133)))))
                        · refine aw_iconst (v := 1) dX12_two_123 (by decide) ?_
                          refine aw_goto (tgt := 128) dX12_two_124 (by decide) ?_
                          refine aw_istore dX12_two_128 (by decide) ?_
                          refine aw_iload_n dX12_two_130 rfl ?_
                          refine aw_iload dX12_two_131 rfl ?_
                          refine aw_if_eq (tgt := 143) dX12_two_133 (by decide) (fun c133 => ?_) (fun c133 => ?_)
                          · refine aw_iconst (v := 0) dX12_two_143 (by decide) ?_
                            refine aw_ior dX12_two_144 ?_
                            refine aw_istore_n dX12_two_145 (by decide) ?_
                            refine aw_inc (w := 1) dX12_two_146 rfl (by decide) (by decide) ?_
                            refine aw_goto (tgt := 31) dX12_two_149 (by decide) ?_
                            exact aw_loc [0, 1, 2, 3, 4] (ls2 := [(0, .ref m), (1, .int a), (2, .int b), (3, .int _), (4, .int (nI (j + 1)))]) (by first | (rw [nI_succ]; rfl) | rfl) (ih (j + 1) _ (by omega)  (heq.trans (congrArg (mTwL S0 a b k (j + 1)) (((((((if_neg c42).trans (if_neg c55)).trans (if_neg c78)).trans (if_neg c91)).trans (if_neg c107)).trans (if_neg c120)).trans (if_pos c133)))))
                          · refine aw_iconst (v := 1) dX12_two_136 (by decide) ?_
                            refine aw_iload dX12_two_137 rfl ?_
                            refine aw_ishl dX12_two_139 ?_
                            refine aw_goto (tgt := 144) dX12_two_140 (by decide) ?_
                            refine aw_ior dX12_two_144 ?_
                            refine aw_istore_n dX12_two_145 (by decide) ?_
                            refine aw_inc (w := 1) dX12_two_146 rfl (by decide) (by decide) ?_
                            refine aw_goto (tgt := 31) dX12_two_149 (by decide) ?_
                            exact aw_loc [0, 1, 2, 3, 4] (ls2 := [(0, .ref m), (1, .int a), (2, .int b), (3, .int _), (4, .int (nI (j + 1)))]) (by first | (rw [nI_succ]; rfl) | rfl) (ih (j + 1) _ (by omega)  (heq.trans (congrArg (mTwL S0 a b k (j + 1)) (((((((if_neg c42).trans (if_neg c55)).trans (if_neg c78)).trans (if_neg c91)).trans (if_neg c107)).trans (if_neg c120)).trans (if_neg c133)))))
                      · refine aw_iconst (v := 1) dX12_two_110 (by decide) ?_
                        refine aw_goto (tgt := 115) dX12_two_111 (by decide) ?_
                        refine aw_iload dX12_two_115 rfl ?_
                        refine aw_callV3p dX12_two_117 cmX12_gets cvX12_238 (mo_c0 hM) (Nat.le_of_ble_eq_true rfl) (tX12_gets hM (mIs_in c13 hm hm6)) ?_
                        refine aw_icmp_lt (tgt := 127) dX12_two_120 (by decide) (fun c120 => ?_) (fun c120 => ?_)
                        · refine aw_iconst (v := 0) dX12_two_127 (by decide) ?_
                          refine aw_istore dX12_two_128 (by decide) ?_
                          refine aw_iload_n dX12_two_130 rfl ?_
                          refine aw_iload dX12_two_131 rfl ?_
                          refine aw_if_eq (tgt := 143) dX12_two_133 (by decide) (fun c133 => ?_) (fun c133 => ?_)
                          · refine aw_iconst (v := 0) dX12_two_143 (by decide) ?_
                            refine aw_ior dX12_two_144 ?_
                            refine aw_istore_n dX12_two_145 (by decide) ?_
                            refine aw_inc (w := 1) dX12_two_146 rfl (by decide) (by decide) ?_
                            refine aw_goto (tgt := 31) dX12_two_149 (by decide) ?_
                            exact aw_loc [0, 1, 2, 3, 4] (ls2 := [(0, .ref m), (1, .int a), (2, .int b), (3, .int _), (4, .int (nI (j + 1)))]) (by first | (rw [nI_succ]; rfl) | rfl) (ih (j + 1) _ (by omega)  (heq.trans (congrArg (mTwL S0 a b k (j + 1)) (((((((if_neg c42).trans (if_neg c55)).trans (if_neg c78)).trans (if_neg c91)).trans (if_pos c107)).trans (if_pos c120)).trans (if_pos c133)))))
                          · refine aw_iconst (v := 1) dX12_two_136 (by decide) ?_
                            refine aw_iload dX12_two_137 rfl ?_
                            refine aw_ishl dX12_two_139 ?_
                            refine aw_goto (tgt := 144) dX12_two_140 (by decide) ?_
                            refine aw_ior dX12_two_144 ?_
                            refine aw_istore_n dX12_two_145 (by decide) ?_
                            refine aw_inc (w := 1) dX12_two_146 rfl (by decide) (by decide) ?_
                            refine aw_goto (tgt := 31) dX12_two_149 (by decide) ?_
                            exact aw_loc [0, 1, 2, 3, 4] (ls2 := [(0, .ref m), (1, .int a), (2, .int b), (3, .int _), (4, .int (nI (j + 1)))]) (by first | (rw [nI_succ]; rfl) | rfl) (ih (j + 1) _ (by omega)  (heq.trans (congrArg (mTwL S0 a b k (j + 1)) (((((((if_neg c42).trans (if_neg c55)).trans (if_neg c78)).trans (if_neg c91)).trans (if_pos c107)).trans (if_pos c120)).trans (if_neg c133)))))
                        · refine aw_iconst (v := 1) dX12_two_123 (by decide) ?_
                          refine aw_goto (tgt := 128) dX12_two_124 (by decide) ?_
                          refine aw_istore dX12_two_128 (by decide) ?_
                          refine aw_iload_n dX12_two_130 rfl ?_
                          refine aw_iload dX12_two_131 rfl ?_
                          refine aw_if_eq (tgt := 143) dX12_two_133 (by decide) (fun c133 => ?_) (fun c133 => ?_)
                          · refine aw_iconst (v := 0) dX12_two_143 (by decide) ?_
                            refine aw_ior dX12_two_144 ?_
                            refine aw_istore_n dX12_two_145 (by decide) ?_
                            refine aw_inc (w := 1) dX12_two_146 rfl (by decide) (by decide) ?_
                            refine aw_goto (tgt := 31) dX12_two_149 (by decide) ?_
                            exact aw_loc [0, 1, 2, 3, 4] (ls2 := [(0, .ref m), (1, .int a), (2, .int b), (3, .int _), (4, .int (nI (j + 1)))]) (by first | (rw [nI_succ]; rfl) | rfl) (ih (j + 1) _ (by omega)  (heq.trans (congrArg (mTwL S0 a b k (j + 1)) (((((((if_neg c42).trans (if_neg c55)).trans (if_neg c78)).trans (if_neg c91)).trans (if_pos c107)).trans (if_neg c120)).trans (if_pos c133)))))
                          · refine aw_iconst (v := 1) dX12_two_136 (by decide) ?_
                            refine aw_iload dX12_two_137 rfl ?_
                            refine aw_ishl dX12_two_139 ?_
                            refine aw_goto (tgt := 144) dX12_two_140 (by decide) ?_
                            refine aw_ior dX12_two_144 ?_
                            refine aw_istore_n dX12_two_145 (by decide) ?_
                            refine aw_inc (w := 1) dX12_two_146 rfl (by decide) (by decide) ?_
                            refine aw_goto (tgt := 31) dX12_two_149 (by decide) ?_
                            exact aw_loc [0, 1, 2, 3, 4] (ls2 := [(0, .ref m), (1, .int a), (2, .int b), (3, .int _), (4, .int (nI (j + 1)))]) (by first | (rw [nI_succ]; rfl) | rfl) (ih (j + 1) _ (by omega)  (heq.trans (congrArg (mTwL S0 a b k (j + 1)) (((((((if_neg c42).trans (if_neg c55)).trans (if_neg c78)).trans (if_neg c91)).trans (if_pos c107)).trans (if_neg c120)).trans (if_neg c133)))))
                  · refine aw_iconst (v := 1) dX12_two_81 (by decide) ?_
                    refine aw_goto (tgt := 86) dX12_two_82 (by decide) ?_
                    refine aw_iload dX12_two_86 rfl ?_
                    refine aw_callV3p dX12_two_88 cmX12_gets cvX12_238 (mo_c0 hM) (Nat.le_of_ble_eq_true rfl) (tX12_gets hM (mIs_in c5 hm hm6)) ?_
                    refine aw_icmp_lt (tgt := 127) dX12_two_91 (by decide) (fun c91 => ?_) (fun c91 => ?_)
                    · refine aw_iconst (v := 0) dX12_two_127 (by decide) ?_
                      refine aw_istore dX12_two_128 (by decide) ?_
                      refine aw_iload_n dX12_two_130 rfl ?_
                      refine aw_iload dX12_two_131 rfl ?_
                      refine aw_if_eq (tgt := 143) dX12_two_133 (by decide) (fun c133 => ?_) (fun c133 => ?_)
                      · refine aw_iconst (v := 0) dX12_two_143 (by decide) ?_
                        refine aw_ior dX12_two_144 ?_
                        refine aw_istore_n dX12_two_145 (by decide) ?_
                        refine aw_inc (w := 1) dX12_two_146 rfl (by decide) (by decide) ?_
                        refine aw_goto (tgt := 31) dX12_two_149 (by decide) ?_
                        exact aw_loc [0, 1, 2, 3, 4] (ls2 := [(0, .ref m), (1, .int a), (2, .int b), (3, .int _), (4, .int (nI (j + 1)))]) (by first | (rw [nI_succ]; rfl) | rfl) (ih (j + 1) _ (by omega)  (heq.trans (congrArg (mTwL S0 a b k (j + 1)) (((((if_neg c42).trans (if_neg c55)).trans (if_pos c78)).trans (if_pos c91)).trans (if_pos c133)))))
                      · refine aw_iconst (v := 1) dX12_two_136 (by decide) ?_
                        refine aw_iload dX12_two_137 rfl ?_
                        refine aw_ishl dX12_two_139 ?_
                        refine aw_goto (tgt := 144) dX12_two_140 (by decide) ?_
                        refine aw_ior dX12_two_144 ?_
                        refine aw_istore_n dX12_two_145 (by decide) ?_
                        refine aw_inc (w := 1) dX12_two_146 rfl (by decide) (by decide) ?_
                        refine aw_goto (tgt := 31) dX12_two_149 (by decide) ?_
                        exact aw_loc [0, 1, 2, 3, 4] (ls2 := [(0, .ref m), (1, .int a), (2, .int b), (3, .int _), (4, .int (nI (j + 1)))]) (by first | (rw [nI_succ]; rfl) | rfl) (ih (j + 1) _ (by omega)  (heq.trans (congrArg (mTwL S0 a b k (j + 1)) (((((if_neg c42).trans (if_neg c55)).trans (if_pos c78)).trans (if_pos c91)).trans (if_neg c133)))))
                    · refine aw_aload_n dX12_two_94 rfl ?_
                      refine aw_iload_n dX12_two_95 rfl ?_
                      refine aw_iload dX12_two_96 rfl ?_
                      refine aw_iload dX12_two_98 rfl ?_
                      refine aw_callV3p dX12_two_100 cmX12_gets cvX12_238 (mo_c0 hM) (Nat.le_of_ble_eq_true rfl) (tX12_gets hM (mIs_in c13 hm hm6)) ?_
                      refine aw_aload_n dX12_two_103 rfl ?_
                      refine aw_iload_n dX12_two_104 rfl ?_
                      refine aw_iload dX12_two_105 rfl ?_
                      refine aw_if_ne (tgt := 114) dX12_two_107 (by decide) (fun c107 => ?_) (fun c107 => ?_)
                      · refine aw_iconst (v := 0) dX12_two_114 (by decide) ?_
                        refine aw_iload dX12_two_115 rfl ?_
                        refine aw_callV3p dX12_two_117 cmX12_gets cvX12_238 (mo_c0 hM) (Nat.le_of_ble_eq_true rfl) (tX12_gets hM (mIs_in c13 hm hm6)) ?_
                        refine aw_icmp_lt (tgt := 127) dX12_two_120 (by decide) (fun c120 => ?_) (fun c120 => ?_)
                        · refine aw_iconst (v := 0) dX12_two_127 (by decide) ?_
                          refine aw_istore dX12_two_128 (by decide) ?_
                          refine aw_iload_n dX12_two_130 rfl ?_
                          refine aw_iload dX12_two_131 rfl ?_
                          refine aw_if_eq (tgt := 143) dX12_two_133 (by decide) (fun c133 => ?_) (fun c133 => ?_)
                          · refine aw_iconst (v := 0) dX12_two_143 (by decide) ?_
                            refine aw_ior dX12_two_144 ?_
                            refine aw_istore_n dX12_two_145 (by decide) ?_
                            refine aw_inc (w := 1) dX12_two_146 rfl (by decide) (by decide) ?_
                            refine aw_goto (tgt := 31) dX12_two_149 (by decide) ?_
                            exact aw_loc [0, 1, 2, 3, 4] (ls2 := [(0, .ref m), (1, .int a), (2, .int b), (3, .int _), (4, .int (nI (j + 1)))]) (by first | (rw [nI_succ]; rfl) | rfl) (ih (j + 1) _ (by omega)  (heq.trans (congrArg (mTwL S0 a b k (j + 1)) (((((((if_neg c42).trans (if_neg c55)).trans (if_pos c78)).trans (if_neg c91)).trans (if_neg c107)).trans (if_pos c120)).trans (if_pos c133)))))
                          · refine aw_iconst (v := 1) dX12_two_136 (by decide) ?_
                            refine aw_iload dX12_two_137 rfl ?_
                            refine aw_ishl dX12_two_139 ?_
                            refine aw_goto (tgt := 144) dX12_two_140 (by decide) ?_
                            refine aw_ior dX12_two_144 ?_
                            refine aw_istore_n dX12_two_145 (by decide) ?_
                            refine aw_inc (w := 1) dX12_two_146 rfl (by decide) (by decide) ?_
                            refine aw_goto (tgt := 31) dX12_two_149 (by decide) ?_
                            exact aw_loc [0, 1, 2, 3, 4] (ls2 := [(0, .ref m), (1, .int a), (2, .int b), (3, .int _), (4, .int (nI (j + 1)))]) (by first | (rw [nI_succ]; rfl) | rfl) (ih (j + 1) _ (by omega)  (heq.trans (congrArg (mTwL S0 a b k (j + 1)) (((((((if_neg c42).trans (if_neg c55)).trans (if_pos c78)).trans (if_neg c91)).trans (if_neg c107)).trans (if_pos c120)).trans (if_neg c133)))))
                        · refine aw_iconst (v := 1) dX12_two_123 (by decide) ?_
                          refine aw_goto (tgt := 128) dX12_two_124 (by decide) ?_
                          refine aw_istore dX12_two_128 (by decide) ?_
                          refine aw_iload_n dX12_two_130 rfl ?_
                          refine aw_iload dX12_two_131 rfl ?_
                          refine aw_if_eq (tgt := 143) dX12_two_133 (by decide) (fun c133 => ?_) (fun c133 => ?_)
                          · refine aw_iconst (v := 0) dX12_two_143 (by decide) ?_
                            refine aw_ior dX12_two_144 ?_
                            refine aw_istore_n dX12_two_145 (by decide) ?_
                            refine aw_inc (w := 1) dX12_two_146 rfl (by decide) (by decide) ?_
                            refine aw_goto (tgt := 31) dX12_two_149 (by decide) ?_
                            exact aw_loc [0, 1, 2, 3, 4] (ls2 := [(0, .ref m), (1, .int a), (2, .int b), (3, .int _), (4, .int (nI (j + 1)))]) (by first | (rw [nI_succ]; rfl) | rfl) (ih (j + 1) _ (by omega)  (heq.trans (congrArg (mTwL S0 a b k (j + 1)) (((((((if_neg c42).trans (if_neg c55)).trans (if_pos c78)).trans (if_neg c91)).trans (if_neg c107)).trans (if_neg c120)).trans (if_pos c133)))))
                          · refine aw_iconst (v := 1) dX12_two_136 (by decide) ?_
                            refine aw_iload dX12_two_137 rfl ?_
                            refine aw_ishl dX12_two_139 ?_
                            refine aw_goto (tgt := 144) dX12_two_140 (by decide) ?_
                            refine aw_ior dX12_two_144 ?_
                            refine aw_istore_n dX12_two_145 (by decide) ?_
                            refine aw_inc (w := 1) dX12_two_146 rfl (by decide) (by decide) ?_
                            refine aw_goto (tgt := 31) dX12_two_149 (by decide) ?_
                            exact aw_loc [0, 1, 2, 3, 4] (ls2 := [(0, .ref m), (1, .int a), (2, .int b), (3, .int _), (4, .int (nI (j + 1)))]) (by first | (rw [nI_succ]; rfl) | rfl) (ih (j + 1) _ (by omega)  (heq.trans (congrArg (mTwL S0 a b k (j + 1)) (((((((if_neg c42).trans (if_neg c55)).trans (if_pos c78)).trans (if_neg c91)).trans (if_neg c107)).trans (if_neg c120)).trans (if_neg c133)))))
                      · refine aw_iconst (v := 1) dX12_two_110 (by decide) ?_
                        refine aw_goto (tgt := 115) dX12_two_111 (by decide) ?_
                        refine aw_iload dX12_two_115 rfl ?_
                        refine aw_callV3p dX12_two_117 cmX12_gets cvX12_238 (mo_c0 hM) (Nat.le_of_ble_eq_true rfl) (tX12_gets hM (mIs_in c13 hm hm6)) ?_
                        refine aw_icmp_lt (tgt := 127) dX12_two_120 (by decide) (fun c120 => ?_) (fun c120 => ?_)
                        · refine aw_iconst (v := 0) dX12_two_127 (by decide) ?_
                          refine aw_istore dX12_two_128 (by decide) ?_
                          refine aw_iload_n dX12_two_130 rfl ?_
                          refine aw_iload dX12_two_131 rfl ?_
                          refine aw_if_eq (tgt := 143) dX12_two_133 (by decide) (fun c133 => ?_) (fun c133 => ?_)
                          · refine aw_iconst (v := 0) dX12_two_143 (by decide) ?_
                            refine aw_ior dX12_two_144 ?_
                            refine aw_istore_n dX12_two_145 (by decide) ?_
                            refine aw_inc (w := 1) dX12_two_146 rfl (by decide) (by decide) ?_
                            refine aw_goto (tgt := 31) dX12_two_149 (by decide) ?_
                            exact aw_loc [0, 1, 2, 3, 4] (ls2 := [(0, .ref m), (1, .int a), (2, .int b), (3, .int _), (4, .int (nI (j + 1)))]) (by first | (rw [nI_succ]; rfl) | rfl) (ih (j + 1) _ (by omega)  (heq.trans (congrArg (mTwL S0 a b k (j + 1)) (((((((if_neg c42).trans (if_neg c55)).trans (if_pos c78)).trans (if_neg c91)).trans (if_pos c107)).trans (if_pos c120)).trans (if_pos c133)))))
                          · refine aw_iconst (v := 1) dX12_two_136 (by decide) ?_
                            refine aw_iload dX12_two_137 rfl ?_
                            refine aw_ishl dX12_two_139 ?_
                            refine aw_goto (tgt := 144) dX12_two_140 (by decide) ?_
                            refine aw_ior dX12_two_144 ?_
                            refine aw_istore_n dX12_two_145 (by decide) ?_
                            refine aw_inc (w := 1) dX12_two_146 rfl (by decide) (by decide) ?_
                            refine aw_goto (tgt := 31) dX12_two_149 (by decide) ?_
                            exact aw_loc [0, 1, 2, 3, 4] (ls2 := [(0, .ref m), (1, .int a), (2, .int b), (3, .int _), (4, .int (nI (j + 1)))]) (by first | (rw [nI_succ]; rfl) | rfl) (ih (j + 1) _ (by omega)  (heq.trans (congrArg (mTwL S0 a b k (j + 1)) (((((((if_neg c42).trans (if_neg c55)).trans (if_pos c78)).trans (if_neg c91)).trans (if_pos c107)).trans (if_pos c120)).trans (if_neg c133)))))
                        · refine aw_iconst (v := 1) dX12_two_123 (by decide) ?_
                          refine aw_goto (tgt := 128) dX12_two_124 (by decide) ?_
                          refine aw_istore dX12_two_128 (by decide) ?_
                          refine aw_iload_n dX12_two_130 rfl ?_
                          refine aw_iload dX12_two_131 rfl ?_
                          refine aw_if_eq (tgt := 143) dX12_two_133 (by decide) (fun c133 => ?_) (fun c133 => ?_)
                          · refine aw_iconst (v := 0) dX12_two_143 (by decide) ?_
                            refine aw_ior dX12_two_144 ?_
                            refine aw_istore_n dX12_two_145 (by decide) ?_
                            refine aw_inc (w := 1) dX12_two_146 rfl (by decide) (by decide) ?_
                            refine aw_goto (tgt := 31) dX12_two_149 (by decide) ?_
                            exact aw_loc [0, 1, 2, 3, 4] (ls2 := [(0, .ref m), (1, .int a), (2, .int b), (3, .int _), (4, .int (nI (j + 1)))]) (by first | (rw [nI_succ]; rfl) | rfl) (ih (j + 1) _ (by omega)  (heq.trans (congrArg (mTwL S0 a b k (j + 1)) (((((((if_neg c42).trans (if_neg c55)).trans (if_pos c78)).trans (if_neg c91)).trans (if_pos c107)).trans (if_neg c120)).trans (if_pos c133)))))
                          · refine aw_iconst (v := 1) dX12_two_136 (by decide) ?_
                            refine aw_iload dX12_two_137 rfl ?_
                            refine aw_ishl dX12_two_139 ?_
                            refine aw_goto (tgt := 144) dX12_two_140 (by decide) ?_
                            refine aw_ior dX12_two_144 ?_
                            refine aw_istore_n dX12_two_145 (by decide) ?_
                            refine aw_inc (w := 1) dX12_two_146 rfl (by decide) (by decide) ?_
                            refine aw_goto (tgt := 31) dX12_two_149 (by decide) ?_
                            exact aw_loc [0, 1, 2, 3, 4] (ls2 := [(0, .ref m), (1, .int a), (2, .int b), (3, .int _), (4, .int (nI (j + 1)))]) (by first | (rw [nI_succ]; rfl) | rfl) (ih (j + 1) _ (by omega)  (heq.trans (congrArg (mTwL S0 a b k (j + 1)) (((((((if_neg c42).trans (if_neg c55)).trans (if_pos c78)).trans (if_neg c91)).trans (if_pos c107)).trans (if_neg c120)).trans (if_neg c133)))))
              · refine aw_iconst (v := 1) dX12_two_45 (by decide) ?_
                refine aw_goto (tgt := 50) dX12_two_46 (by decide) ?_
                refine aw_istore dX12_two_50 (by decide) ?_
                refine aw_iload dX12_two_52 rfl ?_
                refine aw_iconst (v := 1) dX12_two_54 (by decide) ?_
                refine aw_icmp_le (tgt := 62) dX12_two_55 (by decide) (fun c55 => ?_) (fun c55 => ?_)
                · refine aw_iconst (v := 0) dX12_two_62 (by decide) ?_
                  refine aw_istore dX12_two_63 (by decide) ?_
                  refine aw_aload_n dX12_two_65 rfl ?_
                  refine aw_iload_n dX12_two_66 rfl ?_
                  refine aw_iload dX12_two_67 rfl ?_
                  refine aw_iload dX12_two_69 rfl ?_
                  refine aw_callV3p dX12_two_71 cmX12_gets cvX12_238 (mo_c0 hM) (Nat.le_of_ble_eq_true rfl) (tX12_gets hM (mIs_in c5 hm hm6)) ?_
                  refine aw_aload_n dX12_two_74 rfl ?_
                  refine aw_iload_n dX12_two_75 rfl ?_
                  refine aw_iload dX12_two_76 rfl ?_
                  refine aw_if_ne (tgt := 85) dX12_two_78 (by decide) (fun c78 => ?_) (fun c78 => ?_)
                  · refine aw_iconst (v := 0) dX12_two_85 (by decide) ?_
                    refine aw_iload dX12_two_86 rfl ?_
                    refine aw_callV3p dX12_two_88 cmX12_gets cvX12_238 (mo_c0 hM) (Nat.le_of_ble_eq_true rfl) (tX12_gets hM (mIs_in c5 hm hm6)) ?_
                    refine aw_icmp_lt (tgt := 127) dX12_two_91 (by decide) (fun c91 => ?_) (fun c91 => ?_)
                    · refine aw_iconst (v := 0) dX12_two_127 (by decide) ?_
                      refine aw_istore dX12_two_128 (by decide) ?_
                      refine aw_iload_n dX12_two_130 rfl ?_
                      refine aw_iload dX12_two_131 rfl ?_
                      refine aw_if_eq (tgt := 143) dX12_two_133 (by decide) (fun c133 => ?_) (fun c133 => ?_)
                      · refine aw_iconst (v := 0) dX12_two_143 (by decide) ?_
                        refine aw_ior dX12_two_144 ?_
                        refine aw_istore_n dX12_two_145 (by decide) ?_
                        refine aw_inc (w := 1) dX12_two_146 rfl (by decide) (by decide) ?_
                        refine aw_goto (tgt := 31) dX12_two_149 (by decide) ?_
                        exact aw_loc [0, 1, 2, 3, 4] (ls2 := [(0, .ref m), (1, .int a), (2, .int b), (3, .int _), (4, .int (nI (j + 1)))]) (by first | (rw [nI_succ]; rfl) | rfl) (ih (j + 1) _ (by omega)  (heq.trans (congrArg (mTwL S0 a b k (j + 1)) (((((if_pos c42).trans (if_pos c55)).trans (if_neg c78)).trans (if_pos c91)).trans (if_pos c133)))))
                      · refine aw_iconst (v := 1) dX12_two_136 (by decide) ?_
                        refine aw_iload dX12_two_137 rfl ?_
                        refine aw_ishl dX12_two_139 ?_
                        refine aw_goto (tgt := 144) dX12_two_140 (by decide) ?_
                        refine aw_ior dX12_two_144 ?_
                        refine aw_istore_n dX12_two_145 (by decide) ?_
                        refine aw_inc (w := 1) dX12_two_146 rfl (by decide) (by decide) ?_
                        refine aw_goto (tgt := 31) dX12_two_149 (by decide) ?_
                        exact aw_loc [0, 1, 2, 3, 4] (ls2 := [(0, .ref m), (1, .int a), (2, .int b), (3, .int _), (4, .int (nI (j + 1)))]) (by first | (rw [nI_succ]; rfl) | rfl) (ih (j + 1) _ (by omega)  (heq.trans (congrArg (mTwL S0 a b k (j + 1)) (((((if_pos c42).trans (if_pos c55)).trans (if_neg c78)).trans (if_pos c91)).trans (if_neg c133)))))
                    · refine aw_aload_n dX12_two_94 rfl ?_
                      refine aw_iload_n dX12_two_95 rfl ?_
                      refine aw_iload dX12_two_96 rfl ?_
                      refine aw_iload dX12_two_98 rfl ?_
                      refine aw_callV3p dX12_two_100 cmX12_gets cvX12_238 (mo_c0 hM) (Nat.le_of_ble_eq_true rfl) (tX12_gets hM (mIs_in c13 hm hm6)) ?_
                      refine aw_aload_n dX12_two_103 rfl ?_
                      refine aw_iload_n dX12_two_104 rfl ?_
                      refine aw_iload dX12_two_105 rfl ?_
                      refine aw_if_ne (tgt := 114) dX12_two_107 (by decide) (fun c107 => ?_) (fun c107 => ?_)
                      · refine aw_iconst (v := 0) dX12_two_114 (by decide) ?_
                        refine aw_iload dX12_two_115 rfl ?_
                        refine aw_callV3p dX12_two_117 cmX12_gets cvX12_238 (mo_c0 hM) (Nat.le_of_ble_eq_true rfl) (tX12_gets hM (mIs_in c13 hm hm6)) ?_
                        refine aw_icmp_lt (tgt := 127) dX12_two_120 (by decide) (fun c120 => ?_) (fun c120 => ?_)
                        · refine aw_iconst (v := 0) dX12_two_127 (by decide) ?_
                          refine aw_istore dX12_two_128 (by decide) ?_
                          refine aw_iload_n dX12_two_130 rfl ?_
                          refine aw_iload dX12_two_131 rfl ?_
                          refine aw_if_eq (tgt := 143) dX12_two_133 (by decide) (fun c133 => ?_) (fun c133 => ?_)
                          · refine aw_iconst (v := 0) dX12_two_143 (by decide) ?_
                            refine aw_ior dX12_two_144 ?_
                            refine aw_istore_n dX12_two_145 (by decide) ?_
                            refine aw_inc (w := 1) dX12_two_146 rfl (by decide) (by decide) ?_
                            refine aw_goto (tgt := 31) dX12_two_149 (by decide) ?_
                            exact aw_loc [0, 1, 2, 3, 4] (ls2 := [(0, .ref m), (1, .int a), (2, .int b), (3, .int _), (4, .int (nI (j + 1)))]) (by first | (rw [nI_succ]; rfl) | rfl) (ih (j + 1) _ (by omega)  (heq.trans (congrArg (mTwL S0 a b k (j + 1)) (((((((if_pos c42).trans (if_pos c55)).trans (if_neg c78)).trans (if_neg c91)).trans (if_neg c107)).trans (if_pos c120)).trans (if_pos c133)))))
                          · refine aw_iconst (v := 1) dX12_two_136 (by decide) ?_
                            refine aw_iload dX12_two_137 rfl ?_
                            refine aw_ishl dX12_two_139 ?_
                            refine aw_goto (tgt := 144) dX12_two_140 (by decide) ?_
                            refine aw_ior dX12_two_144 ?_
                            refine aw_istore_n dX12_two_145 (by decide) ?_
                            refine aw_inc (w := 1) dX12_two_146 rfl (by decide) (by decide) ?_
                            refine aw_goto (tgt := 31) dX12_two_149 (by decide) ?_
                            exact aw_loc [0, 1, 2, 3, 4] (ls2 := [(0, .ref m), (1, .int a), (2, .int b), (3, .int _), (4, .int (nI (j + 1)))]) (by first | (rw [nI_succ]; rfl) | rfl) (ih (j + 1) _ (by omega)  (heq.trans (congrArg (mTwL S0 a b k (j + 1)) (((((((if_pos c42).trans (if_pos c55)).trans (if_neg c78)).trans (if_neg c91)).trans (if_neg c107)).trans (if_pos c120)).trans (if_neg c133)))))
                        · refine aw_iconst (v := 1) dX12_two_123 (by decide) ?_
                          refine aw_goto (tgt := 128) dX12_two_124 (by decide) ?_
                          refine aw_istore dX12_two_128 (by decide) ?_
                          refine aw_iload_n dX12_two_130 rfl ?_
                          refine aw_iload dX12_two_131 rfl ?_
                          refine aw_if_eq (tgt := 143) dX12_two_133 (by decide) (fun c133 => ?_) (fun c133 => ?_)
                          · refine aw_iconst (v := 0) dX12_two_143 (by decide) ?_
                            refine aw_ior dX12_two_144 ?_
                            refine aw_istore_n dX12_two_145 (by decide) ?_
                            refine aw_inc (w := 1) dX12_two_146 rfl (by decide) (by decide) ?_
                            refine aw_goto (tgt := 31) dX12_two_149 (by decide) ?_
                            exact aw_loc [0, 1, 2, 3, 4] (ls2 := [(0, .ref m), (1, .int a), (2, .int b), (3, .int _), (4, .int (nI (j + 1)))]) (by first | (rw [nI_succ]; rfl) | rfl) (ih (j + 1) _ (by omega)  (heq.trans (congrArg (mTwL S0 a b k (j + 1)) (((((((if_pos c42).trans (if_pos c55)).trans (if_neg c78)).trans (if_neg c91)).trans (if_neg c107)).trans (if_neg c120)).trans (if_pos c133)))))
                          · refine aw_iconst (v := 1) dX12_two_136 (by decide) ?_
                            refine aw_iload dX12_two_137 rfl ?_
                            refine aw_ishl dX12_two_139 ?_
                            refine aw_goto (tgt := 144) dX12_two_140 (by decide) ?_
                            refine aw_ior dX12_two_144 ?_
                            refine aw_istore_n dX12_two_145 (by decide) ?_
                            refine aw_inc (w := 1) dX12_two_146 rfl (by decide) (by decide) ?_
                            refine aw_goto (tgt := 31) dX12_two_149 (by decide) ?_
                            exact aw_loc [0, 1, 2, 3, 4] (ls2 := [(0, .ref m), (1, .int a), (2, .int b), (3, .int _), (4, .int (nI (j + 1)))]) (by first | (rw [nI_succ]; rfl) | rfl) (ih (j + 1) _ (by omega)  (heq.trans (congrArg (mTwL S0 a b k (j + 1)) (((((((if_pos c42).trans (if_pos c55)).trans (if_neg c78)).trans (if_neg c91)).trans (if_neg c107)).trans (if_neg c120)).trans (if_neg c133)))))
                      · refine aw_iconst (v := 1) dX12_two_110 (by decide) ?_
                        refine aw_goto (tgt := 115) dX12_two_111 (by decide) ?_
                        refine aw_iload dX12_two_115 rfl ?_
                        refine aw_callV3p dX12_two_117 cmX12_gets cvX12_238 (mo_c0 hM) (Nat.le_of_ble_eq_true rfl) (tX12_gets hM (mIs_in c13 hm hm6)) ?_
                        refine aw_icmp_lt (tgt := 127) dX12_two_120 (by decide) (fun c120 => ?_) (fun c120 => ?_)
                        · refine aw_iconst (v := 0) dX12_two_127 (by decide) ?_
                          refine aw_istore dX12_two_128 (by decide) ?_
                          refine aw_iload_n dX12_two_130 rfl ?_
                          refine aw_iload dX12_two_131 rfl ?_
                          refine aw_if_eq (tgt := 143) dX12_two_133 (by decide) (fun c133 => ?_) (fun c133 => ?_)
                          · refine aw_iconst (v := 0) dX12_two_143 (by decide) ?_
                            refine aw_ior dX12_two_144 ?_
                            refine aw_istore_n dX12_two_145 (by decide) ?_
                            refine aw_inc (w := 1) dX12_two_146 rfl (by decide) (by decide) ?_
                            refine aw_goto (tgt := 31) dX12_two_149 (by decide) ?_
                            exact aw_loc [0, 1, 2, 3, 4] (ls2 := [(0, .ref m), (1, .int a), (2, .int b), (3, .int _), (4, .int (nI (j + 1)))]) (by first | (rw [nI_succ]; rfl) | rfl) (ih (j + 1) _ (by omega)  (heq.trans (congrArg (mTwL S0 a b k (j + 1)) (((((((if_pos c42).trans (if_pos c55)).trans (if_neg c78)).trans (if_neg c91)).trans (if_pos c107)).trans (if_pos c120)).trans (if_pos c133)))))
                          · refine aw_iconst (v := 1) dX12_two_136 (by decide) ?_
                            refine aw_iload dX12_two_137 rfl ?_
                            refine aw_ishl dX12_two_139 ?_
                            refine aw_goto (tgt := 144) dX12_two_140 (by decide) ?_
                            refine aw_ior dX12_two_144 ?_
                            refine aw_istore_n dX12_two_145 (by decide) ?_
                            refine aw_inc (w := 1) dX12_two_146 rfl (by decide) (by decide) ?_
                            refine aw_goto (tgt := 31) dX12_two_149 (by decide) ?_
                            exact aw_loc [0, 1, 2, 3, 4] (ls2 := [(0, .ref m), (1, .int a), (2, .int b), (3, .int _), (4, .int (nI (j + 1)))]) (by first | (rw [nI_succ]; rfl) | rfl) (ih (j + 1) _ (by omega)  (heq.trans (congrArg (mTwL S0 a b k (j + 1)) (((((((if_pos c42).trans (if_pos c55)).trans (if_neg c78)).trans (if_neg c91)).trans (if_pos c107)).trans (if_pos c120)).trans (if_neg c133)))))
                        · refine aw_iconst (v := 1) dX12_two_123 (by decide) ?_
                          refine aw_goto (tgt := 128) dX12_two_124 (by decide) ?_
                          refine aw_istore dX12_two_128 (by decide) ?_
                          refine aw_iload_n dX12_two_130 rfl ?_
                          refine aw_iload dX12_two_131 rfl ?_
                          refine aw_if_eq (tgt := 143) dX12_two_133 (by decide) (fun c133 => ?_) (fun c133 => ?_)
                          · refine aw_iconst (v := 0) dX12_two_143 (by decide) ?_
                            refine aw_ior dX12_two_144 ?_
                            refine aw_istore_n dX12_two_145 (by decide) ?_
                            refine aw_inc (w := 1) dX12_two_146 rfl (by decide) (by decide) ?_
                            refine aw_goto (tgt := 31) dX12_two_149 (by decide) ?_
                            exact aw_loc [0, 1, 2, 3, 4] (ls2 := [(0, .ref m), (1, .int a), (2, .int b), (3, .int _), (4, .int (nI (j + 1)))]) (by first | (rw [nI_succ]; rfl) | rfl) (ih (j + 1) _ (by omega)  (heq.trans (congrArg (mTwL S0 a b k (j + 1)) (((((((if_pos c42).trans (if_pos c55)).trans (if_neg c78)).trans (if_neg c91)).trans (if_pos c107)).trans (if_neg c120)).trans (if_pos c133)))))
                          · refine aw_iconst (v := 1) dX12_two_136 (by decide) ?_
                            refine aw_iload dX12_two_137 rfl ?_
                            refine aw_ishl dX12_two_139 ?_
                            refine aw_goto (tgt := 144) dX12_two_140 (by decide) ?_
                            refine aw_ior dX12_two_144 ?_
                            refine aw_istore_n dX12_two_145 (by decide) ?_
                            refine aw_inc (w := 1) dX12_two_146 rfl (by decide) (by decide) ?_
                            refine aw_goto (tgt := 31) dX12_two_149 (by decide) ?_
                            exact aw_loc [0, 1, 2, 3, 4] (ls2 := [(0, .ref m), (1, .int a), (2, .int b), (3, .int _), (4, .int (nI (j + 1)))]) (by first | (rw [nI_succ]; rfl) | rfl) (ih (j + 1) _ (by omega)  (heq.trans (congrArg (mTwL S0 a b k (j + 1)) (((((((if_pos c42).trans (if_pos c55)).trans (if_neg c78)).trans (if_neg c91)).trans (if_pos c107)).trans (if_neg c120)).trans (if_neg c133)))))
                  · refine aw_iconst (v := 1) dX12_two_81 (by decide) ?_
                    refine aw_goto (tgt := 86) dX12_two_82 (by decide) ?_
                    refine aw_iload dX12_two_86 rfl ?_
                    refine aw_callV3p dX12_two_88 cmX12_gets cvX12_238 (mo_c0 hM) (Nat.le_of_ble_eq_true rfl) (tX12_gets hM (mIs_in c5 hm hm6)) ?_
                    refine aw_icmp_lt (tgt := 127) dX12_two_91 (by decide) (fun c91 => ?_) (fun c91 => ?_)
                    · refine aw_iconst (v := 0) dX12_two_127 (by decide) ?_
                      refine aw_istore dX12_two_128 (by decide) ?_
                      refine aw_iload_n dX12_two_130 rfl ?_
                      refine aw_iload dX12_two_131 rfl ?_
                      refine aw_if_eq (tgt := 143) dX12_two_133 (by decide) (fun c133 => ?_) (fun c133 => ?_)
                      · refine aw_iconst (v := 0) dX12_two_143 (by decide) ?_
                        refine aw_ior dX12_two_144 ?_
                        refine aw_istore_n dX12_two_145 (by decide) ?_
                        refine aw_inc (w := 1) dX12_two_146 rfl (by decide) (by decide) ?_
                        refine aw_goto (tgt := 31) dX12_two_149 (by decide) ?_
                        exact aw_loc [0, 1, 2, 3, 4] (ls2 := [(0, .ref m), (1, .int a), (2, .int b), (3, .int _), (4, .int (nI (j + 1)))]) (by first | (rw [nI_succ]; rfl) | rfl) (ih (j + 1) _ (by omega)  (heq.trans (congrArg (mTwL S0 a b k (j + 1)) (((((if_pos c42).trans (if_pos c55)).trans (if_pos c78)).trans (if_pos c91)).trans (if_pos c133)))))
                      · refine aw_iconst (v := 1) dX12_two_136 (by decide) ?_
                        refine aw_iload dX12_two_137 rfl ?_
                        refine aw_ishl dX12_two_139 ?_
                        refine aw_goto (tgt := 144) dX12_two_140 (by decide) ?_
                        refine aw_ior dX12_two_144 ?_
                        refine aw_istore_n dX12_two_145 (by decide) ?_
                        refine aw_inc (w := 1) dX12_two_146 rfl (by decide) (by decide) ?_
                        refine aw_goto (tgt := 31) dX12_two_149 (by decide) ?_
                        exact aw_loc [0, 1, 2, 3, 4] (ls2 := [(0, .ref m), (1, .int a), (2, .int b), (3, .int _), (4, .int (nI (j + 1)))]) (by first | (rw [nI_succ]; rfl) | rfl) (ih (j + 1) _ (by omega)  (heq.trans (congrArg (mTwL S0 a b k (j + 1)) (((((if_pos c42).trans (if_pos c55)).trans (if_pos c78)).trans (if_pos c91)).trans (if_neg c133)))))
                    · refine aw_aload_n dX12_two_94 rfl ?_
                      refine aw_iload_n dX12_two_95 rfl ?_
                      refine aw_iload dX12_two_96 rfl ?_
                      refine aw_iload dX12_two_98 rfl ?_
                      refine aw_callV3p dX12_two_100 cmX12_gets cvX12_238 (mo_c0 hM) (Nat.le_of_ble_eq_true rfl) (tX12_gets hM (mIs_in c13 hm hm6)) ?_
                      refine aw_aload_n dX12_two_103 rfl ?_
                      refine aw_iload_n dX12_two_104 rfl ?_
                      refine aw_iload dX12_two_105 rfl ?_
                      refine aw_if_ne (tgt := 114) dX12_two_107 (by decide) (fun c107 => ?_) (fun c107 => ?_)
                      · refine aw_iconst (v := 0) dX12_two_114 (by decide) ?_
                        refine aw_iload dX12_two_115 rfl ?_
                        refine aw_callV3p dX12_two_117 cmX12_gets cvX12_238 (mo_c0 hM) (Nat.le_of_ble_eq_true rfl) (tX12_gets hM (mIs_in c13 hm hm6)) ?_
                        refine aw_icmp_lt (tgt := 127) dX12_two_120 (by decide) (fun c120 => ?_) (fun c120 => ?_)
                        · refine aw_iconst (v := 0) dX12_two_127 (by decide) ?_
                          refine aw_istore dX12_two_128 (by decide) ?_
                          refine aw_iload_n dX12_two_130 rfl ?_
                          refine aw_iload dX12_two_131 rfl ?_
                          refine aw_if_eq (tgt := 143) dX12_two_133 (by decide) (fun c133 => ?_) (fun c133 => ?_)
                          · refine aw_iconst (v := 0) dX12_two_143 (by decide) ?_
                            refine aw_ior dX12_two_144 ?_
                            refine aw_istore_n dX12_two_145 (by decide) ?_
                            refine aw_inc (w := 1) dX12_two_146 rfl (by decide) (by decide) ?_
                            refine aw_goto (tgt := 31) dX12_two_149 (by decide) ?_
                            exact aw_loc [0, 1, 2, 3, 4] (ls2 := [(0, .ref m), (1, .int a), (2, .int b), (3, .int _), (4, .int (nI (j + 1)))]) (by first | (rw [nI_succ]; rfl) | rfl) (ih (j + 1) _ (by omega)  (heq.trans (congrArg (mTwL S0 a b k (j + 1)) (((((((if_pos c42).trans (if_pos c55)).trans (if_pos c78)).trans (if_neg c91)).trans (if_neg c107)).trans (if_pos c120)).trans (if_pos c133)))))
                          · refine aw_iconst (v := 1) dX12_two_136 (by decide) ?_
                            refine aw_iload dX12_two_137 rfl ?_
                            refine aw_ishl dX12_two_139 ?_
                            refine aw_goto (tgt := 144) dX12_two_140 (by decide) ?_
                            refine aw_ior dX12_two_144 ?_
                            refine aw_istore_n dX12_two_145 (by decide) ?_
                            refine aw_inc (w := 1) dX12_two_146 rfl (by decide) (by decide) ?_
                            refine aw_goto (tgt := 31) dX12_two_149 (by decide) ?_
                            exact aw_loc [0, 1, 2, 3, 4] (ls2 := [(0, .ref m), (1, .int a), (2, .int b), (3, .int _), (4, .int (nI (j + 1)))]) (by first | (rw [nI_succ]; rfl) | rfl) (ih (j + 1) _ (by omega)  (heq.trans (congrArg (mTwL S0 a b k (j + 1)) (((((((if_pos c42).trans (if_pos c55)).trans (if_pos c78)).trans (if_neg c91)).trans (if_neg c107)).trans (if_pos c120)).trans (if_neg c133)))))
                        · refine aw_iconst (v := 1) dX12_two_123 (by decide) ?_
                          refine aw_goto (tgt := 128) dX12_two_124 (by decide) ?_
                          refine aw_istore dX12_two_128 (by decide) ?_
                          refine aw_iload_n dX12_two_130 rfl ?_
                          refine aw_iload dX12_two_131 rfl ?_
                          refine aw_if_eq (tgt := 143) dX12_two_133 (by decide) (fun c133 => ?_) (fun c133 => ?_)
                          · refine aw_iconst (v := 0) dX12_two_143 (by decide) ?_
                            refine aw_ior dX12_two_144 ?_
                            refine aw_istore_n dX12_two_145 (by decide) ?_
                            refine aw_inc (w := 1) dX12_two_146 rfl (by decide) (by decide) ?_
                            refine aw_goto (tgt := 31) dX12_two_149 (by decide) ?_
                            exact aw_loc [0, 1, 2, 3, 4] (ls2 := [(0, .ref m), (1, .int a), (2, .int b), (3, .int _), (4, .int (nI (j + 1)))]) (by first | (rw [nI_succ]; rfl) | rfl) (ih (j + 1) _ (by omega)  (heq.trans (congrArg (mTwL S0 a b k (j + 1)) (((((((if_pos c42).trans (if_pos c55)).trans (if_pos c78)).trans (if_neg c91)).trans (if_neg c107)).trans (if_neg c120)).trans (if_pos c133)))))
                          · refine aw_iconst (v := 1) dX12_two_136 (by decide) ?_
                            refine aw_iload dX12_two_137 rfl ?_
                            refine aw_ishl dX12_two_139 ?_
                            refine aw_goto (tgt := 144) dX12_two_140 (by decide) ?_
                            refine aw_ior dX12_two_144 ?_
                            refine aw_istore_n dX12_two_145 (by decide) ?_
                            refine aw_inc (w := 1) dX12_two_146 rfl (by decide) (by decide) ?_
                            refine aw_goto (tgt := 31) dX12_two_149 (by decide) ?_
                            exact aw_loc [0, 1, 2, 3, 4] (ls2 := [(0, .ref m), (1, .int a), (2, .int b), (3, .int _), (4, .int (nI (j + 1)))]) (by first | (rw [nI_succ]; rfl) | rfl) (ih (j + 1) _ (by omega)  (heq.trans (congrArg (mTwL S0 a b k (j + 1)) (((((((if_pos c42).trans (if_pos c55)).trans (if_pos c78)).trans (if_neg c91)).trans (if_neg c107)).trans (if_neg c120)).trans (if_neg c133)))))
                      · refine aw_iconst (v := 1) dX12_two_110 (by decide) ?_
                        refine aw_goto (tgt := 115) dX12_two_111 (by decide) ?_
                        refine aw_iload dX12_two_115 rfl ?_
                        refine aw_callV3p dX12_two_117 cmX12_gets cvX12_238 (mo_c0 hM) (Nat.le_of_ble_eq_true rfl) (tX12_gets hM (mIs_in c13 hm hm6)) ?_
                        refine aw_icmp_lt (tgt := 127) dX12_two_120 (by decide) (fun c120 => ?_) (fun c120 => ?_)
                        · refine aw_iconst (v := 0) dX12_two_127 (by decide) ?_
                          refine aw_istore dX12_two_128 (by decide) ?_
                          refine aw_iload_n dX12_two_130 rfl ?_
                          refine aw_iload dX12_two_131 rfl ?_
                          refine aw_if_eq (tgt := 143) dX12_two_133 (by decide) (fun c133 => ?_) (fun c133 => ?_)
                          · refine aw_iconst (v := 0) dX12_two_143 (by decide) ?_
                            refine aw_ior dX12_two_144 ?_
                            refine aw_istore_n dX12_two_145 (by decide) ?_
                            refine aw_inc (w := 1) dX12_two_146 rfl (by decide) (by decide) ?_
                            refine aw_goto (tgt := 31) dX12_two_149 (by decide) ?_
                            exact aw_loc [0, 1, 2, 3, 4] (ls2 := [(0, .ref m), (1, .int a), (2, .int b), (3, .int _), (4, .int (nI (j + 1)))]) (by first | (rw [nI_succ]; rfl) | rfl) (ih (j + 1) _ (by omega)  (heq.trans (congrArg (mTwL S0 a b k (j + 1)) (((((((if_pos c42).trans (if_pos c55)).trans (if_pos c78)).trans (if_neg c91)).trans (if_pos c107)).trans (if_pos c120)).trans (if_pos c133)))))
                          · refine aw_iconst (v := 1) dX12_two_136 (by decide) ?_
                            refine aw_iload dX12_two_137 rfl ?_
                            refine aw_ishl dX12_two_139 ?_
                            refine aw_goto (tgt := 144) dX12_two_140 (by decide) ?_
                            refine aw_ior dX12_two_144 ?_
                            refine aw_istore_n dX12_two_145 (by decide) ?_
                            refine aw_inc (w := 1) dX12_two_146 rfl (by decide) (by decide) ?_
                            refine aw_goto (tgt := 31) dX12_two_149 (by decide) ?_
                            exact aw_loc [0, 1, 2, 3, 4] (ls2 := [(0, .ref m), (1, .int a), (2, .int b), (3, .int _), (4, .int (nI (j + 1)))]) (by first | (rw [nI_succ]; rfl) | rfl) (ih (j + 1) _ (by omega)  (heq.trans (congrArg (mTwL S0 a b k (j + 1)) (((((((if_pos c42).trans (if_pos c55)).trans (if_pos c78)).trans (if_neg c91)).trans (if_pos c107)).trans (if_pos c120)).trans (if_neg c133)))))
                        · refine aw_iconst (v := 1) dX12_two_123 (by decide) ?_
                          refine aw_goto (tgt := 128) dX12_two_124 (by decide) ?_
                          refine aw_istore dX12_two_128 (by decide) ?_
                          refine aw_iload_n dX12_two_130 rfl ?_
                          refine aw_iload dX12_two_131 rfl ?_
                          refine aw_if_eq (tgt := 143) dX12_two_133 (by decide) (fun c133 => ?_) (fun c133 => ?_)
                          · refine aw_iconst (v := 0) dX12_two_143 (by decide) ?_
                            refine aw_ior dX12_two_144 ?_
                            refine aw_istore_n dX12_two_145 (by decide) ?_
                            refine aw_inc (w := 1) dX12_two_146 rfl (by decide) (by decide) ?_
                            refine aw_goto (tgt := 31) dX12_two_149 (by decide) ?_
                            exact aw_loc [0, 1, 2, 3, 4] (ls2 := [(0, .ref m), (1, .int a), (2, .int b), (3, .int _), (4, .int (nI (j + 1)))]) (by first | (rw [nI_succ]; rfl) | rfl) (ih (j + 1) _ (by omega)  (heq.trans (congrArg (mTwL S0 a b k (j + 1)) (((((((if_pos c42).trans (if_pos c55)).trans (if_pos c78)).trans (if_neg c91)).trans (if_pos c107)).trans (if_neg c120)).trans (if_pos c133)))))
                          · refine aw_iconst (v := 1) dX12_two_136 (by decide) ?_
                            refine aw_iload dX12_two_137 rfl ?_
                            refine aw_ishl dX12_two_139 ?_
                            refine aw_goto (tgt := 144) dX12_two_140 (by decide) ?_
                            refine aw_ior dX12_two_144 ?_
                            refine aw_istore_n dX12_two_145 (by decide) ?_
                            refine aw_inc (w := 1) dX12_two_146 rfl (by decide) (by decide) ?_
                            refine aw_goto (tgt := 31) dX12_two_149 (by decide) ?_
                            exact aw_loc [0, 1, 2, 3, 4] (ls2 := [(0, .ref m), (1, .int a), (2, .int b), (3, .int _), (4, .int (nI (j + 1)))]) (by first | (rw [nI_succ]; rfl) | rfl) (ih (j + 1) _ (by omega)  (heq.trans (congrArg (mTwL S0 a b k (j + 1)) (((((((if_pos c42).trans (if_pos c55)).trans (if_pos c78)).trans (if_neg c91)).trans (if_pos c107)).trans (if_neg c120)).trans (if_neg c133)))))
                · refine aw_iconst (v := 1) dX12_two_58 (by decide) ?_
                  refine aw_goto (tgt := 63) dX12_two_59 (by decide) ?_
                  refine aw_istore dX12_two_63 (by decide) ?_
                  refine aw_aload_n dX12_two_65 rfl ?_
                  refine aw_iload_n dX12_two_66 rfl ?_
                  refine aw_iload dX12_two_67 rfl ?_
                  refine aw_iload dX12_two_69 rfl ?_
                  refine aw_callV3p dX12_two_71 cmX12_gets cvX12_238 (mo_c0 hM) (Nat.le_of_ble_eq_true rfl) (tX12_gets hM (mIs_in c5 hm hm6)) ?_
                  refine aw_aload_n dX12_two_74 rfl ?_
                  refine aw_iload_n dX12_two_75 rfl ?_
                  refine aw_iload dX12_two_76 rfl ?_
                  refine aw_if_ne (tgt := 85) dX12_two_78 (by decide) (fun c78 => ?_) (fun c78 => ?_)
                  · refine aw_iconst (v := 0) dX12_two_85 (by decide) ?_
                    refine aw_iload dX12_two_86 rfl ?_
                    refine aw_callV3p dX12_two_88 cmX12_gets cvX12_238 (mo_c0 hM) (Nat.le_of_ble_eq_true rfl) (tX12_gets hM (mIs_in c5 hm hm6)) ?_
                    refine aw_icmp_lt (tgt := 127) dX12_two_91 (by decide) (fun c91 => ?_) (fun c91 => ?_)
                    · refine aw_iconst (v := 0) dX12_two_127 (by decide) ?_
                      refine aw_istore dX12_two_128 (by decide) ?_
                      refine aw_iload_n dX12_two_130 rfl ?_
                      refine aw_iload dX12_two_131 rfl ?_
                      refine aw_if_eq (tgt := 143) dX12_two_133 (by decide) (fun c133 => ?_) (fun c133 => ?_)
                      · refine aw_iconst (v := 0) dX12_two_143 (by decide) ?_
                        refine aw_ior dX12_two_144 ?_
                        refine aw_istore_n dX12_two_145 (by decide) ?_
                        refine aw_inc (w := 1) dX12_two_146 rfl (by decide) (by decide) ?_
                        refine aw_goto (tgt := 31) dX12_two_149 (by decide) ?_
                        exact aw_loc [0, 1, 2, 3, 4] (ls2 := [(0, .ref m), (1, .int a), (2, .int b), (3, .int _), (4, .int (nI (j + 1)))]) (by first | (rw [nI_succ]; rfl) | rfl) (ih (j + 1) _ (by omega)  (heq.trans (congrArg (mTwL S0 a b k (j + 1)) (((((if_pos c42).trans (if_neg c55)).trans (if_neg c78)).trans (if_pos c91)).trans (if_pos c133)))))
                      · refine aw_iconst (v := 1) dX12_two_136 (by decide) ?_
                        refine aw_iload dX12_two_137 rfl ?_
                        refine aw_ishl dX12_two_139 ?_
                        refine aw_goto (tgt := 144) dX12_two_140 (by decide) ?_
                        refine aw_ior dX12_two_144 ?_
                        refine aw_istore_n dX12_two_145 (by decide) ?_
                        refine aw_inc (w := 1) dX12_two_146 rfl (by decide) (by decide) ?_
                        refine aw_goto (tgt := 31) dX12_two_149 (by decide) ?_
                        exact aw_loc [0, 1, 2, 3, 4] (ls2 := [(0, .ref m), (1, .int a), (2, .int b), (3, .int _), (4, .int (nI (j + 1)))]) (by first | (rw [nI_succ]; rfl) | rfl) (ih (j + 1) _ (by omega)  (heq.trans (congrArg (mTwL S0 a b k (j + 1)) (((((if_pos c42).trans (if_neg c55)).trans (if_neg c78)).trans (if_pos c91)).trans (if_neg c133)))))
                    · refine aw_aload_n dX12_two_94 rfl ?_
                      refine aw_iload_n dX12_two_95 rfl ?_
                      refine aw_iload dX12_two_96 rfl ?_
                      refine aw_iload dX12_two_98 rfl ?_
                      refine aw_callV3p dX12_two_100 cmX12_gets cvX12_238 (mo_c0 hM) (Nat.le_of_ble_eq_true rfl) (tX12_gets hM (mIs_in c13 hm hm6)) ?_
                      refine aw_aload_n dX12_two_103 rfl ?_
                      refine aw_iload_n dX12_two_104 rfl ?_
                      refine aw_iload dX12_two_105 rfl ?_
                      refine aw_if_ne (tgt := 114) dX12_two_107 (by decide) (fun c107 => ?_) (fun c107 => ?_)
                      · refine aw_iconst (v := 0) dX12_two_114 (by decide) ?_
                        refine aw_iload dX12_two_115 rfl ?_
                        refine aw_callV3p dX12_two_117 cmX12_gets cvX12_238 (mo_c0 hM) (Nat.le_of_ble_eq_true rfl) (tX12_gets hM (mIs_in c13 hm hm6)) ?_
                        refine aw_icmp_lt (tgt := 127) dX12_two_120 (by decide) (fun c120 => ?_) (fun c120 => ?_)
                        · refine aw_iconst (v := 0) dX12_two_127 (by decide) ?_
                          refine aw_istore dX12_two_128 (by decide) ?_
                          refine aw_iload_n dX12_two_130 rfl ?_
                          refine aw_iload dX12_two_131 rfl ?_
                          refine aw_if_eq (tgt := 143) dX12_two_133 (by decide) (fun c133 => ?_) (fun c133 => ?_)
                          · refine aw_iconst (v := 0) dX12_two_143 (by decide) ?_
                            refine aw_ior dX12_two_144 ?_
                            refine aw_istore_n dX12_two_145 (by decide) ?_
                            refine aw_inc (w := 1) dX12_two_146 rfl (by decide) (by decide) ?_
                            refine aw_goto (tgt := 31) dX12_two_149 (by decide) ?_
                            exact aw_loc [0, 1, 2, 3, 4] (ls2 := [(0, .ref m), (1, .int a), (2, .int b), (3, .int _), (4, .int (nI (j + 1)))]) (by first | (rw [nI_succ]; rfl) | rfl) (ih (j + 1) _ (by omega)  (heq.trans (congrArg (mTwL S0 a b k (j + 1)) (((((((if_pos c42).trans (if_neg c55)).trans (if_neg c78)).trans (if_neg c91)).trans (if_neg c107)).trans (if_pos c120)).trans (if_pos c133)))))
                          · refine aw_iconst (v := 1) dX12_two_136 (by decide) ?_
                            refine aw_iload dX12_two_137 rfl ?_
                            refine aw_ishl dX12_two_139 ?_
                            refine aw_goto (tgt := 144) dX12_two_140 (by decide) ?_
                            refine aw_ior dX12_two_144 ?_
                            refine aw_istore_n dX12_two_145 (by decide) ?_
                            refine aw_inc (w := 1) dX12_two_146 rfl (by decide) (by decide) ?_
                            refine aw_goto (tgt := 31) dX12_two_149 (by decide) ?_
                            exact aw_loc [0, 1, 2, 3, 4] (ls2 := [(0, .ref m), (1, .int a), (2, .int b), (3, .int _), (4, .int (nI (j + 1)))]) (by first | (rw [nI_succ]; rfl) | rfl) (ih (j + 1) _ (by omega)  (heq.trans (congrArg (mTwL S0 a b k (j + 1)) (((((((if_pos c42).trans (if_neg c55)).trans (if_neg c78)).trans (if_neg c91)).trans (if_neg c107)).trans (if_pos c120)).trans (if_neg c133)))))
                        · refine aw_iconst (v := 1) dX12_two_123 (by decide) ?_
                          refine aw_goto (tgt := 128) dX12_two_124 (by decide) ?_
                          refine aw_istore dX12_two_128 (by decide) ?_
                          refine aw_iload_n dX12_two_130 rfl ?_
                          refine aw_iload dX12_two_131 rfl ?_
                          refine aw_if_eq (tgt := 143) dX12_two_133 (by decide) (fun c133 => ?_) (fun c133 => ?_)
                          · refine aw_iconst (v := 0) dX12_two_143 (by decide) ?_
                            refine aw_ior dX12_two_144 ?_
                            refine aw_istore_n dX12_two_145 (by decide) ?_
                            refine aw_inc (w := 1) dX12_two_146 rfl (by decide) (by decide) ?_
                            refine aw_goto (tgt := 31) dX12_two_149 (by decide) ?_
                            exact aw_loc [0, 1, 2, 3, 4] (ls2 := [(0, .ref m), (1, .int a), (2, .int b), (3, .int _), (4, .int (nI (j + 1)))]) (by first | (rw [nI_succ]; rfl) | rfl) (ih (j + 1) _ (by omega)  (heq.trans (congrArg (mTwL S0 a b k (j + 1)) (((((((if_pos c42).trans (if_neg c55)).trans (if_neg c78)).trans (if_neg c91)).trans (if_neg c107)).trans (if_neg c120)).trans (if_pos c133)))))
                          · refine aw_iconst (v := 1) dX12_two_136 (by decide) ?_
                            refine aw_iload dX12_two_137 rfl ?_
                            refine aw_ishl dX12_two_139 ?_
                            refine aw_goto (tgt := 144) dX12_two_140 (by decide) ?_
                            refine aw_ior dX12_two_144 ?_
                            refine aw_istore_n dX12_two_145 (by decide) ?_
                            refine aw_inc (w := 1) dX12_two_146 rfl (by decide) (by decide) ?_
                            refine aw_goto (tgt := 31) dX12_two_149 (by decide) ?_
                            exact aw_loc [0, 1, 2, 3, 4] (ls2 := [(0, .ref m), (1, .int a), (2, .int b), (3, .int _), (4, .int (nI (j + 1)))]) (by first | (rw [nI_succ]; rfl) | rfl) (ih (j + 1) _ (by omega)  (heq.trans (congrArg (mTwL S0 a b k (j + 1)) (((((((if_pos c42).trans (if_neg c55)).trans (if_neg c78)).trans (if_neg c91)).trans (if_neg c107)).trans (if_neg c120)).trans (if_neg c133)))))
                      · refine aw_iconst (v := 1) dX12_two_110 (by decide) ?_
                        refine aw_goto (tgt := 115) dX12_two_111 (by decide) ?_
                        refine aw_iload dX12_two_115 rfl ?_
                        refine aw_callV3p dX12_two_117 cmX12_gets cvX12_238 (mo_c0 hM) (Nat.le_of_ble_eq_true rfl) (tX12_gets hM (mIs_in c13 hm hm6)) ?_
                        refine aw_icmp_lt (tgt := 127) dX12_two_120 (by decide) (fun c120 => ?_) (fun c120 => ?_)
                        · refine aw_iconst (v := 0) dX12_two_127 (by decide) ?_
                          refine aw_istore dX12_two_128 (by decide) ?_
                          refine aw_iload_n dX12_two_130 rfl ?_
                          refine aw_iload dX12_two_131 rfl ?_
                          refine aw_if_eq (tgt := 143) dX12_two_133 (by decide) (fun c133 => ?_) (fun c133 => ?_)
                          · refine aw_iconst (v := 0) dX12_two_143 (by decide) ?_
                            refine aw_ior dX12_two_144 ?_
                            refine aw_istore_n dX12_two_145 (by decide) ?_
                            refine aw_inc (w := 1) dX12_two_146 rfl (by decide) (by decide) ?_
                            refine aw_goto (tgt := 31) dX12_two_149 (by decide) ?_
                            exact aw_loc [0, 1, 2, 3, 4] (ls2 := [(0, .ref m), (1, .int a), (2, .int b), (3, .int _), (4, .int (nI (j + 1)))]) (by first | (rw [nI_succ]; rfl) | rfl) (ih (j + 1) _ (by omega)  (heq.trans (congrArg (mTwL S0 a b k (j + 1)) (((((((if_pos c42).trans (if_neg c55)).trans (if_neg c78)).trans (if_neg c91)).trans (if_pos c107)).trans (if_pos c120)).trans (if_pos c133)))))
                          · refine aw_iconst (v := 1) dX12_two_136 (by decide) ?_
                            refine aw_iload dX12_two_137 rfl ?_
                            refine aw_ishl dX12_two_139 ?_
                            refine aw_goto (tgt := 144) dX12_two_140 (by decide) ?_
                            refine aw_ior dX12_two_144 ?_
                            refine aw_istore_n dX12_two_145 (by decide) ?_
                            refine aw_inc (w := 1) dX12_two_146 rfl (by decide) (by decide) ?_
                            refine aw_goto (tgt := 31) dX12_two_149 (by decide) ?_
                            exact aw_loc [0, 1, 2, 3, 4] (ls2 := [(0, .ref m), (1, .int a), (2, .int b), (3, .int _), (4, .int (nI (j + 1)))]) (by first | (rw [nI_succ]; rfl) | rfl) (ih (j + 1) _ (by omega)  (heq.trans (congrArg (mTwL S0 a b k (j + 1)) (((((((if_pos c42).trans (if_neg c55)).trans (if_neg c78)).trans (if_neg c91)).trans (if_pos c107)).trans (if_pos c120)).trans (if_neg c133)))))
                        · refine aw_iconst (v := 1) dX12_two_123 (by decide) ?_
                          refine aw_goto (tgt := 128) dX12_two_124 (by decide) ?_
                          refine aw_istore dX12_two_128 (by decide) ?_
                          refine aw_iload_n dX12_two_130 rfl ?_
                          refine aw_iload dX12_two_131 rfl ?_
                          refine aw_if_eq (tgt := 143) dX12_two_133 (by decide) (fun c133 => ?_) (fun c133 => ?_)
                          · refine aw_iconst (v := 0) dX12_two_143 (by decide) ?_
                            refine aw_ior dX12_two_144 ?_
                            refine aw_istore_n dX12_two_145 (by decide) ?_
                            refine aw_inc (w := 1) dX12_two_146 rfl (by decide) (by decide) ?_
                            refine aw_goto (tgt := 31) dX12_two_149 (by decide) ?_
                            exact aw_loc [0, 1, 2, 3, 4] (ls2 := [(0, .ref m), (1, .int a), (2, .int b), (3, .int _), (4, .int (nI (j + 1)))]) (by first | (rw [nI_succ]; rfl) | rfl) (ih (j + 1) _ (by omega)  (heq.trans (congrArg (mTwL S0 a b k (j + 1)) (((((((if_pos c42).trans (if_neg c55)).trans (if_neg c78)).trans (if_neg c91)).trans (if_pos c107)).trans (if_neg c120)).trans (if_pos c133)))))
                          · refine aw_iconst (v := 1) dX12_two_136 (by decide) ?_
                            refine aw_iload dX12_two_137 rfl ?_
                            refine aw_ishl dX12_two_139 ?_
                            refine aw_goto (tgt := 144) dX12_two_140 (by decide) ?_
                            refine aw_ior dX12_two_144 ?_
                            refine aw_istore_n dX12_two_145 (by decide) ?_
                            refine aw_inc (w := 1) dX12_two_146 rfl (by decide) (by decide) ?_
                            refine aw_goto (tgt := 31) dX12_two_149 (by decide) ?_
                            exact aw_loc [0, 1, 2, 3, 4] (ls2 := [(0, .ref m), (1, .int a), (2, .int b), (3, .int _), (4, .int (nI (j + 1)))]) (by first | (rw [nI_succ]; rfl) | rfl) (ih (j + 1) _ (by omega)  (heq.trans (congrArg (mTwL S0 a b k (j + 1)) (((((((if_pos c42).trans (if_neg c55)).trans (if_neg c78)).trans (if_neg c91)).trans (if_pos c107)).trans (if_neg c120)).trans (if_neg c133)))))
                  · refine aw_iconst (v := 1) dX12_two_81 (by decide) ?_
                    refine aw_goto (tgt := 86) dX12_two_82 (by decide) ?_
                    refine aw_iload dX12_two_86 rfl ?_
                    refine aw_callV3p dX12_two_88 cmX12_gets cvX12_238 (mo_c0 hM) (Nat.le_of_ble_eq_true rfl) (tX12_gets hM (mIs_in c5 hm hm6)) ?_
                    refine aw_icmp_lt (tgt := 127) dX12_two_91 (by decide) (fun c91 => ?_) (fun c91 => ?_)
                    · refine aw_iconst (v := 0) dX12_two_127 (by decide) ?_
                      refine aw_istore dX12_two_128 (by decide) ?_
                      refine aw_iload_n dX12_two_130 rfl ?_
                      refine aw_iload dX12_two_131 rfl ?_
                      refine aw_if_eq (tgt := 143) dX12_two_133 (by decide) (fun c133 => ?_) (fun c133 => ?_)
                      · refine aw_iconst (v := 0) dX12_two_143 (by decide) ?_
                        refine aw_ior dX12_two_144 ?_
                        refine aw_istore_n dX12_two_145 (by decide) ?_
                        refine aw_inc (w := 1) dX12_two_146 rfl (by decide) (by decide) ?_
                        refine aw_goto (tgt := 31) dX12_two_149 (by decide) ?_
                        exact aw_loc [0, 1, 2, 3, 4] (ls2 := [(0, .ref m), (1, .int a), (2, .int b), (3, .int _), (4, .int (nI (j + 1)))]) (by first | (rw [nI_succ]; rfl) | rfl) (ih (j + 1) _ (by omega)  (heq.trans (congrArg (mTwL S0 a b k (j + 1)) (((((if_pos c42).trans (if_neg c55)).trans (if_pos c78)).trans (if_pos c91)).trans (if_pos c133)))))
                      · refine aw_iconst (v := 1) dX12_two_136 (by decide) ?_
                        refine aw_iload dX12_two_137 rfl ?_
                        refine aw_ishl dX12_two_139 ?_
                        refine aw_goto (tgt := 144) dX12_two_140 (by decide) ?_
                        refine aw_ior dX12_two_144 ?_
                        refine aw_istore_n dX12_two_145 (by decide) ?_
                        refine aw_inc (w := 1) dX12_two_146 rfl (by decide) (by decide) ?_
                        refine aw_goto (tgt := 31) dX12_two_149 (by decide) ?_
                        exact aw_loc [0, 1, 2, 3, 4] (ls2 := [(0, .ref m), (1, .int a), (2, .int b), (3, .int _), (4, .int (nI (j + 1)))]) (by first | (rw [nI_succ]; rfl) | rfl) (ih (j + 1) _ (by omega)  (heq.trans (congrArg (mTwL S0 a b k (j + 1)) (((((if_pos c42).trans (if_neg c55)).trans (if_pos c78)).trans (if_pos c91)).trans (if_neg c133)))))
                    · refine aw_aload_n dX12_two_94 rfl ?_
                      refine aw_iload_n dX12_two_95 rfl ?_
                      refine aw_iload dX12_two_96 rfl ?_
                      refine aw_iload dX12_two_98 rfl ?_
                      refine aw_callV3p dX12_two_100 cmX12_gets cvX12_238 (mo_c0 hM) (Nat.le_of_ble_eq_true rfl) (tX12_gets hM (mIs_in c13 hm hm6)) ?_
                      refine aw_aload_n dX12_two_103 rfl ?_
                      refine aw_iload_n dX12_two_104 rfl ?_
                      refine aw_iload dX12_two_105 rfl ?_
                      refine aw_if_ne (tgt := 114) dX12_two_107 (by decide) (fun c107 => ?_) (fun c107 => ?_)
                      · refine aw_iconst (v := 0) dX12_two_114 (by decide) ?_
                        refine aw_iload dX12_two_115 rfl ?_
                        refine aw_callV3p dX12_two_117 cmX12_gets cvX12_238 (mo_c0 hM) (Nat.le_of_ble_eq_true rfl) (tX12_gets hM (mIs_in c13 hm hm6)) ?_
                        refine aw_icmp_lt (tgt := 127) dX12_two_120 (by decide) (fun c120 => ?_) (fun c120 => ?_)
                        · refine aw_iconst (v := 0) dX12_two_127 (by decide) ?_
                          refine aw_istore dX12_two_128 (by decide) ?_
                          refine aw_iload_n dX12_two_130 rfl ?_
                          refine aw_iload dX12_two_131 rfl ?_
                          refine aw_if_eq (tgt := 143) dX12_two_133 (by decide) (fun c133 => ?_) (fun c133 => ?_)
                          · refine aw_iconst (v := 0) dX12_two_143 (by decide) ?_
                            refine aw_ior dX12_two_144 ?_
                            refine aw_istore_n dX12_two_145 (by decide) ?_
                            refine aw_inc (w := 1) dX12_two_146 rfl (by decide) (by decide) ?_
                            refine aw_goto (tgt := 31) dX12_two_149 (by decide) ?_
                            exact aw_loc [0, 1, 2, 3, 4] (ls2 := [(0, .ref m), (1, .int a), (2, .int b), (3, .int _), (4, .int (nI (j + 1)))]) (by first | (rw [nI_succ]; rfl) | rfl) (ih (j + 1) _ (by omega)  (heq.trans (congrArg (mTwL S0 a b k (j + 1)) (((((((if_pos c42).trans (if_neg c55)).trans (if_pos c78)).trans (if_neg c91)).trans (if_neg c107)).trans (if_pos c120)).trans (if_pos c133)))))
                          · refine aw_iconst (v := 1) dX12_two_136 (by decide) ?_
                            refine aw_iload dX12_two_137 rfl ?_
                            refine aw_ishl dX12_two_139 ?_
                            refine aw_goto (tgt := 144) dX12_two_140 (by decide) ?_
                            refine aw_ior dX12_two_144 ?_
                            refine aw_istore_n dX12_two_145 (by decide) ?_
                            refine aw_inc (w := 1) dX12_two_146 rfl (by decide) (by decide) ?_
                            refine aw_goto (tgt := 31) dX12_two_149 (by decide) ?_
                            exact aw_loc [0, 1, 2, 3, 4] (ls2 := [(0, .ref m), (1, .int a), (2, .int b), (3, .int _), (4, .int (nI (j + 1)))]) (by first | (rw [nI_succ]; rfl) | rfl) (ih (j + 1) _ (by omega)  (heq.trans (congrArg (mTwL S0 a b k (j + 1)) (((((((if_pos c42).trans (if_neg c55)).trans (if_pos c78)).trans (if_neg c91)).trans (if_neg c107)).trans (if_pos c120)).trans (if_neg c133)))))
                        · refine aw_iconst (v := 1) dX12_two_123 (by decide) ?_
                          refine aw_goto (tgt := 128) dX12_two_124 (by decide) ?_
                          refine aw_istore dX12_two_128 (by decide) ?_
                          refine aw_iload_n dX12_two_130 rfl ?_
                          refine aw_iload dX12_two_131 rfl ?_
                          refine aw_if_eq (tgt := 143) dX12_two_133 (by decide) (fun c133 => ?_) (fun c133 => ?_)
                          · refine aw_iconst (v := 0) dX12_two_143 (by decide) ?_
                            refine aw_ior dX12_two_144 ?_
                            refine aw_istore_n dX12_two_145 (by decide) ?_
                            refine aw_inc (w := 1) dX12_two_146 rfl (by decide) (by decide) ?_
                            refine aw_goto (tgt := 31) dX12_two_149 (by decide) ?_
                            exact aw_loc [0, 1, 2, 3, 4] (ls2 := [(0, .ref m), (1, .int a), (2, .int b), (3, .int _), (4, .int (nI (j + 1)))]) (by first | (rw [nI_succ]; rfl) | rfl) (ih (j + 1) _ (by omega)  (heq.trans (congrArg (mTwL S0 a b k (j + 1)) (((((((if_pos c42).trans (if_neg c55)).trans (if_pos c78)).trans (if_neg c91)).trans (if_neg c107)).trans (if_neg c120)).trans (if_pos c133)))))
                          · refine aw_iconst (v := 1) dX12_two_136 (by decide) ?_
                            refine aw_iload dX12_two_137 rfl ?_
                            refine aw_ishl dX12_two_139 ?_
                            refine aw_goto (tgt := 144) dX12_two_140 (by decide) ?_
                            refine aw_ior dX12_two_144 ?_
                            refine aw_istore_n dX12_two_145 (by decide) ?_
                            refine aw_inc (w := 1) dX12_two_146 rfl (by decide) (by decide) ?_
                            refine aw_goto (tgt := 31) dX12_two_149 (by decide) ?_
                            exact aw_loc [0, 1, 2, 3, 4] (ls2 := [(0, .ref m), (1, .int a), (2, .int b), (3, .int _), (4, .int (nI (j + 1)))]) (by first | (rw [nI_succ]; rfl) | rfl) (ih (j + 1) _ (by omega)  (heq.trans (congrArg (mTwL S0 a b k (j + 1)) (((((((if_pos c42).trans (if_neg c55)).trans (if_pos c78)).trans (if_neg c91)).trans (if_neg c107)).trans (if_neg c120)).trans (if_neg c133)))))
                      · refine aw_iconst (v := 1) dX12_two_110 (by decide) ?_
                        refine aw_goto (tgt := 115) dX12_two_111 (by decide) ?_
                        refine aw_iload dX12_two_115 rfl ?_
                        refine aw_callV3p dX12_two_117 cmX12_gets cvX12_238 (mo_c0 hM) (Nat.le_of_ble_eq_true rfl) (tX12_gets hM (mIs_in c13 hm hm6)) ?_
                        refine aw_icmp_lt (tgt := 127) dX12_two_120 (by decide) (fun c120 => ?_) (fun c120 => ?_)
                        · refine aw_iconst (v := 0) dX12_two_127 (by decide) ?_
                          refine aw_istore dX12_two_128 (by decide) ?_
                          refine aw_iload_n dX12_two_130 rfl ?_
                          refine aw_iload dX12_two_131 rfl ?_
                          refine aw_if_eq (tgt := 143) dX12_two_133 (by decide) (fun c133 => ?_) (fun c133 => ?_)
                          · refine aw_iconst (v := 0) dX12_two_143 (by decide) ?_
                            refine aw_ior dX12_two_144 ?_
                            refine aw_istore_n dX12_two_145 (by decide) ?_
                            refine aw_inc (w := 1) dX12_two_146 rfl (by decide) (by decide) ?_
                            refine aw_goto (tgt := 31) dX12_two_149 (by decide) ?_
                            exact aw_loc [0, 1, 2, 3, 4] (ls2 := [(0, .ref m), (1, .int a), (2, .int b), (3, .int _), (4, .int (nI (j + 1)))]) (by first | (rw [nI_succ]; rfl) | rfl) (ih (j + 1) _ (by omega)  (heq.trans (congrArg (mTwL S0 a b k (j + 1)) (((((((if_pos c42).trans (if_neg c55)).trans (if_pos c78)).trans (if_neg c91)).trans (if_pos c107)).trans (if_pos c120)).trans (if_pos c133)))))
                          · refine aw_iconst (v := 1) dX12_two_136 (by decide) ?_
                            refine aw_iload dX12_two_137 rfl ?_
                            refine aw_ishl dX12_two_139 ?_
                            refine aw_goto (tgt := 144) dX12_two_140 (by decide) ?_
                            refine aw_ior dX12_two_144 ?_
                            refine aw_istore_n dX12_two_145 (by decide) ?_
                            refine aw_inc (w := 1) dX12_two_146 rfl (by decide) (by decide) ?_
                            refine aw_goto (tgt := 31) dX12_two_149 (by decide) ?_
                            exact aw_loc [0, 1, 2, 3, 4] (ls2 := [(0, .ref m), (1, .int a), (2, .int b), (3, .int _), (4, .int (nI (j + 1)))]) (by first | (rw [nI_succ]; rfl) | rfl) (ih (j + 1) _ (by omega)  (heq.trans (congrArg (mTwL S0 a b k (j + 1)) (((((((if_pos c42).trans (if_neg c55)).trans (if_pos c78)).trans (if_neg c91)).trans (if_pos c107)).trans (if_pos c120)).trans (if_neg c133)))))
                        · refine aw_iconst (v := 1) dX12_two_123 (by decide) ?_
                          refine aw_goto (tgt := 128) dX12_two_124 (by decide) ?_
                          refine aw_istore dX12_two_128 (by decide) ?_
                          refine aw_iload_n dX12_two_130 rfl ?_
                          refine aw_iload dX12_two_131 rfl ?_
                          refine aw_if_eq (tgt := 143) dX12_two_133 (by decide) (fun c133 => ?_) (fun c133 => ?_)
                          · refine aw_iconst (v := 0) dX12_two_143 (by decide) ?_
                            refine aw_ior dX12_two_144 ?_
                            refine aw_istore_n dX12_two_145 (by decide) ?_
                            refine aw_inc (w := 1) dX12_two_146 rfl (by decide) (by decide) ?_
                            refine aw_goto (tgt := 31) dX12_two_149 (by decide) ?_
                            exact aw_loc [0, 1, 2, 3, 4] (ls2 := [(0, .ref m), (1, .int a), (2, .int b), (3, .int _), (4, .int (nI (j + 1)))]) (by first | (rw [nI_succ]; rfl) | rfl) (ih (j + 1) _ (by omega)  (heq.trans (congrArg (mTwL S0 a b k (j + 1)) (((((((if_pos c42).trans (if_neg c55)).trans (if_pos c78)).trans (if_neg c91)).trans (if_pos c107)).trans (if_neg c120)).trans (if_pos c133)))))
                          · refine aw_iconst (v := 1) dX12_two_136 (by decide) ?_
                            refine aw_iload dX12_two_137 rfl ?_
                            refine aw_ishl dX12_two_139 ?_
                            refine aw_goto (tgt := 144) dX12_two_140 (by decide) ?_
                            refine aw_ior dX12_two_144 ?_
                            refine aw_istore_n dX12_two_145 (by decide) ?_
                            refine aw_inc (w := 1) dX12_two_146 rfl (by decide) (by decide) ?_
                            refine aw_goto (tgt := 31) dX12_two_149 (by decide) ?_
                            exact aw_loc [0, 1, 2, 3, 4] (ls2 := [(0, .ref m), (1, .int a), (2, .int b), (3, .int _), (4, .int (nI (j + 1)))]) (by first | (rw [nI_succ]; rfl) | rfl) (ih (j + 1) _ (by omega)  (heq.trans (congrArg (mTwL S0 a b k (j + 1)) (((((((if_pos c42).trans (if_neg c55)).trans (if_pos c78)).trans (if_neg c91)).trans (if_pos c107)).trans (if_neg c120)).trans (if_neg c133)))))
        exact aw_loc [0, 1, 2, 3, 4] (ls2 := [(0, .ref m), (1, .int a), (2, .int b), (3, .int 0), (4, .int (nI 0))]) rfl (key (4) 0 0 (by first | rfl | omega)  rfl)
      · refine aw_aload_n dX12_two_21 rfl ?_
        refine aw_callV0e dX12_two_22 cmX12_bad cvX12_97 (mo_c0 hM) (Nat.le_of_ble_eq_true rfl) (tX12_bad hM) (fun r n' h' hq => ?_)
        obtain ⟨rfl, rfl, hM, ho⟩ := hq
        have hF := hF.trans ho
        exact aw_iret dX12_two_25 rfl (mo_fin (((if_neg c5).trans (if_neg c13)).trans (if_pos c18)) hM hF)
set_option maxHeartbeats 1000000 in
set_option maxRecDepth 100000 in
theorem tX12_lay {l : Launch} {E : aw_E} {d n m : Nat} {h0 : ah} {S0 : sT} {L0 : Nat → Int64} (hM : is_mo h0 m S0 L0) {o u : Int64} (hk : gE 100 o u) (ha : ¬ kFrac 100 0 o u = 0) : am l E mX12_lay d 0 0 [.ref m, .long o, .long u] n h0 (mv_post n h0 m (((S0, mFrac L0 o u) : sM))) := by
  refine am_of (by decide +kernel) (Nat.le_of_ble_eq_true rfl) ?_
  have hF : ah_off h0 h0 m 21 := ah_off.rf
  refine aw_lload_n dX12_lay_0 rfl ?_
  refine aw_lstore dX12_lay_1 (by decide) ?_
  refine aw_lload_n dX12_lay_3 rfl ?_
  refine aw_lstore dX12_lay_4 (by decide) ?_
  have key : ∀ (k j : Nat) (a b : Int64), gE k a b → kFrac 100 0 o u = kFrac k j a b → aw l E mX12_lay (aw_Z E (mv_post n h0 m (((S0, mFrac L0 o u) : sM)))) d 0 0 6 [(0, .ref m), (1, .long o), (3, .long u), (5, .long a), (7, .long b)] [] n h0 := by
    intro k
    induction k with
    | zero =>
      intro j a b hg heq
      refine aw_lload dX12_lay_6 rfl ?_
      refine aw_lconst (v := 0) dX12_lay_8 (by decide) ?_
      refine aw_lcmp dX12_lay_9 ?_
      refine aw_if_eq (tgt := 31) dX12_lay_10 (by decide) (fun c10 => ?_) (fun c10 => ?_)
      · have hea : kFrac 100 0 o u = a := heq
        have hane : ¬ a = 0 := fun q => ha (hea.trans q)
        refine aw_aload_n dX12_lay_31 rfl ?_
        refine aw_lload_n dX12_lay_32 rfl ?_
        refine aw_lload dX12_lay_33 rfl ?_
        refine aw_ldiv dX12_lay_35 hane ?_
        refine aw_pl_mo0 dX12_lay_36 fpX12_242 hM (fun h hM ho => ?_)
        have hF := hF.trans ho
        refine aw_aload_n dX12_lay_39 rfl ?_
        refine aw_lload_n dX12_lay_40 rfl ?_
        refine aw_lload dX12_lay_41 rfl ?_
        refine aw_ldiv dX12_lay_43 hane ?_
        refine aw_pl_mo1 dX12_lay_44 fpX12_64 hM (fun h hM ho => ?_)
        have hF := hF.trans ho
        exact aw_vret dX12_lay_47 rfl (mv_fin (congrArg (fun z : Nat → Int64 => (S0, z)) (show mFrac L0 o u = _ by unfold mFrac; rw [hea])) hM hF)
      · exact absurd hg c10
    | succ k ih =>
      intro j a b hg heq
      refine aw_lload dX12_lay_6 rfl ?_
      refine aw_lconst (v := 0) dX12_lay_8 (by decide) ?_
      refine aw_lcmp dX12_lay_9 ?_
      refine aw_if_eq (tgt := 31) dX12_lay_10 (by decide) (fun c10 => ?_) (fun c10 => ?_)
      · have hea : kFrac 100 0 o u = a := (heq.trans (if_pos c10))
        have hane : ¬ a = 0 := fun q => ha (hea.trans q)
        refine aw_aload_n dX12_lay_31 rfl ?_
        refine aw_lload_n dX12_lay_32 rfl ?_
        refine aw_lload dX12_lay_33 rfl ?_
        refine aw_ldiv dX12_lay_35 hane ?_
        refine aw_pl_mo0 dX12_lay_36 fpX12_242 hM (fun h hM ho => ?_)
        have hF := hF.trans ho
        refine aw_aload_n dX12_lay_39 rfl ?_
        refine aw_lload_n dX12_lay_40 rfl ?_
        refine aw_lload dX12_lay_41 rfl ?_
        refine aw_ldiv dX12_lay_43 hane ?_
        refine aw_pl_mo1 dX12_lay_44 fpX12_64 hM (fun h hM ho => ?_)
        have hF := hF.trans ho
        exact aw_vret dX12_lay_47 rfl (mv_fin (congrArg (fun z : Nat → Int64 => (S0, z)) (show mFrac L0 o u = _ by unfold mFrac; rw [hea])) hM hF)
      · refine aw_lload dX12_lay_13 rfl ?_
        refine aw_lload dX12_lay_15 rfl ?_
        refine aw_lrem dX12_lay_17 (lg_cmp_ne c10) ?_
        refine aw_lstore dX12_lay_18 (by decide) ?_
        refine aw_lload dX12_lay_20 rfl ?_
        refine aw_lstore dX12_lay_22 (by decide) ?_
        refine aw_lload dX12_lay_24 rfl ?_
        refine aw_lstore dX12_lay_26 (by decide) ?_
        refine aw_goto (tgt := 6) dX12_lay_28 (by decide) ?_
        exact aw_loc [0, 1, 3, 5, 7] (ls2 := [(0, .ref m), (1, .long o), (3, .long u), (5, .long b), (7, .long (a - a / b * b))]) rfl (ih (j + 1) _ _ (hg c10) (heq.trans (if_neg c10)))
  exact aw_loc [0, 1, 3, 5, 7] (ls2 := [(0, .ref m), (1, .long o), (3, .long u), (5, .long o), (7, .long u)]) rfl (key 100 0 o u hk rfl)
set_option maxHeartbeats 1000000 in
set_option maxRecDepth 100000 in
theorem tX12_winds {l : Launch} {E : aw_E} {d n m : Nat} {h0 : ah} {S0 : sT} {L0 : Nat → Int64} (hM : is_mo h0 m S0 L0) {w c : Int32} {M : Nat} (hm : S0 30 0 = nI M) (hm6 : M ≤ 6) (hk : ¬ iW c 0 10 = 0 → gE 100 (mWiL S0 w c (S0 30 0).toNatClampNeg 0 0).toInt64 10) (ha : ¬ iW c 0 10 = 0 → ¬ kFrac 100 0 (mWiL S0 w c (S0 30 0).toNatClampNeg 0 0).toInt64 10 = 0) : am l E mX12_winds (d + 4) 0 0 [.ref m, .int w, .int c] n h0 (mo_post n h0 m (mWinds S0 L0 w c)) := by
  refine am_of (by decide +kernel) (Nat.le_of_ble_eq_true rfl) ?_
  have hF : ah_off h0 h0 m 21 := ah_off.rf
  refine aw_iload_n dX12_winds_0 rfl ?_
  refine aw_iconst (v := 0) dX12_winds_1 (by decide) ?_
  refine aw_sipush (v := 999) dX12_winds_2 (by decide) ?_
  refine aw_callS3p dX12_winds_5 cmX12_in csX12_93 (Nat.le_of_ble_eq_true rfl) tX12_in ?_
  refine aw_if_eq (tgt := 21) dX12_winds_8 (by decide) (fun c8 => ?_) (fun c8 => ?_)
  · refine aw_aload_n dX12_winds_21 rfl ?_
    refine aw_callV0e dX12_winds_22 cmX12_bad cvX12_97 (mo_c0 hM) (Nat.le_of_ble_eq_true rfl) (tX12_bad hM) (fun r n' h' hq => ?_)
    obtain ⟨rfl, rfl, hM, ho⟩ := hq
    have hF := hF.trans ho
    exact aw_iret dX12_winds_25 rfl (mo_fin (if_pos c8) hM hF)
  · refine aw_iload_n dX12_winds_11 rfl ?_
    refine aw_iconst (v := 0) dX12_winds_12 (by decide) ?_
    refine aw_bipush (v := 10) dX12_winds_13 (by decide) ?_
    refine aw_callS3p dX12_winds_15 cmX12_in csX12_93 (Nat.le_of_ble_eq_true rfl) tX12_in ?_
    refine aw_if_ne (tgt := 26) dX12_winds_18 (by decide) (fun c18 => ?_) (fun c18 => ?_)
    · refine aw_iconst (v := 0) dX12_winds_26 (by decide) ?_
      refine aw_istore_n dX12_winds_27 (by decide) ?_
      refine aw_iconst (v := 0) dX12_winds_28 (by decide) ?_
      refine aw_istore dX12_winds_29 (by decide) ?_
      have hN := clamp_lt (S0 30 0)
      have hN6 : (S0 30 0).toNatClampNeg ≤ 6 := by rw [hm, nI_clamp (by omega)]; exact hm6
      have key : ∀ (k j : Nat) (s : Int32), j + k = (S0 30 0).toNatClampNeg → mWiL S0 w c (S0 30 0).toNatClampNeg 0 0 = mWiL S0 w c k j s → aw l E mX12_winds (aw_Z E (mo_post n h0 m (mWinds S0 L0 w c))) (d + 4) 0 0 31 [(0, .ref m), (1, .int w), (2, .int c), (3, .int s), (4, .int (nI j))] [] n h0 := by
        intro k
        induction k with
        | zero =>
          intro j s hj  heq
          refine aw_iload dX12_winds_31 rfl ?_
          refine aw_aload_n dX12_winds_33 rfl ?_
          refine aw_get dX12_winds_34 flX12_77 (mo_c0 hM) rfl ?_
          refine aw_icmp_ge (tgt := 76) dX12_winds_37 (by decide) (fun c37 => ?_) (fun c37 => ?_)
          · refine aw_aload_n dX12_winds_76 rfl ?_
            refine aw_iload_n dX12_winds_77 rfl ?_
            refine aw_i2l dX12_winds_78 rfl ?_
            refine aw_ldc2 dX12_winds_79 klX12_245 ?_
            refine aw_callV2e dX12_winds_82 cmX12_lay cvX12_247 (mo_c0 hM) (Nat.le_of_ble_eq_true rfl) (tX12_lay hM ((show mWiL S0 w c (S0 30 0).toNatClampNeg 0 0 = s from heq) ▸ hk c18) ((show mWiL S0 w c (S0 30 0).toNatClampNeg 0 0 = s from heq) ▸ ha c18)) (fun r n' h' hq => ?_)
            obtain ⟨rfl, rfl, hM, ho⟩ := hq
            have hF := hF.trans ho
            refine aw_iconst (v := 1) dX12_winds_85 (by decide) ?_
            exact aw_iret dX12_winds_86 rfl (mo_fin ((if_neg c8).trans ((if_neg c18).trans (congrArg (fun z : Int32 => ((1 : Int32), S0, mFrac L0 z.toInt64 10)) heq))) hM hF)
          · exact absurd ((i_le_nI (x := S0 30 0) (j := j) (by omega)).mpr (by omega)) c37
        | succ k ih =>
          intro j s hj  heq
          refine aw_iload dX12_winds_31 rfl ?_
          refine aw_aload_n dX12_winds_33 rfl ?_
          refine aw_get dX12_winds_34 flX12_77 (mo_c0 hM) rfl ?_
          refine aw_icmp_ge (tgt := 76) dX12_winds_37 (by decide) (fun c37 => ?_) (fun c37 => ?_)
          · exact absurd ((i_le_nI (x := S0 30 0) (j := j) (by omega)).mp c37) (by omega)
          · refine aw_iload_n dX12_winds_40 rfl ?_
            refine aw_aload_n dX12_winds_41 rfl ?_
            refine aw_get dX12_winds_42 flX12_19 (mo_c0 hM) rfl ?_
            refine aw_iload dX12_winds_45 rfl ?_
            refine aw_ialdN dX12_winds_47 (mo_c4 hM) rfl (by omega) (by decide) ?_
            refine aw_aload_n dX12_winds_48 rfl ?_
            refine aw_iload dX12_winds_49 rfl ?_
            refine aw_callV1p dX12_winds_51 cmX12_ownWeight cvX12_215 (mo_c0 hM) (Nat.le_of_ble_eq_true rfl) (tX12_ownWeight hM (vp_in_nI (by omega) (by decide))) ?_
            refine aw_iload_n dX12_winds_54 rfl ?_
            refine aw_icmp_ge (tgt := 65) dX12_winds_55 (by decide) (fun c55 => ?_) (fun c55 => ?_)
            · refine aw_bipush (v := 10) dX12_winds_65 (by decide) ?_
              refine aw_imul dX12_winds_67 ?_
              refine aw_iadd dX12_winds_68 ?_
              refine aw_istore_n dX12_winds_69 (by decide) ?_
              refine aw_inc (w := 1) dX12_winds_70 rfl (by decide) (by decide) ?_
              refine aw_goto (tgt := 31) dX12_winds_73 (by decide) ?_
              exact aw_loc [0, 1, 2, 3, 4] (ls2 := [(0, .ref m), (1, .int w), (2, .int c), (3, .int _), (4, .int (nI (j + 1)))]) (by first | (rw [nI_succ]; rfl) | rfl) (ih (j + 1) _ (by omega)  (heq.trans (congrArg (fun z => mWiL S0 w c k (j + 1) (s + S0 3 j * z)) (if_pos c55))))
            · refine aw_bipush (v := 10) dX12_winds_58 (by decide) ?_
              refine aw_iload_n dX12_winds_60 rfl ?_
              refine aw_isub dX12_winds_61 ?_
              refine aw_goto (tgt := 67) dX12_winds_62 (by decide) ?_
              refine aw_imul dX12_winds_67 ?_
              refine aw_iadd dX12_winds_68 ?_
              refine aw_istore_n dX12_winds_69 (by decide) ?_
              refine aw_inc (w := 1) dX12_winds_70 rfl (by decide) (by decide) ?_
              refine aw_goto (tgt := 31) dX12_winds_73 (by decide) ?_
              exact aw_loc [0, 1, 2, 3, 4] (ls2 := [(0, .ref m), (1, .int w), (2, .int c), (3, .int _), (4, .int (nI (j + 1)))]) (by first | (rw [nI_succ]; rfl) | rfl) (ih (j + 1) _ (by omega)  (heq.trans (congrArg (fun z => mWiL S0 w c k (j + 1) (s + S0 3 j * z)) (if_neg c55))))
      exact aw_loc [0, 1, 2, 3, 4] (ls2 := [(0, .ref m), (1, .int w), (2, .int c), (3, .int 0), (4, .int (nI 0))]) rfl (key ((S0 30 0).toNatClampNeg) 0 0 (by first | rfl | omega)  rfl)
    · refine aw_aload_n dX12_winds_21 rfl ?_
      refine aw_callV0e dX12_winds_22 cmX12_bad cvX12_97 (mo_c0 hM) (Nat.le_of_ble_eq_true rfl) (tX12_bad hM) (fun r n' h' hq => ?_)
      obtain ⟨rfl, rfl, hM, ho⟩ := hq
      have hF := hF.trans ho
      exact aw_iret dX12_winds_25 rfl (mo_fin ((if_neg c8).trans (if_pos c18)) hM hF)
set_option maxHeartbeats 1000000 in
set_option maxRecDepth 100000 in
theorem tX12_part {l : Launch} {E : aw_E} {d n m : Nat} {h0 : ah} {S0 : sT} {L0 : Nat → Int64} (hM : is_mo h0 m S0 L0) {w : Int32} : am l E mX12_part (d + 1) 0 0 [.ref m, .int w] n h0 (ml_post n h0 m (mPart S0 L0 w)) := by
  refine am_of (by decide +kernel) (Nat.le_of_ble_eq_true rfl) ?_
  have hF : ah_off h0 h0 m 21 := ah_off.rf
  refine aw_iload_n dX12_part_0 rfl ?_
  refine aw_if_ne (tgt := 11) dX12_part_1 (by decide) (fun c1 => ?_) (fun c1 => ?_)
  · refine aw_iload_n dX12_part_11 rfl ?_
    refine aw_iconst (v := 1) dX12_part_12 (by decide) ?_
    refine aw_icmp_ne (tgt := 23) dX12_part_13 (by decide) (fun c13 => ?_) (fun c13 => ?_)
    · refine aw_aload_n dX12_part_23 rfl ?_
      refine aw_callV0e dX12_part_24 cmX12_bad cvX12_97 (mo_c0 hM) (Nat.le_of_ble_eq_true rfl) (tX12_bad hM) (fun r n' h' hq => ?_)
      obtain ⟨rfl, rfl, hM, ho⟩ := hq
      have hF := hF.trans ho
      refine aw_i2l dX12_part_27 rfl ?_
      exact aw_lret dX12_part_28 rfl (ml_fin ((if_neg c1).trans (if_neg c13)) hM hF)
    · refine aw_aload_n dX12_part_16 rfl ?_
      refine aw_get dX12_part_17 flX12_64 (mo_c0 hM) rfl ?_
      refine aw_goto (tgt := 28) dX12_part_20 (by decide) ?_
      exact aw_lret dX12_part_28 rfl (ml_fin ((if_neg c1).trans (if_pos c13)) hM hF)
  · refine aw_aload_n dX12_part_4 rfl ?_
    refine aw_get dX12_part_5 flX12_242 (mo_c0 hM) rfl ?_
    refine aw_goto (tgt := 28) dX12_part_8 (by decide) ?_
    exact aw_lret dX12_part_28 rfl (ml_fin (if_pos c1) hM hF)
theorem iW_in3 {w : Int32} (h : ¬ iW w 0 2 = 0) : vp_in w 3 := by
  unfold iW at h
  by_cases h1 : w < 0
  · rw [if_pos h1] at h; exact absurd rfl h
  · rw [if_neg h1] at h
    by_cases h2 : 2 < w
    · rw [if_pos h2] at h; exact absurd rfl h
    · refine vp_in_ofN (N := 3) h1 (fun q => h2 ?_) (by decide)
      rw [fa_lt]
      rw [fa_le] at q
      have e2 : (2 : Int32).toInt = 2 := by decide
      have e3 : (nI 3).toInt = 3 := by decide
      omega
set_option maxHeartbeats 1000000 in
set_option maxRecDepth 100000 in
theorem tX12_status {l : Launch} {E : aw_E} {d n m : Nat} {h0 : ah} {S0 : sT} {L0 : Nat → Int64} (hM : is_mo h0 m S0 L0) {w : Int32} : am l E mX12_status (d + 1) 0 0 [.ref m, .int w] n h0 (mo_post n h0 m (mStatus S0 L0 w)) := by
  refine am_of (by decide +kernel) (Nat.le_of_ble_eq_true rfl) ?_
  have hF : ah_off h0 h0 m 21 := ah_off.rf
  refine aw_iload_n dX12_status_0 rfl ?_
  refine aw_iconst (v := 0) dX12_status_1 (by decide) ?_
  refine aw_iconst (v := 2) dX12_status_2 (by decide) ?_
  refine aw_callS3p dX12_status_3 cmX12_in csX12_93 (Nat.le_of_ble_eq_true rfl) tX12_in ?_
  refine aw_if_ne (tgt := 21) dX12_status_6 (by decide) (fun c6 => ?_) (fun c6 => ?_)
  · refine aw_aload_n dX12_status_21 rfl ?_
    refine aw_get dX12_status_22 flX12_1 (mo_c0 hM) rfl ?_
    refine aw_iload_n dX12_status_25 rfl ?_
    refine aw_iald dX12_status_26 (mo_c1 hM) (iW_in3 c6) ?_
    exact aw_iret dX12_status_27 rfl (mo_fin (if_neg c6) hM hF)
  · refine aw_aload_n dX12_status_9 rfl ?_
    refine aw_get dX12_status_10 flX12_1 (mo_c0 hM) rfl ?_
    refine aw_iconst (v := 0) dX12_status_13 (by decide) ?_
    refine aw_dup2 dX12_status_14 rfl rfl ?_
    refine aw_ialdN dX12_status_15 (mo_c1 hM) (show (0 : Int32) = nI 0 from rfl) (by decide) (by decide) ?_
    refine aw_iconst (v := 1) dX12_status_16 (by decide) ?_
    refine aw_iadd dX12_status_17 ?_
    refine aw_iN_mo0 dX12_status_18 hM (show (0 : Int32) = nI 0 from rfl) (by decide) (fun h hM ho => ?_)
    have hF := hF.trans ho
    refine aw_iconst (v := -1) dX12_status_19 (by decide) ?_
    exact aw_iret dX12_status_20 rfl (mo_fin (if_pos c6) hM hF)
set_option maxHeartbeats 1000000 in
set_option maxRecDepth 100000 in
theorem tX12_mix {l : Launch} {E : aw_E} {d n m : Nat} {h0 : ah} {S0 : sT} {L0 : Nat → Int64} (hM : is_mo h0 m S0 L0) {v : Int64} : am l E mX12_mix d 0 0 [.ref m, .long v] n h0 (mv_post n h0 m (((S0, mMx L0 v) : sM))) := by
  refine am_of (by decide +kernel) (Nat.le_of_ble_eq_true rfl) ?_
  have hF : ah_off h0 h0 m 21 := ah_off.rf
  refine aw_aload_n dX12_mix_0 rfl ?_
  refine aw_ldc2 dX12_mix_1 klX12_284 ?_
  refine aw_aload_n dX12_mix_4 rfl ?_
  refine aw_get dX12_mix_5 flX12_286 (mo_c0 hM) rfl ?_
  refine aw_lmul dX12_mix_8 ?_
  refine aw_lload_n dX12_mix_9 rfl ?_
  refine aw_ladd dX12_mix_10 ?_
  refine aw_pl_mo2 dX12_mix_11 fpX12_286 hM (fun h hM ho => ?_)
  have hF := hF.trans ho
  exact aw_vret dX12_mix_14 rfl (mv_fin rfl hM hF)
set_option maxHeartbeats 1000000 in
set_option maxRecDepth 100000 in
theorem tX12_digest {l : Launch} {E : aw_E} {d n m : Nat} {h0 : ah} {S0 : sT} {L0 : Nat → Int64} (hM : is_mo h0 m S0 L0) {M : Nat} (hm : S0 30 0 = nI M) (hm6 : M ≤ 6) {N : Nat} (hn : S0 30 3 = nI N) (hn6 : N ≤ 6) : am l E mX12_digest (d + 2) 0 0 [.ref m] n h0 (ml_post n h0 m (mDigest S0 L0)) := by
  refine am_of (by decide +kernel) (Nat.le_of_ble_eq_true rfl) ?_
  have hF : ah_off h0 h0 m 21 := ah_off.rf
  refine aw_aload_n dX12_digest_0 rfl ?_
  refine aw_ldc2 dX12_digest_1 klX12_289 ?_
  refine aw_pl_mo2 dX12_digest_4 fpX12_286 hM (fun h hM ho => ?_)
  have hF := hF.trans ho
  refine aw_iconst (v := 0) dX12_digest_7 (by decide) ?_
  refine aw_istore_n dX12_digest_8 (by decide) ?_
  have key1 : ∀ (k1 j1 : Nat) (h : ah) (L : Nat → Int64), j1 + k1 = 7 → is_mo h m S0 L → ah_off h0 h m 21 → mDgA S0 L0 = mDg1 S0 k1 j1 L → aw l E mX12_digest (aw_Z E (ml_post n h0 m (mDigest S0 L0))) (d + 2) 0 0 9 [(0, .ref m), (1, .int (nI j1))] [] n h := by
    intro k1
    induction k1 with
    | zero =>
      intro j1 h L hj1 hM hF heq1
      refine aw_iload_n dX12_digest_9 rfl ?_
      refine aw_bipush (v := 6) dX12_digest_10 (by decide) ?_
      refine aw_icmp_gt (tgt := 31) dX12_digest_12 (by decide) (fun c12 => ?_) (fun c12 => ?_)
      · refine aw_iconst (v := 0) dX12_digest_31 (by decide) ?_
        refine aw_istore_n dX12_digest_32 (by decide) ?_
        have hN := clamp_lt (S0 30 0)
        have hN6 : (S0 30 0).toNatClampNeg ≤ 6 := by rw [hm, nI_clamp (by omega)]; exact hm6
        have key2 : ∀ (k2 j2 : Nat) (h : ah) (L : Nat → Int64), j2 + k2 = (S0 30 0).toNatClampNeg → is_mo h m S0 L → ah_off h0 h m 21 → mDgB S0 L0 = mDg2 S0 k2 j2 L → aw l E mX12_digest (aw_Z E (ml_post n h0 m (mDigest S0 L0))) (d + 2) 0 0 33 [(0, .ref m), (1, .int (nI j2))] [] n h := by
          intro k2
          induction k2 with
          | zero =>
            intro j2 h L hj2 hM hF heq2
            refine aw_iload_n dX12_digest_33 rfl ?_
            refine aw_aload_n dX12_digest_34 rfl ?_
            refine aw_get dX12_digest_35 flX12_77 (mo_c0 hM) rfl ?_
            refine aw_icmp_ge (tgt := 115) dX12_digest_38 (by decide) (fun c38 => ?_) (fun c38 => ?_)
            · refine aw_iconst (v := 0) dX12_digest_115 (by decide) ?_
              refine aw_istore_n dX12_digest_116 (by decide) ?_
              have hN3 := clamp_lt (S0 30 3)
              have hN36 : (S0 30 3).toNatClampNeg ≤ 6 := by rw [hn, nI_clamp (by omega)]; exact hn6
              have key3 : ∀ (k3 j3 : Nat) (h : ah) (L : Nat → Int64), j3 + k3 = (S0 30 3).toNatClampNeg → is_mo h m S0 L → ah_off h0 h m 21 → mDgC S0 L0 = mDg3 S0 k3 j3 L → aw l E mX12_digest (aw_Z E (ml_post n h0 m (mDigest S0 L0))) (d + 2) 0 0 117 [(0, .ref m), (1, .int (nI j3))] [] n h := by
                intro k3
                induction k3 with
                | zero =>
                  intro j3 h L hj3 hM hF heq3
                  refine aw_iload_n dX12_digest_117 rfl ?_
                  refine aw_aload_n dX12_digest_118 rfl ?_
                  refine aw_get dX12_digest_119 flX12_87 (mo_c0 hM) rfl ?_
                  refine aw_icmp_ge (tgt := 175) dX12_digest_122 (by decide) (fun c122 => ?_) (fun c122 => ?_)
                  · refine aw_aload_n dX12_digest_175 rfl ?_
                    refine aw_aload_n dX12_digest_176 rfl ?_
                    refine aw_get dX12_digest_177 flX12_242 (mo_c0 hM) rfl ?_
                    refine aw_callV1e dX12_digest_180 cmX12_mix cvX12_291 (mo_c0 hM) (Nat.le_of_ble_eq_true rfl) (tX12_mix hM) (fun r n' h' hq => ?_)
                    obtain ⟨rfl, rfl, hM, ho⟩ := hq
                    have hF := hF.trans ho
                    refine aw_aload_n dX12_digest_183 rfl ?_
                    refine aw_aload_n dX12_digest_184 rfl ?_
                    refine aw_get dX12_digest_185 flX12_64 (mo_c0 hM) rfl ?_
                    refine aw_callV1e dX12_digest_188 cmX12_mix cvX12_291 (mo_c0 hM) (Nat.le_of_ble_eq_true rfl) (tX12_mix hM) (fun r n' h' hq => ?_)
                    obtain ⟨rfl, rfl, hM, ho⟩ := hq
                    have hF := hF.trans ho
                    refine aw_aload_n dX12_digest_191 rfl ?_
                    refine aw_get dX12_digest_192 flX12_286 (mo_c0 hM) rfl ?_
                    exact aw_lret dX12_digest_195 rfl (ml_fin (congrArg (fun z : Nat → Int64 => (mDgE z 2, S0, mDgE z)) heq3) hM hF)
                  · exact absurd ((i_le_nI (x := S0 30 3) (j := j3) (by omega)).mpr (by omega)) c122
                | succ k3 ih3 =>
                  intro j3 h L hj3 hM hF heq3
                  refine aw_iload_n dX12_digest_117 rfl ?_
                  refine aw_aload_n dX12_digest_118 rfl ?_
                  refine aw_get dX12_digest_119 flX12_87 (mo_c0 hM) rfl ?_
                  refine aw_icmp_ge (tgt := 175) dX12_digest_122 (by decide) (fun c122 => ?_) (fun c122 => ?_)
                  · exact absurd ((i_le_nI (x := S0 30 3) (j := j3) (by omega)).mp c122) (by omega)
                  · refine aw_aload_n dX12_digest_125 rfl ?_
                    refine aw_aload_n dX12_digest_126 rfl ?_
                    refine aw_get dX12_digest_127 flX12_28 (mo_c0 hM) rfl ?_
                    refine aw_iload_n dX12_digest_130 rfl ?_
                    refine aw_ialdN dX12_digest_131 (mo_c7 hM) rfl (by omega) (by decide) ?_
                    refine aw_i2l dX12_digest_132 rfl ?_
                    refine aw_callV1e dX12_digest_133 cmX12_mix cvX12_291 (mo_c0 hM) (Nat.le_of_ble_eq_true rfl) (tX12_mix hM) (fun r n' h' hq => ?_)
                    obtain ⟨rfl, rfl, hM, ho⟩ := hq
                    have hF := hF.trans ho
                    refine aw_aload_n dX12_digest_136 rfl ?_
                    refine aw_aload_n dX12_digest_137 rfl ?_
                    refine aw_get dX12_digest_138 flX12_31 (mo_c0 hM) rfl ?_
                    refine aw_iload_n dX12_digest_141 rfl ?_
                    refine aw_ialdN dX12_digest_142 (mo_c8 hM) rfl (by omega) (by decide) ?_
                    refine aw_i2l dX12_digest_143 rfl ?_
                    refine aw_callV1e dX12_digest_144 cmX12_mix cvX12_291 (mo_c0 hM) (Nat.le_of_ble_eq_true rfl) (tX12_mix hM) (fun r n' h' hq => ?_)
                    obtain ⟨rfl, rfl, hM, ho⟩ := hq
                    have hF := hF.trans ho
                    refine aw_aload_n dX12_digest_147 rfl ?_
                    refine aw_aload_n dX12_digest_148 rfl ?_
                    refine aw_get dX12_digest_149 flX12_34 (mo_c0 hM) rfl ?_
                    refine aw_iload_n dX12_digest_152 rfl ?_
                    refine aw_ialdN dX12_digest_153 (mo_c9 hM) rfl (by omega) (by decide) ?_
                    refine aw_i2l dX12_digest_154 rfl ?_
                    refine aw_callV1e dX12_digest_155 cmX12_mix cvX12_291 (mo_c0 hM) (Nat.le_of_ble_eq_true rfl) (tX12_mix hM) (fun r n' h' hq => ?_)
                    obtain ⟨rfl, rfl, hM, ho⟩ := hq
                    have hF := hF.trans ho
                    refine aw_aload_n dX12_digest_158 rfl ?_
                    refine aw_aload_n dX12_digest_159 rfl ?_
                    refine aw_get dX12_digest_160 flX12_37 (mo_c0 hM) rfl ?_
                    refine aw_iload_n dX12_digest_163 rfl ?_
                    refine aw_ialdN dX12_digest_164 (mo_c10 hM) rfl (by omega) (by decide) ?_
                    refine aw_i2l dX12_digest_165 rfl ?_
                    refine aw_callV1e dX12_digest_166 cmX12_mix cvX12_291 (mo_c0 hM) (Nat.le_of_ble_eq_true rfl) (tX12_mix hM) (fun r n' h' hq => ?_)
                    obtain ⟨rfl, rfl, hM, ho⟩ := hq
                    have hF := hF.trans ho
                    refine aw_inc (w := 1) dX12_digest_169 rfl (by decide) (by decide) ?_
                    refine aw_goto (tgt := 117) dX12_digest_172 (by decide) ?_
                    exact aw_loc [0, 1] (ls2 := [(0, .ref m), (1, .int (nI (j3 + 1)))]) (by first | (rw [nI_succ]; rfl) | rfl) (ih3 (j3 + 1) _ _ (by omega) hM hF heq3)
              exact aw_loc [0, 1] (ls2 := [(0, .ref m), (1, .int (nI 0))]) rfl (key3 ((S0 30 3).toNatClampNeg) 0 _ _ (by first | rfl | omega) hM hF (congrArg (mDg3 S0 (S0 30 3).toNatClampNeg 0) heq2))
            · exact absurd ((i_le_nI (x := S0 30 0) (j := j2) (by omega)).mpr (by omega)) c38
          | succ k2 ih2 =>
            intro j2 h L hj2 hM hF heq2
            refine aw_iload_n dX12_digest_33 rfl ?_
            refine aw_aload_n dX12_digest_34 rfl ?_
            refine aw_get dX12_digest_35 flX12_77 (mo_c0 hM) rfl ?_
            refine aw_icmp_ge (tgt := 115) dX12_digest_38 (by decide) (fun c38 => ?_) (fun c38 => ?_)
            · exact absurd ((i_le_nI (x := S0 30 0) (j := j2) (by omega)).mp c38) (by omega)
            · refine aw_aload_n dX12_digest_41 rfl ?_
              refine aw_aload_n dX12_digest_42 rfl ?_
              refine aw_get dX12_digest_43 flX12_13 (mo_c0 hM) rfl ?_
              refine aw_iload_n dX12_digest_46 rfl ?_
              refine aw_ialdN dX12_digest_47 (mo_c2 hM) rfl (by omega) (by decide) ?_
              refine aw_i2l dX12_digest_48 rfl ?_
              refine aw_callV1e dX12_digest_49 cmX12_mix cvX12_291 (mo_c0 hM) (Nat.le_of_ble_eq_true rfl) (tX12_mix hM) (fun r n' h' hq => ?_)
              obtain ⟨rfl, rfl, hM, ho⟩ := hq
              have hF := hF.trans ho
              refine aw_aload_n dX12_digest_52 rfl ?_
              refine aw_aload_n dX12_digest_53 rfl ?_
              refine aw_get dX12_digest_54 flX12_16 (mo_c0 hM) rfl ?_
              refine aw_iload_n dX12_digest_57 rfl ?_
              refine aw_ialdN dX12_digest_58 (mo_c3 hM) rfl (by omega) (by decide) ?_
              refine aw_i2l dX12_digest_59 rfl ?_
              refine aw_callV1e dX12_digest_60 cmX12_mix cvX12_291 (mo_c0 hM) (Nat.le_of_ble_eq_true rfl) (tX12_mix hM) (fun r n' h' hq => ?_)
              obtain ⟨rfl, rfl, hM, ho⟩ := hq
              have hF := hF.trans ho
              refine aw_aload_n dX12_digest_63 rfl ?_
              refine aw_aload_n dX12_digest_64 rfl ?_
              refine aw_get dX12_digest_65 flX12_19 (mo_c0 hM) rfl ?_
              refine aw_iload_n dX12_digest_68 rfl ?_
              refine aw_ialdN dX12_digest_69 (mo_c4 hM) rfl (by omega) (by decide) ?_
              refine aw_i2l dX12_digest_70 rfl ?_
              refine aw_callV1e dX12_digest_71 cmX12_mix cvX12_291 (mo_c0 hM) (Nat.le_of_ble_eq_true rfl) (tX12_mix hM) (fun r n' h' hq => ?_)
              obtain ⟨rfl, rfl, hM, ho⟩ := hq
              have hF := hF.trans ho
              refine aw_aload_n dX12_digest_74 rfl ?_
              refine aw_aload_n dX12_digest_75 rfl ?_
              refine aw_get dX12_digest_76 flX12_22 (mo_c0 hM) rfl ?_
              refine aw_iload_n dX12_digest_79 rfl ?_
              refine aw_ialdN dX12_digest_80 (mo_c5 hM) rfl (by omega) (by decide) ?_
              refine aw_i2l dX12_digest_81 rfl ?_
              refine aw_callV1e dX12_digest_82 cmX12_mix cvX12_291 (mo_c0 hM) (Nat.le_of_ble_eq_true rfl) (tX12_mix hM) (fun r n' h' hq => ?_)
              obtain ⟨rfl, rfl, hM, ho⟩ := hq
              have hF := hF.trans ho
              refine aw_aload_n dX12_digest_85 rfl ?_
              refine aw_aload_n dX12_digest_86 rfl ?_
              refine aw_get dX12_digest_87 flX12_84 (mo_c0 hM) rfl ?_
              refine aw_iload_n dX12_digest_90 rfl ?_
              refine aw_ishr dX12_digest_91 ?_
              refine aw_iconst (v := 1) dX12_digest_92 (by decide) ?_
              refine aw_iand dX12_digest_93 ?_
              refine aw_i2l dX12_digest_94 rfl ?_
              refine aw_callV1e dX12_digest_95 cmX12_mix cvX12_291 (mo_c0 hM) (Nat.le_of_ble_eq_true rfl) (tX12_mix hM) (fun r n' h' hq => ?_)
              obtain ⟨rfl, rfl, hM, ho⟩ := hq
              have hF := hF.trans ho
              refine aw_aload_n dX12_digest_98 rfl ?_
              refine aw_aload_n dX12_digest_99 rfl ?_
              refine aw_get dX12_digest_100 flX12_25 (mo_c0 hM) rfl ?_
              refine aw_iload_n dX12_digest_103 rfl ?_
              refine aw_ialdN dX12_digest_104 (mo_c6 hM) rfl (by omega) (by decide) ?_
              refine aw_i2l dX12_digest_105 rfl ?_
              refine aw_callV1e dX12_digest_106 cmX12_mix cvX12_291 (mo_c0 hM) (Nat.le_of_ble_eq_true rfl) (tX12_mix hM) (fun r n' h' hq => ?_)
              obtain ⟨rfl, rfl, hM, ho⟩ := hq
              have hF := hF.trans ho
              refine aw_inc (w := 1) dX12_digest_109 rfl (by decide) (by decide) ?_
              refine aw_goto (tgt := 33) dX12_digest_112 (by decide) ?_
              exact aw_loc [0, 1] (ls2 := [(0, .ref m), (1, .int (nI (j2 + 1)))]) (by first | (rw [nI_succ]; rfl) | rfl) (ih2 (j2 + 1) _ _ (by omega) hM hF heq2)
        exact aw_loc [0, 1] (ls2 := [(0, .ref m), (1, .int (nI 0))]) rfl (key2 ((S0 30 0).toNatClampNeg) 0 _ _ (by first | rfl | omega) hM hF (congrArg (mDg2 S0 (S0 30 0).toNatClampNeg 0) heq1))
      · exact absurd ((nI_ltI (a := 6) (b := j1) (by omega) (by omega)).mpr (by omega)) c12
    | succ k1 ih1 =>
      intro j1 h L hj1 hM hF heq1
      refine aw_iload_n dX12_digest_9 rfl ?_
      refine aw_bipush (v := 6) dX12_digest_10 (by decide) ?_
      refine aw_icmp_gt (tgt := 31) dX12_digest_12 (by decide) (fun c12 => ?_) (fun c12 => ?_)
      · exact absurd ((nI_ltI (a := 6) (b := j1) (by omega) (by omega)).mp c12) (by omega)
      · refine aw_aload_n dX12_digest_15 rfl ?_
        refine aw_aload_n dX12_digest_16 rfl ?_
        refine aw_iload_n dX12_digest_17 rfl ?_
        refine aw_callV1p dX12_digest_18 cmX12_countOf cvX12_281 (mo_c0 hM) (Nat.le_of_ble_eq_true rfl) (tX12_countOf hM hm hm6) ?_
        refine aw_i2l dX12_digest_21 rfl ?_
        refine aw_callV1e dX12_digest_22 cmX12_mix cvX12_291 (mo_c0 hM) (Nat.le_of_ble_eq_true rfl) (tX12_mix hM) (fun r n' h' hq => ?_)
        obtain ⟨rfl, rfl, hM, ho⟩ := hq
        have hF := hF.trans ho
        refine aw_inc (w := 1) dX12_digest_25 rfl (by decide) (by decide) ?_
        refine aw_goto (tgt := 9) dX12_digest_28 (by decide) ?_
        exact aw_loc [0, 1] (ls2 := [(0, .ref m), (1, .int (nI (j1 + 1)))]) (by first | (rw [nI_succ]; rfl) | rfl) (ih1 (j1 + 1) _ _ (by omega) hM hF heq1)
  exact aw_loc [0, 1] (ls2 := [(0, .ref m), (1, .int (nI 0))]) rfl (key1 (7) 0 _ _ (by first | rfl | omega) hM hF rfl)
