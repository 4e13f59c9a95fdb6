/-! THE REFERENCE'S READER. -/
set_option maxHeartbeats 1000000 in
set_option maxRecDepth 100000 in
theorem tX12_here {l : Launch} {E : aw_E} {d n m : Nat} {h : ah} {B : sT} {L0 : Nat → Int64} {a c t : Nat} {li v : Int32} {o : Nat → Int32} (hM : is_mo h m (mP B a c li v o) L0) (ht : B 30 4 = nI t) (ht6 : t ≤ 150) (ha : a ≤ 200) : am l E mX12_here d 0 0 [.ref m] n h (aw_eq n h (some (.int (pC (B 10) t a)))) := by
  refine am_of (by decide +kernel) (Nat.le_of_ble_eq_true rfl) ?_
  refine aw_aload_n dX12_here_0 rfl ?_
  refine aw_get dX12_here_1 flX12_115 (mo_c0 hM) rfl ?_
  refine aw_aload_n dX12_here_4 rfl ?_
  refine aw_get dX12_here_5 flX12_112 (mo_c0 hM) rfl ?_
  refine aw_icmp_ge (tgt := 23) dX12_here_8 (by decide) (fun c8 => ?_) (fun c8 => ?_)
  · have q8 : t ≤ a := (le_ta (a := a) ht ht6 (by omega)).mp c8
    refine aw_iconst (v := -1) dX12_here_23 (by decide) ?_
    exact aw_iret dX12_here_24 rfl (⟨congrArg (fun z => some (Value.int z)) (if_pos q8), rfl, rfl⟩)
  · have q8 : ¬ t ≤ a := mt (le_ta (a := a) ht ht6 (by omega)).mpr c8
    refine aw_aload_n dX12_here_11 rfl ?_
    refine aw_get dX12_here_12 flX12_40 (mo_c0 hM) rfl ?_
    refine aw_aload_n dX12_here_15 rfl ?_
    refine aw_get dX12_here_16 flX12_115 (mo_c0 hM) rfl ?_
    refine aw_ialdN dX12_here_19 (mo_c11 hM) (show mP B a c li v o 30 5 = nI a from rfl) (by omega) (by decide) ?_
    refine aw_goto (tgt := 24) dX12_here_20 (by decide) ?_
    exact aw_iret dX12_here_24 rfl (⟨congrArg (fun z => some (Value.int z)) (if_neg q8), rfl, rfl⟩)
set_option maxHeartbeats 1000000 in
set_option maxRecDepth 100000 in
theorem tX12_skip {l : Launch} {E : aw_E} {d n m : Nat} {h0 : ah} {B : sT} {L0 : Nat → Int64} {a c t : Nat} {li v : Int32} {o : Nat → Int32} (hM : is_mo h0 m (mP B a c li v o) L0) (ht : B 30 4 = nI t) (ht6 : t ≤ 150) (ha : a ≤ 200) : am l E mX12_skip (d + 1) 0 0 [.ref m] n h0 (mv_post n h0 m (((mP B (pS (B 10) t a) c li v o, L0) : sM))) := by
  refine am_of (by decide +kernel) (Nat.le_of_ble_eq_true rfl) ?_
  have hF : ah_off h0 h0 m 21 := ah_off.rf
  have key : ∀ (k : Nat) (b : Nat) (h : ah), t ≤ b + k → b ≤ 200 → is_mo h m (mP B b c li v o) L0 → ah_off h0 h m 21 → pS (B 10) t a = pSk (B 10) t k b → aw l E mX12_skip (aw_Z E (mv_post n h0 m (((mP B (pS (B 10) t a) c li v o, L0) : sM)))) (d + 1) 0 0 0 [(0, .ref m)] [] n h := by
    intro k
    induction k with
    | zero =>
      intro b h hk hb hM hF heq
      refine aw_aload_n dX12_skip_0 rfl ?_
      refine aw_callV0p dX12_skip_1 cmX12_here cvX12_118 (mo_c0 hM) (Nat.le_of_ble_eq_true rfl) (tX12_here hM ht ht6 hb) ?_
      refine aw_bipush (v := 32) dX12_skip_4 (by decide) ?_
      refine aw_icmp_ne (tgt := 22) dX12_skip_6 (by decide) (fun c6 => ?_) (fun c6 => ?_)
      · exact aw_vret dX12_skip_22 rfl (mv_fin (congrArg (fun z : Nat => (mP B z c li v o, L0)) heq) hM hF)
      · exact absurd ((pC_ge (x := B 10) (t := t) (a := b) (by omega)).symm.trans c6) (by decide)
    | succ k ih =>
      intro b h hk hb hM hF heq
      refine aw_aload_n dX12_skip_0 rfl ?_
      refine aw_callV0p dX12_skip_1 cmX12_here cvX12_118 (mo_c0 hM) (Nat.le_of_ble_eq_true rfl) (tX12_here hM ht ht6 hb) ?_
      refine aw_bipush (v := 32) dX12_skip_4 (by decide) ?_
      refine aw_icmp_ne (tgt := 22) dX12_skip_6 (by decide) (fun c6 => ?_) (fun c6 => ?_)
      · exact aw_vret dX12_skip_22 rfl (mv_fin (congrArg (fun z : Nat => (mP B z c li v o, L0)) (heq.trans (if_neg c6))) hM hF)
      · have hbt : b < t := by
          rcases Nat.lt_or_ge b t with q | q
          · exact q
          · exact absurd ((pC_ge (x := B 10) q).symm.trans c6) (by decide)
        refine aw_aload_n dX12_skip_9 rfl ?_
        refine aw_dup dX12_skip_10 rfl ?_
        refine aw_get dX12_skip_11 flX12_115 (mo_c0 hM) rfl ?_
        refine aw_iconst (v := 1) dX12_skip_14 (by decide) ?_
        refine aw_iadd dX12_skip_15 ?_
        refine aw_pf_mo5 dX12_skip_16 fpX12_115 hM (fun h hM ho => ?_)
        have hF := hF.trans ho
        have hM := is_moP (mP_a (show nI b + 1 = nI (b + 1) from nI_1 b)) hM
        refine aw_goto (tgt := 0) dX12_skip_19 (by decide) ?_
        exact aw_loc [0] (ls2 := [(0, .ref m)]) rfl (ih (b + 1) _ (by omega) (by omega) hM hF (heq.trans (if_pos c6)))
  exact aw_loc [0] (ls2 := [(0, .ref m)]) rfl (key (t - a) a _ (by omega) ha hM hF rfl)
set_option maxHeartbeats 1000000 in
set_option maxRecDepth 100000 in
theorem tX12_isLetter {l : Launch} {E : aw_E} {d n : Nat} {h : ah} {c : Int32} : am l E mX12_isLetter (d + 1) 0 0 [.int c] n h (aw_eq n h (some (.int (iW c 97 122)))) := by
  refine am_of (by decide +kernel) (Nat.le_of_ble_eq_true rfl) ?_
  refine aw_iload_n dX12_isLetter_0 rfl ?_
  refine aw_bipush (v := 97) dX12_isLetter_1 (by decide) ?_
  refine aw_bipush (v := 122) dX12_isLetter_3 (by decide) ?_
  refine aw_callS3p dX12_isLetter_5 cmX12_in csX12_93 (Nat.le_of_ble_eq_true rfl) tX12_in ?_
  exact aw_zret dX12_isLetter_8 rfl (iW_nar _ _ _) (⟨rfl, rfl, rfl⟩)
set_option maxHeartbeats 1000000 in
set_option maxRecDepth 100000 in
theorem tX12_isFigure {l : Launch} {E : aw_E} {d n : Nat} {h : ah} {c : Int32} : am l E mX12_isFigure (d + 1) 0 0 [.int c] n h (aw_eq n h (some (.int (iW c 48 57)))) := by
  refine am_of (by decide +kernel) (Nat.le_of_ble_eq_true rfl) ?_
  refine aw_iload_n dX12_isFigure_0 rfl ?_
  refine aw_bipush (v := 48) dX12_isFigure_1 (by decide) ?_
  refine aw_bipush (v := 57) dX12_isFigure_3 (by decide) ?_
  refine aw_callS3p dX12_isFigure_5 cmX12_in csX12_93 (Nat.le_of_ble_eq_true rfl) tX12_in ?_
  exact aw_zret dX12_isFigure_8 rfl (iW_nar _ _ _) (⟨rfl, rfl, rfl⟩)
set_option maxHeartbeats 1000000 in
set_option maxRecDepth 100000 in
theorem tX12_wordSize {l : Launch} {E : aw_E} {d n m : Nat} {h : ah} {B : sT} {L0 : Nat → Int64} {a c t : Nat} {li v : Int32} {o : Nat → Int32} (hM : is_mo h m (mP B a c li v o) L0) (ht : B 30 4 = nI t) (ht6 : t ≤ 150) (ha : a ≤ 200) : am l E mX12_wordSize (d + 2) 0 0 [.ref m] n h (aw_eq n h (some (.int (nI (pW (B 10) t a))))) := by
  refine am_of (by decide +kernel) (Nat.le_of_ble_eq_true rfl) ?_
  refine aw_iconst (v := 0) dX12_wordSize_0 (by decide) ?_
  refine aw_istore_n dX12_wordSize_1 (by decide) ?_
  have key : ∀ (k : Nat) (j : Nat), j + k = t - a → pW (B 10) t a = pWs (B 10) a k j → aw l E mX12_wordSize (aw_Z E (aw_eq n h (some (.int (nI (pW (B 10) t a)))))) (d + 2) 0 0 2 [(0, .ref m), (1, .int (nI j))] [] n h := by
    intro k
    induction k with
    | zero =>
      intro j hk heq
      refine aw_aload_n dX12_wordSize_2 rfl ?_
      refine aw_get dX12_wordSize_3 flX12_115 (mo_c0 hM) rfl ?_
      refine aw_iload_n dX12_wordSize_6 rfl ?_
      refine aw_iadd dX12_wordSize_7 ?_
      refine aw_aload_n dX12_wordSize_8 rfl ?_
      refine aw_get dX12_wordSize_9 flX12_112 (mo_c0 hM) rfl ?_
      refine aw_icmp_ge (tgt := 38) dX12_wordSize_12 (by decide) (fun c12 => ?_) (fun c12 => ?_)
      · have q12 : t ≤ a + j := (le_tj (a := a) (j := j) ht ht6 (by omega)).mp c12
        refine aw_iload_n dX12_wordSize_38 rfl ?_
        exact aw_iret dX12_wordSize_39 rfl (⟨congrArg (fun z => some (Value.int (nI z))) heq, rfl, rfl⟩)
      · have q12 : ¬ t ≤ a + j := mt (le_tj (a := a) (j := j) ht ht6 (by omega)).mpr c12
        exact absurd (show t ≤ a + j by omega) q12
    | succ k ih =>
      intro j hk heq
      refine aw_aload_n dX12_wordSize_2 rfl ?_
      refine aw_get dX12_wordSize_3 flX12_115 (mo_c0 hM) rfl ?_
      refine aw_iload_n dX12_wordSize_6 rfl ?_
      refine aw_iadd dX12_wordSize_7 ?_
      refine aw_aload_n dX12_wordSize_8 rfl ?_
      refine aw_get dX12_wordSize_9 flX12_112 (mo_c0 hM) rfl ?_
      refine aw_icmp_ge (tgt := 38) dX12_wordSize_12 (by decide) (fun c12 => ?_) (fun c12 => ?_)
      · have q12 : t ≤ a + j := (le_tj (a := a) (j := j) ht ht6 (by omega)).mp c12
        refine aw_iload_n dX12_wordSize_38 rfl ?_
        exact aw_iret dX12_wordSize_39 rfl (⟨congrArg (fun z => some (Value.int (nI z))) (absurd q12 (by omega)), rfl, rfl⟩)
      · have q12 : ¬ t ≤ a + j := mt (le_tj (a := a) (j := j) ht ht6 (by omega)).mpr c12
        refine aw_aload_n dX12_wordSize_15 rfl ?_
        refine aw_get dX12_wordSize_16 flX12_40 (mo_c0 hM) rfl ?_
        refine aw_aload_n dX12_wordSize_19 rfl ?_
        refine aw_get dX12_wordSize_20 flX12_115 (mo_c0 hM) rfl ?_
        refine aw_iload_n dX12_wordSize_23 rfl ?_
        refine aw_iadd dX12_wordSize_24 ?_
        refine aw_ialdN dX12_wordSize_25 (mo_c11 hM) (show nI a + nI j = nI (a + j) from nI_add a j) (by omega) (by decide) ?_
        refine aw_callS1p dX12_wordSize_26 cmX12_isLetter csX12_121 (Nat.le_of_ble_eq_true rfl) tX12_isLetter ?_
        refine aw_if_eq (tgt := 38) dX12_wordSize_29 (by decide) (fun c29 => ?_) (fun c29 => ?_)
        · refine aw_iload_n dX12_wordSize_38 rfl ?_
          exact aw_iret dX12_wordSize_39 rfl (⟨congrArg (fun z => some (Value.int (nI z))) (heq.trans (if_pos c29)), rfl, rfl⟩)
        · refine aw_inc (w := 1) dX12_wordSize_32 rfl (by decide) (by decide) ?_
          refine aw_goto (tgt := 2) dX12_wordSize_35 (by decide) ?_
          exact aw_loc [0, 1] (ls2 := [(0, .ref m), (1, .int (nI (j + 1)))]) (by rw [nI_succ]; rfl) (ih (j + 1) (by omega) (heq.trans (if_neg c29)))
  exact aw_loc [0, 1] (ls2 := [(0, .ref m), (1, .int (nI 0))]) rfl (key (t - a) 0 (by omega) rfl)
set_option maxHeartbeats 1000000 in
set_option maxRecDepth 100000 in
theorem tX12_letter {l : Launch} {E : aw_E} {d n m : Nat} {h : ah} {B : sT} {L0 : Nat → Int64} {a c t : Nat} {li v : Int32} {o : Nat → Int32} (hM : is_mo h m (mP B a c li v o) L0) (ht : B 30 4 = nI t) (ht6 : t ≤ 150) (ha : a ≤ 200) {i : Int32} {j : Nat} (hi : i = nI j) (hj : a + j < 150) : am l E mX12_letter d 0 0 [.ref m, .int i] n h (aw_eq n h (some (.int (B 10 (a + j))))) := by
  refine am_of (by decide +kernel) (Nat.le_of_ble_eq_true rfl) ?_
  refine aw_aload_n dX12_letter_0 rfl ?_
  refine aw_get dX12_letter_1 flX12_40 (mo_c0 hM) rfl ?_
  refine aw_aload_n dX12_letter_4 rfl ?_
  refine aw_get dX12_letter_5 flX12_115 (mo_c0 hM) rfl ?_
  refine aw_iload_n dX12_letter_8 rfl ?_
  refine aw_iadd dX12_letter_9 ?_
  refine aw_ialdN dX12_letter_10 (mo_c11 hM) (show nI a + i = nI (a + j) by rw [hi]; exact nI_add a j) hj (by decide) ?_
  exact aw_iret dX12_letter_11 rfl (⟨rfl, rfl, rfl⟩)
set_option maxHeartbeats 1000000 in
set_option maxRecDepth 100000 in
theorem tX12_spells {l : Launch} {E : aw_E} {d n m : Nat} {h : ah} {B : sT} {L0 : Nat → Int64} {a c t : Nat} {li v : Int32} {o : Nat → Int32} (hM : is_mo h m (mP B a c li v o) L0) (ht : B 30 4 = nI t) (ht6 : t ≤ 150) (ha : a ≤ 200) {b1 b2 b3 b4 : Int32} (h4 : a + 3 < 150) : am l E mX12_spells (d + 1) 0 0 [.ref m, .int b1, .int b2, .int b3, .int b4] n h (aw_eq n h (some (.int (pSp (B 10) a b1 b2 b3 b4)))) := by
  refine am_of (by decide +kernel) (Nat.le_of_ble_eq_true rfl) ?_
  refine aw_aload_n dX12_spells_0 rfl ?_
  refine aw_iconst (v := 0) dX12_spells_1 (by decide) ?_
  refine aw_callV1p dX12_spells_2 cmX12_letter cvX12_124 (mo_c0 hM) (Nat.le_of_ble_eq_true rfl) (tX12_letter hM ht ht6 ha (j := 0) rfl (by omega)) ?_
  refine aw_iload_n dX12_spells_5 rfl ?_
  refine aw_icmp_ne (tgt := 41) dX12_spells_6 (by decide) (fun c6 => ?_) (fun c6 => ?_)
  · refine aw_iconst (v := 0) dX12_spells_41 (by decide) ?_
    exact aw_zret dX12_spells_42 rfl rfl (⟨congrArg (fun z => some (Value.int z)) (if_neg c6), rfl, rfl⟩)
  · refine aw_aload_n dX12_spells_9 rfl ?_
    refine aw_iconst (v := 1) dX12_spells_10 (by decide) ?_
    refine aw_callV1p dX12_spells_11 cmX12_letter cvX12_124 (mo_c0 hM) (Nat.le_of_ble_eq_true rfl) (tX12_letter hM ht ht6 ha (j := 1) rfl (by omega)) ?_
    refine aw_iload_n dX12_spells_14 rfl ?_
    refine aw_icmp_ne (tgt := 41) dX12_spells_15 (by decide) (fun c15 => ?_) (fun c15 => ?_)
    · refine aw_iconst (v := 0) dX12_spells_41 (by decide) ?_
      exact aw_zret dX12_spells_42 rfl rfl (⟨congrArg (fun z => some (Value.int z)) ((if_pos c6).trans (if_neg c15)), rfl, rfl⟩)
    · refine aw_aload_n dX12_spells_18 rfl ?_
      refine aw_iconst (v := 2) dX12_spells_19 (by decide) ?_
      refine aw_callV1p dX12_spells_20 cmX12_letter cvX12_124 (mo_c0 hM) (Nat.le_of_ble_eq_true rfl) (tX12_letter hM ht ht6 ha (j := 2) rfl (by omega)) ?_
      refine aw_iload_n dX12_spells_23 rfl ?_
      refine aw_icmp_ne (tgt := 41) dX12_spells_24 (by decide) (fun c24 => ?_) (fun c24 => ?_)
      · refine aw_iconst (v := 0) dX12_spells_41 (by decide) ?_
        exact aw_zret dX12_spells_42 rfl rfl (⟨congrArg (fun z => some (Value.int z)) (((if_pos c6).trans (if_pos c15)).trans (if_neg c24)), rfl, rfl⟩)
      · refine aw_aload_n dX12_spells_27 rfl ?_
        refine aw_iconst (v := 3) dX12_spells_28 (by decide) ?_
        refine aw_callV1p dX12_spells_29 cmX12_letter cvX12_124 (mo_c0 hM) (Nat.le_of_ble_eq_true rfl) (tX12_letter hM ht ht6 ha (j := 3) rfl (by omega)) ?_
        refine aw_iload dX12_spells_32 rfl ?_
        refine aw_icmp_ne (tgt := 41) dX12_spells_34 (by decide) (fun c34 => ?_) (fun c34 => ?_)
        · refine aw_iconst (v := 0) dX12_spells_41 (by decide) ?_
          exact aw_zret dX12_spells_42 rfl rfl (⟨congrArg (fun z => some (Value.int z)) ((((if_pos c6).trans (if_pos c15)).trans (if_pos c24)).trans (if_neg c34)), rfl, rfl⟩)
        · refine aw_iconst (v := 1) dX12_spells_37 (by decide) ?_
          refine aw_goto (tgt := 42) dX12_spells_38 (by decide) ?_
          exact aw_zret dX12_spells_42 rfl rfl (⟨congrArg (fun z => some (Value.int z)) ((((if_pos c6).trans (if_pos c15)).trans (if_pos c24)).trans (if_pos c34)), rfl, rfl⟩)
set_option maxHeartbeats 1000000 in
set_option maxRecDepth 100000 in
theorem tX12_wordHere {l : Launch} {E : aw_E} {d n m : Nat} {h : ah} {B : sT} {L0 : Nat → Int64} {a c t : Nat} {li v : Int32} {o : Nat → Int32} (hM : is_mo h m (mP B a c li v o) L0) (ht : B 30 4 = nI t) (ht6 : t ≤ 150) (ha : a ≤ 200) : am l E mX12_wordHere (d + 3) 0 0 [.ref m] n h (aw_eq n h (some (.int (pWd (B 10) t a)))) := by
  refine am_of (by decide +kernel) (Nat.le_of_ble_eq_true rfl) ?_
  refine aw_aload_n dX12_wordHere_0 rfl ?_
  refine aw_callV0p dX12_wordHere_1 cmX12_wordSize cvX12_128 (mo_c0 hM) (Nat.le_of_ble_eq_true rfl) (tX12_wordSize hM ht ht6 ha) ?_
  refine aw_istore_n dX12_wordHere_4 (by decide) ?_
  refine aw_iload_n dX12_wordHere_5 rfl ?_
  refine aw_iconst (v := 4) dX12_wordHere_6 (by decide) ?_
  refine aw_icmp_ne (tgt := 27) dX12_wordHere_7 (by decide) (fun c7 => ?_) (fun c7 => ?_)
  · refine aw_iload_n dX12_wordHere_27 rfl ?_
    refine aw_iconst (v := 3) dX12_wordHere_28 (by decide) ?_
    refine aw_icmp_ne (tgt := 64) dX12_wordHere_29 (by decide) (fun c29 => ?_) (fun c29 => ?_)
    · refine aw_iload_n dX12_wordHere_64 rfl ?_
      refine aw_iconst (v := 5) dX12_wordHere_65 (by decide) ?_
      refine aw_icmp_ne (tgt := 96) dX12_wordHere_66 (by decide) (fun c66 => ?_) (fun c66 => ?_)
      · refine aw_iload_n dX12_wordHere_96 rfl ?_
        refine aw_iconst (v := 3) dX12_wordHere_97 (by decide) ?_
        refine aw_icmp_ne (tgt := 135) dX12_wordHere_98 (by decide) (fun c98 => ?_) (fun c98 => ?_)
        · refine aw_iconst (v := -1) dX12_wordHere_135 (by decide) ?_
          exact aw_iret dX12_wordHere_136 rfl (⟨congrArg (fun z => some (Value.int z)) ((((if_neg c7).trans (if_neg c29)).trans (if_neg c66)).trans (if_neg c98)), rfl, rfl⟩)
        · refine aw_aload_n dX12_wordHere_101 rfl ?_
          refine aw_iconst (v := 0) dX12_wordHere_102 (by decide) ?_
          refine aw_callV1p dX12_wordHere_103 cmX12_letter cvX12_124 (mo_c0 hM) (Nat.le_of_ble_eq_true rfl) (tX12_letter hM ht ht6 ha (j := 0) rfl (by have := pW_le (B 10) t a; have := (nI_eq (a := pW (B 10) t a) (b := 3) (by omega) (by decide)).mp c98; omega)) ?_
          refine aw_bipush (v := 108) dX12_wordHere_106 (by decide) ?_
          refine aw_icmp_ne (tgt := 135) dX12_wordHere_108 (by decide) (fun c108 => ?_) (fun c108 => ?_)
          · refine aw_iconst (v := -1) dX12_wordHere_135 (by decide) ?_
            exact aw_iret dX12_wordHere_136 rfl (⟨congrArg (fun z => some (Value.int z)) (((((if_neg c7).trans (if_neg c29)).trans (if_neg c66)).trans (if_pos c98)).trans (if_neg c108)), rfl, rfl⟩)
          · refine aw_aload_n dX12_wordHere_111 rfl ?_
            refine aw_iconst (v := 1) dX12_wordHere_112 (by decide) ?_
            refine aw_callV1p dX12_wordHere_113 cmX12_letter cvX12_124 (mo_c0 hM) (Nat.le_of_ble_eq_true rfl) (tX12_letter hM ht ht6 ha (j := 1) rfl (by have := pW_le (B 10) t a; have := (nI_eq (a := pW (B 10) t a) (b := 3) (by omega) (by decide)).mp c98; omega)) ?_
            refine aw_bipush (v := 105) dX12_wordHere_116 (by decide) ?_
            refine aw_icmp_ne (tgt := 135) dX12_wordHere_118 (by decide) (fun c118 => ?_) (fun c118 => ?_)
            · refine aw_iconst (v := -1) dX12_wordHere_135 (by decide) ?_
              exact aw_iret dX12_wordHere_136 rfl (⟨congrArg (fun z => some (Value.int z)) ((((((if_neg c7).trans (if_neg c29)).trans (if_neg c66)).trans (if_pos c98)).trans (if_pos c108)).trans (if_neg c118)), rfl, rfl⟩)
            · refine aw_aload_n dX12_wordHere_121 rfl ?_
              refine aw_iconst (v := 2) dX12_wordHere_122 (by decide) ?_
              refine aw_callV1p dX12_wordHere_123 cmX12_letter cvX12_124 (mo_c0 hM) (Nat.le_of_ble_eq_true rfl) (tX12_letter hM ht ht6 ha (j := 2) rfl (by have := pW_le (B 10) t a; have := (nI_eq (a := pW (B 10) t a) (b := 3) (by omega) (by decide)).mp c98; omega)) ?_
              refine aw_bipush (v := 101) dX12_wordHere_126 (by decide) ?_
              refine aw_icmp_ne (tgt := 135) dX12_wordHere_128 (by decide) (fun c128 => ?_) (fun c128 => ?_)
              · refine aw_iconst (v := -1) dX12_wordHere_135 (by decide) ?_
                exact aw_iret dX12_wordHere_136 rfl (⟨congrArg (fun z => some (Value.int z)) (((((((if_neg c7).trans (if_neg c29)).trans (if_neg c66)).trans (if_pos c98)).trans (if_pos c108)).trans (if_pos c118)).trans (if_neg c128)), rfl, rfl⟩)
              · refine aw_iconst (v := 3) dX12_wordHere_131 (by decide) ?_
                refine aw_goto (tgt := 136) dX12_wordHere_132 (by decide) ?_
                exact aw_iret dX12_wordHere_136 rfl (⟨congrArg (fun z => some (Value.int z)) (((((((if_neg c7).trans (if_neg c29)).trans (if_neg c66)).trans (if_pos c98)).trans (if_pos c108)).trans (if_pos c118)).trans (if_pos c128)), rfl, rfl⟩)
      · refine aw_aload_n dX12_wordHere_69 rfl ?_
        refine aw_bipush (v := 104) dX12_wordHere_70 (by decide) ?_
        refine aw_bipush (v := 97) dX12_wordHere_72 (by decide) ?_
        refine aw_bipush (v := 110) dX12_wordHere_74 (by decide) ?_
        refine aw_bipush (v := 100) dX12_wordHere_76 (by decide) ?_
        refine aw_callV4p dX12_wordHere_78 cmX12_spells cvX12_131 (mo_c0 hM) (Nat.le_of_ble_eq_true rfl) (tX12_spells hM ht ht6 ha (by have := pW_le (B 10) t a; have := (nI_eq (a := pW (B 10) t a) (b := 5) (by omega) (by decide)).mp c66; omega)) ?_
        refine aw_if_eq (tgt := 96) dX12_wordHere_81 (by decide) (fun c81 => ?_) (fun c81 => ?_)
        · refine aw_iload_n dX12_wordHere_96 rfl ?_
          refine aw_iconst (v := 3) dX12_wordHere_97 (by decide) ?_
          refine aw_icmp_ne (tgt := 135) dX12_wordHere_98 (by decide) (fun c98 => ?_) (fun c98 => ?_)
          · refine aw_iconst (v := -1) dX12_wordHere_135 (by decide) ?_
            exact aw_iret dX12_wordHere_136 rfl (⟨congrArg (fun z => some (Value.int z)) (((((if_neg c7).trans (if_neg c29)).trans (if_pos c66)).trans (if_pos c81)).trans (if_neg c98)), rfl, rfl⟩)
          · refine aw_aload_n dX12_wordHere_101 rfl ?_
            refine aw_iconst (v := 0) dX12_wordHere_102 (by decide) ?_
            refine aw_callV1p dX12_wordHere_103 cmX12_letter cvX12_124 (mo_c0 hM) (Nat.le_of_ble_eq_true rfl) (tX12_letter hM ht ht6 ha (j := 0) rfl (by have := pW_le (B 10) t a; have := (nI_eq (a := pW (B 10) t a) (b := 3) (by omega) (by decide)).mp c98; omega)) ?_
            refine aw_bipush (v := 108) dX12_wordHere_106 (by decide) ?_
            refine aw_icmp_ne (tgt := 135) dX12_wordHere_108 (by decide) (fun c108 => ?_) (fun c108 => ?_)
            · refine aw_iconst (v := -1) dX12_wordHere_135 (by decide) ?_
              exact aw_iret dX12_wordHere_136 rfl (⟨congrArg (fun z => some (Value.int z)) ((((((if_neg c7).trans (if_neg c29)).trans (if_pos c66)).trans (if_pos c81)).trans (if_pos c98)).trans (if_neg c108)), rfl, rfl⟩)
            · refine aw_aload_n dX12_wordHere_111 rfl ?_
              refine aw_iconst (v := 1) dX12_wordHere_112 (by decide) ?_
              refine aw_callV1p dX12_wordHere_113 cmX12_letter cvX12_124 (mo_c0 hM) (Nat.le_of_ble_eq_true rfl) (tX12_letter hM ht ht6 ha (j := 1) rfl (by have := pW_le (B 10) t a; have := (nI_eq (a := pW (B 10) t a) (b := 3) (by omega) (by decide)).mp c98; omega)) ?_
              refine aw_bipush (v := 105) dX12_wordHere_116 (by decide) ?_
              refine aw_icmp_ne (tgt := 135) dX12_wordHere_118 (by decide) (fun c118 => ?_) (fun c118 => ?_)
              · refine aw_iconst (v := -1) dX12_wordHere_135 (by decide) ?_
                exact aw_iret dX12_wordHere_136 rfl (⟨congrArg (fun z => some (Value.int z)) (((((((if_neg c7).trans (if_neg c29)).trans (if_pos c66)).trans (if_pos c81)).trans (if_pos c98)).trans (if_pos c108)).trans (if_neg c118)), rfl, rfl⟩)
              · refine aw_aload_n dX12_wordHere_121 rfl ?_
                refine aw_iconst (v := 2) dX12_wordHere_122 (by decide) ?_
                refine aw_callV1p dX12_wordHere_123 cmX12_letter cvX12_124 (mo_c0 hM) (Nat.le_of_ble_eq_true rfl) (tX12_letter hM ht ht6 ha (j := 2) rfl (by have := pW_le (B 10) t a; have := (nI_eq (a := pW (B 10) t a) (b := 3) (by omega) (by decide)).mp c98; omega)) ?_
                refine aw_bipush (v := 101) dX12_wordHere_126 (by decide) ?_
                refine aw_icmp_ne (tgt := 135) dX12_wordHere_128 (by decide) (fun c128 => ?_) (fun c128 => ?_)
                · refine aw_iconst (v := -1) dX12_wordHere_135 (by decide) ?_
                  exact aw_iret dX12_wordHere_136 rfl (⟨congrArg (fun z => some (Value.int z)) ((((((((if_neg c7).trans (if_neg c29)).trans (if_pos c66)).trans (if_pos c81)).trans (if_pos c98)).trans (if_pos c108)).trans (if_pos c118)).trans (if_neg c128)), rfl, rfl⟩)
                · refine aw_iconst (v := 3) dX12_wordHere_131 (by decide) ?_
                  refine aw_goto (tgt := 136) dX12_wordHere_132 (by decide) ?_
                  exact aw_iret dX12_wordHere_136 rfl (⟨congrArg (fun z => some (Value.int z)) ((((((((if_neg c7).trans (if_neg c29)).trans (if_pos c66)).trans (if_pos c81)).trans (if_pos c98)).trans (if_pos c108)).trans (if_pos c118)).trans (if_pos c128)), rfl, rfl⟩)
        · refine aw_aload_n dX12_wordHere_84 rfl ?_
          refine aw_iconst (v := 4) dX12_wordHere_85 (by decide) ?_
          refine aw_callV1p dX12_wordHere_86 cmX12_letter cvX12_124 (mo_c0 hM) (Nat.le_of_ble_eq_true rfl) (tX12_letter hM ht ht6 ha (j := 4) rfl (by have := pW_le (B 10) t a; have := (nI_eq (a := pW (B 10) t a) (b := 5) (by omega) (by decide)).mp c66; omega)) ?_
          refine aw_bipush (v := 115) dX12_wordHere_89 (by decide) ?_
          refine aw_icmp_ne (tgt := 96) dX12_wordHere_91 (by decide) (fun c91 => ?_) (fun c91 => ?_)
          · refine aw_iload_n dX12_wordHere_96 rfl ?_
            refine aw_iconst (v := 3) dX12_wordHere_97 (by decide) ?_
            refine aw_icmp_ne (tgt := 135) dX12_wordHere_98 (by decide) (fun c98 => ?_) (fun c98 => ?_)
            · refine aw_iconst (v := -1) dX12_wordHere_135 (by decide) ?_
              exact aw_iret dX12_wordHere_136 rfl (⟨congrArg (fun z => some (Value.int z)) ((((((if_neg c7).trans (if_neg c29)).trans (if_pos c66)).trans (if_neg c81)).trans (if_neg c91)).trans (if_neg c98)), rfl, rfl⟩)
            · refine aw_aload_n dX12_wordHere_101 rfl ?_
              refine aw_iconst (v := 0) dX12_wordHere_102 (by decide) ?_
              refine aw_callV1p dX12_wordHere_103 cmX12_letter cvX12_124 (mo_c0 hM) (Nat.le_of_ble_eq_true rfl) (tX12_letter hM ht ht6 ha (j := 0) rfl (by have := pW_le (B 10) t a; have := (nI_eq (a := pW (B 10) t a) (b := 3) (by omega) (by decide)).mp c98; omega)) ?_
              refine aw_bipush (v := 108) dX12_wordHere_106 (by decide) ?_
              refine aw_icmp_ne (tgt := 135) dX12_wordHere_108 (by decide) (fun c108 => ?_) (fun c108 => ?_)
              · refine aw_iconst (v := -1) dX12_wordHere_135 (by decide) ?_
                exact aw_iret dX12_wordHere_136 rfl (⟨congrArg (fun z => some (Value.int z)) (((((((if_neg c7).trans (if_neg c29)).trans (if_pos c66)).trans (if_neg c81)).trans (if_neg c91)).trans (if_pos c98)).trans (if_neg c108)), rfl, rfl⟩)
              · refine aw_aload_n dX12_wordHere_111 rfl ?_
                refine aw_iconst (v := 1) dX12_wordHere_112 (by decide) ?_
                refine aw_callV1p dX12_wordHere_113 cmX12_letter cvX12_124 (mo_c0 hM) (Nat.le_of_ble_eq_true rfl) (tX12_letter hM ht ht6 ha (j := 1) rfl (by have := pW_le (B 10) t a; have := (nI_eq (a := pW (B 10) t a) (b := 3) (by omega) (by decide)).mp c98; omega)) ?_
                refine aw_bipush (v := 105) dX12_wordHere_116 (by decide) ?_
                refine aw_icmp_ne (tgt := 135) dX12_wordHere_118 (by decide) (fun c118 => ?_) (fun c118 => ?_)
                · refine aw_iconst (v := -1) dX12_wordHere_135 (by decide) ?_
                  exact aw_iret dX12_wordHere_136 rfl (⟨congrArg (fun z => some (Value.int z)) ((((((((if_neg c7).trans (if_neg c29)).trans (if_pos c66)).trans (if_neg c81)).trans (if_neg c91)).trans (if_pos c98)).trans (if_pos c108)).trans (if_neg c118)), rfl, rfl⟩)
                · refine aw_aload_n dX12_wordHere_121 rfl ?_
                  refine aw_iconst (v := 2) dX12_wordHere_122 (by decide) ?_
                  refine aw_callV1p dX12_wordHere_123 cmX12_letter cvX12_124 (mo_c0 hM) (Nat.le_of_ble_eq_true rfl) (tX12_letter hM ht ht6 ha (j := 2) rfl (by have := pW_le (B 10) t a; have := (nI_eq (a := pW (B 10) t a) (b := 3) (by omega) (by decide)).mp c98; omega)) ?_
                  refine aw_bipush (v := 101) dX12_wordHere_126 (by decide) ?_
                  refine aw_icmp_ne (tgt := 135) dX12_wordHere_128 (by decide) (fun c128 => ?_) (fun c128 => ?_)
                  · refine aw_iconst (v := -1) dX12_wordHere_135 (by decide) ?_
                    exact aw_iret dX12_wordHere_136 rfl (⟨congrArg (fun z => some (Value.int z)) (((((((((if_neg c7).trans (if_neg c29)).trans (if_pos c66)).trans (if_neg c81)).trans (if_neg c91)).trans (if_pos c98)).trans (if_pos c108)).trans (if_pos c118)).trans (if_neg c128)), rfl, rfl⟩)
                  · refine aw_iconst (v := 3) dX12_wordHere_131 (by decide) ?_
                    refine aw_goto (tgt := 136) dX12_wordHere_132 (by decide) ?_
                    exact aw_iret dX12_wordHere_136 rfl (⟨congrArg (fun z => some (Value.int z)) (((((((((if_neg c7).trans (if_neg c29)).trans (if_pos c66)).trans (if_neg c81)).trans (if_neg c91)).trans (if_pos c98)).trans (if_pos c108)).trans (if_pos c118)).trans (if_pos c128)), rfl, rfl⟩)
          · refine aw_iconst (v := 2) dX12_wordHere_94 (by decide) ?_
            exact aw_iret dX12_wordHere_95 rfl (⟨congrArg (fun z => some (Value.int z)) (((((if_neg c7).trans (if_neg c29)).trans (if_pos c66)).trans (if_neg c81)).trans (if_pos c91)), rfl, rfl⟩)
    · refine aw_aload_n dX12_wordHere_32 rfl ?_
      refine aw_iconst (v := 0) dX12_wordHere_33 (by decide) ?_
      refine aw_callV1p dX12_wordHere_34 cmX12_letter cvX12_124 (mo_c0 hM) (Nat.le_of_ble_eq_true rfl) (tX12_letter hM ht ht6 ha (j := 0) rfl (by have := pW_le (B 10) t a; have := (nI_eq (a := pW (B 10) t a) (b := 3) (by omega) (by decide)).mp c29; omega)) ?_
      refine aw_bipush (v := 111) dX12_wordHere_37 (by decide) ?_
      refine aw_icmp_ne (tgt := 64) dX12_wordHere_39 (by decide) (fun c39 => ?_) (fun c39 => ?_)
      · refine aw_iload_n dX12_wordHere_64 rfl ?_
        refine aw_iconst (v := 5) dX12_wordHere_65 (by decide) ?_
        refine aw_icmp_ne (tgt := 96) dX12_wordHere_66 (by decide) (fun c66 => ?_) (fun c66 => ?_)
        · refine aw_iload_n dX12_wordHere_96 rfl ?_
          refine aw_iconst (v := 3) dX12_wordHere_97 (by decide) ?_
          refine aw_icmp_ne (tgt := 135) dX12_wordHere_98 (by decide) (fun c98 => ?_) (fun c98 => ?_)
          · refine aw_iconst (v := -1) dX12_wordHere_135 (by decide) ?_
            exact aw_iret dX12_wordHere_136 rfl (⟨congrArg (fun z => some (Value.int z)) (((((if_neg c7).trans (if_pos c29)).trans (if_neg c39)).trans (if_neg c66)).trans (if_neg c98)), rfl, rfl⟩)
          · refine aw_aload_n dX12_wordHere_101 rfl ?_
            refine aw_iconst (v := 0) dX12_wordHere_102 (by decide) ?_
            refine aw_callV1p dX12_wordHere_103 cmX12_letter cvX12_124 (mo_c0 hM) (Nat.le_of_ble_eq_true rfl) (tX12_letter hM ht ht6 ha (j := 0) rfl (by have := pW_le (B 10) t a; have := (nI_eq (a := pW (B 10) t a) (b := 3) (by omega) (by decide)).mp c98; omega)) ?_
            refine aw_bipush (v := 108) dX12_wordHere_106 (by decide) ?_
            refine aw_icmp_ne (tgt := 135) dX12_wordHere_108 (by decide) (fun c108 => ?_) (fun c108 => ?_)
            · refine aw_iconst (v := -1) dX12_wordHere_135 (by decide) ?_
              exact aw_iret dX12_wordHere_136 rfl (⟨congrArg (fun z => some (Value.int z)) ((((((if_neg c7).trans (if_pos c29)).trans (if_neg c39)).trans (if_neg c66)).trans (if_pos c98)).trans (if_neg c108)), rfl, rfl⟩)
            · refine aw_aload_n dX12_wordHere_111 rfl ?_
              refine aw_iconst (v := 1) dX12_wordHere_112 (by decide) ?_
              refine aw_callV1p dX12_wordHere_113 cmX12_letter cvX12_124 (mo_c0 hM) (Nat.le_of_ble_eq_true rfl) (tX12_letter hM ht ht6 ha (j := 1) rfl (by have := pW_le (B 10) t a; have := (nI_eq (a := pW (B 10) t a) (b := 3) (by omega) (by decide)).mp c98; omega)) ?_
              refine aw_bipush (v := 105) dX12_wordHere_116 (by decide) ?_
              refine aw_icmp_ne (tgt := 135) dX12_wordHere_118 (by decide) (fun c118 => ?_) (fun c118 => ?_)
              · refine aw_iconst (v := -1) dX12_wordHere_135 (by decide) ?_
                exact aw_iret dX12_wordHere_136 rfl (⟨congrArg (fun z => some (Value.int z)) (((((((if_neg c7).trans (if_pos c29)).trans (if_neg c39)).trans (if_neg c66)).trans (if_pos c98)).trans (if_pos c108)).trans (if_neg c118)), rfl, rfl⟩)
              · refine aw_aload_n dX12_wordHere_121 rfl ?_
                refine aw_iconst (v := 2) dX12_wordHere_122 (by decide) ?_
                refine aw_callV1p dX12_wordHere_123 cmX12_letter cvX12_124 (mo_c0 hM) (Nat.le_of_ble_eq_true rfl) (tX12_letter hM ht ht6 ha (j := 2) rfl (by have := pW_le (B 10) t a; have := (nI_eq (a := pW (B 10) t a) (b := 3) (by omega) (by decide)).mp c98; omega)) ?_
                refine aw_bipush (v := 101) dX12_wordHere_126 (by decide) ?_
                refine aw_icmp_ne (tgt := 135) dX12_wordHere_128 (by decide) (fun c128 => ?_) (fun c128 => ?_)
                · refine aw_iconst (v := -1) dX12_wordHere_135 (by decide) ?_
                  exact aw_iret dX12_wordHere_136 rfl (⟨congrArg (fun z => some (Value.int z)) ((((((((if_neg c7).trans (if_pos c29)).trans (if_neg c39)).trans (if_neg c66)).trans (if_pos c98)).trans (if_pos c108)).trans (if_pos c118)).trans (if_neg c128)), rfl, rfl⟩)
                · refine aw_iconst (v := 3) dX12_wordHere_131 (by decide) ?_
                  refine aw_goto (tgt := 136) dX12_wordHere_132 (by decide) ?_
                  exact aw_iret dX12_wordHere_136 rfl (⟨congrArg (fun z => some (Value.int z)) ((((((((if_neg c7).trans (if_pos c29)).trans (if_neg c39)).trans (if_neg c66)).trans (if_pos c98)).trans (if_pos c108)).trans (if_pos c118)).trans (if_pos c128)), rfl, rfl⟩)
        · refine aw_aload_n dX12_wordHere_69 rfl ?_
          refine aw_bipush (v := 104) dX12_wordHere_70 (by decide) ?_
          refine aw_bipush (v := 97) dX12_wordHere_72 (by decide) ?_
          refine aw_bipush (v := 110) dX12_wordHere_74 (by decide) ?_
          refine aw_bipush (v := 100) dX12_wordHere_76 (by decide) ?_
          refine aw_callV4p dX12_wordHere_78 cmX12_spells cvX12_131 (mo_c0 hM) (Nat.le_of_ble_eq_true rfl) (tX12_spells hM ht ht6 ha (by have := pW_le (B 10) t a; have := (nI_eq (a := pW (B 10) t a) (b := 5) (by omega) (by decide)).mp c66; omega)) ?_
          refine aw_if_eq (tgt := 96) dX12_wordHere_81 (by decide) (fun c81 => ?_) (fun c81 => ?_)
          · refine aw_iload_n dX12_wordHere_96 rfl ?_
            refine aw_iconst (v := 3) dX12_wordHere_97 (by decide) ?_
            refine aw_icmp_ne (tgt := 135) dX12_wordHere_98 (by decide) (fun c98 => ?_) (fun c98 => ?_)
            · refine aw_iconst (v := -1) dX12_wordHere_135 (by decide) ?_
              exact aw_iret dX12_wordHere_136 rfl (⟨congrArg (fun z => some (Value.int z)) ((((((if_neg c7).trans (if_pos c29)).trans (if_neg c39)).trans (if_pos c66)).trans (if_pos c81)).trans (if_neg c98)), rfl, rfl⟩)
            · refine aw_aload_n dX12_wordHere_101 rfl ?_
              refine aw_iconst (v := 0) dX12_wordHere_102 (by decide) ?_
              refine aw_callV1p dX12_wordHere_103 cmX12_letter cvX12_124 (mo_c0 hM) (Nat.le_of_ble_eq_true rfl) (tX12_letter hM ht ht6 ha (j := 0) rfl (by have := pW_le (B 10) t a; have := (nI_eq (a := pW (B 10) t a) (b := 3) (by omega) (by decide)).mp c98; omega)) ?_
              refine aw_bipush (v := 108) dX12_wordHere_106 (by decide) ?_
              refine aw_icmp_ne (tgt := 135) dX12_wordHere_108 (by decide) (fun c108 => ?_) (fun c108 => ?_)
              · refine aw_iconst (v := -1) dX12_wordHere_135 (by decide) ?_
                exact aw_iret dX12_wordHere_136 rfl (⟨congrArg (fun z => some (Value.int z)) (((((((if_neg c7).trans (if_pos c29)).trans (if_neg c39)).trans (if_pos c66)).trans (if_pos c81)).trans (if_pos c98)).trans (if_neg c108)), rfl, rfl⟩)
              · refine aw_aload_n dX12_wordHere_111 rfl ?_
                refine aw_iconst (v := 1) dX12_wordHere_112 (by decide) ?_
                refine aw_callV1p dX12_wordHere_113 cmX12_letter cvX12_124 (mo_c0 hM) (Nat.le_of_ble_eq_true rfl) (tX12_letter hM ht ht6 ha (j := 1) rfl (by have := pW_le (B 10) t a; have := (nI_eq (a := pW (B 10) t a) (b := 3) (by omega) (by decide)).mp c98; omega)) ?_
                refine aw_bipush (v := 105) dX12_wordHere_116 (by decide) ?_
                refine aw_icmp_ne (tgt := 135) dX12_wordHere_118 (by decide) (fun c118 => ?_) (fun c118 => ?_)
                · refine aw_iconst (v := -1) dX12_wordHere_135 (by decide) ?_
                  exact aw_iret dX12_wordHere_136 rfl (⟨congrArg (fun z => some (Value.int z)) ((((((((if_neg c7).trans (if_pos c29)).trans (if_neg c39)).trans (if_pos c66)).trans (if_pos c81)).trans (if_pos c98)).trans (if_pos c108)).trans (if_neg c118)), rfl, rfl⟩)
                · refine aw_aload_n dX12_wordHere_121 rfl ?_
                  refine aw_iconst (v := 2) dX12_wordHere_122 (by decide) ?_
                  refine aw_callV1p dX12_wordHere_123 cmX12_letter cvX12_124 (mo_c0 hM) (Nat.le_of_ble_eq_true rfl) (tX12_letter hM ht ht6 ha (j := 2) rfl (by have := pW_le (B 10) t a; have := (nI_eq (a := pW (B 10) t a) (b := 3) (by omega) (by decide)).mp c98; omega)) ?_
                  refine aw_bipush (v := 101) dX12_wordHere_126 (by decide) ?_
                  refine aw_icmp_ne (tgt := 135) dX12_wordHere_128 (by decide) (fun c128 => ?_) (fun c128 => ?_)
                  · refine aw_iconst (v := -1) dX12_wordHere_135 (by decide) ?_
                    exact aw_iret dX12_wordHere_136 rfl (⟨congrArg (fun z => some (Value.int z)) (((((((((if_neg c7).trans (if_pos c29)).trans (if_neg c39)).trans (if_pos c66)).trans (if_pos c81)).trans (if_pos c98)).trans (if_pos c108)).trans (if_pos c118)).trans (if_neg c128)), rfl, rfl⟩)
                  · refine aw_iconst (v := 3) dX12_wordHere_131 (by decide) ?_
                    refine aw_goto (tgt := 136) dX12_wordHere_132 (by decide) ?_
                    exact aw_iret dX12_wordHere_136 rfl (⟨congrArg (fun z => some (Value.int z)) (((((((((if_neg c7).trans (if_pos c29)).trans (if_neg c39)).trans (if_pos c66)).trans (if_pos c81)).trans (if_pos c98)).trans (if_pos c108)).trans (if_pos c118)).trans (if_pos c128)), rfl, rfl⟩)
          · refine aw_aload_n dX12_wordHere_84 rfl ?_
            refine aw_iconst (v := 4) dX12_wordHere_85 (by decide) ?_
            refine aw_callV1p dX12_wordHere_86 cmX12_letter cvX12_124 (mo_c0 hM) (Nat.le_of_ble_eq_true rfl) (tX12_letter hM ht ht6 ha (j := 4) rfl (by have := pW_le (B 10) t a; have := (nI_eq (a := pW (B 10) t a) (b := 5) (by omega) (by decide)).mp c66; omega)) ?_
            refine aw_bipush (v := 115) dX12_wordHere_89 (by decide) ?_
            refine aw_icmp_ne (tgt := 96) dX12_wordHere_91 (by decide) (fun c91 => ?_) (fun c91 => ?_)
            · refine aw_iload_n dX12_wordHere_96 rfl ?_
              refine aw_iconst (v := 3) dX12_wordHere_97 (by decide) ?_
              refine aw_icmp_ne (tgt := 135) dX12_wordHere_98 (by decide) (fun c98 => ?_) (fun c98 => ?_)
              · refine aw_iconst (v := -1) dX12_wordHere_135 (by decide) ?_
                exact aw_iret dX12_wordHere_136 rfl (⟨congrArg (fun z => some (Value.int z)) (((((((if_neg c7).trans (if_pos c29)).trans (if_neg c39)).trans (if_pos c66)).trans (if_neg c81)).trans (if_neg c91)).trans (if_neg c98)), rfl, rfl⟩)
              · refine aw_aload_n dX12_wordHere_101 rfl ?_
                refine aw_iconst (v := 0) dX12_wordHere_102 (by decide) ?_
                refine aw_callV1p dX12_wordHere_103 cmX12_letter cvX12_124 (mo_c0 hM) (Nat.le_of_ble_eq_true rfl) (tX12_letter hM ht ht6 ha (j := 0) rfl (by have := pW_le (B 10) t a; have := (nI_eq (a := pW (B 10) t a) (b := 3) (by omega) (by decide)).mp c98; omega)) ?_
                refine aw_bipush (v := 108) dX12_wordHere_106 (by decide) ?_
                refine aw_icmp_ne (tgt := 135) dX12_wordHere_108 (by decide) (fun c108 => ?_) (fun c108 => ?_)
                · refine aw_iconst (v := -1) dX12_wordHere_135 (by decide) ?_
                  exact aw_iret dX12_wordHere_136 rfl (⟨congrArg (fun z => some (Value.int z)) ((((((((if_neg c7).trans (if_pos c29)).trans (if_neg c39)).trans (if_pos c66)).trans (if_neg c81)).trans (if_neg c91)).trans (if_pos c98)).trans (if_neg c108)), rfl, rfl⟩)
                · refine aw_aload_n dX12_wordHere_111 rfl ?_
                  refine aw_iconst (v := 1) dX12_wordHere_112 (by decide) ?_
                  refine aw_callV1p dX12_wordHere_113 cmX12_letter cvX12_124 (mo_c0 hM) (Nat.le_of_ble_eq_true rfl) (tX12_letter hM ht ht6 ha (j := 1) rfl (by have := pW_le (B 10) t a; have := (nI_eq (a := pW (B 10) t a) (b := 3) (by omega) (by decide)).mp c98; omega)) ?_
                  refine aw_bipush (v := 105) dX12_wordHere_116 (by decide) ?_
                  refine aw_icmp_ne (tgt := 135) dX12_wordHere_118 (by decide) (fun c118 => ?_) (fun c118 => ?_)
                  · refine aw_iconst (v := -1) dX12_wordHere_135 (by decide) ?_
                    exact aw_iret dX12_wordHere_136 rfl (⟨congrArg (fun z => some (Value.int z)) (((((((((if_neg c7).trans (if_pos c29)).trans (if_neg c39)).trans (if_pos c66)).trans (if_neg c81)).trans (if_neg c91)).trans (if_pos c98)).trans (if_pos c108)).trans (if_neg c118)), rfl, rfl⟩)
                  · refine aw_aload_n dX12_wordHere_121 rfl ?_
                    refine aw_iconst (v := 2) dX12_wordHere_122 (by decide) ?_
                    refine aw_callV1p dX12_wordHere_123 cmX12_letter cvX12_124 (mo_c0 hM) (Nat.le_of_ble_eq_true rfl) (tX12_letter hM ht ht6 ha (j := 2) rfl (by have := pW_le (B 10) t a; have := (nI_eq (a := pW (B 10) t a) (b := 3) (by omega) (by decide)).mp c98; omega)) ?_
                    refine aw_bipush (v := 101) dX12_wordHere_126 (by decide) ?_
                    refine aw_icmp_ne (tgt := 135) dX12_wordHere_128 (by decide) (fun c128 => ?_) (fun c128 => ?_)
                    · refine aw_iconst (v := -1) dX12_wordHere_135 (by decide) ?_
                      exact aw_iret dX12_wordHere_136 rfl (⟨congrArg (fun z => some (Value.int z)) ((((((((((if_neg c7).trans (if_pos c29)).trans (if_neg c39)).trans (if_pos c66)).trans (if_neg c81)).trans (if_neg c91)).trans (if_pos c98)).trans (if_pos c108)).trans (if_pos c118)).trans (if_neg c128)), rfl, rfl⟩)
                    · refine aw_iconst (v := 3) dX12_wordHere_131 (by decide) ?_
                      refine aw_goto (tgt := 136) dX12_wordHere_132 (by decide) ?_
                      exact aw_iret dX12_wordHere_136 rfl (⟨congrArg (fun z => some (Value.int z)) ((((((((((if_neg c7).trans (if_pos c29)).trans (if_neg c39)).trans (if_pos c66)).trans (if_neg c81)).trans (if_neg c91)).trans (if_pos c98)).trans (if_pos c108)).trans (if_pos c118)).trans (if_pos c128)), rfl, rfl⟩)
            · refine aw_iconst (v := 2) dX12_wordHere_94 (by decide) ?_
              exact aw_iret dX12_wordHere_95 rfl (⟨congrArg (fun z => some (Value.int z)) ((((((if_neg c7).trans (if_pos c29)).trans (if_neg c39)).trans (if_pos c66)).trans (if_neg c81)).trans (if_pos c91)), rfl, rfl⟩)
      · refine aw_aload_n dX12_wordHere_42 rfl ?_
        refine aw_iconst (v := 1) dX12_wordHere_43 (by decide) ?_
        refine aw_callV1p dX12_wordHere_44 cmX12_letter cvX12_124 (mo_c0 hM) (Nat.le_of_ble_eq_true rfl) (tX12_letter hM ht ht6 ha (j := 1) rfl (by have := pW_le (B 10) t a; have := (nI_eq (a := pW (B 10) t a) (b := 3) (by omega) (by decide)).mp c29; omega)) ?_
        refine aw_bipush (v := 110) dX12_wordHere_47 (by decide) ?_
        refine aw_icmp_ne (tgt := 64) dX12_wordHere_49 (by decide) (fun c49 => ?_) (fun c49 => ?_)
        · refine aw_iload_n dX12_wordHere_64 rfl ?_
          refine aw_iconst (v := 5) dX12_wordHere_65 (by decide) ?_
          refine aw_icmp_ne (tgt := 96) dX12_wordHere_66 (by decide) (fun c66 => ?_) (fun c66 => ?_)
          · refine aw_iload_n dX12_wordHere_96 rfl ?_
            refine aw_iconst (v := 3) dX12_wordHere_97 (by decide) ?_
            refine aw_icmp_ne (tgt := 135) dX12_wordHere_98 (by decide) (fun c98 => ?_) (fun c98 => ?_)
            · refine aw_iconst (v := -1) dX12_wordHere_135 (by decide) ?_
              exact aw_iret dX12_wordHere_136 rfl (⟨congrArg (fun z => some (Value.int z)) ((((((if_neg c7).trans (if_pos c29)).trans (if_pos c39)).trans (if_neg c49)).trans (if_neg c66)).trans (if_neg c98)), rfl, rfl⟩)
            · refine aw_aload_n dX12_wordHere_101 rfl ?_
              refine aw_iconst (v := 0) dX12_wordHere_102 (by decide) ?_
              refine aw_callV1p dX12_wordHere_103 cmX12_letter cvX12_124 (mo_c0 hM) (Nat.le_of_ble_eq_true rfl) (tX12_letter hM ht ht6 ha (j := 0) rfl (by have := pW_le (B 10) t a; have := (nI_eq (a := pW (B 10) t a) (b := 3) (by omega) (by decide)).mp c98; omega)) ?_
              refine aw_bipush (v := 108) dX12_wordHere_106 (by decide) ?_
              refine aw_icmp_ne (tgt := 135) dX12_wordHere_108 (by decide) (fun c108 => ?_) (fun c108 => ?_)
              · refine aw_iconst (v := -1) dX12_wordHere_135 (by decide) ?_
                exact aw_iret dX12_wordHere_136 rfl (⟨congrArg (fun z => some (Value.int z)) (((((((if_neg c7).trans (if_pos c29)).trans (if_pos c39)).trans (if_neg c49)).trans (if_neg c66)).trans (if_pos c98)).trans (if_neg c108)), rfl, rfl⟩)
              · refine aw_aload_n dX12_wordHere_111 rfl ?_
                refine aw_iconst (v := 1) dX12_wordHere_112 (by decide) ?_
                refine aw_callV1p dX12_wordHere_113 cmX12_letter cvX12_124 (mo_c0 hM) (Nat.le_of_ble_eq_true rfl) (tX12_letter hM ht ht6 ha (j := 1) rfl (by have := pW_le (B 10) t a; have := (nI_eq (a := pW (B 10) t a) (b := 3) (by omega) (by decide)).mp c98; omega)) ?_
                refine aw_bipush (v := 105) dX12_wordHere_116 (by decide) ?_
                refine aw_icmp_ne (tgt := 135) dX12_wordHere_118 (by decide) (fun c118 => ?_) (fun c118 => ?_)
                · refine aw_iconst (v := -1) dX12_wordHere_135 (by decide) ?_
                  exact aw_iret dX12_wordHere_136 rfl (⟨congrArg (fun z => some (Value.int z)) ((((((((if_neg c7).trans (if_pos c29)).trans (if_pos c39)).trans (if_neg c49)).trans (if_neg c66)).trans (if_pos c98)).trans (if_pos c108)).trans (if_neg c118)), rfl, rfl⟩)
                · refine aw_aload_n dX12_wordHere_121 rfl ?_
                  refine aw_iconst (v := 2) dX12_wordHere_122 (by decide) ?_
                  refine aw_callV1p dX12_wordHere_123 cmX12_letter cvX12_124 (mo_c0 hM) (Nat.le_of_ble_eq_true rfl) (tX12_letter hM ht ht6 ha (j := 2) rfl (by have := pW_le (B 10) t a; have := (nI_eq (a := pW (B 10) t a) (b := 3) (by omega) (by decide)).mp c98; omega)) ?_
                  refine aw_bipush (v := 101) dX12_wordHere_126 (by decide) ?_
                  refine aw_icmp_ne (tgt := 135) dX12_wordHere_128 (by decide) (fun c128 => ?_) (fun c128 => ?_)
                  · refine aw_iconst (v := -1) dX12_wordHere_135 (by decide) ?_
                    exact aw_iret dX12_wordHere_136 rfl (⟨congrArg (fun z => some (Value.int z)) (((((((((if_neg c7).trans (if_pos c29)).trans (if_pos c39)).trans (if_neg c49)).trans (if_neg c66)).trans (if_pos c98)).trans (if_pos c108)).trans (if_pos c118)).trans (if_neg c128)), rfl, rfl⟩)
                  · refine aw_iconst (v := 3) dX12_wordHere_131 (by decide) ?_
                    refine aw_goto (tgt := 136) dX12_wordHere_132 (by decide) ?_
                    exact aw_iret dX12_wordHere_136 rfl (⟨congrArg (fun z => some (Value.int z)) (((((((((if_neg c7).trans (if_pos c29)).trans (if_pos c39)).trans (if_neg c49)).trans (if_neg c66)).trans (if_pos c98)).trans (if_pos c108)).trans (if_pos c118)).trans (if_pos c128)), rfl, rfl⟩)
          · refine aw_aload_n dX12_wordHere_69 rfl ?_
            refine aw_bipush (v := 104) dX12_wordHere_70 (by decide) ?_
            refine aw_bipush (v := 97) dX12_wordHere_72 (by decide) ?_
            refine aw_bipush (v := 110) dX12_wordHere_74 (by decide) ?_
            refine aw_bipush (v := 100) dX12_wordHere_76 (by decide) ?_
            refine aw_callV4p dX12_wordHere_78 cmX12_spells cvX12_131 (mo_c0 hM) (Nat.le_of_ble_eq_true rfl) (tX12_spells hM ht ht6 ha (by have := pW_le (B 10) t a; have := (nI_eq (a := pW (B 10) t a) (b := 5) (by omega) (by decide)).mp c66; omega)) ?_
            refine aw_if_eq (tgt := 96) dX12_wordHere_81 (by decide) (fun c81 => ?_) (fun c81 => ?_)
            · refine aw_iload_n dX12_wordHere_96 rfl ?_
              refine aw_iconst (v := 3) dX12_wordHere_97 (by decide) ?_
              refine aw_icmp_ne (tgt := 135) dX12_wordHere_98 (by decide) (fun c98 => ?_) (fun c98 => ?_)
              · refine aw_iconst (v := -1) dX12_wordHere_135 (by decide) ?_
                exact aw_iret dX12_wordHere_136 rfl (⟨congrArg (fun z => some (Value.int z)) (((((((if_neg c7).trans (if_pos c29)).trans (if_pos c39)).trans (if_neg c49)).trans (if_pos c66)).trans (if_pos c81)).trans (if_neg c98)), rfl, rfl⟩)
              · refine aw_aload_n dX12_wordHere_101 rfl ?_
                refine aw_iconst (v := 0) dX12_wordHere_102 (by decide) ?_
                refine aw_callV1p dX12_wordHere_103 cmX12_letter cvX12_124 (mo_c0 hM) (Nat.le_of_ble_eq_true rfl) (tX12_letter hM ht ht6 ha (j := 0) rfl (by have := pW_le (B 10) t a; have := (nI_eq (a := pW (B 10) t a) (b := 3) (by omega) (by decide)).mp c98; omega)) ?_
                refine aw_bipush (v := 108) dX12_wordHere_106 (by decide) ?_
                refine aw_icmp_ne (tgt := 135) dX12_wordHere_108 (by decide) (fun c108 => ?_) (fun c108 => ?_)
                · refine aw_iconst (v := -1) dX12_wordHere_135 (by decide) ?_
                  exact aw_iret dX12_wordHere_136 rfl (⟨congrArg (fun z => some (Value.int z)) ((((((((if_neg c7).trans (if_pos c29)).trans (if_pos c39)).trans (if_neg c49)).trans (if_pos c66)).trans (if_pos c81)).trans (if_pos c98)).trans (if_neg c108)), rfl, rfl⟩)
                · refine aw_aload_n dX12_wordHere_111 rfl ?_
                  refine aw_iconst (v := 1) dX12_wordHere_112 (by decide) ?_
                  refine aw_callV1p dX12_wordHere_113 cmX12_letter cvX12_124 (mo_c0 hM) (Nat.le_of_ble_eq_true rfl) (tX12_letter hM ht ht6 ha (j := 1) rfl (by have := pW_le (B 10) t a; have := (nI_eq (a := pW (B 10) t a) (b := 3) (by omega) (by decide)).mp c98; omega)) ?_
                  refine aw_bipush (v := 105) dX12_wordHere_116 (by decide) ?_
                  refine aw_icmp_ne (tgt := 135) dX12_wordHere_118 (by decide) (fun c118 => ?_) (fun c118 => ?_)
                  · refine aw_iconst (v := -1) dX12_wordHere_135 (by decide) ?_
                    exact aw_iret dX12_wordHere_136 rfl (⟨congrArg (fun z => some (Value.int z)) (((((((((if_neg c7).trans (if_pos c29)).trans (if_pos c39)).trans (if_neg c49)).trans (if_pos c66)).trans (if_pos c81)).trans (if_pos c98)).trans (if_pos c108)).trans (if_neg c118)), rfl, rfl⟩)
                  · refine aw_aload_n dX12_wordHere_121 rfl ?_
                    refine aw_iconst (v := 2) dX12_wordHere_122 (by decide) ?_
                    refine aw_callV1p dX12_wordHere_123 cmX12_letter cvX12_124 (mo_c0 hM) (Nat.le_of_ble_eq_true rfl) (tX12_letter hM ht ht6 ha (j := 2) rfl (by have := pW_le (B 10) t a; have := (nI_eq (a := pW (B 10) t a) (b := 3) (by omega) (by decide)).mp c98; omega)) ?_
                    refine aw_bipush (v := 101) dX12_wordHere_126 (by decide) ?_
                    refine aw_icmp_ne (tgt := 135) dX12_wordHere_128 (by decide) (fun c128 => ?_) (fun c128 => ?_)
                    · refine aw_iconst (v := -1) dX12_wordHere_135 (by decide) ?_
                      exact aw_iret dX12_wordHere_136 rfl (⟨congrArg (fun z => some (Value.int z)) ((((((((((if_neg c7).trans (if_pos c29)).trans (if_pos c39)).trans (if_neg c49)).trans (if_pos c66)).trans (if_pos c81)).trans (if_pos c98)).trans (if_pos c108)).trans (if_pos c118)).trans (if_neg c128)), rfl, rfl⟩)
                    · refine aw_iconst (v := 3) dX12_wordHere_131 (by decide) ?_
                      refine aw_goto (tgt := 136) dX12_wordHere_132 (by decide) ?_
                      exact aw_iret dX12_wordHere_136 rfl (⟨congrArg (fun z => some (Value.int z)) ((((((((((if_neg c7).trans (if_pos c29)).trans (if_pos c39)).trans (if_neg c49)).trans (if_pos c66)).trans (if_pos c81)).trans (if_pos c98)).trans (if_pos c108)).trans (if_pos c118)).trans (if_pos c128)), rfl, rfl⟩)
            · refine aw_aload_n dX12_wordHere_84 rfl ?_
              refine aw_iconst (v := 4) dX12_wordHere_85 (by decide) ?_
              refine aw_callV1p dX12_wordHere_86 cmX12_letter cvX12_124 (mo_c0 hM) (Nat.le_of_ble_eq_true rfl) (tX12_letter hM ht ht6 ha (j := 4) rfl (by have := pW_le (B 10) t a; have := (nI_eq (a := pW (B 10) t a) (b := 5) (by omega) (by decide)).mp c66; omega)) ?_
              refine aw_bipush (v := 115) dX12_wordHere_89 (by decide) ?_
              refine aw_icmp_ne (tgt := 96) dX12_wordHere_91 (by decide) (fun c91 => ?_) (fun c91 => ?_)
              · refine aw_iload_n dX12_wordHere_96 rfl ?_
                refine aw_iconst (v := 3) dX12_wordHere_97 (by decide) ?_
                refine aw_icmp_ne (tgt := 135) dX12_wordHere_98 (by decide) (fun c98 => ?_) (fun c98 => ?_)
                · refine aw_iconst (v := -1) dX12_wordHere_135 (by decide) ?_
                  exact aw_iret dX12_wordHere_136 rfl (⟨congrArg (fun z => some (Value.int z)) ((((((((if_neg c7).trans (if_pos c29)).trans (if_pos c39)).trans (if_neg c49)).trans (if_pos c66)).trans (if_neg c81)).trans (if_neg c91)).trans (if_neg c98)), rfl, rfl⟩)
                · refine aw_aload_n dX12_wordHere_101 rfl ?_
                  refine aw_iconst (v := 0) dX12_wordHere_102 (by decide) ?_
                  refine aw_callV1p dX12_wordHere_103 cmX12_letter cvX12_124 (mo_c0 hM) (Nat.le_of_ble_eq_true rfl) (tX12_letter hM ht ht6 ha (j := 0) rfl (by have := pW_le (B 10) t a; have := (nI_eq (a := pW (B 10) t a) (b := 3) (by omega) (by decide)).mp c98; omega)) ?_
                  refine aw_bipush (v := 108) dX12_wordHere_106 (by decide) ?_
                  refine aw_icmp_ne (tgt := 135) dX12_wordHere_108 (by decide) (fun c108 => ?_) (fun c108 => ?_)
                  · refine aw_iconst (v := -1) dX12_wordHere_135 (by decide) ?_
                    exact aw_iret dX12_wordHere_136 rfl (⟨congrArg (fun z => some (Value.int z)) (((((((((if_neg c7).trans (if_pos c29)).trans (if_pos c39)).trans (if_neg c49)).trans (if_pos c66)).trans (if_neg c81)).trans (if_neg c91)).trans (if_pos c98)).trans (if_neg c108)), rfl, rfl⟩)
                  · refine aw_aload_n dX12_wordHere_111 rfl ?_
                    refine aw_iconst (v := 1) dX12_wordHere_112 (by decide) ?_
                    refine aw_callV1p dX12_wordHere_113 cmX12_letter cvX12_124 (mo_c0 hM) (Nat.le_of_ble_eq_true rfl) (tX12_letter hM ht ht6 ha (j := 1) rfl (by have := pW_le (B 10) t a; have := (nI_eq (a := pW (B 10) t a) (b := 3) (by omega) (by decide)).mp c98; omega)) ?_
                    refine aw_bipush (v := 105) dX12_wordHere_116 (by decide) ?_
                    refine aw_icmp_ne (tgt := 135) dX12_wordHere_118 (by decide) (fun c118 => ?_) (fun c118 => ?_)
                    · refine aw_iconst (v := -1) dX12_wordHere_135 (by decide) ?_
                      exact aw_iret dX12_wordHere_136 rfl (⟨congrArg (fun z => some (Value.int z)) ((((((((((if_neg c7).trans (if_pos c29)).trans (if_pos c39)).trans (if_neg c49)).trans (if_pos c66)).trans (if_neg c81)).trans (if_neg c91)).trans (if_pos c98)).trans (if_pos c108)).trans (if_neg c118)), rfl, rfl⟩)
                    · refine aw_aload_n dX12_wordHere_121 rfl ?_
                      refine aw_iconst (v := 2) dX12_wordHere_122 (by decide) ?_
                      refine aw_callV1p dX12_wordHere_123 cmX12_letter cvX12_124 (mo_c0 hM) (Nat.le_of_ble_eq_true rfl) (tX12_letter hM ht ht6 ha (j := 2) rfl (by have := pW_le (B 10) t a; have := (nI_eq (a := pW (B 10) t a) (b := 3) (by omega) (by decide)).mp c98; omega)) ?_
                      refine aw_bipush (v := 101) dX12_wordHere_126 (by decide) ?_
                      refine aw_icmp_ne (tgt := 135) dX12_wordHere_128 (by decide) (fun c128 => ?_) (fun c128 => ?_)
                      · refine aw_iconst (v := -1) dX12_wordHere_135 (by decide) ?_
                        exact aw_iret dX12_wordHere_136 rfl (⟨congrArg (fun z => some (Value.int z)) (((((((((((if_neg c7).trans (if_pos c29)).trans (if_pos c39)).trans (if_neg c49)).trans (if_pos c66)).trans (if_neg c81)).trans (if_neg c91)).trans (if_pos c98)).trans (if_pos c108)).trans (if_pos c118)).trans (if_neg c128)), rfl, rfl⟩)
                      · refine aw_iconst (v := 3) dX12_wordHere_131 (by decide) ?_
                        refine aw_goto (tgt := 136) dX12_wordHere_132 (by decide) ?_
                        exact aw_iret dX12_wordHere_136 rfl (⟨congrArg (fun z => some (Value.int z)) (((((((((((if_neg c7).trans (if_pos c29)).trans (if_pos c39)).trans (if_neg c49)).trans (if_pos c66)).trans (if_neg c81)).trans (if_neg c91)).trans (if_pos c98)).trans (if_pos c108)).trans (if_pos c118)).trans (if_pos c128)), rfl, rfl⟩)
              · refine aw_iconst (v := 2) dX12_wordHere_94 (by decide) ?_
                exact aw_iret dX12_wordHere_95 rfl (⟨congrArg (fun z => some (Value.int z)) (((((((if_neg c7).trans (if_pos c29)).trans (if_pos c39)).trans (if_neg c49)).trans (if_pos c66)).trans (if_neg c81)).trans (if_pos c91)), rfl, rfl⟩)
        · refine aw_aload_n dX12_wordHere_52 rfl ?_
          refine aw_iconst (v := 2) dX12_wordHere_53 (by decide) ?_
          refine aw_callV1p dX12_wordHere_54 cmX12_letter cvX12_124 (mo_c0 hM) (Nat.le_of_ble_eq_true rfl) (tX12_letter hM ht ht6 ha (j := 2) rfl (by have := pW_le (B 10) t a; have := (nI_eq (a := pW (B 10) t a) (b := 3) (by omega) (by decide)).mp c29; omega)) ?_
          refine aw_bipush (v := 101) dX12_wordHere_57 (by decide) ?_
          refine aw_icmp_ne (tgt := 64) dX12_wordHere_59 (by decide) (fun c59 => ?_) (fun c59 => ?_)
          · refine aw_iload_n dX12_wordHere_64 rfl ?_
            refine aw_iconst (v := 5) dX12_wordHere_65 (by decide) ?_
            refine aw_icmp_ne (tgt := 96) dX12_wordHere_66 (by decide) (fun c66 => ?_) (fun c66 => ?_)
            · refine aw_iload_n dX12_wordHere_96 rfl ?_
              refine aw_iconst (v := 3) dX12_wordHere_97 (by decide) ?_
              refine aw_icmp_ne (tgt := 135) dX12_wordHere_98 (by decide) (fun c98 => ?_) (fun c98 => ?_)
              · refine aw_iconst (v := -1) dX12_wordHere_135 (by decide) ?_
                exact aw_iret dX12_wordHere_136 rfl (⟨congrArg (fun z => some (Value.int z)) (((((((if_neg c7).trans (if_pos c29)).trans (if_pos c39)).trans (if_pos c49)).trans (if_neg c59)).trans (if_neg c66)).trans (if_neg c98)), rfl, rfl⟩)
              · refine aw_aload_n dX12_wordHere_101 rfl ?_
                refine aw_iconst (v := 0) dX12_wordHere_102 (by decide) ?_
                refine aw_callV1p dX12_wordHere_103 cmX12_letter cvX12_124 (mo_c0 hM) (Nat.le_of_ble_eq_true rfl) (tX12_letter hM ht ht6 ha (j := 0) rfl (by have := pW_le (B 10) t a; have := (nI_eq (a := pW (B 10) t a) (b := 3) (by omega) (by decide)).mp c98; omega)) ?_
                refine aw_bipush (v := 108) dX12_wordHere_106 (by decide) ?_
                refine aw_icmp_ne (tgt := 135) dX12_wordHere_108 (by decide) (fun c108 => ?_) (fun c108 => ?_)
                · refine aw_iconst (v := -1) dX12_wordHere_135 (by decide) ?_
                  exact aw_iret dX12_wordHere_136 rfl (⟨congrArg (fun z => some (Value.int z)) ((((((((if_neg c7).trans (if_pos c29)).trans (if_pos c39)).trans (if_pos c49)).trans (if_neg c59)).trans (if_neg c66)).trans (if_pos c98)).trans (if_neg c108)), rfl, rfl⟩)
                · refine aw_aload_n dX12_wordHere_111 rfl ?_
                  refine aw_iconst (v := 1) dX12_wordHere_112 (by decide) ?_
                  refine aw_callV1p dX12_wordHere_113 cmX12_letter cvX12_124 (mo_c0 hM) (Nat.le_of_ble_eq_true rfl) (tX12_letter hM ht ht6 ha (j := 1) rfl (by have := pW_le (B 10) t a; have := (nI_eq (a := pW (B 10) t a) (b := 3) (by omega) (by decide)).mp c98; omega)) ?_
                  refine aw_bipush (v := 105) dX12_wordHere_116 (by decide) ?_
                  refine aw_icmp_ne (tgt := 135) dX12_wordHere_118 (by decide) (fun c118 => ?_) (fun c118 => ?_)
                  · refine aw_iconst (v := -1) dX12_wordHere_135 (by decide) ?_
                    exact aw_iret dX12_wordHere_136 rfl (⟨congrArg (fun z => some (Value.int z)) (((((((((if_neg c7).trans (if_pos c29)).trans (if_pos c39)).trans (if_pos c49)).trans (if_neg c59)).trans (if_neg c66)).trans (if_pos c98)).trans (if_pos c108)).trans (if_neg c118)), rfl, rfl⟩)
                  · refine aw_aload_n dX12_wordHere_121 rfl ?_
                    refine aw_iconst (v := 2) dX12_wordHere_122 (by decide) ?_
                    refine aw_callV1p dX12_wordHere_123 cmX12_letter cvX12_124 (mo_c0 hM) (Nat.le_of_ble_eq_true rfl) (tX12_letter hM ht ht6 ha (j := 2) rfl (by have := pW_le (B 10) t a; have := (nI_eq (a := pW (B 10) t a) (b := 3) (by omega) (by decide)).mp c98; omega)) ?_
                    refine aw_bipush (v := 101) dX12_wordHere_126 (by decide) ?_
                    refine aw_icmp_ne (tgt := 135) dX12_wordHere_128 (by decide) (fun c128 => ?_) (fun c128 => ?_)
                    · refine aw_iconst (v := -1) dX12_wordHere_135 (by decide) ?_
                      exact aw_iret dX12_wordHere_136 rfl (⟨congrArg (fun z => some (Value.int z)) ((((((((((if_neg c7).trans (if_pos c29)).trans (if_pos c39)).trans (if_pos c49)).trans (if_neg c59)).trans (if_neg c66)).trans (if_pos c98)).trans (if_pos c108)).trans (if_pos c118)).trans (if_neg c128)), rfl, rfl⟩)
                    · refine aw_iconst (v := 3) dX12_wordHere_131 (by decide) ?_
                      refine aw_goto (tgt := 136) dX12_wordHere_132 (by decide) ?_
                      exact aw_iret dX12_wordHere_136 rfl (⟨congrArg (fun z => some (Value.int z)) ((((((((((if_neg c7).trans (if_pos c29)).trans (if_pos c39)).trans (if_pos c49)).trans (if_neg c59)).trans (if_neg c66)).trans (if_pos c98)).trans (if_pos c108)).trans (if_pos c118)).trans (if_pos c128)), rfl, rfl⟩)
            · refine aw_aload_n dX12_wordHere_69 rfl ?_
              refine aw_bipush (v := 104) dX12_wordHere_70 (by decide) ?_
              refine aw_bipush (v := 97) dX12_wordHere_72 (by decide) ?_
              refine aw_bipush (v := 110) dX12_wordHere_74 (by decide) ?_
              refine aw_bipush (v := 100) dX12_wordHere_76 (by decide) ?_
              refine aw_callV4p dX12_wordHere_78 cmX12_spells cvX12_131 (mo_c0 hM) (Nat.le_of_ble_eq_true rfl) (tX12_spells hM ht ht6 ha (by have := pW_le (B 10) t a; have := (nI_eq (a := pW (B 10) t a) (b := 5) (by omega) (by decide)).mp c66; omega)) ?_
              refine aw_if_eq (tgt := 96) dX12_wordHere_81 (by decide) (fun c81 => ?_) (fun c81 => ?_)
              · refine aw_iload_n dX12_wordHere_96 rfl ?_
                refine aw_iconst (v := 3) dX12_wordHere_97 (by decide) ?_
                refine aw_icmp_ne (tgt := 135) dX12_wordHere_98 (by decide) (fun c98 => ?_) (fun c98 => ?_)
                · refine aw_iconst (v := -1) dX12_wordHere_135 (by decide) ?_
                  exact aw_iret dX12_wordHere_136 rfl (⟨congrArg (fun z => some (Value.int z)) ((((((((if_neg c7).trans (if_pos c29)).trans (if_pos c39)).trans (if_pos c49)).trans (if_neg c59)).trans (if_pos c66)).trans (if_pos c81)).trans (if_neg c98)), rfl, rfl⟩)
                · refine aw_aload_n dX12_wordHere_101 rfl ?_
                  refine aw_iconst (v := 0) dX12_wordHere_102 (by decide) ?_
                  refine aw_callV1p dX12_wordHere_103 cmX12_letter cvX12_124 (mo_c0 hM) (Nat.le_of_ble_eq_true rfl) (tX12_letter hM ht ht6 ha (j := 0) rfl (by have := pW_le (B 10) t a; have := (nI_eq (a := pW (B 10) t a) (b := 3) (by omega) (by decide)).mp c98; omega)) ?_
                  refine aw_bipush (v := 108) dX12_wordHere_106 (by decide) ?_
                  refine aw_icmp_ne (tgt := 135) dX12_wordHere_108 (by decide) (fun c108 => ?_) (fun c108 => ?_)
                  · refine aw_iconst (v := -1) dX12_wordHere_135 (by decide) ?_
                    exact aw_iret dX12_wordHere_136 rfl (⟨congrArg (fun z => some (Value.int z)) (((((((((if_neg c7).trans (if_pos c29)).trans (if_pos c39)).trans (if_pos c49)).trans (if_neg c59)).trans (if_pos c66)).trans (if_pos c81)).trans (if_pos c98)).trans (if_neg c108)), rfl, rfl⟩)
                  · refine aw_aload_n dX12_wordHere_111 rfl ?_
                    refine aw_iconst (v := 1) dX12_wordHere_112 (by decide) ?_
                    refine aw_callV1p dX12_wordHere_113 cmX12_letter cvX12_124 (mo_c0 hM) (Nat.le_of_ble_eq_true rfl) (tX12_letter hM ht ht6 ha (j := 1) rfl (by have := pW_le (B 10) t a; have := (nI_eq (a := pW (B 10) t a) (b := 3) (by omega) (by decide)).mp c98; omega)) ?_
                    refine aw_bipush (v := 105) dX12_wordHere_116 (by decide) ?_
                    refine aw_icmp_ne (tgt := 135) dX12_wordHere_118 (by decide) (fun c118 => ?_) (fun c118 => ?_)
                    · refine aw_iconst (v := -1) dX12_wordHere_135 (by decide) ?_
                      exact aw_iret dX12_wordHere_136 rfl (⟨congrArg (fun z => some (Value.int z)) ((((((((((if_neg c7).trans (if_pos c29)).trans (if_pos c39)).trans (if_pos c49)).trans (if_neg c59)).trans (if_pos c66)).trans (if_pos c81)).trans (if_pos c98)).trans (if_pos c108)).trans (if_neg c118)), rfl, rfl⟩)
                    · refine aw_aload_n dX12_wordHere_121 rfl ?_
                      refine aw_iconst (v := 2) dX12_wordHere_122 (by decide) ?_
                      refine aw_callV1p dX12_wordHere_123 cmX12_letter cvX12_124 (mo_c0 hM) (Nat.le_of_ble_eq_true rfl) (tX12_letter hM ht ht6 ha (j := 2) rfl (by have := pW_le (B 10) t a; have := (nI_eq (a := pW (B 10) t a) (b := 3) (by omega) (by decide)).mp c98; omega)) ?_
                      refine aw_bipush (v := 101) dX12_wordHere_126 (by decide) ?_
                      refine aw_icmp_ne (tgt := 135) dX12_wordHere_128 (by decide) (fun c128 => ?_) (fun c128 => ?_)
                      · refine aw_iconst (v := -1) dX12_wordHere_135 (by decide) ?_
                        exact aw_iret dX12_wordHere_136 rfl (⟨congrArg (fun z => some (Value.int z)) (((((((((((if_neg c7).trans (if_pos c29)).trans (if_pos c39)).trans (if_pos c49)).trans (if_neg c59)).trans (if_pos c66)).trans (if_pos c81)).trans (if_pos c98)).trans (if_pos c108)).trans (if_pos c118)).trans (if_neg c128)), rfl, rfl⟩)
                      · refine aw_iconst (v := 3) dX12_wordHere_131 (by decide) ?_
                        refine aw_goto (tgt := 136) dX12_wordHere_132 (by decide) ?_
                        exact aw_iret dX12_wordHere_136 rfl (⟨congrArg (fun z => some (Value.int z)) (((((((((((if_neg c7).trans (if_pos c29)).trans (if_pos c39)).trans (if_pos c49)).trans (if_neg c59)).trans (if_pos c66)).trans (if_pos c81)).trans (if_pos c98)).trans (if_pos c108)).trans (if_pos c118)).trans (if_pos c128)), rfl, rfl⟩)
              · refine aw_aload_n dX12_wordHere_84 rfl ?_
                refine aw_iconst (v := 4) dX12_wordHere_85 (by decide) ?_
                refine aw_callV1p dX12_wordHere_86 cmX12_letter cvX12_124 (mo_c0 hM) (Nat.le_of_ble_eq_true rfl) (tX12_letter hM ht ht6 ha (j := 4) rfl (by have := pW_le (B 10) t a; have := (nI_eq (a := pW (B 10) t a) (b := 5) (by omega) (by decide)).mp c66; omega)) ?_
                refine aw_bipush (v := 115) dX12_wordHere_89 (by decide) ?_
                refine aw_icmp_ne (tgt := 96) dX12_wordHere_91 (by decide) (fun c91 => ?_) (fun c91 => ?_)
                · refine aw_iload_n dX12_wordHere_96 rfl ?_
                  refine aw_iconst (v := 3) dX12_wordHere_97 (by decide) ?_
                  refine aw_icmp_ne (tgt := 135) dX12_wordHere_98 (by decide) (fun c98 => ?_) (fun c98 => ?_)
                  · refine aw_iconst (v := -1) dX12_wordHere_135 (by decide) ?_
                    exact aw_iret dX12_wordHere_136 rfl (⟨congrArg (fun z => some (Value.int z)) (((((((((if_neg c7).trans (if_pos c29)).trans (if_pos c39)).trans (if_pos c49)).trans (if_neg c59)).trans (if_pos c66)).trans (if_neg c81)).trans (if_neg c91)).trans (if_neg c98)), rfl, rfl⟩)
                  · refine aw_aload_n dX12_wordHere_101 rfl ?_
                    refine aw_iconst (v := 0) dX12_wordHere_102 (by decide) ?_
                    refine aw_callV1p dX12_wordHere_103 cmX12_letter cvX12_124 (mo_c0 hM) (Nat.le_of_ble_eq_true rfl) (tX12_letter hM ht ht6 ha (j := 0) rfl (by have := pW_le (B 10) t a; have := (nI_eq (a := pW (B 10) t a) (b := 3) (by omega) (by decide)).mp c98; omega)) ?_
                    refine aw_bipush (v := 108) dX12_wordHere_106 (by decide) ?_
                    refine aw_icmp_ne (tgt := 135) dX12_wordHere_108 (by decide) (fun c108 => ?_) (fun c108 => ?_)
                    · refine aw_iconst (v := -1) dX12_wordHere_135 (by decide) ?_
                      exact aw_iret dX12_wordHere_136 rfl (⟨congrArg (fun z => some (Value.int z)) ((((((((((if_neg c7).trans (if_pos c29)).trans (if_pos c39)).trans (if_pos c49)).trans (if_neg c59)).trans (if_pos c66)).trans (if_neg c81)).trans (if_neg c91)).trans (if_pos c98)).trans (if_neg c108)), rfl, rfl⟩)
                    · refine aw_aload_n dX12_wordHere_111 rfl ?_
                      refine aw_iconst (v := 1) dX12_wordHere_112 (by decide) ?_
                      refine aw_callV1p dX12_wordHere_113 cmX12_letter cvX12_124 (mo_c0 hM) (Nat.le_of_ble_eq_true rfl) (tX12_letter hM ht ht6 ha (j := 1) rfl (by have := pW_le (B 10) t a; have := (nI_eq (a := pW (B 10) t a) (b := 3) (by omega) (by decide)).mp c98; omega)) ?_
                      refine aw_bipush (v := 105) dX12_wordHere_116 (by decide) ?_
                      refine aw_icmp_ne (tgt := 135) dX12_wordHere_118 (by decide) (fun c118 => ?_) (fun c118 => ?_)
                      · refine aw_iconst (v := -1) dX12_wordHere_135 (by decide) ?_
                        exact aw_iret dX12_wordHere_136 rfl (⟨congrArg (fun z => some (Value.int z)) (((((((((((if_neg c7).trans (if_pos c29)).trans (if_pos c39)).trans (if_pos c49)).trans (if_neg c59)).trans (if_pos c66)).trans (if_neg c81)).trans (if_neg c91)).trans (if_pos c98)).trans (if_pos c108)).trans (if_neg c118)), rfl, rfl⟩)
                      · refine aw_aload_n dX12_wordHere_121 rfl ?_
                        refine aw_iconst (v := 2) dX12_wordHere_122 (by decide) ?_
                        refine aw_callV1p dX12_wordHere_123 cmX12_letter cvX12_124 (mo_c0 hM) (Nat.le_of_ble_eq_true rfl) (tX12_letter hM ht ht6 ha (j := 2) rfl (by have := pW_le (B 10) t a; have := (nI_eq (a := pW (B 10) t a) (b := 3) (by omega) (by decide)).mp c98; omega)) ?_
                        refine aw_bipush (v := 101) dX12_wordHere_126 (by decide) ?_
                        refine aw_icmp_ne (tgt := 135) dX12_wordHere_128 (by decide) (fun c128 => ?_) (fun c128 => ?_)
                        · refine aw_iconst (v := -1) dX12_wordHere_135 (by decide) ?_
                          exact aw_iret dX12_wordHere_136 rfl (⟨congrArg (fun z => some (Value.int z)) ((((((((((((if_neg c7).trans (if_pos c29)).trans (if_pos c39)).trans (if_pos c49)).trans (if_neg c59)).trans (if_pos c66)).trans (if_neg c81)).trans (if_neg c91)).trans (if_pos c98)).trans (if_pos c108)).trans (if_pos c118)).trans (if_neg c128)), rfl, rfl⟩)
                        · refine aw_iconst (v := 3) dX12_wordHere_131 (by decide) ?_
                          refine aw_goto (tgt := 136) dX12_wordHere_132 (by decide) ?_
                          exact aw_iret dX12_wordHere_136 rfl (⟨congrArg (fun z => some (Value.int z)) ((((((((((((if_neg c7).trans (if_pos c29)).trans (if_pos c39)).trans (if_pos c49)).trans (if_neg c59)).trans (if_pos c66)).trans (if_neg c81)).trans (if_neg c91)).trans (if_pos c98)).trans (if_pos c108)).trans (if_pos c118)).trans (if_pos c128)), rfl, rfl⟩)
                · refine aw_iconst (v := 2) dX12_wordHere_94 (by decide) ?_
                  exact aw_iret dX12_wordHere_95 rfl (⟨congrArg (fun z => some (Value.int z)) ((((((((if_neg c7).trans (if_pos c29)).trans (if_pos c39)).trans (if_pos c49)).trans (if_neg c59)).trans (if_pos c66)).trans (if_neg c81)).trans (if_pos c91)), rfl, rfl⟩)
          · refine aw_iconst (v := 1) dX12_wordHere_62 (by decide) ?_
            exact aw_iret dX12_wordHere_63 rfl (⟨congrArg (fun z => some (Value.int z)) (((((if_neg c7).trans (if_pos c29)).trans (if_pos c39)).trans (if_pos c49)).trans (if_pos c59)), rfl, rfl⟩)
  · refine aw_aload_n dX12_wordHere_10 rfl ?_
    refine aw_bipush (v := 103) dX12_wordHere_11 (by decide) ?_
    refine aw_bipush (v := 111) dX12_wordHere_13 (by decide) ?_
    refine aw_bipush (v := 108) dX12_wordHere_15 (by decide) ?_
    refine aw_bipush (v := 100) dX12_wordHere_17 (by decide) ?_
    refine aw_callV4p dX12_wordHere_19 cmX12_spells cvX12_131 (mo_c0 hM) (Nat.le_of_ble_eq_true rfl) (tX12_spells hM ht ht6 ha (by have := pW_le (B 10) t a; have := (nI_eq (a := pW (B 10) t a) (b := 4) (by omega) (by decide)).mp c7; omega)) ?_
    refine aw_if_eq (tgt := 27) dX12_wordHere_22 (by decide) (fun c22 => ?_) (fun c22 => ?_)
    · refine aw_iload_n dX12_wordHere_27 rfl ?_
      refine aw_iconst (v := 3) dX12_wordHere_28 (by decide) ?_
      refine aw_icmp_ne (tgt := 64) dX12_wordHere_29 (by decide) (fun c29 => ?_) (fun c29 => ?_)
      · refine aw_iload_n dX12_wordHere_64 rfl ?_
        refine aw_iconst (v := 5) dX12_wordHere_65 (by decide) ?_
        refine aw_icmp_ne (tgt := 96) dX12_wordHere_66 (by decide) (fun c66 => ?_) (fun c66 => ?_)
        · refine aw_iload_n dX12_wordHere_96 rfl ?_
          refine aw_iconst (v := 3) dX12_wordHere_97 (by decide) ?_
          refine aw_icmp_ne (tgt := 135) dX12_wordHere_98 (by decide) (fun c98 => ?_) (fun c98 => ?_)
          · refine aw_iconst (v := -1) dX12_wordHere_135 (by decide) ?_
            exact aw_iret dX12_wordHere_136 rfl (⟨congrArg (fun z => some (Value.int z)) (((((if_pos c7).trans (if_pos c22)).trans (if_neg c29)).trans (if_neg c66)).trans (if_neg c98)), rfl, rfl⟩)
          · refine aw_aload_n dX12_wordHere_101 rfl ?_
            refine aw_iconst (v := 0) dX12_wordHere_102 (by decide) ?_
            refine aw_callV1p dX12_wordHere_103 cmX12_letter cvX12_124 (mo_c0 hM) (Nat.le_of_ble_eq_true rfl) (tX12_letter hM ht ht6 ha (j := 0) rfl (by have := pW_le (B 10) t a; have := (nI_eq (a := pW (B 10) t a) (b := 3) (by omega) (by decide)).mp c98; omega)) ?_
            refine aw_bipush (v := 108) dX12_wordHere_106 (by decide) ?_
            refine aw_icmp_ne (tgt := 135) dX12_wordHere_108 (by decide) (fun c108 => ?_) (fun c108 => ?_)
            · refine aw_iconst (v := -1) dX12_wordHere_135 (by decide) ?_
              exact aw_iret dX12_wordHere_136 rfl (⟨congrArg (fun z => some (Value.int z)) ((((((if_pos c7).trans (if_pos c22)).trans (if_neg c29)).trans (if_neg c66)).trans (if_pos c98)).trans (if_neg c108)), rfl, rfl⟩)
            · refine aw_aload_n dX12_wordHere_111 rfl ?_
              refine aw_iconst (v := 1) dX12_wordHere_112 (by decide) ?_
              refine aw_callV1p dX12_wordHere_113 cmX12_letter cvX12_124 (mo_c0 hM) (Nat.le_of_ble_eq_true rfl) (tX12_letter hM ht ht6 ha (j := 1) rfl (by have := pW_le (B 10) t a; have := (nI_eq (a := pW (B 10) t a) (b := 3) (by omega) (by decide)).mp c98; omega)) ?_
              refine aw_bipush (v := 105) dX12_wordHere_116 (by decide) ?_
              refine aw_icmp_ne (tgt := 135) dX12_wordHere_118 (by decide) (fun c118 => ?_) (fun c118 => ?_)
              · refine aw_iconst (v := -1) dX12_wordHere_135 (by decide) ?_
                exact aw_iret dX12_wordHere_136 rfl (⟨congrArg (fun z => some (Value.int z)) (((((((if_pos c7).trans (if_pos c22)).trans (if_neg c29)).trans (if_neg c66)).trans (if_pos c98)).trans (if_pos c108)).trans (if_neg c118)), rfl, rfl⟩)
              · refine aw_aload_n dX12_wordHere_121 rfl ?_
                refine aw_iconst (v := 2) dX12_wordHere_122 (by decide) ?_
                refine aw_callV1p dX12_wordHere_123 cmX12_letter cvX12_124 (mo_c0 hM) (Nat.le_of_ble_eq_true rfl) (tX12_letter hM ht ht6 ha (j := 2) rfl (by have := pW_le (B 10) t a; have := (nI_eq (a := pW (B 10) t a) (b := 3) (by omega) (by decide)).mp c98; omega)) ?_
                refine aw_bipush (v := 101) dX12_wordHere_126 (by decide) ?_
                refine aw_icmp_ne (tgt := 135) dX12_wordHere_128 (by decide) (fun c128 => ?_) (fun c128 => ?_)
                · refine aw_iconst (v := -1) dX12_wordHere_135 (by decide) ?_
                  exact aw_iret dX12_wordHere_136 rfl (⟨congrArg (fun z => some (Value.int z)) ((((((((if_pos c7).trans (if_pos c22)).trans (if_neg c29)).trans (if_neg c66)).trans (if_pos c98)).trans (if_pos c108)).trans (if_pos c118)).trans (if_neg c128)), rfl, rfl⟩)
                · refine aw_iconst (v := 3) dX12_wordHere_131 (by decide) ?_
                  refine aw_goto (tgt := 136) dX12_wordHere_132 (by decide) ?_
                  exact aw_iret dX12_wordHere_136 rfl (⟨congrArg (fun z => some (Value.int z)) ((((((((if_pos c7).trans (if_pos c22)).trans (if_neg c29)).trans (if_neg c66)).trans (if_pos c98)).trans (if_pos c108)).trans (if_pos c118)).trans (if_pos c128)), rfl, rfl⟩)
        · refine aw_aload_n dX12_wordHere_69 rfl ?_
          refine aw_bipush (v := 104) dX12_wordHere_70 (by decide) ?_
          refine aw_bipush (v := 97) dX12_wordHere_72 (by decide) ?_
          refine aw_bipush (v := 110) dX12_wordHere_74 (by decide) ?_
          refine aw_bipush (v := 100) dX12_wordHere_76 (by decide) ?_
          refine aw_callV4p dX12_wordHere_78 cmX12_spells cvX12_131 (mo_c0 hM) (Nat.le_of_ble_eq_true rfl) (tX12_spells hM ht ht6 ha (by have := pW_le (B 10) t a; have := (nI_eq (a := pW (B 10) t a) (b := 5) (by omega) (by decide)).mp c66; omega)) ?_
          refine aw_if_eq (tgt := 96) dX12_wordHere_81 (by decide) (fun c81 => ?_) (fun c81 => ?_)
          · refine aw_iload_n dX12_wordHere_96 rfl ?_
            refine aw_iconst (v := 3) dX12_wordHere_97 (by decide) ?_
            refine aw_icmp_ne (tgt := 135) dX12_wordHere_98 (by decide) (fun c98 => ?_) (fun c98 => ?_)
            · refine aw_iconst (v := -1) dX12_wordHere_135 (by decide) ?_
              exact aw_iret dX12_wordHere_136 rfl (⟨congrArg (fun z => some (Value.int z)) ((((((if_pos c7).trans (if_pos c22)).trans (if_neg c29)).trans (if_pos c66)).trans (if_pos c81)).trans (if_neg c98)), rfl, rfl⟩)
            · refine aw_aload_n dX12_wordHere_101 rfl ?_
              refine aw_iconst (v := 0) dX12_wordHere_102 (by decide) ?_
              refine aw_callV1p dX12_wordHere_103 cmX12_letter cvX12_124 (mo_c0 hM) (Nat.le_of_ble_eq_true rfl) (tX12_letter hM ht ht6 ha (j := 0) rfl (by have := pW_le (B 10) t a; have := (nI_eq (a := pW (B 10) t a) (b := 3) (by omega) (by decide)).mp c98; omega)) ?_
              refine aw_bipush (v := 108) dX12_wordHere_106 (by decide) ?_
              refine aw_icmp_ne (tgt := 135) dX12_wordHere_108 (by decide) (fun c108 => ?_) (fun c108 => ?_)
              · refine aw_iconst (v := -1) dX12_wordHere_135 (by decide) ?_
                exact aw_iret dX12_wordHere_136 rfl (⟨congrArg (fun z => some (Value.int z)) (((((((if_pos c7).trans (if_pos c22)).trans (if_neg c29)).trans (if_pos c66)).trans (if_pos c81)).trans (if_pos c98)).trans (if_neg c108)), rfl, rfl⟩)
              · refine aw_aload_n dX12_wordHere_111 rfl ?_
                refine aw_iconst (v := 1) dX12_wordHere_112 (by decide) ?_
                refine aw_callV1p dX12_wordHere_113 cmX12_letter cvX12_124 (mo_c0 hM) (Nat.le_of_ble_eq_true rfl) (tX12_letter hM ht ht6 ha (j := 1) rfl (by have := pW_le (B 10) t a; have := (nI_eq (a := pW (B 10) t a) (b := 3) (by omega) (by decide)).mp c98; omega)) ?_
                refine aw_bipush (v := 105) dX12_wordHere_116 (by decide) ?_
                refine aw_icmp_ne (tgt := 135) dX12_wordHere_118 (by decide) (fun c118 => ?_) (fun c118 => ?_)
                · refine aw_iconst (v := -1) dX12_wordHere_135 (by decide) ?_
                  exact aw_iret dX12_wordHere_136 rfl (⟨congrArg (fun z => some (Value.int z)) ((((((((if_pos c7).trans (if_pos c22)).trans (if_neg c29)).trans (if_pos c66)).trans (if_pos c81)).trans (if_pos c98)).trans (if_pos c108)).trans (if_neg c118)), rfl, rfl⟩)
                · refine aw_aload_n dX12_wordHere_121 rfl ?_
                  refine aw_iconst (v := 2) dX12_wordHere_122 (by decide) ?_
                  refine aw_callV1p dX12_wordHere_123 cmX12_letter cvX12_124 (mo_c0 hM) (Nat.le_of_ble_eq_true rfl) (tX12_letter hM ht ht6 ha (j := 2) rfl (by have := pW_le (B 10) t a; have := (nI_eq (a := pW (B 10) t a) (b := 3) (by omega) (by decide)).mp c98; omega)) ?_
                  refine aw_bipush (v := 101) dX12_wordHere_126 (by decide) ?_
                  refine aw_icmp_ne (tgt := 135) dX12_wordHere_128 (by decide) (fun c128 => ?_) (fun c128 => ?_)
                  · refine aw_iconst (v := -1) dX12_wordHere_135 (by decide) ?_
                    exact aw_iret dX12_wordHere_136 rfl (⟨congrArg (fun z => some (Value.int z)) (((((((((if_pos c7).trans (if_pos c22)).trans (if_neg c29)).trans (if_pos c66)).trans (if_pos c81)).trans (if_pos c98)).trans (if_pos c108)).trans (if_pos c118)).trans (if_neg c128)), rfl, rfl⟩)
                  · refine aw_iconst (v := 3) dX12_wordHere_131 (by decide) ?_
                    refine aw_goto (tgt := 136) dX12_wordHere_132 (by decide) ?_
                    exact aw_iret dX12_wordHere_136 rfl (⟨congrArg (fun z => some (Value.int z)) (((((((((if_pos c7).trans (if_pos c22)).trans (if_neg c29)).trans (if_pos c66)).trans (if_pos c81)).trans (if_pos c98)).trans (if_pos c108)).trans (if_pos c118)).trans (if_pos c128)), rfl, rfl⟩)
          · refine aw_aload_n dX12_wordHere_84 rfl ?_
            refine aw_iconst (v := 4) dX12_wordHere_85 (by decide) ?_
            refine aw_callV1p dX12_wordHere_86 cmX12_letter cvX12_124 (mo_c0 hM) (Nat.le_of_ble_eq_true rfl) (tX12_letter hM ht ht6 ha (j := 4) rfl (by have := pW_le (B 10) t a; have := (nI_eq (a := pW (B 10) t a) (b := 5) (by omega) (by decide)).mp c66; omega)) ?_
            refine aw_bipush (v := 115) dX12_wordHere_89 (by decide) ?_
            refine aw_icmp_ne (tgt := 96) dX12_wordHere_91 (by decide) (fun c91 => ?_) (fun c91 => ?_)
            · refine aw_iload_n dX12_wordHere_96 rfl ?_
              refine aw_iconst (v := 3) dX12_wordHere_97 (by decide) ?_
              refine aw_icmp_ne (tgt := 135) dX12_wordHere_98 (by decide) (fun c98 => ?_) (fun c98 => ?_)
              · refine aw_iconst (v := -1) dX12_wordHere_135 (by decide) ?_
                exact aw_iret dX12_wordHere_136 rfl (⟨congrArg (fun z => some (Value.int z)) (((((((if_pos c7).trans (if_pos c22)).trans (if_neg c29)).trans (if_pos c66)).trans (if_neg c81)).trans (if_neg c91)).trans (if_neg c98)), rfl, rfl⟩)
              · refine aw_aload_n dX12_wordHere_101 rfl ?_
                refine aw_iconst (v := 0) dX12_wordHere_102 (by decide) ?_
                refine aw_callV1p dX12_wordHere_103 cmX12_letter cvX12_124 (mo_c0 hM) (Nat.le_of_ble_eq_true rfl) (tX12_letter hM ht ht6 ha (j := 0) rfl (by have := pW_le (B 10) t a; have := (nI_eq (a := pW (B 10) t a) (b := 3) (by omega) (by decide)).mp c98; omega)) ?_
                refine aw_bipush (v := 108) dX12_wordHere_106 (by decide) ?_
                refine aw_icmp_ne (tgt := 135) dX12_wordHere_108 (by decide) (fun c108 => ?_) (fun c108 => ?_)
                · refine aw_iconst (v := -1) dX12_wordHere_135 (by decide) ?_
                  exact aw_iret dX12_wordHere_136 rfl (⟨congrArg (fun z => some (Value.int z)) ((((((((if_pos c7).trans (if_pos c22)).trans (if_neg c29)).trans (if_pos c66)).trans (if_neg c81)).trans (if_neg c91)).trans (if_pos c98)).trans (if_neg c108)), rfl, rfl⟩)
                · refine aw_aload_n dX12_wordHere_111 rfl ?_
                  refine aw_iconst (v := 1) dX12_wordHere_112 (by decide) ?_
                  refine aw_callV1p dX12_wordHere_113 cmX12_letter cvX12_124 (mo_c0 hM) (Nat.le_of_ble_eq_true rfl) (tX12_letter hM ht ht6 ha (j := 1) rfl (by have := pW_le (B 10) t a; have := (nI_eq (a := pW (B 10) t a) (b := 3) (by omega) (by decide)).mp c98; omega)) ?_
                  refine aw_bipush (v := 105) dX12_wordHere_116 (by decide) ?_
                  refine aw_icmp_ne (tgt := 135) dX12_wordHere_118 (by decide) (fun c118 => ?_) (fun c118 => ?_)
                  · refine aw_iconst (v := -1) dX12_wordHere_135 (by decide) ?_
                    exact aw_iret dX12_wordHere_136 rfl (⟨congrArg (fun z => some (Value.int z)) (((((((((if_pos c7).trans (if_pos c22)).trans (if_neg c29)).trans (if_pos c66)).trans (if_neg c81)).trans (if_neg c91)).trans (if_pos c98)).trans (if_pos c108)).trans (if_neg c118)), rfl, rfl⟩)
                  · refine aw_aload_n dX12_wordHere_121 rfl ?_
                    refine aw_iconst (v := 2) dX12_wordHere_122 (by decide) ?_
                    refine aw_callV1p dX12_wordHere_123 cmX12_letter cvX12_124 (mo_c0 hM) (Nat.le_of_ble_eq_true rfl) (tX12_letter hM ht ht6 ha (j := 2) rfl (by have := pW_le (B 10) t a; have := (nI_eq (a := pW (B 10) t a) (b := 3) (by omega) (by decide)).mp c98; omega)) ?_
                    refine aw_bipush (v := 101) dX12_wordHere_126 (by decide) ?_
                    refine aw_icmp_ne (tgt := 135) dX12_wordHere_128 (by decide) (fun c128 => ?_) (fun c128 => ?_)
                    · refine aw_iconst (v := -1) dX12_wordHere_135 (by decide) ?_
                      exact aw_iret dX12_wordHere_136 rfl (⟨congrArg (fun z => some (Value.int z)) ((((((((((if_pos c7).trans (if_pos c22)).trans (if_neg c29)).trans (if_pos c66)).trans (if_neg c81)).trans (if_neg c91)).trans (if_pos c98)).trans (if_pos c108)).trans (if_pos c118)).trans (if_neg c128)), rfl, rfl⟩)
                    · refine aw_iconst (v := 3) dX12_wordHere_131 (by decide) ?_
                      refine aw_goto (tgt := 136) dX12_wordHere_132 (by decide) ?_
                      exact aw_iret dX12_wordHere_136 rfl (⟨congrArg (fun z => some (Value.int z)) ((((((((((if_pos c7).trans (if_pos c22)).trans (if_neg c29)).trans (if_pos c66)).trans (if_neg c81)).trans (if_neg c91)).trans (if_pos c98)).trans (if_pos c108)).trans (if_pos c118)).trans (if_pos c128)), rfl, rfl⟩)
            · refine aw_iconst (v := 2) dX12_wordHere_94 (by decide) ?_
              exact aw_iret dX12_wordHere_95 rfl (⟨congrArg (fun z => some (Value.int z)) ((((((if_pos c7).trans (if_pos c22)).trans (if_neg c29)).trans (if_pos c66)).trans (if_neg c81)).trans (if_pos c91)), rfl, rfl⟩)
      · refine aw_aload_n dX12_wordHere_32 rfl ?_
        refine aw_iconst (v := 0) dX12_wordHere_33 (by decide) ?_
        refine aw_callV1p dX12_wordHere_34 cmX12_letter cvX12_124 (mo_c0 hM) (Nat.le_of_ble_eq_true rfl) (tX12_letter hM ht ht6 ha (j := 0) rfl (by have := pW_le (B 10) t a; have := (nI_eq (a := pW (B 10) t a) (b := 3) (by omega) (by decide)).mp c29; omega)) ?_
        refine aw_bipush (v := 111) dX12_wordHere_37 (by decide) ?_
        refine aw_icmp_ne (tgt := 64) dX12_wordHere_39 (by decide) (fun c39 => ?_) (fun c39 => ?_)
        · refine aw_iload_n dX12_wordHere_64 rfl ?_
          refine aw_iconst (v := 5) dX12_wordHere_65 (by decide) ?_
          refine aw_icmp_ne (tgt := 96) dX12_wordHere_66 (by decide) (fun c66 => ?_) (fun c66 => ?_)
          · refine aw_iload_n dX12_wordHere_96 rfl ?_
            refine aw_iconst (v := 3) dX12_wordHere_97 (by decide) ?_
            refine aw_icmp_ne (tgt := 135) dX12_wordHere_98 (by decide) (fun c98 => ?_) (fun c98 => ?_)
            · refine aw_iconst (v := -1) dX12_wordHere_135 (by decide) ?_
              exact aw_iret dX12_wordHere_136 rfl (⟨congrArg (fun z => some (Value.int z)) ((((((if_pos c7).trans (if_pos c22)).trans (if_pos c29)).trans (if_neg c39)).trans (if_neg c66)).trans (if_neg c98)), rfl, rfl⟩)
            · refine aw_aload_n dX12_wordHere_101 rfl ?_
              refine aw_iconst (v := 0) dX12_wordHere_102 (by decide) ?_
              refine aw_callV1p dX12_wordHere_103 cmX12_letter cvX12_124 (mo_c0 hM) (Nat.le_of_ble_eq_true rfl) (tX12_letter hM ht ht6 ha (j := 0) rfl (by have := pW_le (B 10) t a; have := (nI_eq (a := pW (B 10) t a) (b := 3) (by omega) (by decide)).mp c98; omega)) ?_
              refine aw_bipush (v := 108) dX12_wordHere_106 (by decide) ?_
              refine aw_icmp_ne (tgt := 135) dX12_wordHere_108 (by decide) (fun c108 => ?_) (fun c108 => ?_)
              · refine aw_iconst (v := -1) dX12_wordHere_135 (by decide) ?_
                exact aw_iret dX12_wordHere_136 rfl (⟨congrArg (fun z => some (Value.int z)) (((((((if_pos c7).trans (if_pos c22)).trans (if_pos c29)).trans (if_neg c39)).trans (if_neg c66)).trans (if_pos c98)).trans (if_neg c108)), rfl, rfl⟩)
              · refine aw_aload_n dX12_wordHere_111 rfl ?_
                refine aw_iconst (v := 1) dX12_wordHere_112 (by decide) ?_
                refine aw_callV1p dX12_wordHere_113 cmX12_letter cvX12_124 (mo_c0 hM) (Nat.le_of_ble_eq_true rfl) (tX12_letter hM ht ht6 ha (j := 1) rfl (by have := pW_le (B 10) t a; have := (nI_eq (a := pW (B 10) t a) (b := 3) (by omega) (by decide)).mp c98; omega)) ?_
                refine aw_bipush (v := 105) dX12_wordHere_116 (by decide) ?_
                refine aw_icmp_ne (tgt := 135) dX12_wordHere_118 (by decide) (fun c118 => ?_) (fun c118 => ?_)
                · refine aw_iconst (v := -1) dX12_wordHere_135 (by decide) ?_
                  exact aw_iret dX12_wordHere_136 rfl (⟨congrArg (fun z => some (Value.int z)) ((((((((if_pos c7).trans (if_pos c22)).trans (if_pos c29)).trans (if_neg c39)).trans (if_neg c66)).trans (if_pos c98)).trans (if_pos c108)).trans (if_neg c118)), rfl, rfl⟩)
                · refine aw_aload_n dX12_wordHere_121 rfl ?_
                  refine aw_iconst (v := 2) dX12_wordHere_122 (by decide) ?_
                  refine aw_callV1p dX12_wordHere_123 cmX12_letter cvX12_124 (mo_c0 hM) (Nat.le_of_ble_eq_true rfl) (tX12_letter hM ht ht6 ha (j := 2) rfl (by have := pW_le (B 10) t a; have := (nI_eq (a := pW (B 10) t a) (b := 3) (by omega) (by decide)).mp c98; omega)) ?_
                  refine aw_bipush (v := 101) dX12_wordHere_126 (by decide) ?_
                  refine aw_icmp_ne (tgt := 135) dX12_wordHere_128 (by decide) (fun c128 => ?_) (fun c128 => ?_)
                  · refine aw_iconst (v := -1) dX12_wordHere_135 (by decide) ?_
                    exact aw_iret dX12_wordHere_136 rfl (⟨congrArg (fun z => some (Value.int z)) (((((((((if_pos c7).trans (if_pos c22)).trans (if_pos c29)).trans (if_neg c39)).trans (if_neg c66)).trans (if_pos c98)).trans (if_pos c108)).trans (if_pos c118)).trans (if_neg c128)), rfl, rfl⟩)
                  · refine aw_iconst (v := 3) dX12_wordHere_131 (by decide) ?_
                    refine aw_goto (tgt := 136) dX12_wordHere_132 (by decide) ?_
                    exact aw_iret dX12_wordHere_136 rfl (⟨congrArg (fun z => some (Value.int z)) (((((((((if_pos c7).trans (if_pos c22)).trans (if_pos c29)).trans (if_neg c39)).trans (if_neg c66)).trans (if_pos c98)).trans (if_pos c108)).trans (if_pos c118)).trans (if_pos c128)), rfl, rfl⟩)
          · refine aw_aload_n dX12_wordHere_69 rfl ?_
            refine aw_bipush (v := 104) dX12_wordHere_70 (by decide) ?_
            refine aw_bipush (v := 97) dX12_wordHere_72 (by decide) ?_
            refine aw_bipush (v := 110) dX12_wordHere_74 (by decide) ?_
            refine aw_bipush (v := 100) dX12_wordHere_76 (by decide) ?_
            refine aw_callV4p dX12_wordHere_78 cmX12_spells cvX12_131 (mo_c0 hM) (Nat.le_of_ble_eq_true rfl) (tX12_spells hM ht ht6 ha (by have := pW_le (B 10) t a; have := (nI_eq (a := pW (B 10) t a) (b := 5) (by omega) (by decide)).mp c66; omega)) ?_
            refine aw_if_eq (tgt := 96) dX12_wordHere_81 (by decide) (fun c81 => ?_) (fun c81 => ?_)
            · refine aw_iload_n dX12_wordHere_96 rfl ?_
              refine aw_iconst (v := 3) dX12_wordHere_97 (by decide) ?_
              refine aw_icmp_ne (tgt := 135) dX12_wordHere_98 (by decide) (fun c98 => ?_) (fun c98 => ?_)
              · refine aw_iconst (v := -1) dX12_wordHere_135 (by decide) ?_
                exact aw_iret dX12_wordHere_136 rfl (⟨congrArg (fun z => some (Value.int z)) (((((((if_pos c7).trans (if_pos c22)).trans (if_pos c29)).trans (if_neg c39)).trans (if_pos c66)).trans (if_pos c81)).trans (if_neg c98)), rfl, rfl⟩)
              · refine aw_aload_n dX12_wordHere_101 rfl ?_
                refine aw_iconst (v := 0) dX12_wordHere_102 (by decide) ?_
                refine aw_callV1p dX12_wordHere_103 cmX12_letter cvX12_124 (mo_c0 hM) (Nat.le_of_ble_eq_true rfl) (tX12_letter hM ht ht6 ha (j := 0) rfl (by have := pW_le (B 10) t a; have := (nI_eq (a := pW (B 10) t a) (b := 3) (by omega) (by decide)).mp c98; omega)) ?_
                refine aw_bipush (v := 108) dX12_wordHere_106 (by decide) ?_
                refine aw_icmp_ne (tgt := 135) dX12_wordHere_108 (by decide) (fun c108 => ?_) (fun c108 => ?_)
                · refine aw_iconst (v := -1) dX12_wordHere_135 (by decide) ?_
                  exact aw_iret dX12_wordHere_136 rfl (⟨congrArg (fun z => some (Value.int z)) ((((((((if_pos c7).trans (if_pos c22)).trans (if_pos c29)).trans (if_neg c39)).trans (if_pos c66)).trans (if_pos c81)).trans (if_pos c98)).trans (if_neg c108)), rfl, rfl⟩)
                · refine aw_aload_n dX12_wordHere_111 rfl ?_
                  refine aw_iconst (v := 1) dX12_wordHere_112 (by decide) ?_
                  refine aw_callV1p dX12_wordHere_113 cmX12_letter cvX12_124 (mo_c0 hM) (Nat.le_of_ble_eq_true rfl) (tX12_letter hM ht ht6 ha (j := 1) rfl (by have := pW_le (B 10) t a; have := (nI_eq (a := pW (B 10) t a) (b := 3) (by omega) (by decide)).mp c98; omega)) ?_
                  refine aw_bipush (v := 105) dX12_wordHere_116 (by decide) ?_
                  refine aw_icmp_ne (tgt := 135) dX12_wordHere_118 (by decide) (fun c118 => ?_) (fun c118 => ?_)
                  · refine aw_iconst (v := -1) dX12_wordHere_135 (by decide) ?_
                    exact aw_iret dX12_wordHere_136 rfl (⟨congrArg (fun z => some (Value.int z)) (((((((((if_pos c7).trans (if_pos c22)).trans (if_pos c29)).trans (if_neg c39)).trans (if_pos c66)).trans (if_pos c81)).trans (if_pos c98)).trans (if_pos c108)).trans (if_neg c118)), rfl, rfl⟩)
                  · refine aw_aload_n dX12_wordHere_121 rfl ?_
                    refine aw_iconst (v := 2) dX12_wordHere_122 (by decide) ?_
                    refine aw_callV1p dX12_wordHere_123 cmX12_letter cvX12_124 (mo_c0 hM) (Nat.le_of_ble_eq_true rfl) (tX12_letter hM ht ht6 ha (j := 2) rfl (by have := pW_le (B 10) t a; have := (nI_eq (a := pW (B 10) t a) (b := 3) (by omega) (by decide)).mp c98; omega)) ?_
                    refine aw_bipush (v := 101) dX12_wordHere_126 (by decide) ?_
                    refine aw_icmp_ne (tgt := 135) dX12_wordHere_128 (by decide) (fun c128 => ?_) (fun c128 => ?_)
                    · refine aw_iconst (v := -1) dX12_wordHere_135 (by decide) ?_
                      exact aw_iret dX12_wordHere_136 rfl (⟨congrArg (fun z => some (Value.int z)) ((((((((((if_pos c7).trans (if_pos c22)).trans (if_pos c29)).trans (if_neg c39)).trans (if_pos c66)).trans (if_pos c81)).trans (if_pos c98)).trans (if_pos c108)).trans (if_pos c118)).trans (if_neg c128)), rfl, rfl⟩)
                    · refine aw_iconst (v := 3) dX12_wordHere_131 (by decide) ?_
                      refine aw_goto (tgt := 136) dX12_wordHere_132 (by decide) ?_
                      exact aw_iret dX12_wordHere_136 rfl (⟨congrArg (fun z => some (Value.int z)) ((((((((((if_pos c7).trans (if_pos c22)).trans (if_pos c29)).trans (if_neg c39)).trans (if_pos c66)).trans (if_pos c81)).trans (if_pos c98)).trans (if_pos c108)).trans (if_pos c118)).trans (if_pos c128)), rfl, rfl⟩)
            · refine aw_aload_n dX12_wordHere_84 rfl ?_
              refine aw_iconst (v := 4) dX12_wordHere_85 (by decide) ?_
              refine aw_callV1p dX12_wordHere_86 cmX12_letter cvX12_124 (mo_c0 hM) (Nat.le_of_ble_eq_true rfl) (tX12_letter hM ht ht6 ha (j := 4) rfl (by have := pW_le (B 10) t a; have := (nI_eq (a := pW (B 10) t a) (b := 5) (by omega) (by decide)).mp c66; omega)) ?_
              refine aw_bipush (v := 115) dX12_wordHere_89 (by decide) ?_
              refine aw_icmp_ne (tgt := 96) dX12_wordHere_91 (by decide) (fun c91 => ?_) (fun c91 => ?_)
              · refine aw_iload_n dX12_wordHere_96 rfl ?_
                refine aw_iconst (v := 3) dX12_wordHere_97 (by decide) ?_
                refine aw_icmp_ne (tgt := 135) dX12_wordHere_98 (by decide) (fun c98 => ?_) (fun c98 => ?_)
                · refine aw_iconst (v := -1) dX12_wordHere_135 (by decide) ?_
                  exact aw_iret dX12_wordHere_136 rfl (⟨congrArg (fun z => some (Value.int z)) ((((((((if_pos c7).trans (if_pos c22)).trans (if_pos c29)).trans (if_neg c39)).trans (if_pos c66)).trans (if_neg c81)).trans (if_neg c91)).trans (if_neg c98)), rfl, rfl⟩)
                · refine aw_aload_n dX12_wordHere_101 rfl ?_
                  refine aw_iconst (v := 0) dX12_wordHere_102 (by decide) ?_
                  refine aw_callV1p dX12_wordHere_103 cmX12_letter cvX12_124 (mo_c0 hM) (Nat.le_of_ble_eq_true rfl) (tX12_letter hM ht ht6 ha (j := 0) rfl (by have := pW_le (B 10) t a; have := (nI_eq (a := pW (B 10) t a) (b := 3) (by omega) (by decide)).mp c98; omega)) ?_
                  refine aw_bipush (v := 108) dX12_wordHere_106 (by decide) ?_
                  refine aw_icmp_ne (tgt := 135) dX12_wordHere_108 (by decide) (fun c108 => ?_) (fun c108 => ?_)
                  · refine aw_iconst (v := -1) dX12_wordHere_135 (by decide) ?_
                    exact aw_iret dX12_wordHere_136 rfl (⟨congrArg (fun z => some (Value.int z)) (((((((((if_pos c7).trans (if_pos c22)).trans (if_pos c29)).trans (if_neg c39)).trans (if_pos c66)).trans (if_neg c81)).trans (if_neg c91)).trans (if_pos c98)).trans (if_neg c108)), rfl, rfl⟩)
                  · refine aw_aload_n dX12_wordHere_111 rfl ?_
                    refine aw_iconst (v := 1) dX12_wordHere_112 (by decide) ?_
                    refine aw_callV1p dX12_wordHere_113 cmX12_letter cvX12_124 (mo_c0 hM) (Nat.le_of_ble_eq_true rfl) (tX12_letter hM ht ht6 ha (j := 1) rfl (by have := pW_le (B 10) t a; have := (nI_eq (a := pW (B 10) t a) (b := 3) (by omega) (by decide)).mp c98; omega)) ?_
                    refine aw_bipush (v := 105) dX12_wordHere_116 (by decide) ?_
                    refine aw_icmp_ne (tgt := 135) dX12_wordHere_118 (by decide) (fun c118 => ?_) (fun c118 => ?_)
                    · refine aw_iconst (v := -1) dX12_wordHere_135 (by decide) ?_
                      exact aw_iret dX12_wordHere_136 rfl (⟨congrArg (fun z => some (Value.int z)) ((((((((((if_pos c7).trans (if_pos c22)).trans (if_pos c29)).trans (if_neg c39)).trans (if_pos c66)).trans (if_neg c81)).trans (if_neg c91)).trans (if_pos c98)).trans (if_pos c108)).trans (if_neg c118)), rfl, rfl⟩)
                    · refine aw_aload_n dX12_wordHere_121 rfl ?_
                      refine aw_iconst (v := 2) dX12_wordHere_122 (by decide) ?_
                      refine aw_callV1p dX12_wordHere_123 cmX12_letter cvX12_124 (mo_c0 hM) (Nat.le_of_ble_eq_true rfl) (tX12_letter hM ht ht6 ha (j := 2) rfl (by have := pW_le (B 10) t a; have := (nI_eq (a := pW (B 10) t a) (b := 3) (by omega) (by decide)).mp c98; omega)) ?_
                      refine aw_bipush (v := 101) dX12_wordHere_126 (by decide) ?_
                      refine aw_icmp_ne (tgt := 135) dX12_wordHere_128 (by decide) (fun c128 => ?_) (fun c128 => ?_)
                      · refine aw_iconst (v := -1) dX12_wordHere_135 (by decide) ?_
                        exact aw_iret dX12_wordHere_136 rfl (⟨congrArg (fun z => some (Value.int z)) (((((((((((if_pos c7).trans (if_pos c22)).trans (if_pos c29)).trans (if_neg c39)).trans (if_pos c66)).trans (if_neg c81)).trans (if_neg c91)).trans (if_pos c98)).trans (if_pos c108)).trans (if_pos c118)).trans (if_neg c128)), rfl, rfl⟩)
                      · refine aw_iconst (v := 3) dX12_wordHere_131 (by decide) ?_
                        refine aw_goto (tgt := 136) dX12_wordHere_132 (by decide) ?_
                        exact aw_iret dX12_wordHere_136 rfl (⟨congrArg (fun z => some (Value.int z)) (((((((((((if_pos c7).trans (if_pos c22)).trans (if_pos c29)).trans (if_neg c39)).trans (if_pos c66)).trans (if_neg c81)).trans (if_neg c91)).trans (if_pos c98)).trans (if_pos c108)).trans (if_pos c118)).trans (if_pos c128)), rfl, rfl⟩)
              · refine aw_iconst (v := 2) dX12_wordHere_94 (by decide) ?_
                exact aw_iret dX12_wordHere_95 rfl (⟨congrArg (fun z => some (Value.int z)) (((((((if_pos c7).trans (if_pos c22)).trans (if_pos c29)).trans (if_neg c39)).trans (if_pos c66)).trans (if_neg c81)).trans (if_pos c91)), rfl, rfl⟩)
        · refine aw_aload_n dX12_wordHere_42 rfl ?_
          refine aw_iconst (v := 1) dX12_wordHere_43 (by decide) ?_
          refine aw_callV1p dX12_wordHere_44 cmX12_letter cvX12_124 (mo_c0 hM) (Nat.le_of_ble_eq_true rfl) (tX12_letter hM ht ht6 ha (j := 1) rfl (by have := pW_le (B 10) t a; have := (nI_eq (a := pW (B 10) t a) (b := 3) (by omega) (by decide)).mp c29; omega)) ?_
          refine aw_bipush (v := 110) dX12_wordHere_47 (by decide) ?_
          refine aw_icmp_ne (tgt := 64) dX12_wordHere_49 (by decide) (fun c49 => ?_) (fun c49 => ?_)
          · refine aw_iload_n dX12_wordHere_64 rfl ?_
            refine aw_iconst (v := 5) dX12_wordHere_65 (by decide) ?_
            refine aw_icmp_ne (tgt := 96) dX12_wordHere_66 (by decide) (fun c66 => ?_) (fun c66 => ?_)
            · refine aw_iload_n dX12_wordHere_96 rfl ?_
              refine aw_iconst (v := 3) dX12_wordHere_97 (by decide) ?_
              refine aw_icmp_ne (tgt := 135) dX12_wordHere_98 (by decide) (fun c98 => ?_) (fun c98 => ?_)
              · refine aw_iconst (v := -1) dX12_wordHere_135 (by decide) ?_
                exact aw_iret dX12_wordHere_136 rfl (⟨congrArg (fun z => some (Value.int z)) (((((((if_pos c7).trans (if_pos c22)).trans (if_pos c29)).trans (if_pos c39)).trans (if_neg c49)).trans (if_neg c66)).trans (if_neg c98)), rfl, rfl⟩)
              · refine aw_aload_n dX12_wordHere_101 rfl ?_
                refine aw_iconst (v := 0) dX12_wordHere_102 (by decide) ?_
                refine aw_callV1p dX12_wordHere_103 cmX12_letter cvX12_124 (mo_c0 hM) (Nat.le_of_ble_eq_true rfl) (tX12_letter hM ht ht6 ha (j := 0) rfl (by have := pW_le (B 10) t a; have := (nI_eq (a := pW (B 10) t a) (b := 3) (by omega) (by decide)).mp c98; omega)) ?_
                refine aw_bipush (v := 108) dX12_wordHere_106 (by decide) ?_
                refine aw_icmp_ne (tgt := 135) dX12_wordHere_108 (by decide) (fun c108 => ?_) (fun c108 => ?_)
                · refine aw_iconst (v := -1) dX12_wordHere_135 (by decide) ?_
                  exact aw_iret dX12_wordHere_136 rfl (⟨congrArg (fun z => some (Value.int z)) ((((((((if_pos c7).trans (if_pos c22)).trans (if_pos c29)).trans (if_pos c39)).trans (if_neg c49)).trans (if_neg c66)).trans (if_pos c98)).trans (if_neg c108)), rfl, rfl⟩)
                · refine aw_aload_n dX12_wordHere_111 rfl ?_
                  refine aw_iconst (v := 1) dX12_wordHere_112 (by decide) ?_
                  refine aw_callV1p dX12_wordHere_113 cmX12_letter cvX12_124 (mo_c0 hM) (Nat.le_of_ble_eq_true rfl) (tX12_letter hM ht ht6 ha (j := 1) rfl (by have := pW_le (B 10) t a; have := (nI_eq (a := pW (B 10) t a) (b := 3) (by omega) (by decide)).mp c98; omega)) ?_
                  refine aw_bipush (v := 105) dX12_wordHere_116 (by decide) ?_
                  refine aw_icmp_ne (tgt := 135) dX12_wordHere_118 (by decide) (fun c118 => ?_) (fun c118 => ?_)
                  · refine aw_iconst (v := -1) dX12_wordHere_135 (by decide) ?_
                    exact aw_iret dX12_wordHere_136 rfl (⟨congrArg (fun z => some (Value.int z)) (((((((((if_pos c7).trans (if_pos c22)).trans (if_pos c29)).trans (if_pos c39)).trans (if_neg c49)).trans (if_neg c66)).trans (if_pos c98)).trans (if_pos c108)).trans (if_neg c118)), rfl, rfl⟩)
                  · refine aw_aload_n dX12_wordHere_121 rfl ?_
                    refine aw_iconst (v := 2) dX12_wordHere_122 (by decide) ?_
                    refine aw_callV1p dX12_wordHere_123 cmX12_letter cvX12_124 (mo_c0 hM) (Nat.le_of_ble_eq_true rfl) (tX12_letter hM ht ht6 ha (j := 2) rfl (by have := pW_le (B 10) t a; have := (nI_eq (a := pW (B 10) t a) (b := 3) (by omega) (by decide)).mp c98; omega)) ?_
                    refine aw_bipush (v := 101) dX12_wordHere_126 (by decide) ?_
                    refine aw_icmp_ne (tgt := 135) dX12_wordHere_128 (by decide) (fun c128 => ?_) (fun c128 => ?_)
                    · refine aw_iconst (v := -1) dX12_wordHere_135 (by decide) ?_
                      exact aw_iret dX12_wordHere_136 rfl (⟨congrArg (fun z => some (Value.int z)) ((((((((((if_pos c7).trans (if_pos c22)).trans (if_pos c29)).trans (if_pos c39)).trans (if_neg c49)).trans (if_neg c66)).trans (if_pos c98)).trans (if_pos c108)).trans (if_pos c118)).trans (if_neg c128)), rfl, rfl⟩)
                    · refine aw_iconst (v := 3) dX12_wordHere_131 (by decide) ?_
                      refine aw_goto (tgt := 136) dX12_wordHere_132 (by decide) ?_
                      exact aw_iret dX12_wordHere_136 rfl (⟨congrArg (fun z => some (Value.int z)) ((((((((((if_pos c7).trans (if_pos c22)).trans (if_pos c29)).trans (if_pos c39)).trans (if_neg c49)).trans (if_neg c66)).trans (if_pos c98)).trans (if_pos c108)).trans (if_pos c118)).trans (if_pos c128)), rfl, rfl⟩)
            · refine aw_aload_n dX12_wordHere_69 rfl ?_
              refine aw_bipush (v := 104) dX12_wordHere_70 (by decide) ?_
              refine aw_bipush (v := 97) dX12_wordHere_72 (by decide) ?_
              refine aw_bipush (v := 110) dX12_wordHere_74 (by decide) ?_
              refine aw_bipush (v := 100) dX12_wordHere_76 (by decide) ?_
              refine aw_callV4p dX12_wordHere_78 cmX12_spells cvX12_131 (mo_c0 hM) (Nat.le_of_ble_eq_true rfl) (tX12_spells hM ht ht6 ha (by have := pW_le (B 10) t a; have := (nI_eq (a := pW (B 10) t a) (b := 5) (by omega) (by decide)).mp c66; omega)) ?_
              refine aw_if_eq (tgt := 96) dX12_wordHere_81 (by decide) (fun c81 => ?_) (fun c81 => ?_)
              · refine aw_iload_n dX12_wordHere_96 rfl ?_
                refine aw_iconst (v := 3) dX12_wordHere_97 (by decide) ?_
                refine aw_icmp_ne (tgt := 135) dX12_wordHere_98 (by decide) (fun c98 => ?_) (fun c98 => ?_)
                · refine aw_iconst (v := -1) dX12_wordHere_135 (by decide) ?_
                  exact aw_iret dX12_wordHere_136 rfl (⟨congrArg (fun z => some (Value.int z)) ((((((((if_pos c7).trans (if_pos c22)).trans (if_pos c29)).trans (if_pos c39)).trans (if_neg c49)).trans (if_pos c66)).trans (if_pos c81)).trans (if_neg c98)), rfl, rfl⟩)
                · refine aw_aload_n dX12_wordHere_101 rfl ?_
                  refine aw_iconst (v := 0) dX12_wordHere_102 (by decide) ?_
                  refine aw_callV1p dX12_wordHere_103 cmX12_letter cvX12_124 (mo_c0 hM) (Nat.le_of_ble_eq_true rfl) (tX12_letter hM ht ht6 ha (j := 0) rfl (by have := pW_le (B 10) t a; have := (nI_eq (a := pW (B 10) t a) (b := 3) (by omega) (by decide)).mp c98; omega)) ?_
                  refine aw_bipush (v := 108) dX12_wordHere_106 (by decide) ?_
                  refine aw_icmp_ne (tgt := 135) dX12_wordHere_108 (by decide) (fun c108 => ?_) (fun c108 => ?_)
                  · refine aw_iconst (v := -1) dX12_wordHere_135 (by decide) ?_
                    exact aw_iret dX12_wordHere_136 rfl (⟨congrArg (fun z => some (Value.int z)) (((((((((if_pos c7).trans (if_pos c22)).trans (if_pos c29)).trans (if_pos c39)).trans (if_neg c49)).trans (if_pos c66)).trans (if_pos c81)).trans (if_pos c98)).trans (if_neg c108)), rfl, rfl⟩)
                  · refine aw_aload_n dX12_wordHere_111 rfl ?_
                    refine aw_iconst (v := 1) dX12_wordHere_112 (by decide) ?_
                    refine aw_callV1p dX12_wordHere_113 cmX12_letter cvX12_124 (mo_c0 hM) (Nat.le_of_ble_eq_true rfl) (tX12_letter hM ht ht6 ha (j := 1) rfl (by have := pW_le (B 10) t a; have := (nI_eq (a := pW (B 10) t a) (b := 3) (by omega) (by decide)).mp c98; omega)) ?_
                    refine aw_bipush (v := 105) dX12_wordHere_116 (by decide) ?_
                    refine aw_icmp_ne (tgt := 135) dX12_wordHere_118 (by decide) (fun c118 => ?_) (fun c118 => ?_)
                    · refine aw_iconst (v := -1) dX12_wordHere_135 (by decide) ?_
                      exact aw_iret dX12_wordHere_136 rfl (⟨congrArg (fun z => some (Value.int z)) ((((((((((if_pos c7).trans (if_pos c22)).trans (if_pos c29)).trans (if_pos c39)).trans (if_neg c49)).trans (if_pos c66)).trans (if_pos c81)).trans (if_pos c98)).trans (if_pos c108)).trans (if_neg c118)), rfl, rfl⟩)
                    · refine aw_aload_n dX12_wordHere_121 rfl ?_
                      refine aw_iconst (v := 2) dX12_wordHere_122 (by decide) ?_
                      refine aw_callV1p dX12_wordHere_123 cmX12_letter cvX12_124 (mo_c0 hM) (Nat.le_of_ble_eq_true rfl) (tX12_letter hM ht ht6 ha (j := 2) rfl (by have := pW_le (B 10) t a; have := (nI_eq (a := pW (B 10) t a) (b := 3) (by omega) (by decide)).mp c98; omega)) ?_
                      refine aw_bipush (v := 101) dX12_wordHere_126 (by decide) ?_
                      refine aw_icmp_ne (tgt := 135) dX12_wordHere_128 (by decide) (fun c128 => ?_) (fun c128 => ?_)
                      · refine aw_iconst (v := -1) dX12_wordHere_135 (by decide) ?_
                        exact aw_iret dX12_wordHere_136 rfl (⟨congrArg (fun z => some (Value.int z)) (((((((((((if_pos c7).trans (if_pos c22)).trans (if_pos c29)).trans (if_pos c39)).trans (if_neg c49)).trans (if_pos c66)).trans (if_pos c81)).trans (if_pos c98)).trans (if_pos c108)).trans (if_pos c118)).trans (if_neg c128)), rfl, rfl⟩)
                      · refine aw_iconst (v := 3) dX12_wordHere_131 (by decide) ?_
                        refine aw_goto (tgt := 136) dX12_wordHere_132 (by decide) ?_
                        exact aw_iret dX12_wordHere_136 rfl (⟨congrArg (fun z => some (Value.int z)) (((((((((((if_pos c7).trans (if_pos c22)).trans (if_pos c29)).trans (if_pos c39)).trans (if_neg c49)).trans (if_pos c66)).trans (if_pos c81)).trans (if_pos c98)).trans (if_pos c108)).trans (if_pos c118)).trans (if_pos c128)), rfl, rfl⟩)
              · refine aw_aload_n dX12_wordHere_84 rfl ?_
                refine aw_iconst (v := 4) dX12_wordHere_85 (by decide) ?_
                refine aw_callV1p dX12_wordHere_86 cmX12_letter cvX12_124 (mo_c0 hM) (Nat.le_of_ble_eq_true rfl) (tX12_letter hM ht ht6 ha (j := 4) rfl (by have := pW_le (B 10) t a; have := (nI_eq (a := pW (B 10) t a) (b := 5) (by omega) (by decide)).mp c66; omega)) ?_
                refine aw_bipush (v := 115) dX12_wordHere_89 (by decide) ?_
                refine aw_icmp_ne (tgt := 96) dX12_wordHere_91 (by decide) (fun c91 => ?_) (fun c91 => ?_)
                · refine aw_iload_n dX12_wordHere_96 rfl ?_
                  refine aw_iconst (v := 3) dX12_wordHere_97 (by decide) ?_
                  refine aw_icmp_ne (tgt := 135) dX12_wordHere_98 (by decide) (fun c98 => ?_) (fun c98 => ?_)
                  · refine aw_iconst (v := -1) dX12_wordHere_135 (by decide) ?_
                    exact aw_iret dX12_wordHere_136 rfl (⟨congrArg (fun z => some (Value.int z)) (((((((((if_pos c7).trans (if_pos c22)).trans (if_pos c29)).trans (if_pos c39)).trans (if_neg c49)).trans (if_pos c66)).trans (if_neg c81)).trans (if_neg c91)).trans (if_neg c98)), rfl, rfl⟩)
                  · refine aw_aload_n dX12_wordHere_101 rfl ?_
                    refine aw_iconst (v := 0) dX12_wordHere_102 (by decide) ?_
                    refine aw_callV1p dX12_wordHere_103 cmX12_letter cvX12_124 (mo_c0 hM) (Nat.le_of_ble_eq_true rfl) (tX12_letter hM ht ht6 ha (j := 0) rfl (by have := pW_le (B 10) t a; have := (nI_eq (a := pW (B 10) t a) (b := 3) (by omega) (by decide)).mp c98; omega)) ?_
                    refine aw_bipush (v := 108) dX12_wordHere_106 (by decide) ?_
                    refine aw_icmp_ne (tgt := 135) dX12_wordHere_108 (by decide) (fun c108 => ?_) (fun c108 => ?_)
                    · refine aw_iconst (v := -1) dX12_wordHere_135 (by decide) ?_
                      exact aw_iret dX12_wordHere_136 rfl (⟨congrArg (fun z => some (Value.int z)) ((((((((((if_pos c7).trans (if_pos c22)).trans (if_pos c29)).trans (if_pos c39)).trans (if_neg c49)).trans (if_pos c66)).trans (if_neg c81)).trans (if_neg c91)).trans (if_pos c98)).trans (if_neg c108)), rfl, rfl⟩)
                    · refine aw_aload_n dX12_wordHere_111 rfl ?_
                      refine aw_iconst (v := 1) dX12_wordHere_112 (by decide) ?_
                      refine aw_callV1p dX12_wordHere_113 cmX12_letter cvX12_124 (mo_c0 hM) (Nat.le_of_ble_eq_true rfl) (tX12_letter hM ht ht6 ha (j := 1) rfl (by have := pW_le (B 10) t a; have := (nI_eq (a := pW (B 10) t a) (b := 3) (by omega) (by decide)).mp c98; omega)) ?_
                      refine aw_bipush (v := 105) dX12_wordHere_116 (by decide) ?_
                      refine aw_icmp_ne (tgt := 135) dX12_wordHere_118 (by decide) (fun c118 => ?_) (fun c118 => ?_)
                      · refine aw_iconst (v := -1) dX12_wordHere_135 (by decide) ?_
                        exact aw_iret dX12_wordHere_136 rfl (⟨congrArg (fun z => some (Value.int z)) (((((((((((if_pos c7).trans (if_pos c22)).trans (if_pos c29)).trans (if_pos c39)).trans (if_neg c49)).trans (if_pos c66)).trans (if_neg c81)).trans (if_neg c91)).trans (if_pos c98)).trans (if_pos c108)).trans (if_neg c118)), rfl, rfl⟩)
                      · refine aw_aload_n dX12_wordHere_121 rfl ?_
                        refine aw_iconst (v := 2) dX12_wordHere_122 (by decide) ?_
                        refine aw_callV1p dX12_wordHere_123 cmX12_letter cvX12_124 (mo_c0 hM) (Nat.le_of_ble_eq_true rfl) (tX12_letter hM ht ht6 ha (j := 2) rfl (by have := pW_le (B 10) t a; have := (nI_eq (a := pW (B 10) t a) (b := 3) (by omega) (by decide)).mp c98; omega)) ?_
                        refine aw_bipush (v := 101) dX12_wordHere_126 (by decide) ?_
                        refine aw_icmp_ne (tgt := 135) dX12_wordHere_128 (by decide) (fun c128 => ?_) (fun c128 => ?_)
                        · refine aw_iconst (v := -1) dX12_wordHere_135 (by decide) ?_
                          exact aw_iret dX12_wordHere_136 rfl (⟨congrArg (fun z => some (Value.int z)) ((((((((((((if_pos c7).trans (if_pos c22)).trans (if_pos c29)).trans (if_pos c39)).trans (if_neg c49)).trans (if_pos c66)).trans (if_neg c81)).trans (if_neg c91)).trans (if_pos c98)).trans (if_pos c108)).trans (if_pos c118)).trans (if_neg c128)), rfl, rfl⟩)
                        · refine aw_iconst (v := 3) dX12_wordHere_131 (by decide) ?_
                          refine aw_goto (tgt := 136) dX12_wordHere_132 (by decide) ?_
                          exact aw_iret dX12_wordHere_136 rfl (⟨congrArg (fun z => some (Value.int z)) ((((((((((((if_pos c7).trans (if_pos c22)).trans (if_pos c29)).trans (if_pos c39)).trans (if_neg c49)).trans (if_pos c66)).trans (if_neg c81)).trans (if_neg c91)).trans (if_pos c98)).trans (if_pos c108)).trans (if_pos c118)).trans (if_pos c128)), rfl, rfl⟩)
                · refine aw_iconst (v := 2) dX12_wordHere_94 (by decide) ?_
                  exact aw_iret dX12_wordHere_95 rfl (⟨congrArg (fun z => some (Value.int z)) ((((((((if_pos c7).trans (if_pos c22)).trans (if_pos c29)).trans (if_pos c39)).trans (if_neg c49)).trans (if_pos c66)).trans (if_neg c81)).trans (if_pos c91)), rfl, rfl⟩)
          · refine aw_aload_n dX12_wordHere_52 rfl ?_
            refine aw_iconst (v := 2) dX12_wordHere_53 (by decide) ?_
            refine aw_callV1p dX12_wordHere_54 cmX12_letter cvX12_124 (mo_c0 hM) (Nat.le_of_ble_eq_true rfl) (tX12_letter hM ht ht6 ha (j := 2) rfl (by have := pW_le (B 10) t a; have := (nI_eq (a := pW (B 10) t a) (b := 3) (by omega) (by decide)).mp c29; omega)) ?_
            refine aw_bipush (v := 101) dX12_wordHere_57 (by decide) ?_
            refine aw_icmp_ne (tgt := 64) dX12_wordHere_59 (by decide) (fun c59 => ?_) (fun c59 => ?_)
            · refine aw_iload_n dX12_wordHere_64 rfl ?_
              refine aw_iconst (v := 5) dX12_wordHere_65 (by decide) ?_
              refine aw_icmp_ne (tgt := 96) dX12_wordHere_66 (by decide) (fun c66 => ?_) (fun c66 => ?_)
              · refine aw_iload_n dX12_wordHere_96 rfl ?_
                refine aw_iconst (v := 3) dX12_wordHere_97 (by decide) ?_
                refine aw_icmp_ne (tgt := 135) dX12_wordHere_98 (by decide) (fun c98 => ?_) (fun c98 => ?_)
                · refine aw_iconst (v := -1) dX12_wordHere_135 (by decide) ?_
                  exact aw_iret dX12_wordHere_136 rfl (⟨congrArg (fun z => some (Value.int z)) ((((((((if_pos c7).trans (if_pos c22)).trans (if_pos c29)).trans (if_pos c39)).trans (if_pos c49)).trans (if_neg c59)).trans (if_neg c66)).trans (if_neg c98)), rfl, rfl⟩)
                · refine aw_aload_n dX12_wordHere_101 rfl ?_
                  refine aw_iconst (v := 0) dX12_wordHere_102 (by decide) ?_
                  refine aw_callV1p dX12_wordHere_103 cmX12_letter cvX12_124 (mo_c0 hM) (Nat.le_of_ble_eq_true rfl) (tX12_letter hM ht ht6 ha (j := 0) rfl (by have := pW_le (B 10) t a; have := (nI_eq (a := pW (B 10) t a) (b := 3) (by omega) (by decide)).mp c98; omega)) ?_
                  refine aw_bipush (v := 108) dX12_wordHere_106 (by decide) ?_
                  refine aw_icmp_ne (tgt := 135) dX12_wordHere_108 (by decide) (fun c108 => ?_) (fun c108 => ?_)
                  · refine aw_iconst (v := -1) dX12_wordHere_135 (by decide) ?_
                    exact aw_iret dX12_wordHere_136 rfl (⟨congrArg (fun z => some (Value.int z)) (((((((((if_pos c7).trans (if_pos c22)).trans (if_pos c29)).trans (if_pos c39)).trans (if_pos c49)).trans (if_neg c59)).trans (if_neg c66)).trans (if_pos c98)).trans (if_neg c108)), rfl, rfl⟩)
                  · refine aw_aload_n dX12_wordHere_111 rfl ?_
                    refine aw_iconst (v := 1) dX12_wordHere_112 (by decide) ?_
                    refine aw_callV1p dX12_wordHere_113 cmX12_letter cvX12_124 (mo_c0 hM) (Nat.le_of_ble_eq_true rfl) (tX12_letter hM ht ht6 ha (j := 1) rfl (by have := pW_le (B 10) t a; have := (nI_eq (a := pW (B 10) t a) (b := 3) (by omega) (by decide)).mp c98; omega)) ?_
                    refine aw_bipush (v := 105) dX12_wordHere_116 (by decide) ?_
                    refine aw_icmp_ne (tgt := 135) dX12_wordHere_118 (by decide) (fun c118 => ?_) (fun c118 => ?_)
                    · refine aw_iconst (v := -1) dX12_wordHere_135 (by decide) ?_
                      exact aw_iret dX12_wordHere_136 rfl (⟨congrArg (fun z => some (Value.int z)) ((((((((((if_pos c7).trans (if_pos c22)).trans (if_pos c29)).trans (if_pos c39)).trans (if_pos c49)).trans (if_neg c59)).trans (if_neg c66)).trans (if_pos c98)).trans (if_pos c108)).trans (if_neg c118)), rfl, rfl⟩)
                    · refine aw_aload_n dX12_wordHere_121 rfl ?_
                      refine aw_iconst (v := 2) dX12_wordHere_122 (by decide) ?_
                      refine aw_callV1p dX12_wordHere_123 cmX12_letter cvX12_124 (mo_c0 hM) (Nat.le_of_ble_eq_true rfl) (tX12_letter hM ht ht6 ha (j := 2) rfl (by have := pW_le (B 10) t a; have := (nI_eq (a := pW (B 10) t a) (b := 3) (by omega) (by decide)).mp c98; omega)) ?_
                      refine aw_bipush (v := 101) dX12_wordHere_126 (by decide) ?_
                      refine aw_icmp_ne (tgt := 135) dX12_wordHere_128 (by decide) (fun c128 => ?_) (fun c128 => ?_)
                      · refine aw_iconst (v := -1) dX12_wordHere_135 (by decide) ?_
                        exact aw_iret dX12_wordHere_136 rfl (⟨congrArg (fun z => some (Value.int z)) (((((((((((if_pos c7).trans (if_pos c22)).trans (if_pos c29)).trans (if_pos c39)).trans (if_pos c49)).trans (if_neg c59)).trans (if_neg c66)).trans (if_pos c98)).trans (if_pos c108)).trans (if_pos c118)).trans (if_neg c128)), rfl, rfl⟩)
                      · refine aw_iconst (v := 3) dX12_wordHere_131 (by decide) ?_
                        refine aw_goto (tgt := 136) dX12_wordHere_132 (by decide) ?_
                        exact aw_iret dX12_wordHere_136 rfl (⟨congrArg (fun z => some (Value.int z)) (((((((((((if_pos c7).trans (if_pos c22)).trans (if_pos c29)).trans (if_pos c39)).trans (if_pos c49)).trans (if_neg c59)).trans (if_neg c66)).trans (if_pos c98)).trans (if_pos c108)).trans (if_pos c118)).trans (if_pos c128)), rfl, rfl⟩)
              · refine aw_aload_n dX12_wordHere_69 rfl ?_
                refine aw_bipush (v := 104) dX12_wordHere_70 (by decide) ?_
                refine aw_bipush (v := 97) dX12_wordHere_72 (by decide) ?_
                refine aw_bipush (v := 110) dX12_wordHere_74 (by decide) ?_
                refine aw_bipush (v := 100) dX12_wordHere_76 (by decide) ?_
                refine aw_callV4p dX12_wordHere_78 cmX12_spells cvX12_131 (mo_c0 hM) (Nat.le_of_ble_eq_true rfl) (tX12_spells hM ht ht6 ha (by have := pW_le (B 10) t a; have := (nI_eq (a := pW (B 10) t a) (b := 5) (by omega) (by decide)).mp c66; omega)) ?_
                refine aw_if_eq (tgt := 96) dX12_wordHere_81 (by decide) (fun c81 => ?_) (fun c81 => ?_)
                · refine aw_iload_n dX12_wordHere_96 rfl ?_
                  refine aw_iconst (v := 3) dX12_wordHere_97 (by decide) ?_
                  refine aw_icmp_ne (tgt := 135) dX12_wordHere_98 (by decide) (fun c98 => ?_) (fun c98 => ?_)
                  · refine aw_iconst (v := -1) dX12_wordHere_135 (by decide) ?_
                    exact aw_iret dX12_wordHere_136 rfl (⟨congrArg (fun z => some (Value.int z)) (((((((((if_pos c7).trans (if_pos c22)).trans (if_pos c29)).trans (if_pos c39)).trans (if_pos c49)).trans (if_neg c59)).trans (if_pos c66)).trans (if_pos c81)).trans (if_neg c98)), rfl, rfl⟩)
                  · refine aw_aload_n dX12_wordHere_101 rfl ?_
                    refine aw_iconst (v := 0) dX12_wordHere_102 (by decide) ?_
                    refine aw_callV1p dX12_wordHere_103 cmX12_letter cvX12_124 (mo_c0 hM) (Nat.le_of_ble_eq_true rfl) (tX12_letter hM ht ht6 ha (j := 0) rfl (by have := pW_le (B 10) t a; have := (nI_eq (a := pW (B 10) t a) (b := 3) (by omega) (by decide)).mp c98; omega)) ?_
                    refine aw_bipush (v := 108) dX12_wordHere_106 (by decide) ?_
                    refine aw_icmp_ne (tgt := 135) dX12_wordHere_108 (by decide) (fun c108 => ?_) (fun c108 => ?_)
                    · refine aw_iconst (v := -1) dX12_wordHere_135 (by decide) ?_
                      exact aw_iret dX12_wordHere_136 rfl (⟨congrArg (fun z => some (Value.int z)) ((((((((((if_pos c7).trans (if_pos c22)).trans (if_pos c29)).trans (if_pos c39)).trans (if_pos c49)).trans (if_neg c59)).trans (if_pos c66)).trans (if_pos c81)).trans (if_pos c98)).trans (if_neg c108)), rfl, rfl⟩)
                    · refine aw_aload_n dX12_wordHere_111 rfl ?_
                      refine aw_iconst (v := 1) dX12_wordHere_112 (by decide) ?_
                      refine aw_callV1p dX12_wordHere_113 cmX12_letter cvX12_124 (mo_c0 hM) (Nat.le_of_ble_eq_true rfl) (tX12_letter hM ht ht6 ha (j := 1) rfl (by have := pW_le (B 10) t a; have := (nI_eq (a := pW (B 10) t a) (b := 3) (by omega) (by decide)).mp c98; omega)) ?_
                      refine aw_bipush (v := 105) dX12_wordHere_116 (by decide) ?_
                      refine aw_icmp_ne (tgt := 135) dX12_wordHere_118 (by decide) (fun c118 => ?_) (fun c118 => ?_)
                      · refine aw_iconst (v := -1) dX12_wordHere_135 (by decide) ?_
                        exact aw_iret dX12_wordHere_136 rfl (⟨congrArg (fun z => some (Value.int z)) (((((((((((if_pos c7).trans (if_pos c22)).trans (if_pos c29)).trans (if_pos c39)).trans (if_pos c49)).trans (if_neg c59)).trans (if_pos c66)).trans (if_pos c81)).trans (if_pos c98)).trans (if_pos c108)).trans (if_neg c118)), rfl, rfl⟩)
                      · refine aw_aload_n dX12_wordHere_121 rfl ?_
                        refine aw_iconst (v := 2) dX12_wordHere_122 (by decide) ?_
                        refine aw_callV1p dX12_wordHere_123 cmX12_letter cvX12_124 (mo_c0 hM) (Nat.le_of_ble_eq_true rfl) (tX12_letter hM ht ht6 ha (j := 2) rfl (by have := pW_le (B 10) t a; have := (nI_eq (a := pW (B 10) t a) (b := 3) (by omega) (by decide)).mp c98; omega)) ?_
                        refine aw_bipush (v := 101) dX12_wordHere_126 (by decide) ?_
                        refine aw_icmp_ne (tgt := 135) dX12_wordHere_128 (by decide) (fun c128 => ?_) (fun c128 => ?_)
                        · refine aw_iconst (v := -1) dX12_wordHere_135 (by decide) ?_
                          exact aw_iret dX12_wordHere_136 rfl (⟨congrArg (fun z => some (Value.int z)) ((((((((((((if_pos c7).trans (if_pos c22)).trans (if_pos c29)).trans (if_pos c39)).trans (if_pos c49)).trans (if_neg c59)).trans (if_pos c66)).trans (if_pos c81)).trans (if_pos c98)).trans (if_pos c108)).trans (if_pos c118)).trans (if_neg c128)), rfl, rfl⟩)
                        · refine aw_iconst (v := 3) dX12_wordHere_131 (by decide) ?_
                          refine aw_goto (tgt := 136) dX12_wordHere_132 (by decide) ?_
                          exact aw_iret dX12_wordHere_136 rfl (⟨congrArg (fun z => some (Value.int z)) ((((((((((((if_pos c7).trans (if_pos c22)).trans (if_pos c29)).trans (if_pos c39)).trans (if_pos c49)).trans (if_neg c59)).trans (if_pos c66)).trans (if_pos c81)).trans (if_pos c98)).trans (if_pos c108)).trans (if_pos c118)).trans (if_pos c128)), rfl, rfl⟩)
                · refine aw_aload_n dX12_wordHere_84 rfl ?_
                  refine aw_iconst (v := 4) dX12_wordHere_85 (by decide) ?_
                  refine aw_callV1p dX12_wordHere_86 cmX12_letter cvX12_124 (mo_c0 hM) (Nat.le_of_ble_eq_true rfl) (tX12_letter hM ht ht6 ha (j := 4) rfl (by have := pW_le (B 10) t a; have := (nI_eq (a := pW (B 10) t a) (b := 5) (by omega) (by decide)).mp c66; omega)) ?_
                  refine aw_bipush (v := 115) dX12_wordHere_89 (by decide) ?_
                  refine aw_icmp_ne (tgt := 96) dX12_wordHere_91 (by decide) (fun c91 => ?_) (fun c91 => ?_)
                  · refine aw_iload_n dX12_wordHere_96 rfl ?_
                    refine aw_iconst (v := 3) dX12_wordHere_97 (by decide) ?_
                    refine aw_icmp_ne (tgt := 135) dX12_wordHere_98 (by decide) (fun c98 => ?_) (fun c98 => ?_)
                    · refine aw_iconst (v := -1) dX12_wordHere_135 (by decide) ?_
                      exact aw_iret dX12_wordHere_136 rfl (⟨congrArg (fun z => some (Value.int z)) ((((((((((if_pos c7).trans (if_pos c22)).trans (if_pos c29)).trans (if_pos c39)).trans (if_pos c49)).trans (if_neg c59)).trans (if_pos c66)).trans (if_neg c81)).trans (if_neg c91)).trans (if_neg c98)), rfl, rfl⟩)
                    · refine aw_aload_n dX12_wordHere_101 rfl ?_
                      refine aw_iconst (v := 0) dX12_wordHere_102 (by decide) ?_
                      refine aw_callV1p dX12_wordHere_103 cmX12_letter cvX12_124 (mo_c0 hM) (Nat.le_of_ble_eq_true rfl) (tX12_letter hM ht ht6 ha (j := 0) rfl (by have := pW_le (B 10) t a; have := (nI_eq (a := pW (B 10) t a) (b := 3) (by omega) (by decide)).mp c98; omega)) ?_
                      refine aw_bipush (v := 108) dX12_wordHere_106 (by decide) ?_
                      refine aw_icmp_ne (tgt := 135) dX12_wordHere_108 (by decide) (fun c108 => ?_) (fun c108 => ?_)
                      · refine aw_iconst (v := -1) dX12_wordHere_135 (by decide) ?_
                        exact aw_iret dX12_wordHere_136 rfl (⟨congrArg (fun z => some (Value.int z)) (((((((((((if_pos c7).trans (if_pos c22)).trans (if_pos c29)).trans (if_pos c39)).trans (if_pos c49)).trans (if_neg c59)).trans (if_pos c66)).trans (if_neg c81)).trans (if_neg c91)).trans (if_pos c98)).trans (if_neg c108)), rfl, rfl⟩)
                      · refine aw_aload_n dX12_wordHere_111 rfl ?_
                        refine aw_iconst (v := 1) dX12_wordHere_112 (by decide) ?_
                        refine aw_callV1p dX12_wordHere_113 cmX12_letter cvX12_124 (mo_c0 hM) (Nat.le_of_ble_eq_true rfl) (tX12_letter hM ht ht6 ha (j := 1) rfl (by have := pW_le (B 10) t a; have := (nI_eq (a := pW (B 10) t a) (b := 3) (by omega) (by decide)).mp c98; omega)) ?_
                        refine aw_bipush (v := 105) dX12_wordHere_116 (by decide) ?_
                        refine aw_icmp_ne (tgt := 135) dX12_wordHere_118 (by decide) (fun c118 => ?_) (fun c118 => ?_)
                        · refine aw_iconst (v := -1) dX12_wordHere_135 (by decide) ?_
                          exact aw_iret dX12_wordHere_136 rfl (⟨congrArg (fun z => some (Value.int z)) ((((((((((((if_pos c7).trans (if_pos c22)).trans (if_pos c29)).trans (if_pos c39)).trans (if_pos c49)).trans (if_neg c59)).trans (if_pos c66)).trans (if_neg c81)).trans (if_neg c91)).trans (if_pos c98)).trans (if_pos c108)).trans (if_neg c118)), rfl, rfl⟩)
                        · refine aw_aload_n dX12_wordHere_121 rfl ?_
                          refine aw_iconst (v := 2) dX12_wordHere_122 (by decide) ?_
                          refine aw_callV1p dX12_wordHere_123 cmX12_letter cvX12_124 (mo_c0 hM) (Nat.le_of_ble_eq_true rfl) (tX12_letter hM ht ht6 ha (j := 2) rfl (by have := pW_le (B 10) t a; have := (nI_eq (a := pW (B 10) t a) (b := 3) (by omega) (by decide)).mp c98; omega)) ?_
                          refine aw_bipush (v := 101) dX12_wordHere_126 (by decide) ?_
                          refine aw_icmp_ne (tgt := 135) dX12_wordHere_128 (by decide) (fun c128 => ?_) (fun c128 => ?_)
                          · refine aw_iconst (v := -1) dX12_wordHere_135 (by decide) ?_
                            exact aw_iret dX12_wordHere_136 rfl (⟨congrArg (fun z => some (Value.int z)) (((((((((((((if_pos c7).trans (if_pos c22)).trans (if_pos c29)).trans (if_pos c39)).trans (if_pos c49)).trans (if_neg c59)).trans (if_pos c66)).trans (if_neg c81)).trans (if_neg c91)).trans (if_pos c98)).trans (if_pos c108)).trans (if_pos c118)).trans (if_neg c128)), rfl, rfl⟩)
                          · refine aw_iconst (v := 3) dX12_wordHere_131 (by decide) ?_
                            refine aw_goto (tgt := 136) dX12_wordHere_132 (by decide) ?_
                            exact aw_iret dX12_wordHere_136 rfl (⟨congrArg (fun z => some (Value.int z)) (((((((((((((if_pos c7).trans (if_pos c22)).trans (if_pos c29)).trans (if_pos c39)).trans (if_pos c49)).trans (if_neg c59)).trans (if_pos c66)).trans (if_neg c81)).trans (if_neg c91)).trans (if_pos c98)).trans (if_pos c108)).trans (if_pos c118)).trans (if_pos c128)), rfl, rfl⟩)
                  · refine aw_iconst (v := 2) dX12_wordHere_94 (by decide) ?_
                    exact aw_iret dX12_wordHere_95 rfl (⟨congrArg (fun z => some (Value.int z)) (((((((((if_pos c7).trans (if_pos c22)).trans (if_pos c29)).trans (if_pos c39)).trans (if_pos c49)).trans (if_neg c59)).trans (if_pos c66)).trans (if_neg c81)).trans (if_pos c91)), rfl, rfl⟩)
            · refine aw_iconst (v := 1) dX12_wordHere_62 (by decide) ?_
              exact aw_iret dX12_wordHere_63 rfl (⟨congrArg (fun z => some (Value.int z)) ((((((if_pos c7).trans (if_pos c22)).trans (if_pos c29)).trans (if_pos c39)).trans (if_pos c49)).trans (if_pos c59)), rfl, rfl⟩)
    · refine aw_iconst (v := 0) dX12_wordHere_25 (by decide) ?_
      exact aw_iret dX12_wordHere_26 rfl (⟨congrArg (fun z => some (Value.int z)) ((if_pos c7).trans (if_neg c22)), rfl, rfl⟩)
set_option maxHeartbeats 1000000 in
set_option maxRecDepth 100000 in
theorem tX12_number {l : Launch} {E : aw_E} {d n m : Nat} {h0 : ah} {B : sT} {L0 : Nat → Int64} {a c t : Nat} {li v : Int32} {o : Nat → Int32} (hM : is_mo h0 m (mP B a c li v o) L0) (ht : B 30 4 = nI t) (ht6 : t ≤ 150) (ha : a ≤ 200) {lo hi : Int32} : am l E mX12_number (d + 2) 0 0 [.ref m, .int lo, .int hi] n h0 (mo_post n h0 m ((((pNm (B 10) t a v lo hi).1, mP B (pNm (B 10) t a v lo hi).2.1 c li (pNm (B 10) t a v lo hi).2.2 o, L0) : Int32 × sM))) := by
  refine am_of (by decide +kernel) (Nat.le_of_ble_eq_true rfl) ?_
  have hF : ah_off h0 h0 m 21 := ah_off.rf
  refine aw_aload_n dX12_number_0 rfl ?_
  refine aw_callV0e dX12_number_1 cmX12_skip cvX12_135 (mo_c0 hM) (Nat.le_of_ble_eq_true rfl) (tX12_skip hM ht ht6 ha) (fun r n' h' hq => ?_)
  obtain ⟨rfl, rfl, hM, ho⟩ := hq
  have hF := hF.trans ho
  obtain ⟨s, hs⟩ : ∃ s, s = pS (B 10) t a := ⟨_, rfl⟩
  have hM : is_mo h' m (mP B s c li v o) L0 := by rw [hs]; exact hM
  have hs2 := pS_le (B 10) t a
  rw [← hs] at hs2
  have hs3 : s ≤ 200 := by omega
  refine aw_iconst (v := 0) dX12_number_4 (by decide) ?_
  refine aw_istore_n dX12_number_5 (by decide) ?_
  refine aw_iconst (v := 0) dX12_number_6 (by decide) ?_
  refine aw_istore dX12_number_7 (by decide) ?_
  have key : ∀ (k : Nat) (j : Nat) (w : Int32), j + k = t - s → pDg (B 10) s (t - s) 0 0 = pDg (B 10) s k j w → aw l E mX12_number (aw_Z E (mo_post n h0 m ((((pNm (B 10) t a v lo hi).1, mP B (pNm (B 10) t a v lo hi).2.1 c li (pNm (B 10) t a v lo hi).2.2 o, L0) : Int32 × sM)))) (d + 2) 0 0 9 [(0, .ref m), (1, .int lo), (2, .int hi), (3, .int (nI j)), (4, .int w)] [] n h' := by
    intro k
    induction k with
    | zero =>
      intro j w hk heq
      refine aw_aload_n dX12_number_9 rfl ?_
      refine aw_get dX12_number_10 flX12_115 (mo_c0 hM) rfl ?_
      refine aw_iload_n dX12_number_13 rfl ?_
      refine aw_iadd dX12_number_14 ?_
      refine aw_aload_n dX12_number_15 rfl ?_
      refine aw_get dX12_number_16 flX12_112 (mo_c0 hM) rfl ?_
      refine aw_icmp_ge (tgt := 77) dX12_number_19 (by decide) (fun c19 => ?_) (fun c19 => ?_)
      · have q19 : t ≤ s + j := (le_tj (a := s) (j := j) ht ht6 (by omega)).mp c19
        refine aw_iload_n dX12_number_77 rfl ?_
        refine aw_iconst (v := 1) dX12_number_78 (by decide) ?_
        refine aw_iconst (v := 2) dX12_number_79 (by decide) ?_
        refine aw_callS3p dX12_number_80 cmX12_in csX12_93 (Nat.le_of_ble_eq_true rfl) tX12_in ?_
        refine aw_if_eq (tgt := 96) dX12_number_83 (by decide) (fun c83 => ?_) (fun c83 => ?_)
        · refine aw_iconst (v := 0) dX12_number_96 (by decide) ?_
          exact aw_zret dX12_number_97 rfl rfl (mo_fin (congrArg (fun r : Int32 × Nat × Int32 => (r.1, mP B r.2.1 c li r.2.2 o, L0)) ((show pNm (B 10) t a v lo hi = pNz s v lo hi (j, w) by unfold pNm; rw [← hs]; exact congrArg (pNz s v lo hi) heq).trans (if_pos c83))) hM hF)
        · refine aw_iload dX12_number_86 rfl ?_
          refine aw_iload_n dX12_number_88 rfl ?_
          refine aw_iload_n dX12_number_89 rfl ?_
          refine aw_callS3p dX12_number_90 cmX12_in csX12_93 (Nat.le_of_ble_eq_true rfl) tX12_in ?_
          refine aw_if_ne (tgt := 98) dX12_number_93 (by decide) (fun c93 => ?_) (fun c93 => ?_)
          · refine aw_aload_n dX12_number_98 rfl ?_
            refine aw_iload dX12_number_99 rfl ?_
            refine aw_pf_mo8 dX12_number_101 fpX12_141 hM (fun h hM ho => ?_)
            have hF := hF.trans ho
            have hM := is_moP mP_v hM
            refine aw_aload_n dX12_number_104 rfl ?_
            refine aw_dup dX12_number_105 rfl ?_
            refine aw_get dX12_number_106 flX12_115 (mo_c0 hM) rfl ?_
            refine aw_iload_n dX12_number_109 rfl ?_
            refine aw_iadd dX12_number_110 ?_
            refine aw_pf_mo5 dX12_number_111 fpX12_115 hM (fun h hM ho => ?_)
            have hF := hF.trans ho
            have hM := is_moP (mP_a (show nI s + nI j = nI (s + j) from nI_add s j)) hM
            refine aw_iconst (v := 1) dX12_number_114 (by decide) ?_
            exact aw_zret dX12_number_115 rfl rfl (mo_fin (congrArg (fun r : Int32 × Nat × Int32 => (r.1, mP B r.2.1 c li r.2.2 o, L0)) ((show pNm (B 10) t a v lo hi = pNz s v lo hi (j, w) by unfold pNm; rw [← hs]; exact congrArg (pNz s v lo hi) heq).trans ((if_neg c83).trans (if_neg c93)))) hM hF)
          · refine aw_iconst (v := 0) dX12_number_96 (by decide) ?_
            exact aw_zret dX12_number_97 rfl rfl (mo_fin (congrArg (fun r : Int32 × Nat × Int32 => (r.1, mP B r.2.1 c li r.2.2 o, L0)) ((show pNm (B 10) t a v lo hi = pNz s v lo hi (j, w) by unfold pNm; rw [← hs]; exact congrArg (pNz s v lo hi) heq).trans ((if_neg c83).trans (if_pos c93)))) hM hF)
      · have q19 : ¬ t ≤ s + j := mt (le_tj (a := s) (j := j) ht ht6 (by omega)).mpr c19
        exact absurd (show t ≤ s + j by omega) q19
    | succ k ih =>
      intro j w hk heq
      refine aw_aload_n dX12_number_9 rfl ?_
      refine aw_get dX12_number_10 flX12_115 (mo_c0 hM) rfl ?_
      refine aw_iload_n dX12_number_13 rfl ?_
      refine aw_iadd dX12_number_14 ?_
      refine aw_aload_n dX12_number_15 rfl ?_
      refine aw_get dX12_number_16 flX12_112 (mo_c0 hM) rfl ?_
      refine aw_icmp_ge (tgt := 77) dX12_number_19 (by decide) (fun c19 => ?_) (fun c19 => ?_)
      · have q19 : t ≤ s + j := (le_tj (a := s) (j := j) ht ht6 (by omega)).mp c19
        exact absurd q19 (by omega)
      · have q19 : ¬ t ≤ s + j := mt (le_tj (a := s) (j := j) ht ht6 (by omega)).mpr c19
        refine aw_aload_n dX12_number_22 rfl ?_
        refine aw_get dX12_number_23 flX12_40 (mo_c0 hM) rfl ?_
        refine aw_aload_n dX12_number_26 rfl ?_
        refine aw_get dX12_number_27 flX12_115 (mo_c0 hM) rfl ?_
        refine aw_iload_n dX12_number_30 rfl ?_
        refine aw_iadd dX12_number_31 ?_
        refine aw_ialdN dX12_number_32 (mo_c11 hM) (show nI s + nI j = nI (s + j) from nI_add s j) (by omega) (by decide) ?_
        refine aw_callS1p dX12_number_33 cmX12_isFigure csX12_138 (Nat.le_of_ble_eq_true rfl) tX12_isFigure ?_
        refine aw_if_eq (tgt := 77) dX12_number_36 (by decide) (fun c36 => ?_) (fun c36 => ?_)
        · refine aw_iload_n dX12_number_77 rfl ?_
          refine aw_iconst (v := 1) dX12_number_78 (by decide) ?_
          refine aw_iconst (v := 2) dX12_number_79 (by decide) ?_
          refine aw_callS3p dX12_number_80 cmX12_in csX12_93 (Nat.le_of_ble_eq_true rfl) tX12_in ?_
          refine aw_if_eq (tgt := 96) dX12_number_83 (by decide) (fun c83 => ?_) (fun c83 => ?_)
          · refine aw_iconst (v := 0) dX12_number_96 (by decide) ?_
            exact aw_zret dX12_number_97 rfl rfl (mo_fin (congrArg (fun r : Int32 × Nat × Int32 => (r.1, mP B r.2.1 c li r.2.2 o, L0)) ((show pNm (B 10) t a v lo hi = pNz s v lo hi (j, w) by unfold pNm; rw [← hs]; exact congrArg (pNz s v lo hi) (heq.trans (if_pos c36))).trans (if_pos c83))) hM hF)
          · refine aw_iload dX12_number_86 rfl ?_
            refine aw_iload_n dX12_number_88 rfl ?_
            refine aw_iload_n dX12_number_89 rfl ?_
            refine aw_callS3p dX12_number_90 cmX12_in csX12_93 (Nat.le_of_ble_eq_true rfl) tX12_in ?_
            refine aw_if_ne (tgt := 98) dX12_number_93 (by decide) (fun c93 => ?_) (fun c93 => ?_)
            · refine aw_aload_n dX12_number_98 rfl ?_
              refine aw_iload dX12_number_99 rfl ?_
              refine aw_pf_mo8 dX12_number_101 fpX12_141 hM (fun h hM ho => ?_)
              have hF := hF.trans ho
              have hM := is_moP mP_v hM
              refine aw_aload_n dX12_number_104 rfl ?_
              refine aw_dup dX12_number_105 rfl ?_
              refine aw_get dX12_number_106 flX12_115 (mo_c0 hM) rfl ?_
              refine aw_iload_n dX12_number_109 rfl ?_
              refine aw_iadd dX12_number_110 ?_
              refine aw_pf_mo5 dX12_number_111 fpX12_115 hM (fun h hM ho => ?_)
              have hF := hF.trans ho
              have hM := is_moP (mP_a (show nI s + nI j = nI (s + j) from nI_add s j)) hM
              refine aw_iconst (v := 1) dX12_number_114 (by decide) ?_
              exact aw_zret dX12_number_115 rfl rfl (mo_fin (congrArg (fun r : Int32 × Nat × Int32 => (r.1, mP B r.2.1 c li r.2.2 o, L0)) ((show pNm (B 10) t a v lo hi = pNz s v lo hi (j, w) by unfold pNm; rw [← hs]; exact congrArg (pNz s v lo hi) (heq.trans (if_pos c36))).trans ((if_neg c83).trans (if_neg c93)))) hM hF)
            · refine aw_iconst (v := 0) dX12_number_96 (by decide) ?_
              exact aw_zret dX12_number_97 rfl rfl (mo_fin (congrArg (fun r : Int32 × Nat × Int32 => (r.1, mP B r.2.1 c li r.2.2 o, L0)) ((show pNm (B 10) t a v lo hi = pNz s v lo hi (j, w) by unfold pNm; rw [← hs]; exact congrArg (pNz s v lo hi) (heq.trans (if_pos c36))).trans ((if_neg c83).trans (if_pos c93)))) hM hF)
        · refine aw_iload_n dX12_number_39 rfl ?_
          refine aw_iconst (v := 2) dX12_number_40 (by decide) ?_
          refine aw_icmp_ge (tgt := 67) dX12_number_41 (by decide) (fun c41 => ?_) (fun c41 => ?_)
          · refine aw_iload dX12_number_67 rfl ?_
            refine aw_istore dX12_number_69 (by decide) ?_
            refine aw_inc (w := 1) dX12_number_71 rfl (by decide) (by decide) ?_
            refine aw_goto (tgt := 9) dX12_number_74 (by decide) ?_
            exact aw_loc [0, 1, 2, 3, 4] (ls2 := [(0, .ref m), (1, .int lo), (2, .int hi), (3, .int (nI (j + 1))), (4, .int w)]) (by rw [nI_succ]; rfl) (ih (j + 1) w (by omega) (heq.trans ((if_neg c36).trans (if_pos c41))))
          · refine aw_bipush (v := 10) dX12_number_44 (by decide) ?_
            refine aw_iload dX12_number_46 rfl ?_
            refine aw_imul dX12_number_48 ?_
            refine aw_aload_n dX12_number_49 rfl ?_
            refine aw_get dX12_number_50 flX12_40 (mo_c0 hM) rfl ?_
            refine aw_aload_n dX12_number_53 rfl ?_
            refine aw_get dX12_number_54 flX12_115 (mo_c0 hM) rfl ?_
            refine aw_iload_n dX12_number_57 rfl ?_
            refine aw_iadd dX12_number_58 ?_
            refine aw_ialdN dX12_number_59 (mo_c11 hM) (show nI s + nI j = nI (s + j) from nI_add s j) (by omega) (by decide) ?_
            refine aw_iadd dX12_number_60 ?_
            refine aw_bipush (v := 48) dX12_number_61 (by decide) ?_
            refine aw_isub dX12_number_63 ?_
            refine aw_goto (tgt := 69) dX12_number_64 (by decide) ?_
            refine aw_istore dX12_number_69 (by decide) ?_
            refine aw_inc (w := 1) dX12_number_71 rfl (by decide) (by decide) ?_
            refine aw_goto (tgt := 9) dX12_number_74 (by decide) ?_
            exact aw_loc [0, 1, 2, 3, 4] (ls2 := [(0, .ref m), (1, .int lo), (2, .int hi), (3, .int (nI (j + 1))), (4, .int (10 * w + B 10 (s + j) - 48))]) (by rw [nI_succ]; rfl) (ih (j + 1) (10 * w + B 10 (s + j) - 48) (by omega) (heq.trans ((if_neg c36).trans (if_neg c41))))
  exact aw_loc [0, 1, 2, 3, 4] (ls2 := [(0, .ref m), (1, .int lo), (2, .int hi), (3, .int (nI 0)), (4, .int 0)]) rfl (key (t - s) 0 0 (by omega) rfl)
set_option maxHeartbeats 1000000 in
set_option maxRecDepth 100000 in
theorem tX12_ends {l : Launch} {E : aw_E} {d n m : Nat} {h0 : ah} {B : sT} {L0 : Nat → Int64} {a c t : Nat} {li v : Int32} {o : Nat → Int32} (hM : is_mo h0 m (mP B a c li v o) L0) (ht : B 30 4 = nI t) (ht6 : t ≤ 150) (ha : a ≤ 200) : am l E mX12_ends (d + 2) 0 0 [.ref m] n h0 (mo_post n h0 m ((((pE (B 10) t a).1, mP B (pE (B 10) t a).2 c li v o, L0) : Int32 × sM))) := by
  refine am_of (by decide +kernel) (Nat.le_of_ble_eq_true rfl) ?_
  have hF : ah_off h0 h0 m 21 := ah_off.rf
  refine aw_aload_n dX12_ends_0 rfl ?_
  refine aw_callV0e dX12_ends_1 cmX12_skip cvX12_135 (mo_c0 hM) (Nat.le_of_ble_eq_true rfl) (tX12_skip hM ht ht6 ha) (fun r n' h' hq => ?_)
  obtain ⟨rfl, rfl, hM, ho⟩ := hq
  have hF := hF.trans ho
  have hs2 := pS_le (B 10) t a
  refine aw_aload_n dX12_ends_4 rfl ?_
  refine aw_callV0p dX12_ends_5 cmX12_here cvX12_118 (mo_c0 hM) (Nat.le_of_ble_eq_true rfl) (tX12_here hM ht ht6 (by omega)) ?_
  refine aw_bipush (v := 59) dX12_ends_8 (by decide) ?_
  refine aw_icmp_eq (tgt := 15) dX12_ends_10 (by decide) (fun c10 => ?_) (fun c10 => ?_)
  · refine aw_aload_n dX12_ends_15 rfl ?_
    refine aw_dup dX12_ends_16 rfl ?_
    refine aw_get dX12_ends_17 flX12_115 (mo_c0 hM) rfl ?_
    refine aw_iconst (v := 1) dX12_ends_20 (by decide) ?_
    refine aw_iadd dX12_ends_21 ?_
    refine aw_pf_mo5 dX12_ends_22 fpX12_115 hM (fun h hM ho => ?_)
    have hF := hF.trans ho
    have hM := is_moP (mP_a (show nI (pS (B 10) t a) + 1 = nI (pS (B 10) t a + 1) from nI_1 _)) hM
    refine aw_iconst (v := 1) dX12_ends_25 (by decide) ?_
    exact aw_zret dX12_ends_26 rfl rfl (mo_fin (congrArg (fun r : Int32 × Nat => (r.1, mP B r.2 c li v o, L0)) (if_pos c10)) hM hF)
  · refine aw_iconst (v := 0) dX12_ends_13 (by decide) ?_
    exact aw_zret dX12_ends_14 rfl rfl (mo_fin (congrArg (fun r : Int32 × Nat => (r.1, mP B r.2 c li v o, L0)) (if_neg c10)) hM hF)
set_option maxHeartbeats 1000000 in
set_option maxRecDepth 100000 in
theorem tX12_readsOne {l : Launch} {E : aw_E} {d n m : Nat} {h0 : ah} {B : sT} {L0 : Nat → Int64} {a c t : Nat} {li v : Int32} {o : Nat → Int32} (hM : is_mo h0 m (mP B a c li v o) L0) (ht : B 30 4 = nI t) (ht6 : t ≤ 150) (ha : a ≤ 200) (hc : c ≤ 5) : am l E mX12_readsOne (d + 3) 0 0 [.ref m] n h0 (mo_post n h0 m ((((pOne (B 10) t (a, c, li, v, o)).1, mQ B (pOne (B 10) t (a, c, li, v, o)).2, L0) : Int32 × sM))) := by
  refine am_of (by decide +kernel) (Nat.le_of_ble_eq_true rfl) ?_
  have hF : ah_off h0 h0 m 21 := ah_off.rf
  refine aw_iconst (v := 5) dX12_readsOne_0 (by decide) ?_
  refine aw_aload_n dX12_readsOne_1 rfl ?_
  refine aw_get dX12_readsOne_2 flX12_144 (mo_c0 hM) rfl ?_
  refine aw_imul dX12_readsOne_5 ?_
  rw [show (5 : Int32) * mP B a c li v o 30 6 = nI (5 * c) by rw [← pk_mul]; rfl]
  refine aw_istore_n dX12_readsOne_6 (by decide) ?_
  refine aw_iconst (v := 0) dX12_readsOne_7 (by decide) ?_
  refine aw_istore_n dX12_readsOne_8 (by decide) ?_
  have key : ∀ (k : Nat) (j a1 : Nat) (v1 : Int32) (o1 : Nat → Int32) (h : ah), j + k = 4 → a1 ≤ 200 → is_mo h m (mP B a1 c li v1 o1) L0 → ah_off h0 h m 21 → pOn (B 10) t c 4 0 a v o = pOn (B 10) t c k j a1 v1 o1 → aw l E mX12_readsOne (aw_Z E (mo_post n h0 m ((((pOne (B 10) t (a, c, li, v, o)).1, mQ B (pOne (B 10) t (a, c, li, v, o)).2, L0) : Int32 × sM)))) (d + 3) 0 0 9 [(0, .ref m), (1, .int (nI (5 * c))), (2, .int (nI j))] [] n h := by
    intro k
    induction k with
    | zero =>
      intro j a1 v1 o1 h hk ha1 hM hF heq
      refine aw_iload_n dX12_readsOne_9 rfl ?_
      refine aw_iconst (v := 4) dX12_readsOne_10 (by decide) ?_
      refine aw_icmp_ge (tgt := 72) dX12_readsOne_11 (by decide) (fun c11 => ?_) (fun c11 => ?_)
      · refine aw_aload_n dX12_readsOne_72 rfl ?_
        refine aw_get dX12_readsOne_73 flX12_43 (mo_c0 hM) rfl ?_
        refine aw_iload_n dX12_readsOne_76 rfl ?_
        refine aw_iconst (v := 4) dX12_readsOne_77 (by decide) ?_
        refine aw_iadd dX12_readsOne_78 ?_
        refine aw_iconst (v := 0) dX12_readsOne_79 (by decide) ?_
        refine aw_iN_mo11 dX12_readsOne_80 hM (show nI (5 * c) + 4 = nI (5 * c + 4) by rw [← nI_add]; rfl) (by omega) (fun h hM ho => ?_)
        have hF := hF.trans ho
        have hM : is_mo h m (mP B a1 c li v1 (upd o1 (5 * c + 4) 0)) L0 := is_moP mP_o hM
        refine aw_aload_n dX12_readsOne_81 rfl ?_
        refine aw_dup dX12_readsOne_82 rfl ?_
        refine aw_get dX12_readsOne_83 flX12_144 (mo_c0 hM) rfl ?_
        refine aw_iconst (v := 1) dX12_readsOne_86 (by decide) ?_
        refine aw_iadd dX12_readsOne_87 ?_
        refine aw_pf_mo6 dX12_readsOne_88 fpX12_144 hM (fun h hM ho => ?_)
        have hF := hF.trans ho
        have hM := is_moP (mP_c (show nI c + 1 = nI (c + 1) from nI_1 c)) hM
        refine aw_aload_n dX12_readsOne_91 rfl ?_
        refine aw_callV0e dX12_readsOne_92 cmX12_ends cvX12_151 (mo_c0 hM) (Nat.le_of_ble_eq_true rfl) (tX12_ends hM ht ht6 ha1) (fun r n' h' hq => ?_)
        obtain ⟨rfl, rfl, hM, ho⟩ := hq
        have hF := hF.trans ho
        exact aw_zret dX12_readsOne_95 rfl (nar01 (pE_01 _ _ _)) (mo_fin (congrArg (fun r => ((pOneE (B 10) t c li r).1, mQ B (pOneE (B 10) t c li r).2, L0)) heq) hM hF)
      · exact absurd ((nI_leI (a := 4) (b := j) (by omega) (by omega)).mpr (by omega)) c11
    | succ k ih =>
      intro j a1 v1 o1 h hk ha1 hM hF heq
      refine aw_iload_n dX12_readsOne_9 rfl ?_
      refine aw_iconst (v := 4) dX12_readsOne_10 (by decide) ?_
      refine aw_icmp_ge (tgt := 72) dX12_readsOne_11 (by decide) (fun c11 => ?_) (fun c11 => ?_)
      · exact absurd ((nI_leI (a := 4) (b := j) (by omega) (by omega)).mp c11) (by omega)
      · refine aw_aload_n dX12_readsOne_14 rfl ?_
        refine aw_iconst (v := 0) dX12_readsOne_15 (by decide) ?_
        refine aw_iload_n dX12_readsOne_16 rfl ?_
        refine aw_if_ne (tgt := 24) dX12_readsOne_17 (by decide) (fun c17 => ?_) (fun c17 => ?_)
        · refine aw_iload_n dX12_readsOne_24 rfl ?_
          refine aw_iconst (v := 1) dX12_readsOne_25 (by decide) ?_
          refine aw_icmp_ne (tgt := 34) dX12_readsOne_26 (by decide) (fun c26 => ?_) (fun c26 => ?_)
          · refine aw_iload_n dX12_readsOne_34 rfl ?_
            refine aw_iconst (v := 2) dX12_readsOne_35 (by decide) ?_
            refine aw_icmp_ne (tgt := 44) dX12_readsOne_36 (by decide) (fun c36 => ?_) (fun c36 => ?_)
            · refine aw_bipush (v := 20) dX12_readsOne_44 (by decide) ?_
              have hb : pBd j = 20 := (((if_neg c17).trans (if_neg c26)).trans (if_neg c36))
              refine aw_callV2e dX12_readsOne_46 cmX12_number cvX12_147 (mo_c0 hM) (Nat.le_of_ble_eq_true rfl) (tX12_number hM ht ht6 ha1) (fun r n' h' hq => ?_)
              obtain ⟨rfl, rfl, hM, ho⟩ := hq
              have hF := hF.trans ho
              have ha1 := pNm_le (x := B 10) (v := v1) (lo := 0) (hi := 20) ht6 ha1
              refine aw_if_ne (tgt := 54) dX12_readsOne_49 (by decide) (fun c49 => ?_) (fun c49 => ?_)
              · refine aw_aload_n dX12_readsOne_54 rfl ?_
                refine aw_get dX12_readsOne_55 flX12_43 (mo_c0 hM) rfl ?_
                refine aw_iload_n dX12_readsOne_58 rfl ?_
                refine aw_iload_n dX12_readsOne_59 rfl ?_
                refine aw_iadd dX12_readsOne_60 ?_
                refine aw_aload_n dX12_readsOne_61 rfl ?_
                refine aw_get dX12_readsOne_62 flX12_141 (mo_c0 hM) rfl ?_
                refine aw_iN_mo11 dX12_readsOne_65 hM (show nI (5 * c) + nI j = nI (5 * c + j) from nI_add _ _) (by omega) (fun h hM ho => ?_)
                have hF := hF.trans ho
                have hM : is_mo h m (mP B (pNm (B 10) t a1 v1 0 20).2.1 c li (pNm (B 10) t a1 v1 0 20).2.2 (upd o1 (5 * c + j) (pNm (B 10) t a1 v1 0 20).2.2)) L0 := is_moP mP_o hM
                refine aw_inc (w := 1) dX12_readsOne_66 rfl (by decide) (by decide) ?_
                refine aw_goto (tgt := 9) dX12_readsOne_69 (by decide) ?_
                exact aw_loc [0, 1, 2] (ls2 := [(0, .ref m), (1, .int (nI (5 * c))), (2, .int (nI (j + 1)))]) (by rw [nI_succ]; rfl) (ih (j + 1) _ _ (upd o1 (5 * c + j) (pNm (B 10) t a1 v1 0 20).2.2) _ (by omega) ha1 hM hF (pOn_g heq hb c49))
              · refine aw_iconst (v := 0) dX12_readsOne_52 (by decide) ?_
                exact aw_zret dX12_readsOne_53 rfl rfl (mo_fin (congrArg (fun r => ((pOneE (B 10) t c li r).1, mQ B (pOneE (B 10) t c li r).2, L0)) (pOn_f heq hb c49)) hM hF)
            · refine aw_bipush (v := 30) dX12_readsOne_39 (by decide) ?_
              refine aw_goto (tgt := 46) dX12_readsOne_41 (by decide) ?_
              have hb : pBd j = 30 := (((if_neg c17).trans (if_neg c26)).trans (if_pos c36))
              refine aw_callV2e dX12_readsOne_46 cmX12_number cvX12_147 (mo_c0 hM) (Nat.le_of_ble_eq_true rfl) (tX12_number hM ht ht6 ha1) (fun r n' h' hq => ?_)
              obtain ⟨rfl, rfl, hM, ho⟩ := hq
              have hF := hF.trans ho
              have ha1 := pNm_le (x := B 10) (v := v1) (lo := 0) (hi := 30) ht6 ha1
              refine aw_if_ne (tgt := 54) dX12_readsOne_49 (by decide) (fun c49 => ?_) (fun c49 => ?_)
              · refine aw_aload_n dX12_readsOne_54 rfl ?_
                refine aw_get dX12_readsOne_55 flX12_43 (mo_c0 hM) rfl ?_
                refine aw_iload_n dX12_readsOne_58 rfl ?_
                refine aw_iload_n dX12_readsOne_59 rfl ?_
                refine aw_iadd dX12_readsOne_60 ?_
                refine aw_aload_n dX12_readsOne_61 rfl ?_
                refine aw_get dX12_readsOne_62 flX12_141 (mo_c0 hM) rfl ?_
                refine aw_iN_mo11 dX12_readsOne_65 hM (show nI (5 * c) + nI j = nI (5 * c + j) from nI_add _ _) (by omega) (fun h hM ho => ?_)
                have hF := hF.trans ho
                have hM : is_mo h m (mP B (pNm (B 10) t a1 v1 0 30).2.1 c li (pNm (B 10) t a1 v1 0 30).2.2 (upd o1 (5 * c + j) (pNm (B 10) t a1 v1 0 30).2.2)) L0 := is_moP mP_o hM
                refine aw_inc (w := 1) dX12_readsOne_66 rfl (by decide) (by decide) ?_
                refine aw_goto (tgt := 9) dX12_readsOne_69 (by decide) ?_
                exact aw_loc [0, 1, 2] (ls2 := [(0, .ref m), (1, .int (nI (5 * c))), (2, .int (nI (j + 1)))]) (by rw [nI_succ]; rfl) (ih (j + 1) _ _ (upd o1 (5 * c + j) (pNm (B 10) t a1 v1 0 30).2.2) _ (by omega) ha1 hM hF (pOn_g heq hb c49))
              · refine aw_iconst (v := 0) dX12_readsOne_52 (by decide) ?_
                exact aw_zret dX12_readsOne_53 rfl rfl (mo_fin (congrArg (fun r => ((pOneE (B 10) t c li r).1, mQ B (pOneE (B 10) t c li r).2, L0)) (pOn_f heq hb c49)) hM hF)
          · refine aw_bipush (v := 12) dX12_readsOne_29 (by decide) ?_
            refine aw_goto (tgt := 46) dX12_readsOne_31 (by decide) ?_
            have hb : pBd j = 12 := ((if_neg c17).trans (if_pos c26))
            refine aw_callV2e dX12_readsOne_46 cmX12_number cvX12_147 (mo_c0 hM) (Nat.le_of_ble_eq_true rfl) (tX12_number hM ht ht6 ha1) (fun r n' h' hq => ?_)
            obtain ⟨rfl, rfl, hM, ho⟩ := hq
            have hF := hF.trans ho
            have ha1 := pNm_le (x := B 10) (v := v1) (lo := 0) (hi := 12) ht6 ha1
            refine aw_if_ne (tgt := 54) dX12_readsOne_49 (by decide) (fun c49 => ?_) (fun c49 => ?_)
            · refine aw_aload_n dX12_readsOne_54 rfl ?_
              refine aw_get dX12_readsOne_55 flX12_43 (mo_c0 hM) rfl ?_
              refine aw_iload_n dX12_readsOne_58 rfl ?_
              refine aw_iload_n dX12_readsOne_59 rfl ?_
              refine aw_iadd dX12_readsOne_60 ?_
              refine aw_aload_n dX12_readsOne_61 rfl ?_
              refine aw_get dX12_readsOne_62 flX12_141 (mo_c0 hM) rfl ?_
              refine aw_iN_mo11 dX12_readsOne_65 hM (show nI (5 * c) + nI j = nI (5 * c + j) from nI_add _ _) (by omega) (fun h hM ho => ?_)
              have hF := hF.trans ho
              have hM : is_mo h m (mP B (pNm (B 10) t a1 v1 0 12).2.1 c li (pNm (B 10) t a1 v1 0 12).2.2 (upd o1 (5 * c + j) (pNm (B 10) t a1 v1 0 12).2.2)) L0 := is_moP mP_o hM
              refine aw_inc (w := 1) dX12_readsOne_66 rfl (by decide) (by decide) ?_
              refine aw_goto (tgt := 9) dX12_readsOne_69 (by decide) ?_
              exact aw_loc [0, 1, 2] (ls2 := [(0, .ref m), (1, .int (nI (5 * c))), (2, .int (nI (j + 1)))]) (by rw [nI_succ]; rfl) (ih (j + 1) _ _ (upd o1 (5 * c + j) (pNm (B 10) t a1 v1 0 12).2.2) _ (by omega) ha1 hM hF (pOn_g heq hb c49))
            · refine aw_iconst (v := 0) dX12_readsOne_52 (by decide) ?_
              exact aw_zret dX12_readsOne_53 rfl rfl (mo_fin (congrArg (fun r => ((pOneE (B 10) t c li r).1, mQ B (pOneE (B 10) t c li r).2, L0)) (pOn_f heq hb c49)) hM hF)
        · refine aw_iconst (v := 5) dX12_readsOne_20 (by decide) ?_
          refine aw_goto (tgt := 46) dX12_readsOne_21 (by decide) ?_
          have hb : pBd j = 5 := (if_pos c17)
          refine aw_callV2e dX12_readsOne_46 cmX12_number cvX12_147 (mo_c0 hM) (Nat.le_of_ble_eq_true rfl) (tX12_number hM ht ht6 ha1) (fun r n' h' hq => ?_)
          obtain ⟨rfl, rfl, hM, ho⟩ := hq
          have hF := hF.trans ho
          have ha1 := pNm_le (x := B 10) (v := v1) (lo := 0) (hi := 5) ht6 ha1
          refine aw_if_ne (tgt := 54) dX12_readsOne_49 (by decide) (fun c49 => ?_) (fun c49 => ?_)
          · refine aw_aload_n dX12_readsOne_54 rfl ?_
            refine aw_get dX12_readsOne_55 flX12_43 (mo_c0 hM) rfl ?_
            refine aw_iload_n dX12_readsOne_58 rfl ?_
            refine aw_iload_n dX12_readsOne_59 rfl ?_
            refine aw_iadd dX12_readsOne_60 ?_
            refine aw_aload_n dX12_readsOne_61 rfl ?_
            refine aw_get dX12_readsOne_62 flX12_141 (mo_c0 hM) rfl ?_
            refine aw_iN_mo11 dX12_readsOne_65 hM (show nI (5 * c) + nI j = nI (5 * c + j) from nI_add _ _) (by omega) (fun h hM ho => ?_)
            have hF := hF.trans ho
            have hM : is_mo h m (mP B (pNm (B 10) t a1 v1 0 5).2.1 c li (pNm (B 10) t a1 v1 0 5).2.2 (upd o1 (5 * c + j) (pNm (B 10) t a1 v1 0 5).2.2)) L0 := is_moP mP_o hM
            refine aw_inc (w := 1) dX12_readsOne_66 rfl (by decide) (by decide) ?_
            refine aw_goto (tgt := 9) dX12_readsOne_69 (by decide) ?_
            exact aw_loc [0, 1, 2] (ls2 := [(0, .ref m), (1, .int (nI (5 * c))), (2, .int (nI (j + 1)))]) (by rw [nI_succ]; rfl) (ih (j + 1) _ _ (upd o1 (5 * c + j) (pNm (B 10) t a1 v1 0 5).2.2) _ (by omega) ha1 hM hF (pOn_g heq hb c49))
          · refine aw_iconst (v := 0) dX12_readsOne_52 (by decide) ?_
            exact aw_zret dX12_readsOne_53 rfl rfl (mo_fin (congrArg (fun r => ((pOneE (B 10) t c li r).1, mQ B (pOneE (B 10) t c li r).2, L0)) (pOn_f heq hb c49)) hM hF)
  exact aw_loc [0, 1, 2] (ls2 := [(0, .ref m), (1, .int (nI (5 * c))), (2, .int (nI 0))]) rfl (key 4 0 a v o _ (by omega) ha hM hF rfl)
set_option maxHeartbeats 1000000 in
set_option maxRecDepth 100000 in
theorem tX12_readsHands {l : Launch} {E : aw_E} {d n m : Nat} {h0 : ah} {B : sT} {L0 : Nat → Int64} {a c t : Nat} {li v : Int32} {o : Nat → Int32} (hM : is_mo h0 m (mP B a c li v o) L0) (ht : B 30 4 = nI t) (ht6 : t ≤ 150) (ha : a ≤ 200) (hc : c ≤ 6) : am l E mX12_readsHands (d + 3) 0 0 [.ref m] n h0 (mo_post n h0 m ((((pHn (B 10) t (a, c, li, v, o)).1, mQ B (pHn (B 10) t (a, c, li, v, o)).2, L0) : Int32 × sM))) := by
  refine am_of (by decide +kernel) (Nat.le_of_ble_eq_true rfl) ?_
  have hF : ah_off h0 h0 m 21 := ah_off.rf
  refine aw_aload_n dX12_readsHands_0 rfl ?_
  refine aw_iconst (v := 0) dX12_readsHands_1 (by decide) ?_
  refine aw_aload_n dX12_readsHands_2 rfl ?_
  refine aw_get dX12_readsHands_3 flX12_144 (mo_c0 hM) rfl ?_
  refine aw_iconst (v := 1) dX12_readsHands_6 (by decide) ?_
  refine aw_isub dX12_readsHands_7 ?_
  rw [show mP B a c li v o 30 6 - 1 = nI c - 1 from rfl]
  refine aw_callV2e dX12_readsHands_8 cmX12_number cvX12_147 (mo_c0 hM) (Nat.le_of_ble_eq_true rfl) (tX12_number hM ht ht6 ha) (fun r n' h' hq => ?_)
  obtain ⟨rfl, rfl, hM, ho⟩ := hq
  have hF := hF.trans ho
  have hr2 := pNm_le (x := B 10) (v := v) (lo := 0) (hi := nI c - 1) ht6 ha
  have hr1 := fun g => pNm_in (x := B 10) (t := t) (a := a) (c := c) (v := v) ht6 hc g
  have hM : is_mo h' m (mP B (pNm (B 10) t a v 0 (nI c - 1)).2.1 c li (pNm (B 10) t a v 0 (nI c - 1)).2.2 o) L0 := hM
  generalize hr0 : pNm (B 10) t a v 0 (nI c - 1) = r0 at hM hr1 hr2 ⊢
  refine aw_if_ne (tgt := 16) dX12_readsHands_11 (by decide) (fun c11 => ?_) (fun c11 => ?_)
  · refine aw_aload_n dX12_readsHands_16 rfl ?_
    refine aw_get dX12_readsHands_17 flX12_141 (mo_c0 hM) rfl ?_
    refine aw_istore_n dX12_readsHands_20 (by decide) ?_
    refine aw_iconst (v := 0) dX12_readsHands_21 (by decide) ?_
    refine aw_istore_n dX12_readsHands_22 (by decide) ?_
    refine aw_aload_n dX12_readsHands_23 rfl ?_
    refine aw_callV0e dX12_readsHands_24 cmX12_skip cvX12_135 (mo_c0 hM) (Nat.le_of_ble_eq_true rfl) (tX12_skip hM ht ht6 hr2) (fun r n' h' hq => ?_)
    obtain ⟨rfl, rfl, hM, ho⟩ := hq
    have hF := hF.trans ho
    obtain ⟨q, hqc, hqe⟩ := hr1 c11
    have hqn : r0.2.2.toNatClampNeg = q := by rw [hqe]; exact nI_clamp (by omega)
    have hs2 := pS_le (B 10) t r0.2.1
    have key : ∀ (k : Nat) (b : Nat) (v1 s : Int32) (h : ah), t ≤ b + k → b ≤ 200 → is_mo h m (mP B b c li v1 o) L0 → ah_off h0 h m 21 → pHl (B 10) t c r0.2.2 (t - pS (B 10) t r0.2.1) (pS (B 10) t r0.2.1) r0.2.2 0 = pHl (B 10) t c r0.2.2 k b v1 s → aw l E mX12_readsHands (aw_Z E (mo_post n h0 m ((((pHn (B 10) t (a, c, li, v, o)).1, mQ B (pHn (B 10) t (a, c, li, v, o)).2, L0) : Int32 × sM)))) (d + 3) 0 0 27 [(0, .ref m), (1, .int r0.2.2), (2, .int s)] [] n h := by
      intro k
      induction k with
      | zero =>
        intro b v1 s h hk hb hM hF heq
        refine aw_aload_n dX12_readsHands_27 rfl ?_
        refine aw_callV0p dX12_readsHands_28 cmX12_here cvX12_118 (mo_c0 hM) (Nat.le_of_ble_eq_true rfl) (tX12_here hM ht ht6 hb) ?_
        refine aw_callS1p dX12_readsHands_31 cmX12_isFigure csX12_138 (Nat.le_of_ble_eq_true rfl) tX12_isFigure ?_
        refine aw_if_eq (tgt := 89) dX12_readsHands_34 (by decide) (fun c34 => ?_) (fun c34 => ?_)
        · refine aw_aload_n dX12_readsHands_89 rfl ?_
          refine aw_get dX12_readsHands_90 flX12_43 (mo_c0 hM) rfl ?_
          refine aw_iconst (v := 5) dX12_readsHands_93 (by decide) ?_
          refine aw_iload_n dX12_readsHands_94 rfl ?_
          refine aw_imul dX12_readsHands_95 ?_
          refine aw_iconst (v := 4) dX12_readsHands_96 (by decide) ?_
          refine aw_iadd dX12_readsHands_97 ?_
          refine aw_iload_n dX12_readsHands_98 rfl ?_
          refine aw_iN_mo11 dX12_readsHands_99 hM (show (5 : Int32) * r0.2.2 + 4 = nI (5 * q + 4) by rw [hqe, ← nI_add, ← pk_mul]; rfl) (by omega) (fun h hM ho => ?_)
          have hF := hF.trans ho
          have hM : is_mo h m (mP B b c li v1 (upd o (5 * q + 4) s)) L0 := is_moP mP_o hM
          refine aw_aload_n dX12_readsHands_100 rfl ?_
          refine aw_callV0e dX12_readsHands_101 cmX12_ends cvX12_151 (mo_c0 hM) (Nat.le_of_ble_eq_true rfl) (tX12_ends hM ht ht6 hb) (fun r n' h' hq => ?_)
          obtain ⟨rfl, rfl, hM, ho⟩ := hq
          have hF := hF.trans ho
          exact aw_zret dX12_readsHands_104 rfl (nar01 (pE_01 _ _ _)) (mo_fin (congrArg (fun r : Int32 × PS => (r.1, mQ B r.2, L0)) ((show pHn (B 10) t (a, c, li, v, o) = _ from (congrArg (pHnN (B 10) t c li o) hr0).trans ((if_neg c11).trans (congrArg (pHnE (B 10) t c li o r0.2.2) heq))).trans (show _ = ((pE (B 10) t b).1, ((pE (B 10) t b).2, c, li, v1, upd o (5 * q + 4) s)) by rw [← hqn]; rfl))) hM hF)
        · exact absurd (show iW (pC (B 10) t b) 48 57 = 0 by rw [pC_ge (by omega)]; decide) c34
      | succ k ih =>
        intro b v1 s h hk hb hM hF heq
        refine aw_aload_n dX12_readsHands_27 rfl ?_
        refine aw_callV0p dX12_readsHands_28 cmX12_here cvX12_118 (mo_c0 hM) (Nat.le_of_ble_eq_true rfl) (tX12_here hM ht ht6 hb) ?_
        refine aw_callS1p dX12_readsHands_31 cmX12_isFigure csX12_138 (Nat.le_of_ble_eq_true rfl) tX12_isFigure ?_
        refine aw_if_eq (tgt := 89) dX12_readsHands_34 (by decide) (fun c34 => ?_) (fun c34 => ?_)
        · refine aw_aload_n dX12_readsHands_89 rfl ?_
          refine aw_get dX12_readsHands_90 flX12_43 (mo_c0 hM) rfl ?_
          refine aw_iconst (v := 5) dX12_readsHands_93 (by decide) ?_
          refine aw_iload_n dX12_readsHands_94 rfl ?_
          refine aw_imul dX12_readsHands_95 ?_
          refine aw_iconst (v := 4) dX12_readsHands_96 (by decide) ?_
          refine aw_iadd dX12_readsHands_97 ?_
          refine aw_iload_n dX12_readsHands_98 rfl ?_
          refine aw_iN_mo11 dX12_readsHands_99 hM (show (5 : Int32) * r0.2.2 + 4 = nI (5 * q + 4) by rw [hqe, ← nI_add, ← pk_mul]; rfl) (by omega) (fun h hM ho => ?_)
          have hF := hF.trans ho
          have hM : is_mo h m (mP B b c li v1 (upd o (5 * q + 4) s)) L0 := is_moP mP_o hM
          refine aw_aload_n dX12_readsHands_100 rfl ?_
          refine aw_callV0e dX12_readsHands_101 cmX12_ends cvX12_151 (mo_c0 hM) (Nat.le_of_ble_eq_true rfl) (tX12_ends hM ht ht6 hb) (fun r n' h' hq => ?_)
          obtain ⟨rfl, rfl, hM, ho⟩ := hq
          have hF := hF.trans ho
          exact aw_zret dX12_readsHands_104 rfl (nar01 (pE_01 _ _ _)) (mo_fin (congrArg (fun r : Int32 × PS => (r.1, mQ B r.2, L0)) ((show pHn (B 10) t (a, c, li, v, o) = _ from (congrArg (pHnN (B 10) t c li o) hr0).trans ((if_neg c11).trans (congrArg (pHnE (B 10) t c li o r0.2.2) (heq.trans (if_pos c34))))).trans (show _ = ((pE (B 10) t b).1, ((pE (B 10) t b).2, c, li, v1, upd o (5 * q + 4) s)) by rw [← hqn]; rfl))) hM hF)
        · refine aw_aload_n dX12_readsHands_37 rfl ?_
          refine aw_get dX12_readsHands_38 flX12_115 (mo_c0 hM) rfl ?_
          refine aw_istore_n dX12_readsHands_41 (by decide) ?_
          refine aw_aload_n dX12_readsHands_42 rfl ?_
          refine aw_iconst (v := 0) dX12_readsHands_43 (by decide) ?_
          refine aw_aload_n dX12_readsHands_44 rfl ?_
          refine aw_get dX12_readsHands_45 flX12_144 (mo_c0 hM) rfl ?_
          refine aw_iconst (v := 1) dX12_readsHands_48 (by decide) ?_
          refine aw_isub dX12_readsHands_49 ?_
          rw [show mP B b c li v1 o 30 6 - 1 = nI c - 1 from rfl]
          refine aw_callV2e dX12_readsHands_50 cmX12_number cvX12_147 (mo_c0 hM) (Nat.le_of_ble_eq_true rfl) (tX12_number hM ht ht6 hb) (fun r n' h' hq => ?_)
          obtain ⟨rfl, rfl, hM, ho⟩ := hq
          have hF := hF.trans ho
          have hM : is_mo h' m (mP B (pNm (B 10) t b v1 0 (nI c - 1)).2.1 c li (pNm (B 10) t b v1 0 (nI c - 1)).2.2 o) L0 := hM
          have hb2 := pNm_le (x := B 10) (v := v1) (lo := 0) (hi := nI c - 1) ht6 hb
          refine aw_if_ne (tgt := 58) dX12_readsHands_53 (by decide) (fun c53 => ?_) (fun c53 => ?_)
          · refine aw_aload_n dX12_readsHands_58 rfl ?_
            refine aw_get dX12_readsHands_59 flX12_141 (mo_c0 hM) rfl ?_
            refine aw_iload_n dX12_readsHands_62 rfl ?_
            refine aw_icmp_ne (tgt := 73) dX12_readsHands_63 (by decide) (fun c63 => ?_) (fun c63 => ?_)
            · refine aw_iload_n dX12_readsHands_73 rfl ?_
              refine aw_iconst (v := 1) dX12_readsHands_74 (by decide) ?_
              refine aw_aload_n dX12_readsHands_75 rfl ?_
              refine aw_get dX12_readsHands_76 flX12_141 (mo_c0 hM) rfl ?_
              refine aw_ishl dX12_readsHands_79 ?_
              refine aw_ior dX12_readsHands_80 ?_
              refine aw_istore_n dX12_readsHands_81 (by decide) ?_
              refine aw_aload_n dX12_readsHands_82 rfl ?_
              refine aw_callV0e dX12_readsHands_83 cmX12_skip cvX12_135 (mo_c0 hM) (Nat.le_of_ble_eq_true rfl) (tX12_skip hM ht ht6 hb2) (fun r n' h' hq => ?_)
              obtain ⟨rfl, rfl, hM, ho⟩ := hq
              have hF := hF.trans ho
              have hs4 := pS_le (B 10) t (pNm (B 10) t b v1 0 (nI c - 1)).2.1
              refine aw_goto (tgt := 27) dX12_readsHands_86 (by decide) ?_
              exact aw_loc [0, 1, 2] (ls2 := [(0, .ref m), (1, .int r0.2.2), (2, .int (s ||| (1 <<< ((pNm (B 10) t b v1 0 (nI c - 1)).2.2 &&& 31))))]) rfl (ih (pS (B 10) t (pNm (B 10) t b v1 0 (nI c - 1)).2.1) (pNm (B 10) t b v1 0 (nI c - 1)).2.2 (s ||| (1 <<< ((pNm (B 10) t b v1 0 (nI c - 1)).2.2 &&& 31))) _ (by have := (pNm_ok ht6 c53).1; have := pS_ge (B 10) t (pNm (B 10) t b v1 0 (nI c - 1)).2.1; omega) (by omega) hM hF (heq.trans (((if_neg c34).trans (if_neg c53)).trans (if_neg c63))))
            · refine aw_aload_n dX12_readsHands_66 rfl ?_
              refine aw_iload_n dX12_readsHands_67 rfl ?_
              refine aw_pf_mo5 dX12_readsHands_68 fpX12_115 hM (fun h hM ho => ?_)
              have hF := hF.trans ho
              have hM := is_moP (mP_a (show nI b = nI b from rfl)) hM
              refine aw_iconst (v := 0) dX12_readsHands_71 (by decide) ?_
              exact aw_zret dX12_readsHands_72 rfl rfl (mo_fin (congrArg (fun r : Int32 × PS => (r.1, mQ B r.2, L0)) (show pHn (B 10) t (a, c, li, v, o) = _ from (congrArg (pHnN (B 10) t c li o) hr0).trans ((if_neg c11).trans (congrArg (pHnE (B 10) t c li o r0.2.2) (heq.trans (((if_neg c34).trans (if_neg c53)).trans (if_pos c63))))))) hM hF)
          · refine aw_iconst (v := 0) dX12_readsHands_56 (by decide) ?_
            exact aw_zret dX12_readsHands_57 rfl rfl (mo_fin (congrArg (fun r : Int32 × PS => (r.1, mQ B r.2, L0)) (show pHn (B 10) t (a, c, li, v, o) = _ from (congrArg (pHnN (B 10) t c li o) hr0).trans ((if_neg c11).trans (congrArg (pHnE (B 10) t c li o r0.2.2) (heq.trans ((if_neg c34).trans (if_pos c53))))))) hM hF)
    exact aw_loc [0, 1, 2] (ls2 := [(0, .ref m), (1, .int r0.2.2), (2, .int 0)]) rfl (key (t - pS (B 10) t r0.2.1) (pS (B 10) t r0.2.1) r0.2.2 0 _ (by omega) (by omega) hM hF rfl)
  · refine aw_iconst (v := 0) dX12_readsHands_14 (by decide) ?_
    exact aw_zret dX12_readsHands_15 rfl rfl (mo_fin (congrArg (fun r : Int32 × PS => (r.1, mQ B r.2, L0)) (show pHn (B 10) t (a, c, li, v, o) = _ from (congrArg (pHnN (B 10) t c li o) hr0).trans (if_pos c11))) hM hF)
set_option maxHeartbeats 1000000 in
set_option maxRecDepth 100000 in
theorem tX12_readsLie {l : Launch} {E : aw_E} {d n m : Nat} {h0 : ah} {B : sT} {L0 : Nat → Int64} {a c t : Nat} {li v : Int32} {o : Nat → Int32} (hM : is_mo h0 m (mP B a c li v o) L0) (ht : B 30 4 = nI t) (ht6 : t ≤ 150) (ha : a ≤ 200) (hc : c ≤ 6) : am l E mX12_readsLie (d + 3) 0 0 [.ref m] n h0 (mo_post n h0 m ((((pLi (B 10) t (a, c, li, v, o)).1, mQ B (pLi (B 10) t (a, c, li, v, o)).2, L0) : Int32 × sM))) := by
  refine am_of (by decide +kernel) (Nat.le_of_ble_eq_true rfl) ?_
  have hF : ah_off h0 h0 m 21 := ah_off.rf
  refine aw_aload_n dX12_readsLie_0 rfl ?_
  refine aw_iconst (v := 0) dX12_readsLie_1 (by decide) ?_
  refine aw_aload_n dX12_readsLie_2 rfl ?_
  refine aw_get dX12_readsLie_3 flX12_144 (mo_c0 hM) rfl ?_
  refine aw_iconst (v := 1) dX12_readsLie_6 (by decide) ?_
  refine aw_isub dX12_readsLie_7 ?_
  rw [show mP B a c li v o 30 6 - 1 = nI c - 1 from rfl]
  refine aw_callV2e dX12_readsLie_8 cmX12_number cvX12_147 (mo_c0 hM) (Nat.le_of_ble_eq_true rfl) (tX12_number hM ht ht6 ha) (fun r n' h' hq => ?_)
  obtain ⟨rfl, rfl, hM, ho⟩ := hq
  have hF := hF.trans ho
  have hr2 := pNm_le (x := B 10) (v := v) (lo := 0) (hi := nI c - 1) ht6 ha
  have hr1 := fun g => pNm_in (x := B 10) (t := t) (a := a) (c := c) (v := v) ht6 hc g
  have hM : is_mo h' m (mP B (pNm (B 10) t a v 0 (nI c - 1)).2.1 c li (pNm (B 10) t a v 0 (nI c - 1)).2.2 o) L0 := hM
  generalize hr0 : pNm (B 10) t a v 0 (nI c - 1) = r0 at hM hr1 hr2 ⊢
  refine aw_if_ne (tgt := 16) dX12_readsLie_11 (by decide) (fun c11 => ?_) (fun c11 => ?_)
  · refine aw_aload_n dX12_readsLie_16 rfl ?_
    refine aw_get dX12_readsLie_17 flX12_141 (mo_c0 hM) rfl ?_
    refine aw_istore_n dX12_readsLie_20 (by decide) ?_
    refine aw_aload_n dX12_readsLie_21 rfl ?_
    refine aw_iconst (v := 1) dX12_readsLie_22 (by decide) ?_
    refine aw_iconst (v := 4) dX12_readsLie_23 (by decide) ?_
    obtain ⟨q, hqc, hqe⟩ := hr1 c11
    have hqn : r0.2.2.toNatClampNeg = q := by rw [hqe]; exact nI_clamp (by omega)
    refine aw_callV2e dX12_readsLie_24 cmX12_number cvX12_147 (mo_c0 hM) (Nat.le_of_ble_eq_true rfl) (tX12_number hM ht ht6 hr2) (fun r n' h' hq => ?_)
    obtain ⟨rfl, rfl, hM, ho⟩ := hq
    have hF := hF.trans ho
    have hr4 := pNm_le (x := B 10) (v := r0.2.2) (lo := 1) (hi := 4) ht6 hr2
    have hM : is_mo h' m (mP B (pNm (B 10) t r0.2.1 r0.2.2 1 4).2.1 c li (pNm (B 10) t r0.2.1 r0.2.2 1 4).2.2 o) L0 := hM
    generalize hr3 : pNm (B 10) t r0.2.1 r0.2.2 1 4 = r1 at hM hr4 ⊢
    refine aw_if_ne (tgt := 32) dX12_readsLie_27 (by decide) (fun c27 => ?_) (fun c27 => ?_)
    · refine aw_aload_n dX12_readsLie_32 rfl ?_
      refine aw_get dX12_readsLie_33 flX12_43 (mo_c0 hM) rfl ?_
      refine aw_iconst (v := 5) dX12_readsLie_36 (by decide) ?_
      refine aw_iload_n dX12_readsLie_37 rfl ?_
      refine aw_imul dX12_readsLie_38 ?_
      refine aw_ialdN dX12_readsLie_39 (mo_c12 hM) (show (5 : Int32) * r0.2.2 = nI (5 * q) by rw [hqe, ← pk_mul]; rfl) (by omega) (by decide) ?_
      refine aw_aload_n dX12_readsLie_40 rfl ?_
      refine aw_get dX12_readsLie_41 flX12_141 (mo_c0 hM) rfl ?_
      refine aw_callS2p dX12_readsLie_44 cmX12_lieBy csX12_155 (Nat.le_of_ble_eq_true rfl) tX12_lieBy ?_
      refine aw_istore_n dX12_readsLie_47 (by decide) ?_
      refine aw_aload_n dX12_readsLie_48 rfl ?_
      refine aw_get dX12_readsLie_49 flX12_43 (mo_c0 hM) rfl ?_
      refine aw_iconst (v := 5) dX12_readsLie_52 (by decide) ?_
      refine aw_iload_n dX12_readsLie_53 rfl ?_
      refine aw_imul dX12_readsLie_54 ?_
      refine aw_iconst (v := 1) dX12_readsLie_55 (by decide) ?_
      refine aw_iadd dX12_readsLie_56 ?_
      refine aw_aload_n dX12_readsLie_57 rfl ?_
      refine aw_get dX12_readsLie_58 flX12_43 (mo_c0 hM) rfl ?_
      refine aw_iconst (v := 5) dX12_readsLie_61 (by decide) ?_
      refine aw_iload_n dX12_readsLie_62 rfl ?_
      refine aw_imul dX12_readsLie_63 ?_
      refine aw_iconst (v := 1) dX12_readsLie_64 (by decide) ?_
      refine aw_iadd dX12_readsLie_65 ?_
      refine aw_ialdN dX12_readsLie_66 (mo_c12 hM) (show (5 : Int32) * r0.2.2 + 1 = nI (5 * q + 1) by rw [hqe, ← nI_add, ← pk_mul]; rfl) (by omega) (by decide) ?_
      refine aw_iload_n dX12_readsLie_67 rfl ?_
      refine aw_icmp_ge (tgt := 75) dX12_readsLie_68 (by decide) (fun c68 => ?_) (fun c68 => ?_)
      · refine aw_aload_n dX12_readsLie_75 rfl ?_
        refine aw_get dX12_readsLie_76 flX12_43 (mo_c0 hM) rfl ?_
        refine aw_iconst (v := 5) dX12_readsLie_79 (by decide) ?_
        refine aw_iload_n dX12_readsLie_80 rfl ?_
        refine aw_imul dX12_readsLie_81 ?_
        refine aw_iconst (v := 1) dX12_readsLie_82 (by decide) ?_
        refine aw_iadd dX12_readsLie_83 ?_
        refine aw_ialdN dX12_readsLie_84 (mo_c12 hM) (show (5 : Int32) * r0.2.2 + 1 = nI (5 * q + 1) by rw [hqe, ← nI_add, ← pk_mul]; rfl) (by omega) (by decide) ?_
        refine aw_iload_n dX12_readsLie_85 rfl ?_
        refine aw_isub dX12_readsLie_86 ?_
        refine aw_iN_mo11 dX12_readsLie_87 hM (show (5 : Int32) * r0.2.2 + 1 = nI (5 * q + 1) by rw [hqe, ← nI_add, ← pk_mul]; rfl) (by omega) (fun h hM ho => ?_)
        have hF := hF.trans ho
        have hM : is_mo h m (mP B r1.2.1 c li r1.2.2 (upd o (5 * q + 1) (o (5 * q + 1) - kL (o (5 * q)) r1.2.2))) L0 := is_moP mP_o hM
        have hO : pLiO o r0.2.2.toNatClampNeg (kL (o (5 * r0.2.2.toNatClampNeg)) r1.2.2) = upd o (5 * q + 1) (o (5 * q + 1) - kL (o (5 * q)) r1.2.2) := by
          rw [hqn]
          exact congrArg (upd o (5 * q + 1)) (if_pos c68)
        refine aw_aload_n dX12_readsLie_88 rfl ?_
        refine aw_dup dX12_readsLie_89 rfl ?_
        refine aw_get dX12_readsLie_90 flX12_159 (mo_c0 hM) rfl ?_
        refine aw_iconst (v := 1) dX12_readsLie_93 (by decide) ?_
        refine aw_iload_n dX12_readsLie_94 rfl ?_
        refine aw_ishl dX12_readsLie_95 ?_
        refine aw_ior dX12_readsLie_96 ?_
        refine aw_pf_mo7 dX12_readsLie_97 fpX12_159 hM (fun h hM ho => ?_)
        have hF := hF.trans ho
        have hM := is_moP mP_l hM
        refine aw_aload_n dX12_readsLie_100 rfl ?_
        refine aw_callV0e dX12_readsLie_101 cmX12_ends cvX12_151 (mo_c0 hM) (Nat.le_of_ble_eq_true rfl) (tX12_ends hM ht ht6 hr4) (fun r n' h' hq => ?_)
        obtain ⟨rfl, rfl, hM, ho⟩ := hq
        have hF := hF.trans ho
        exact aw_zret dX12_readsLie_104 rfl (nar01 (pE_01 _ _ _)) (mo_fin (congrArg (fun r : Int32 × PS => (r.1, mQ B r.2, L0)) ((show pLi (B 10) t (a, c, li, v, o) = _ from (congrArg (pLiN (B 10) t c li o) hr0).trans ((if_neg c11).trans ((congrArg (pLiE (B 10) t c li o r0.2.2) hr3).trans (if_neg c27)))).trans (congrArg (fun z => ((pE (B 10) t r1.2.1).1, ((pE (B 10) t r1.2.1).2, c, li ||| (1 <<< (r0.2.2 &&& 31)), r1.2.2, z))) hO))) hM hF)
      · refine aw_iconst (v := 0) dX12_readsLie_71 (by decide) ?_
        refine aw_goto (tgt := 87) dX12_readsLie_72 (by decide) ?_
        refine aw_iN_mo11 dX12_readsLie_87 hM (show (5 : Int32) * r0.2.2 + 1 = nI (5 * q + 1) by rw [hqe, ← nI_add, ← pk_mul]; rfl) (by omega) (fun h hM ho => ?_)
        have hF := hF.trans ho
        have hM : is_mo h m (mP B r1.2.1 c li r1.2.2 (upd o (5 * q + 1) 0)) L0 := is_moP mP_o hM
        have hO : pLiO o r0.2.2.toNatClampNeg (kL (o (5 * r0.2.2.toNatClampNeg)) r1.2.2) = upd o (5 * q + 1) 0 := by
          rw [hqn]
          exact congrArg (upd o (5 * q + 1)) (if_neg c68)
        refine aw_aload_n dX12_readsLie_88 rfl ?_
        refine aw_dup dX12_readsLie_89 rfl ?_
        refine aw_get dX12_readsLie_90 flX12_159 (mo_c0 hM) rfl ?_
        refine aw_iconst (v := 1) dX12_readsLie_93 (by decide) ?_
        refine aw_iload_n dX12_readsLie_94 rfl ?_
        refine aw_ishl dX12_readsLie_95 ?_
        refine aw_ior dX12_readsLie_96 ?_
        refine aw_pf_mo7 dX12_readsLie_97 fpX12_159 hM (fun h hM ho => ?_)
        have hF := hF.trans ho
        have hM := is_moP mP_l hM
        refine aw_aload_n dX12_readsLie_100 rfl ?_
        refine aw_callV0e dX12_readsLie_101 cmX12_ends cvX12_151 (mo_c0 hM) (Nat.le_of_ble_eq_true rfl) (tX12_ends hM ht ht6 hr4) (fun r n' h' hq => ?_)
        obtain ⟨rfl, rfl, hM, ho⟩ := hq
        have hF := hF.trans ho
        exact aw_zret dX12_readsLie_104 rfl (nar01 (pE_01 _ _ _)) (mo_fin (congrArg (fun r : Int32 × PS => (r.1, mQ B r.2, L0)) ((show pLi (B 10) t (a, c, li, v, o) = _ from (congrArg (pLiN (B 10) t c li o) hr0).trans ((if_neg c11).trans ((congrArg (pLiE (B 10) t c li o r0.2.2) hr3).trans (if_neg c27)))).trans (congrArg (fun z => ((pE (B 10) t r1.2.1).1, ((pE (B 10) t r1.2.1).2, c, li ||| (1 <<< (r0.2.2 &&& 31)), r1.2.2, z))) hO))) hM hF)
    · refine aw_iconst (v := 0) dX12_readsLie_30 (by decide) ?_
      exact aw_zret dX12_readsLie_31 rfl rfl (mo_fin (congrArg (fun r : Int32 × PS => (r.1, mQ B r.2, L0)) (show pLi (B 10) t (a, c, li, v, o) = _ from (congrArg (pLiN (B 10) t c li o) hr0).trans ((if_neg c11).trans ((congrArg (pLiE (B 10) t c li o r0.2.2) hr3).trans (if_pos c27))))) hM hF)
  · refine aw_iconst (v := 0) dX12_readsLie_14 (by decide) ?_
    exact aw_zret dX12_readsLie_15 rfl rfl (mo_fin (congrArg (fun r : Int32 × PS => (r.1, mQ B r.2, L0)) (show pLi (B 10) t (a, c, li, v, o) = _ from (congrArg (pLiN (B 10) t c li o) hr0).trans (if_pos c11))) hM hF)
set_option maxHeartbeats 1000000 in
set_option maxRecDepth 100000 in
theorem tX12_readsItem {l : Launch} {E : aw_E} {d n m : Nat} {h0 : ah} {B : sT} {L0 : Nat → Int64} {a c t : Nat} {li v : Int32} {o : Nat → Int32} (hM : is_mo h0 m (mP B a c li v o) L0) (ht : B 30 4 = nI t) (ht6 : t ≤ 150) (ha : a ≤ 200) (hc : c ≤ 6) (hat : a < t) : am l E mX12_readsItem (d + 4) 0 0 [.ref m] n h0 (mo_post n h0 m ((((pIt (B 10) t (a, c, li, v, o)).1, mQ B (pIt (B 10) t (a, c, li, v, o)).2, L0) : Int32 × sM))) := by
  refine am_of (by decide +kernel) (Nat.le_of_ble_eq_true rfl) ?_
  have hF : ah_off h0 h0 m 21 := ah_off.rf
  refine aw_aload_n dX12_readsItem_0 rfl ?_
  refine aw_callV0p dX12_readsItem_1 cmX12_wordHere cvX12_162 (mo_c0 hM) (Nat.le_of_ble_eq_true rfl) (tX12_wordHere hM ht ht6 ha) ?_
  generalize hw : pWd (B 10) t a = w
  refine aw_istore_n dX12_readsItem_4 (by decide) ?_
  refine aw_iload_n dX12_readsItem_5 rfl ?_
  refine aw_iconst (v := 1) dX12_readsItem_6 (by decide) ?_
  refine aw_icmp_lt (tgt := 24) dX12_readsItem_7 (by decide) (fun c7 => ?_) (fun c7 => ?_)
  · refine aw_iconst (v := 0) dX12_readsItem_24 (by decide) ?_
    exact aw_zret dX12_readsItem_25 rfl rfl (mo_fin (congrArg (fun r : Int32 × PS => (r.1, mQ B r.2, L0)) ((show pIt (B 10) t (a, c, li, v, o) = pItW (B 10) t w (a, c, li, v, o) from congrArg (fun z => pItW (B 10) t z (a, c, li, v, o)) hw).trans (if_pos c7))) hM hF)
  · refine aw_iload_n dX12_readsItem_10 rfl ?_
    refine aw_iconst (v := 1) dX12_readsItem_11 (by decide) ?_
    refine aw_icmp_ne (tgt := 26) dX12_readsItem_12 (by decide) (fun c12 => ?_) (fun c12 => ?_)
    · refine aw_aload_n dX12_readsItem_26 rfl ?_
      refine aw_dup dX12_readsItem_27 rfl ?_
      refine aw_get dX12_readsItem_28 flX12_115 (mo_c0 hM) rfl ?_
      refine aw_iload_n dX12_readsItem_31 rfl ?_
      refine aw_iconst (v := 2) dX12_readsItem_32 (by decide) ?_
      refine aw_icmp_ne (tgt := 40) dX12_readsItem_33 (by decide) (fun c33 => ?_) (fun c33 => ?_)
      · refine aw_iconst (v := 3) dX12_readsItem_40 (by decide) ?_
        refine aw_iadd dX12_readsItem_41 ?_
        refine aw_pf_mo5 dX12_readsItem_42 fpX12_115 hM (fun h hM ho => ?_)
        have hF := hF.trans ho
        have hM := is_moP (mP_a (show nI a + 3 = nI (a + 3) by rw [← nI_add]; rfl)) hM
        refine aw_iload_n dX12_readsItem_45 rfl ?_
        refine aw_iconst (v := 1) dX12_readsItem_46 (by decide) ?_
        refine aw_icmp_ne (tgt := 57) dX12_readsItem_47 (by decide) (fun c47 => ?_) (fun c47 => absurd c47 c12)
        refine aw_iload_n dX12_readsItem_57 rfl ?_
        refine aw_iconst (v := 2) dX12_readsItem_58 (by decide) ?_
        refine aw_icmp_ne (tgt := 69) dX12_readsItem_59 (by decide) (fun c59 => ?_) (fun c59 => absurd c59 c33)
        refine aw_aload_n dX12_readsItem_69 rfl ?_
        refine aw_callV0e dX12_readsItem_70 cmX12_readsLie cvX12_171 (mo_c0 hM) (Nat.le_of_ble_eq_true rfl) (tX12_readsLie hM ht ht6 (by omega) hc) (fun r n' h' hq => ?_)
        obtain ⟨rfl, rfl, hM, ho⟩ := hq
        have hF := hF.trans ho
        exact aw_zret dX12_readsItem_73 rfl (nar01 (pLi_01 _ _ _)) (mo_fin (congrArg (fun r : Int32 × PS => (r.1, mQ B r.2, L0)) (show pIt (B 10) t (a, c, li, v, o) = pLi (B 10) t (a + 3, c, li, v, o) from (congrArg (fun z => pItW (B 10) t z (a, c, li, v, o)) hw).trans (((((if_neg c7).trans (if_neg c12)).trans (if_neg c33)).trans (if_neg c47)).trans (if_neg c59)))) hM hF)
      · refine aw_iconst (v := 5) dX12_readsItem_36 (by decide) ?_
        refine aw_goto (tgt := 41) dX12_readsItem_37 (by decide) ?_
        refine aw_iadd dX12_readsItem_41 ?_
        refine aw_pf_mo5 dX12_readsItem_42 fpX12_115 hM (fun h hM ho => ?_)
        have hF := hF.trans ho
        have hM := is_moP (mP_a (show nI a + 5 = nI (a + 5) by rw [← nI_add]; rfl)) hM
        refine aw_iload_n dX12_readsItem_45 rfl ?_
        refine aw_iconst (v := 1) dX12_readsItem_46 (by decide) ?_
        refine aw_icmp_ne (tgt := 57) dX12_readsItem_47 (by decide) (fun c47 => ?_) (fun c47 => absurd c47 c12)
        refine aw_iload_n dX12_readsItem_57 rfl ?_
        refine aw_iconst (v := 2) dX12_readsItem_58 (by decide) ?_
        refine aw_icmp_ne (tgt := 69) dX12_readsItem_59 (by decide) (fun c59 => absurd c33 c59) (fun c59 => ?_)
        refine aw_aload_n dX12_readsItem_62 rfl ?_
        refine aw_callV0e dX12_readsItem_63 cmX12_readsHands cvX12_168 (mo_c0 hM) (Nat.le_of_ble_eq_true rfl) (tX12_readsHands hM ht ht6 (by omega) hc) (fun r n' h' hq => ?_)
        obtain ⟨rfl, rfl, hM, ho⟩ := hq
        have hF := hF.trans ho
        refine aw_goto (tgt := 73) dX12_readsItem_66 (by decide) ?_
        exact aw_zret dX12_readsItem_73 rfl (nar01 (pHn_01 _ _ _)) (mo_fin (congrArg (fun r : Int32 × PS => (r.1, mQ B r.2, L0)) (show pIt (B 10) t (a, c, li, v, o) = pHn (B 10) t (a + 5, c, li, v, o) from (congrArg (fun z => pItW (B 10) t z (a, c, li, v, o)) hw).trans (((((if_neg c7).trans (if_neg c12)).trans (if_pos c33)).trans (if_neg c47)).trans (if_pos c59)))) hM hF)
    · refine aw_aload_n dX12_readsItem_15 rfl ?_
      refine aw_get dX12_readsItem_16 flX12_144 (mo_c0 hM) rfl ?_
      refine aw_bipush (v := 6) dX12_readsItem_19 (by decide) ?_
      refine aw_icmp_ne (tgt := 26) dX12_readsItem_21 (by decide) (fun c21 => ?_) (fun c21 => ?_)
      · refine aw_aload_n dX12_readsItem_26 rfl ?_
        refine aw_dup dX12_readsItem_27 rfl ?_
        refine aw_get dX12_readsItem_28 flX12_115 (mo_c0 hM) rfl ?_
        refine aw_iload_n dX12_readsItem_31 rfl ?_
        refine aw_iconst (v := 2) dX12_readsItem_32 (by decide) ?_
        refine aw_icmp_ne (tgt := 40) dX12_readsItem_33 (by decide) (fun c33 => ?_) (fun c33 => absurd (c12.symm.trans c33) (by decide))
        refine aw_iconst (v := 3) dX12_readsItem_40 (by decide) ?_
        refine aw_iadd dX12_readsItem_41 ?_
        refine aw_pf_mo5 dX12_readsItem_42 fpX12_115 hM (fun h hM ho => ?_)
        have hF := hF.trans ho
        have hM := is_moP (mP_a (show nI a + 3 = nI (a + 3) by rw [← nI_add]; rfl)) hM
        refine aw_iload_n dX12_readsItem_45 rfl ?_
        refine aw_iconst (v := 1) dX12_readsItem_46 (by decide) ?_
        refine aw_icmp_ne (tgt := 57) dX12_readsItem_47 (by decide) (fun c47 => absurd c12 c47) (fun c47 => ?_)
        refine aw_aload_n dX12_readsItem_50 rfl ?_
        refine aw_callV0e dX12_readsItem_51 cmX12_readsOne cvX12_165 (mo_c0 hM) (Nat.le_of_ble_eq_true rfl) (tX12_readsOne hM ht ht6 (by omega) (by rcases Nat.lt_or_ge c 6 with q | q <;> first | omega | exact absurd (show nI c = 6 by rw [show c = 6 by omega]; rfl) c21)) (fun r n' h' hq => ?_)
        obtain ⟨rfl, rfl, hM, ho⟩ := hq
        have hF := hF.trans ho
        refine aw_goto (tgt := 73) dX12_readsItem_54 (by decide) ?_
        exact aw_zret dX12_readsItem_73 rfl (nar01 (pOne_01 _ _ _)) (mo_fin (congrArg (fun r : Int32 × PS => (r.1, mQ B r.2, L0)) (show pIt (B 10) t (a, c, li, v, o) = pOne (B 10) t (a + 3, c, li, v, o) from (congrArg (fun z => pItW (B 10) t z (a, c, li, v, o)) hw).trans (((((if_neg c7).trans (if_pos c12)).trans (if_neg c21)).trans (if_neg c33)).trans (if_pos c47)))) hM hF)
      · refine aw_iconst (v := 0) dX12_readsItem_24 (by decide) ?_
        exact aw_zret dX12_readsItem_25 rfl rfl (mo_fin (congrArg (fun r : Int32 × PS => (r.1, mQ B r.2, L0)) ((show pIt (B 10) t (a, c, li, v, o) = pItW (B 10) t w (a, c, li, v, o) from congrArg (fun z => pItW (B 10) t z (a, c, li, v, o)) hw).trans (((if_neg c7).trans (if_pos c12)).trans (if_pos c21)))) hM hF)
set_option maxHeartbeats 1000000 in
set_option maxRecDepth 100000 in
theorem tX12_readsGold {l : Launch} {E : aw_E} {d n m : Nat} {h0 : ah} {S0 : sT} {L0 : Nat → Int64} {t : Nat} (hM : is_mo h0 m S0 L0) (ht : S0 30 4 = nI t) (ht6 : t ≤ 150) : am l E mX12_readsGold (d + 5) 0 0 [.ref m] n h0 (mo_post n h0 m ((((pGd (S0 10) t (S0 30 8) (S0 11)).1, mQ S0 (pGd (S0 10) t (S0 30 8) (S0 11)).2, L0) : Int32 × sM))) := by
  refine am_of (by decide +kernel) (Nat.le_of_ble_eq_true rfl) ?_
  have hF : ah_off h0 h0 m 21 := ah_off.rf
  refine aw_aload_n dX12_readsGold_0 rfl ?_
  refine aw_iconst (v := 0) dX12_readsGold_1 (by decide) ?_
  refine aw_pf_mo5 dX12_readsGold_2 fpX12_115 hM (fun h hM ho => ?_)
  have hF := hF.trans ho
  refine aw_aload_n dX12_readsGold_5 rfl ?_
  refine aw_iconst (v := 0) dX12_readsGold_6 (by decide) ?_
  refine aw_pf_mo6 dX12_readsGold_7 fpX12_144 hM (fun h hM ho => ?_)
  have hF := hF.trans ho
  refine aw_aload_n dX12_readsGold_10 rfl ?_
  refine aw_iconst (v := 0) dX12_readsGold_11 (by decide) ?_
  refine aw_pf_mo7 dX12_readsGold_12 fpX12_159 hM (fun h hM ho => ?_)
  have hF := hF.trans ho
  have hM := is_moP mP_0 hM
  refine aw_aload_n dX12_readsGold_15 rfl ?_
  refine aw_callV0e dX12_readsGold_16 cmX12_skip cvX12_135 (mo_c0 hM) (Nat.le_of_ble_eq_true rfl) (tX12_skip hM ht ht6 (by omega)) (fun r n' h' hq => ?_)
  obtain ⟨rfl, rfl, hM, ho⟩ := hq
  have hF := hF.trans ho
  have hs2 := pS_le (S0 10) t 0
  refine aw_aload_n dX12_readsGold_19 rfl ?_
  refine aw_callV0p dX12_readsGold_20 cmX12_wordHere cvX12_162 (mo_c0 hM) (Nat.le_of_ble_eq_true rfl) (tX12_wordHere hM ht ht6 (by omega)) ?_
  refine aw_if_eq (tgt := 28) dX12_readsGold_23 (by decide) (fun c23 => ?_) (fun c23 => ?_)
  · refine aw_aload_n dX12_readsGold_28 rfl ?_
    refine aw_dup dX12_readsGold_29 rfl ?_
    refine aw_get dX12_readsGold_30 flX12_115 (mo_c0 hM) rfl ?_
    refine aw_iconst (v := 4) dX12_readsGold_33 (by decide) ?_
    refine aw_iadd dX12_readsGold_34 ?_
    refine aw_pf_mo5 dX12_readsGold_35 fpX12_115 hM (fun h hM ho => ?_)
    have hF := hF.trans ho
    have hM := is_moP (mP_a (show nI (pS (S0 10) t 0) + 4 = nI (pS (S0 10) t 0 + 4) by rw [← nI_add]; rfl)) hM
    refine aw_aload_n dX12_readsGold_38 rfl ?_
    refine aw_callV0e dX12_readsGold_39 cmX12_ends cvX12_151 (mo_c0 hM) (Nat.le_of_ble_eq_true rfl) (tX12_ends hM ht ht6 (by omega)) (fun r n' h' hq => ?_)
    obtain ⟨rfl, rfl, hM, ho⟩ := hq
    have hF := hF.trans ho
    have hM : is_mo h' m (mP S0 (pE (S0 10) t (pS (S0 10) t 0 + 4)).2 0 0 (S0 30 8) (S0 11)) L0 := hM
    have he2 := pE_le (x := S0 10) (a := pS (S0 10) t 0 + 4) ht6 (by omega)
    generalize hee : pE (S0 10) t (pS (S0 10) t 0 + 4) = e at hM he2 ⊢
    refine aw_if_ne (tgt := 47) dX12_readsGold_42 (by decide) (fun c42 => ?_) (fun c42 => ?_)
    · refine aw_iconst (v := 1) dX12_readsGold_47 (by decide) ?_
      refine aw_istore_n dX12_readsGold_48 (by decide) ?_
      refine aw_aload_n dX12_readsGold_49 rfl ?_
      refine aw_callV0e dX12_readsGold_50 cmX12_skip cvX12_135 (mo_c0 hM) (Nat.le_of_ble_eq_true rfl) (tX12_skip hM ht ht6 he2) (fun r n' h' hq => ?_)
      obtain ⟨rfl, rfl, hM, ho⟩ := hq
      have hF := hF.trans ho
      have hs5 := pS_le (S0 10) t e.2
      have key : ∀ (k : Nat) (P : PS) (i : Int32) (h : ah), t ≤ P.1 + k → P.1 ≤ 200 → P.2.1 ≤ 6 → is_mo h m (mQ S0 P) L0 → ah_off h0 h m 21 → pGl (S0 10) t (t - pS (S0 10) t e.2) (pSkP (S0 10) t (e.2, (0, 0, S0 30 8, S0 11))) 1 = pGl (S0 10) t k P i → aw l E mX12_readsGold (aw_Z E (mo_post n h0 m ((((pGd (S0 10) t (S0 30 8) (S0 11)).1, mQ S0 (pGd (S0 10) t (S0 30 8) (S0 11)).2, L0) : Int32 × sM)))) (d + 5) 0 0 53 [(0, .ref m), (1, .int i)] [] n h := by
        intro k
        induction k with
        | zero =>
          intro P i h hk hb hc hM hF heq
          obtain ⟨a, c, li, v, o⟩ := P
          have hM : is_mo h m (mP S0 a c li v o) L0 := hM
          have hb : a ≤ 200 := hb
          have hc : c ≤ 6 := hc
          have hk : t ≤ a + 0 := hk
          refine aw_aload_n dX12_readsGold_53 rfl ?_
          refine aw_get dX12_readsGold_54 flX12_115 (mo_c0 hM) rfl ?_
          refine aw_aload_n dX12_readsGold_57 rfl ?_
          refine aw_get dX12_readsGold_58 flX12_112 (mo_c0 hM) rfl ?_
          refine aw_icmp_ge (tgt := 83) dX12_readsGold_61 (by decide) (fun c61 => ?_) (fun c61 => ?_)
          · have q61 : t ≤ a := (le_ta (a := a) ht ht6 (by omega)).mp c61
            refine aw_iload_n dX12_readsGold_83 rfl ?_
            exact aw_iret dX12_readsGold_84 rfl (mo_fin (congrArg (fun r : Int32 × PS => (r.1, mQ S0 r.2, L0)) (show pGd (S0 10) t (S0 30 8) (S0 11) = _ from (if_pos c23).trans ((congrArg (pGE (S0 10) t (0, 0, 0, S0 30 8, S0 11)) hee).trans ((if_neg c42).trans heq)))) hM hF)
          · have q61 : ¬ t ≤ a := mt (le_ta (a := a) ht ht6 (by omega)).mpr c61
            exact absurd (show t ≤ a by omega) q61
        | succ k ih =>
          intro P i h hk hb hc hM hF heq
          obtain ⟨a, c, li, v, o⟩ := P
          have hM : is_mo h m (mP S0 a c li v o) L0 := hM
          have hb : a ≤ 200 := hb
          have hc : c ≤ 6 := hc
          have hk : t ≤ a + (k + 1) := hk
          refine aw_aload_n dX12_readsGold_53 rfl ?_
          refine aw_get dX12_readsGold_54 flX12_115 (mo_c0 hM) rfl ?_
          refine aw_aload_n dX12_readsGold_57 rfl ?_
          refine aw_get dX12_readsGold_58 flX12_112 (mo_c0 hM) rfl ?_
          refine aw_icmp_ge (tgt := 83) dX12_readsGold_61 (by decide) (fun c61 => ?_) (fun c61 => ?_)
          · have q61 : t ≤ a := (le_ta (a := a) ht ht6 (by omega)).mp c61
            refine aw_iload_n dX12_readsGold_83 rfl ?_
            exact aw_iret dX12_readsGold_84 rfl (mo_fin (congrArg (fun r : Int32 × PS => (r.1, mQ S0 r.2, L0)) (show pGd (S0 10) t (S0 30 8) (S0 11) = _ from (if_pos c23).trans ((congrArg (pGE (S0 10) t (0, 0, 0, S0 30 8, S0 11)) hee).trans ((if_neg c42).trans (heq.trans (if_pos q61)))))) hM hF)
          · have q61 : ¬ t ≤ a := mt (le_ta (a := a) ht ht6 (by omega)).mpr c61
            refine aw_aload_n dX12_readsGold_64 rfl ?_
            obtain ⟨hI1, hI2, hI3, hI4⟩ := pIt_b (x := S0 10) ht6 (P := (a, c, li, v, o)) (by show a < t; omega) hc
            have hI1 : a ≤ (pIt (S0 10) t (a, c, li, v, o)).2.1 := hI1
            have hI4 : ¬ (pIt (S0 10) t (a, c, li, v, o)).1 = 0 → a < (pIt (S0 10) t (a, c, li, v, o)).2.1 := hI4
            refine aw_callV0e dX12_readsGold_65 cmX12_readsItem cvX12_174 (mo_c0 hM) (Nat.le_of_ble_eq_true rfl) (tX12_readsItem hM ht ht6 hb hc (by omega)) (fun r n' h' hq => ?_)
            obtain ⟨rfl, rfl, hM, ho⟩ := hq
            have hF := hF.trans ho
            have hM : is_mo h' m (mQ S0 (pIt (S0 10) t (a, c, li, v, o)).2) L0 := hM
            generalize hI : pIt (S0 10) t (a, c, li, v, o) = r at hM hI1 hI2 hI3 hI4 ⊢
            refine aw_if_ne (tgt := 73) dX12_readsGold_68 (by decide) (fun c68 => ?_) (fun c68 => ?_)
            · refine aw_inc (w := 1) dX12_readsGold_73 rfl (by decide) (by decide) ?_
              refine aw_aload_n dX12_readsGold_76 rfl ?_
              have hI5 := hI4 c68
              refine aw_callV0e dX12_readsGold_77 cmX12_skip cvX12_135 (mo_c0 hM) (Nat.le_of_ble_eq_true rfl) (tX12_skip hM ht ht6 hI2) (fun r n' h' hq => ?_)
              obtain ⟨rfl, rfl, hM, ho⟩ := hq
              have hF := hF.trans ho
              have hs6 := pS_le (S0 10) t r.2.1
              have hs7 := pS_ge (S0 10) t r.2.1
              refine aw_goto (tgt := 53) dX12_readsGold_80 (by decide) ?_
              exact aw_loc [0, 1] (ls2 := [(0, .ref m), (1, .int (i + 1))]) rfl (ih (pSkP (S0 10) t r.2) (i + 1) _ (by show t ≤ pS (S0 10) t r.2.1 + k; omega) (by show pS (S0 10) t r.2.1 ≤ 200; omega) hI3 hM hF (heq.trans ((if_neg q61).trans ((if_neg (show ¬ (pIt (S0 10) t (a, c, li, v, o)).1 = 0 by rw [hI]; exact c68)).trans (by rw [hI])))))
            · refine aw_iconst (v := -1) dX12_readsGold_71 (by decide) ?_
              exact aw_iret dX12_readsGold_72 rfl (mo_fin (congrArg (fun r : Int32 × PS => (r.1, mQ S0 r.2, L0)) (show pGd (S0 10) t (S0 30 8) (S0 11) = _ from (if_pos c23).trans ((congrArg (pGE (S0 10) t (0, 0, 0, S0 30 8, S0 11)) hee).trans ((if_neg c42).trans (heq.trans ((if_neg q61).trans ((if_pos (show (pIt (S0 10) t (a, c, li, v, o)).1 = 0 by rw [hI]; exact c68)).trans (by rw [hI])))))))) hM hF)
      exact aw_loc [0, 1] (ls2 := [(0, .ref m), (1, .int 1)]) rfl (key (t - pS (S0 10) t e.2) (pSkP (S0 10) t (e.2, (0, 0, S0 30 8, S0 11))) 1 _ (by show t ≤ pS (S0 10) t e.2 + _; omega) (by show pS (S0 10) t e.2 ≤ 200; omega) (Nat.zero_le _) hM hF rfl)
    · refine aw_iconst (v := -1) dX12_readsGold_45 (by decide) ?_
      exact aw_iret dX12_readsGold_46 rfl (mo_fin (congrArg (fun r : Int32 × PS => (r.1, mQ S0 r.2, L0)) (show pGd (S0 10) t (S0 30 8) (S0 11) = _ from (if_pos c23).trans ((congrArg (pGE (S0 10) t (0, 0, 0, S0 30 8, S0 11)) hee).trans (if_pos c42)))) hM hF)
  · refine aw_iconst (v := -1) dX12_readsGold_26 (by decide) ?_
    exact aw_iret dX12_readsGold_27 rfl (mo_fin (congrArg (fun r : Int32 × PS => (r.1, mQ S0 r.2, L0)) (if_neg c23)) hM hF)
theorem le_M6 {S : sT} {M j : Nat} (h : S 30 6 = nI M) (h6 : M ≤ 6) (hj : j < 2 ^ 31) : S 30 6 ≤ nI j ↔ M ≤ j := by
  rw [h]
  exact nI_leI (by omega) hj
set_option maxHeartbeats 1000000 in
set_option maxRecDepth 100000 in
theorem tX12_read {l : Launch} {E : aw_E} {d n m : Nat} {h0 : ah} {S0 : sT} {L0 : Nat → Int64} {t : Nat} (hM : is_mo h0 m S0 L0) (ht : S0 30 4 = nI t) (ht6 : t ≤ 150) : am l E mX12_read (d + 6) 0 0 [.ref m] n h0 (mo_post n h0 m (mRead S0 L0 t)) := by
  refine am_of (by decide +kernel) (Nat.le_of_ble_eq_true rfl) ?_
  have hF : ah_off h0 h0 m 21 := ah_off.rf
  refine aw_aload_n dX12_read_0 rfl ?_
  refine aw_callV0e dX12_read_1 cmX12_readsGold cvX12_177 (mo_c0 hM) (Nat.le_of_ble_eq_true rfl) (tX12_readsGold hM ht ht6) (fun r n' h' hq => ?_)
  obtain ⟨rfl, rfl, hM, ho⟩ := hq
  have hF := hF.trans ho
  have hg2 := pGd_b (x := S0 10) ht6 (S0 30 8) (S0 11)
  have hM : is_mo h' m (mQ S0 (pGd (S0 10) t (S0 30 8) (S0 11)).2) L0 := hM
  generalize hG : pGd (S0 10) t (S0 30 8) (S0 11) = r at hM hg2 ⊢
  obtain ⟨i, a, c, li, v, o⟩ := r
  have hc : c ≤ 6 := hg2.2
  have hM : is_mo h' m (mP S0 a c li v o) L0 := hM
  refine aw_istore_n dX12_read_4 (by decide) ?_
  refine aw_iload_n dX12_read_5 rfl ?_
  refine aw_if_ge (tgt := 17) dX12_read_6 (by decide) (fun c6 => ?_) (fun c6 => ?_)
  · refine aw_aload_n dX12_read_17 rfl ?_
    refine aw_callV0e dX12_read_18 cmX12_begin cvX12_74 (mo_c0 hM) (Nat.le_of_ble_eq_true rfl) (tX12_begin hM) (fun r n' h' hq => ?_)
    obtain ⟨rfl, rfl, hM, ho⟩ := hq
    have hF := hF.trans ho
    refine aw_iconst (v := 0) dX12_read_21 (by decide) ?_
    refine aw_istore_n dX12_read_22 (by decide) ?_
    have key1 : ∀ (k1 j1 : Nat) (h : ah) (S : sT), j1 + k1 = c → S 30 0 = nI j1 → S 30 6 = nI c → is_mo h m S L0 → ah_off h0 h m 21 → mRdA c 0 (mBegin (mP S0 a c li v o)) = mRdA k1 j1 S → aw l E mX12_read (aw_Z E (mo_post n h0 m (mRead S0 L0 t))) (d + 6) 0 0 23 [(0, .ref m), (1, .int i), (2, .int (nI j1))] [] n h := by
      intro k1
      induction k1 with
      | zero =>
        intro j1 h S hj1 h0j h6c hM hF heq1
        refine aw_iload_n dX12_read_23 rfl ?_
        refine aw_aload_n dX12_read_24 rfl ?_
        refine aw_get dX12_read_25 flX12_144 (mo_c0 hM) rfl ?_
        refine aw_icmp_ge (tgt := 80) dX12_read_28 (by decide) (fun c28 => ?_) (fun c28 => ?_)
        · refine aw_iconst (v := 0) dX12_read_80 (by decide) ?_
          refine aw_istore_n dX12_read_81 (by decide) ?_
          have key2 : ∀ (k2 j2 : Nat) (h : ah) (S : sT), j2 + k2 = c → S 30 6 = nI c → is_mo h m S L0 → ah_off h0 h m 21 → mRdB c 0 (mRdA c 0 (mBegin (mP S0 a c li v o))) = mRdB k2 j2 S → aw l E mX12_read (aw_Z E (mo_post n h0 m (mRead S0 L0 t))) (d + 6) 0 0 82 [(0, .ref m), (1, .int i), (2, .int (nI j2))] [] n h := by
            intro k2
            induction k2 with
            | zero =>
              intro j2 h S hj2 h6c hM hF heq2
              refine aw_iload_n dX12_read_82 rfl ?_
              refine aw_aload_n dX12_read_83 rfl ?_
              refine aw_get dX12_read_84 flX12_144 (mo_c0 hM) rfl ?_
              refine aw_icmp_ge (tgt := 112) dX12_read_87 (by decide) (fun c87 => ?_) (fun c87 => ?_)
              · refine aw_aload_n dX12_read_112 rfl ?_
                refine aw_aload_n dX12_read_113 rfl ?_
                refine aw_get dX12_read_114 flX12_159 (mo_c0 hM) rfl ?_
                refine aw_pf_mo2 dX12_read_117 fpX12_84 hM (fun h hM ho => ?_)
                have hF := hF.trans ho
                refine aw_iload_n dX12_read_120 rfl ?_
                exact aw_iret dX12_read_121 rfl (mo_fin ((congrArg (mRdZ S0 L0) hG).trans ((if_pos c6).trans (congrArg (fun z : sT => (i, mRdC z, L0)) heq2))) hM hF)
              · exact absurd ((le_M6 h6c hc (j := j2) (by omega)).mpr (by omega)) c87
            | succ k2 ih2 =>
              intro j2 h S hj2 h6c hM hF heq2
              refine aw_iload_n dX12_read_82 rfl ?_
              refine aw_aload_n dX12_read_83 rfl ?_
              refine aw_get dX12_read_84 flX12_144 (mo_c0 hM) rfl ?_
              refine aw_icmp_ge (tgt := 112) dX12_read_87 (by decide) (fun c87 => ?_) (fun c87 => ?_)
              · exact absurd ((le_M6 h6c hc (j := j2) (by omega)).mp c87) (by omega)
              · refine aw_aload_n dX12_read_90 rfl ?_
                refine aw_get dX12_read_91 flX12_25 (mo_c0 hM) rfl ?_
                refine aw_iload_n dX12_read_94 rfl ?_
                refine aw_aload_n dX12_read_95 rfl ?_
                refine aw_get dX12_read_96 flX12_43 (mo_c0 hM) rfl ?_
                refine aw_iconst (v := 5) dX12_read_99 (by decide) ?_
                refine aw_iload_n dX12_read_100 rfl ?_
                refine aw_imul dX12_read_101 ?_
                refine aw_iconst (v := 4) dX12_read_102 (by decide) ?_
                refine aw_iadd dX12_read_103 ?_
                refine aw_ialdN dX12_read_104 (mo_c12 hM) (show (5 : Int32) * nI j2 + 4 = nI (5 * j2 + 4) by rw [← nI_add, ← pk_mul]; rfl) (by omega) (by decide) ?_
                refine aw_iN_mo5 dX12_read_105 hM rfl (by omega) (fun h hM ho => ?_)
                have hF := hF.trans ho
                refine aw_inc (w := 1) dX12_read_106 rfl (by decide) (by decide) ?_
                refine aw_goto (tgt := 82) dX12_read_109 (by decide) ?_
                exact aw_loc [0, 1, 2] (ls2 := [(0, .ref m), (1, .int i), (2, .int (nI (j2 + 1)))]) (by first | (rw [nI_succ]; rfl) | rfl) (ih2 (j2 + 1) _ _ (by omega) (by exact h6c) hM hF heq2)
          exact aw_loc [0, 1, 2] (ls2 := [(0, .ref m), (1, .int i), (2, .int (nI 0))]) rfl (key2 (c) 0 _ _ (by first | rfl | omega) h6c hM hF (congrArg (mRdB c 0) heq1))
        · exact absurd ((le_M6 h6c hc (j := j1) (by omega)).mpr (by omega)) c28
      | succ k1 ih1 =>
        intro j1 h S hj1 h0j h6c hM hF heq1
        refine aw_iload_n dX12_read_23 rfl ?_
        refine aw_aload_n dX12_read_24 rfl ?_
        refine aw_get dX12_read_25 flX12_144 (mo_c0 hM) rfl ?_
        refine aw_icmp_ge (tgt := 80) dX12_read_28 (by decide) (fun c28 => ?_) (fun c28 => ?_)
        · exact absurd ((le_M6 h6c hc (j := j1) (by omega)).mp c28) (by omega)
        · refine aw_aload_n dX12_read_31 rfl ?_
          refine aw_aload_n dX12_read_32 rfl ?_
          refine aw_get dX12_read_33 flX12_43 (mo_c0 hM) rfl ?_
          refine aw_iconst (v := 5) dX12_read_36 (by decide) ?_
          refine aw_iload_n dX12_read_37 rfl ?_
          refine aw_imul dX12_read_38 ?_
          refine aw_ialdN dX12_read_39 (mo_c12 hM) (show (5 : Int32) * nI j1 = nI (5 * j1) by rw [← pk_mul]; rfl) (by omega) (by decide) ?_
          refine aw_aload_n dX12_read_40 rfl ?_
          refine aw_get dX12_read_41 flX12_43 (mo_c0 hM) rfl ?_
          refine aw_iconst (v := 5) dX12_read_44 (by decide) ?_
          refine aw_iload_n dX12_read_45 rfl ?_
          refine aw_imul dX12_read_46 ?_
          refine aw_iconst (v := 1) dX12_read_47 (by decide) ?_
          refine aw_iadd dX12_read_48 ?_
          refine aw_ialdN dX12_read_49 (mo_c12 hM) (show (5 : Int32) * nI j1 + 1 = nI (5 * j1 + 1) by rw [← nI_add, ← pk_mul]; rfl) (by omega) (by decide) ?_
          refine aw_aload_n dX12_read_50 rfl ?_
          refine aw_get dX12_read_51 flX12_43 (mo_c0 hM) rfl ?_
          refine aw_iconst (v := 5) dX12_read_54 (by decide) ?_
          refine aw_iload_n dX12_read_55 rfl ?_
          refine aw_imul dX12_read_56 ?_
          refine aw_iconst (v := 2) dX12_read_57 (by decide) ?_
          refine aw_iadd dX12_read_58 ?_
          refine aw_ialdN dX12_read_59 (mo_c12 hM) (show (5 : Int32) * nI j1 + 2 = nI (5 * j1 + 2) by rw [← nI_add, ← pk_mul]; rfl) (by omega) (by decide) ?_
          refine aw_aload_n dX12_read_60 rfl ?_
          refine aw_get dX12_read_61 flX12_43 (mo_c0 hM) rfl ?_
          refine aw_iconst (v := 5) dX12_read_64 (by decide) ?_
          refine aw_iload_n dX12_read_65 rfl ?_
          refine aw_imul dX12_read_66 ?_
          refine aw_iconst (v := 3) dX12_read_67 (by decide) ?_
          refine aw_iadd dX12_read_68 ?_
          refine aw_ialdN dX12_read_69 (mo_c12 hM) (show (5 : Int32) * nI j1 + 3 = nI (5 * j1 + 3) by rw [← nI_add, ← pk_mul]; rfl) (by omega) (by decide) ?_
          refine aw_callV4e dX12_read_70 cmX12_addOne cvX12_104 (mo_c0 hM) (Nat.le_of_ble_eq_true rfl) (tX12_addOne hM (by rw [h0j]; exact vp_in_nI (by omega) (by decide))) (fun r n' h' hq => ?_)
          obtain ⟨rfl, rfl, hM, ho⟩ := hq
          have hF := hF.trans ho
          refine aw_pop dX12_read_73 rfl ?_
          refine aw_inc (w := 1) dX12_read_74 rfl (by decide) (by decide) ?_
          refine aw_goto (tgt := 23) dX12_read_77 (by decide) ?_
          exact aw_loc [0, 1, 2] (ls2 := [(0, .ref m), (1, .int i), (2, .int (nI (j1 + 1)))]) (by first | (rw [nI_succ]; rfl) | rfl) (ih1 (j1 + 1) _ _ (by omega) (show S 30 0 + 1 = nI (j1 + 1) by rw [h0j]; exact nI_1 j1) (by exact h6c) hM hF heq1)
    exact aw_loc [0, 1, 2] (ls2 := [(0, .ref m), (1, .int i), (2, .int (nI 0))]) rfl (key1 (c) 0 _ _ (by first | rfl | omega) rfl rfl hM hF rfl)
  · refine aw_bipush (v := -10) dX12_read_9 (by decide) ?_
    refine aw_aload_n dX12_read_11 rfl ?_
    refine aw_get dX12_read_12 flX12_115 (mo_c0 hM) rfl ?_
    refine aw_isub dX12_read_15 ?_
    exact aw_iret dX12_read_16 rfl (mo_fin ((congrArg (mRdZ S0 L0) hG).trans (if_neg c6)) hM hF)
